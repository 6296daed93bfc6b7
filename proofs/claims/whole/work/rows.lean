section
-- ===== PART A: goes FIRST, ahead of the names: the tables' words, and 'selects' of the private methods out of them =====
/-- a private method of a class that the tables say can be made, by its rows of tables_1 -/
def lw_okq (q : MethodName × Nat) : Prop := (q.1.cls ≠ "java/lang/invoke/MethodHandle" ∧ q.1.cls ≠ "java/lang/invoke/VarHandle") ∧ Cond.instantiable q.1.cls q.2 ∈ tables_1 ∧ Cond.privateMethod q.1 ∈ tables_1 ∧ Cond.instanceMethod q.1 ∈ tables_1
theorem lw_p0 : lw_okq (⟨"ReplayHouse", "layNumber", "(I)V"⟩, 13) := ⟨⟨by decide +kernel, by decide +kernel⟩, List.mem_of_getElem? (i := 22) (by decide +kernel), List.mem_of_getElem? (i := 227) (by decide +kernel), List.mem_of_getElem? (i := 228) (by decide +kernel)⟩
theorem lw_p1 : lw_okq (⟨"ReplayHouse", "bringRuns", "()V"⟩, 13) := ⟨⟨by decide +kernel, by decide +kernel⟩, List.mem_of_getElem? (i := 22) (by decide +kernel), List.mem_of_getElem? (i := 235) (by decide +kernel), List.mem_of_getElem? (i := 236) (by decide +kernel)⟩
theorem lw_p2 : lw_okq (⟨"ReplayHouse", "doAll", "(LReplayHouse$Run;II)V"⟩, 13) := ⟨⟨by decide +kernel, by decide +kernel⟩, List.mem_of_getElem? (i := 22) (by decide +kernel), List.mem_of_getElem? (i := 239) (by decide +kernel), List.mem_of_getElem? (i := 240) (by decide +kernel)⟩
theorem lw_p3 : lw_okq (⟨"ReplayHouse", "doAsk", "(LReplayHouse$Run;II)V"⟩, 13) := ⟨⟨by decide +kernel, by decide +kernel⟩, List.mem_of_getElem? (i := 22) (by decide +kernel), List.mem_of_getElem? (i := 253) (by decide +kernel), List.mem_of_getElem? (i := 254) (by decide +kernel)⟩
theorem lw_p4 : lw_okq (⟨"ReplayHouse$Run", "work", "(II)V"⟩, 18) := ⟨⟨by decide +kernel, by decide +kernel⟩, List.mem_of_getElem? (i := 113) (by decide +kernel), List.mem_of_getElem? (i := 265) (by decide +kernel), List.mem_of_getElem? (i := 266) (by decide +kernel)⟩
theorem lw_p5 : lw_okq (⟨"ReplayHouse$Run", "push", "(I)V"⟩, 18) := ⟨⟨by decide +kernel, by decide +kernel⟩, List.mem_of_getElem? (i := 113) (by decide +kernel), List.mem_of_getElem? (i := 269) (by decide +kernel), List.mem_of_getElem? (i := 270) (by decide +kernel)⟩
theorem lw_p6 : lw_okq (⟨"ReplayHouse$Run", "pop", "()I"⟩, 18) := ⟨⟨by decide +kernel, by decide +kernel⟩, List.mem_of_getElem? (i := 113) (by decide +kernel), List.mem_of_getElem? (i := 273) (by decide +kernel), List.mem_of_getElem? (i := 274) (by decide +kernel)⟩
theorem lw_p7 : lw_okq (⟨"ReplayHouse$Run", "read", "(I)I"⟩, 18) := ⟨⟨by decide +kernel, by decide +kernel⟩, List.mem_of_getElem? (i := 113) (by decide +kernel), List.mem_of_getElem? (i := 277) (by decide +kernel), List.mem_of_getElem? (i := 278) (by decide +kernel)⟩
theorem lw_p8 : lw_okq (⟨"ReplayHouse$Run", "write", "(II)V"⟩, 18) := ⟨⟨by decide +kernel, by decide +kernel⟩, List.mem_of_getElem? (i := 113) (by decide +kernel), List.mem_of_getElem? (i := 287) (by decide +kernel), List.mem_of_getElem? (i := 288) (by decide +kernel)⟩
theorem lw_p9 : lw_okq (⟨"ReplayHouse$Run", "answer", "(I)V"⟩, 18) := ⟨⟨by decide +kernel, by decide +kernel⟩, List.mem_of_getElem? (i := 113) (by decide +kernel), List.mem_of_getElem? (i := 291) (by decide +kernel), List.mem_of_getElem? (i := 292) (by decide +kernel)⟩
theorem lw_p10 : lw_okq (⟨"ReplayHouse", "learnFrom", "(ILReplayHouse$Run;LReplayHouse$Run;)I"⟩, 13) := ⟨⟨by decide +kernel, by decide +kernel⟩, List.mem_of_getElem? (i := 22) (by decide +kernel), List.mem_of_getElem? (i := 296) (by decide +kernel), List.mem_of_getElem? (i := 297) (by decide +kernel)⟩
theorem lw_p11 : lw_okq (⟨"ReplayHouse", "shapeOf", "(I)I"⟩, 13) := ⟨⟨by decide +kernel, by decide +kernel⟩, List.mem_of_getElem? (i := 22) (by decide +kernel), List.mem_of_getElem? (i := 307) (by decide +kernel), List.mem_of_getElem? (i := 308) (by decide +kernel)⟩
theorem lw_p12 : lw_okq (⟨"ReplayHouse", "whereDifferent", "(I[LReplayHouse$Run;)I"⟩, 13) := ⟨⟨by decide +kernel, by decide +kernel⟩, List.mem_of_getElem? (i := 22) (by decide +kernel), List.mem_of_getElem? (i := 311) (by decide +kernel), List.mem_of_getElem? (i := 312) (by decide +kernel)⟩
theorem lw_p13 : lw_okq (⟨"ReplayHouse", "noisyFields", "()I"⟩, 13) := ⟨⟨by decide +kernel, by decide +kernel⟩, List.mem_of_getElem? (i := 22) (by decide +kernel), List.mem_of_getElem? (i := 325) (by decide +kernel), List.mem_of_getElem? (i := 326) (by decide +kernel)⟩
theorem lw_p14 : lw_okq (⟨"ReplayHouse", "stepsOfTexts", "()I"⟩, 13) := ⟨⟨by decide +kernel, by decide +kernel⟩, List.mem_of_getElem? (i := 22) (by decide +kernel), List.mem_of_getElem? (i := 329) (by decide +kernel), List.mem_of_getElem? (i := 330) (by decide +kernel)⟩
theorem lw_p15 : lw_okq (⟨"java/lang/Throwable", "fillInStackTrace", "(I)Ljava/lang/Throwable;"⟩, 6) := ⟨⟨by decide +kernel, by decide +kernel⟩, List.mem_of_getElem? (i := 382) (by decide +kernel), List.mem_of_getElem? (i := 380) (by decide +kernel), List.mem_of_getElem? (i := 381) (by decide +kernel)⟩
def lw_privs_1 : List (MethodName × Nat) := [(⟨"ReplayHouse", "layNumber", "(I)V"⟩, 13), (⟨"ReplayHouse", "bringRuns", "()V"⟩, 13), (⟨"ReplayHouse", "doAll", "(LReplayHouse$Run;II)V"⟩, 13), (⟨"ReplayHouse", "doAsk", "(LReplayHouse$Run;II)V"⟩, 13), (⟨"ReplayHouse$Run", "work", "(II)V"⟩, 18), (⟨"ReplayHouse$Run", "push", "(I)V"⟩, 18), (⟨"ReplayHouse$Run", "pop", "()I"⟩, 18), (⟨"ReplayHouse$Run", "read", "(I)I"⟩, 18), (⟨"ReplayHouse$Run", "write", "(II)V"⟩, 18), (⟨"ReplayHouse$Run", "answer", "(I)V"⟩, 18), (⟨"ReplayHouse", "learnFrom", "(ILReplayHouse$Run;LReplayHouse$Run;)I"⟩, 13), (⟨"ReplayHouse", "shapeOf", "(I)I"⟩, 13), (⟨"ReplayHouse", "whereDifferent", "(I[LReplayHouse$Run;)I"⟩, 13), (⟨"ReplayHouse", "noisyFields", "()I"⟩, 13), (⟨"ReplayHouse", "stepsOfTexts", "()I"⟩, 13), (⟨"java/lang/Throwable", "fillInStackTrace", "(I)Ljava/lang/Throwable;"⟩, 6)]
theorem lw_r1 : ∀ q ∈ lw_privs_1, lw_okq q := List.forall_mem_cons.mpr ⟨lw_p0, List.forall_mem_cons.mpr ⟨lw_p1, List.forall_mem_cons.mpr ⟨lw_p2, List.forall_mem_cons.mpr ⟨lw_p3, List.forall_mem_cons.mpr ⟨lw_p4, List.forall_mem_cons.mpr ⟨lw_p5, List.forall_mem_cons.mpr ⟨lw_p6, List.forall_mem_cons.mpr ⟨lw_p7, List.forall_mem_cons.mpr ⟨lw_p8, List.forall_mem_cons.mpr ⟨lw_p9, List.forall_mem_cons.mpr ⟨lw_p10, List.forall_mem_cons.mpr ⟨lw_p11, List.forall_mem_cons.mpr ⟨lw_p12, List.forall_mem_cons.mpr ⟨lw_p13, List.forall_mem_cons.mpr ⟨lw_p14, List.forall_mem_cons.mpr ⟨lw_p15, fun _ h => absurd h List.not_mem_nil⟩⟩⟩⟩⟩⟩⟩⟩⟩⟩⟩⟩⟩⟩⟩⟩
theorem lw_p16 : lw_okq (⟨"ReplayHouse$Reader", "readSteps", "(I)Z"⟩, 6) := ⟨⟨by decide +kernel, by decide +kernel⟩, List.mem_of_getElem? (i := 30) (by decide +kernel), List.mem_of_getElem? (i := 422) (by decide +kernel), List.mem_of_getElem? (i := 423) (by decide +kernel)⟩
theorem lw_p17 : lw_okq (⟨"ReplayHouse$Reader", "skipBlanks", "()V"⟩, 6) := ⟨⟨by decide +kernel, by decide +kernel⟩, List.mem_of_getElem? (i := 30) (by decide +kernel), List.mem_of_getElem? (i := 426) (by decide +kernel), List.mem_of_getElem? (i := 427) (by decide +kernel)⟩
theorem lw_p18 : lw_okq (⟨"ReplayHouse$Reader", "byteAt", "(I)I"⟩, 6) := ⟨⟨by decide +kernel, by decide +kernel⟩, List.mem_of_getElem? (i := 30) (by decide +kernel), List.mem_of_getElem? (i := 430) (by decide +kernel), List.mem_of_getElem? (i := 431) (by decide +kernel)⟩
theorem lw_p19 : lw_okq (⟨"ReplayHouse$Reader", "readStep", "(I)Z"⟩, 6) := ⟨⟨by decide +kernel, by decide +kernel⟩, List.mem_of_getElem? (i := 30) (by decide +kernel), List.mem_of_getElem? (i := 434) (by decide +kernel), List.mem_of_getElem? (i := 435) (by decide +kernel)⟩
theorem lw_p20 : lw_okq (⟨"ReplayHouse$Reader", "takeWord", "(Ljava/lang/String;)Z"⟩, 6) := ⟨⟨by decide +kernel, by decide +kernel⟩, List.mem_of_getElem? (i := 30) (by decide +kernel), List.mem_of_getElem? (i := 439) (by decide +kernel), List.mem_of_getElem? (i := 440) (by decide +kernel)⟩
theorem lw_p21 : lw_okq (⟨"ReplayHouse$Reader", "readSum", "(I)Z"⟩, 6) := ⟨⟨by decide +kernel, by decide +kernel⟩, List.mem_of_getElem? (i := 30) (by decide +kernel), List.mem_of_getElem? (i := 494) (by decide +kernel), List.mem_of_getElem? (i := 495) (by decide +kernel)⟩
theorem lw_p22 : lw_okq (⟨"ReplayHouse$Reader", "readTerm", "(I)Z"⟩, 6) := ⟨⟨by decide +kernel, by decide +kernel⟩, List.mem_of_getElem? (i := 30) (by decide +kernel), List.mem_of_getElem? (i := 498) (by decide +kernel), List.mem_of_getElem? (i := 499) (by decide +kernel)⟩
theorem lw_p23 : lw_okq (⟨"ReplayHouse$Reader", "readNumber", "()Z"⟩, 6) := ⟨⟨by decide +kernel, by decide +kernel⟩, List.mem_of_getElem? (i := 30) (by decide +kernel), List.mem_of_getElem? (i := 505) (by decide +kernel), List.mem_of_getElem? (i := 506) (by decide +kernel)⟩
theorem lw_p24 : lw_okq (⟨"ReplayHouse$Reader", "lay", "(II)Z"⟩, 6) := ⟨⟨by decide +kernel, by decide +kernel⟩, List.mem_of_getElem? (i := 30) (by decide +kernel), List.mem_of_getElem? (i := 509) (by decide +kernel), List.mem_of_getElem? (i := 510) (by decide +kernel)⟩
theorem lw_p25 : lw_okq (⟨"ReplayHouse$Reader", "takeSign", "(C)Z"⟩, 6) := ⟨⟨by decide +kernel, by decide +kernel⟩, List.mem_of_getElem? (i := 30) (by decide +kernel), List.mem_of_getElem? (i := 518) (by decide +kernel), List.mem_of_getElem? (i := 519) (by decide +kernel)⟩
theorem lw_p26 : lw_okq (⟨"ReplayHouse$Reader", "readCompare", "(I)Z"⟩, 6) := ⟨⟨by decide +kernel, by decide +kernel⟩, List.mem_of_getElem? (i := 30) (by decide +kernel), List.mem_of_getElem? (i := 522) (by decide +kernel), List.mem_of_getElem? (i := 523) (by decide +kernel)⟩
theorem lw_p27 : lw_okq (⟨"ReplayHouse$Reader", "readWhen", "(II)Z"⟩, 6) := ⟨⟨by decide +kernel, by decide +kernel⟩, List.mem_of_getElem? (i := 30) (by decide +kernel), List.mem_of_getElem? (i := 531) (by decide +kernel), List.mem_of_getElem? (i := 532) (by decide +kernel)⟩
theorem lw_p28 : lw_okq (⟨"ReplayHouse", "forgetRuns", "()V"⟩, 13) := ⟨⟨by decide +kernel, by decide +kernel⟩, List.mem_of_getElem? (i := 22) (by decide +kernel), List.mem_of_getElem? (i := 557) (by decide +kernel), List.mem_of_getElem? (i := 558) (by decide +kernel)⟩
theorem lw_p29 : lw_okq (⟨"ReplayHouse", "checkAsk", "(I)V"⟩, 13) := ⟨⟨by decide +kernel, by decide +kernel⟩, List.mem_of_getElem? (i := 22) (by decide +kernel), List.mem_of_getElem? (i := 617) (by decide +kernel), List.mem_of_getElem? (i := 618) (by decide +kernel)⟩
theorem lw_p30 : lw_okq (⟨"ReplayHouse", "lowestOfShape", "(I)I"⟩, 13) := ⟨⟨by decide +kernel, by decide +kernel⟩, List.mem_of_getElem? (i := 22) (by decide +kernel), List.mem_of_getElem? (i := 706) (by decide +kernel), List.mem_of_getElem? (i := 707) (by decide +kernel)⟩
theorem lw_p31 : lw_okq (⟨"ReplayHouse", "asksOfShape", "(I)I"⟩, 13) := ⟨⟨by decide +kernel, by decide +kernel⟩, List.mem_of_getElem? (i := 22) (by decide +kernel), List.mem_of_getElem? (i := 710) (by decide +kernel), List.mem_of_getElem? (i := 711) (by decide +kernel)⟩
def lw_privs_2 : List (MethodName × Nat) := [(⟨"ReplayHouse$Reader", "readSteps", "(I)Z"⟩, 6), (⟨"ReplayHouse$Reader", "skipBlanks", "()V"⟩, 6), (⟨"ReplayHouse$Reader", "byteAt", "(I)I"⟩, 6), (⟨"ReplayHouse$Reader", "readStep", "(I)Z"⟩, 6), (⟨"ReplayHouse$Reader", "takeWord", "(Ljava/lang/String;)Z"⟩, 6), (⟨"ReplayHouse$Reader", "readSum", "(I)Z"⟩, 6), (⟨"ReplayHouse$Reader", "readTerm", "(I)Z"⟩, 6), (⟨"ReplayHouse$Reader", "readNumber", "()Z"⟩, 6), (⟨"ReplayHouse$Reader", "lay", "(II)Z"⟩, 6), (⟨"ReplayHouse$Reader", "takeSign", "(C)Z"⟩, 6), (⟨"ReplayHouse$Reader", "readCompare", "(I)Z"⟩, 6), (⟨"ReplayHouse$Reader", "readWhen", "(II)Z"⟩, 6), (⟨"ReplayHouse", "forgetRuns", "()V"⟩, 13), (⟨"ReplayHouse", "checkAsk", "(I)V"⟩, 13), (⟨"ReplayHouse", "lowestOfShape", "(I)I"⟩, 13), (⟨"ReplayHouse", "asksOfShape", "(I)I"⟩, 13)]
theorem lw_r2 : ∀ q ∈ lw_privs_2, lw_okq q := List.forall_mem_cons.mpr ⟨lw_p16, List.forall_mem_cons.mpr ⟨lw_p17, List.forall_mem_cons.mpr ⟨lw_p18, List.forall_mem_cons.mpr ⟨lw_p19, List.forall_mem_cons.mpr ⟨lw_p20, List.forall_mem_cons.mpr ⟨lw_p21, List.forall_mem_cons.mpr ⟨lw_p22, List.forall_mem_cons.mpr ⟨lw_p23, List.forall_mem_cons.mpr ⟨lw_p24, List.forall_mem_cons.mpr ⟨lw_p25, List.forall_mem_cons.mpr ⟨lw_p26, List.forall_mem_cons.mpr ⟨lw_p27, List.forall_mem_cons.mpr ⟨lw_p28, List.forall_mem_cons.mpr ⟨lw_p29, List.forall_mem_cons.mpr ⟨lw_p30, List.forall_mem_cons.mpr ⟨lw_p31, fun _ h => absurd h List.not_mem_nil⟩⟩⟩⟩⟩⟩⟩⟩⟩⟩⟩⟩⟩⟩⟩⟩
theorem lw_p32 : lw_okq (⟨"ReplayHouse", "areTouching", "(II)Z"⟩, 13) := ⟨⟨by decide +kernel, by decide +kernel⟩, List.mem_of_getElem? (i := 22) (by decide +kernel), List.mem_of_getElem? (i := 721) (by decide +kernel), List.mem_of_getElem? (i := 722) (by decide +kernel)⟩
theorem lw_p33 : lw_okq (⟨"ReplayHouse", "smallSet", "(I)I"⟩, 13) := ⟨⟨by decide +kernel, by decide +kernel⟩, List.mem_of_getElem? (i := 22) (by decide +kernel), List.mem_of_getElem? (i := 739) (by decide +kernel), List.mem_of_getElem? (i := 740) (by decide +kernel)⟩
theorem lw_p34 : lw_okq (⟨"ReplayHouse", "doAlwaysIn", "(I)V"⟩, 13) := ⟨⟨by decide +kernel, by decide +kernel⟩, List.mem_of_getElem? (i := 22) (by decide +kernel), List.mem_of_getElem? (i := 748) (by decide +kernel), List.mem_of_getElem? (i := 749) (by decide +kernel)⟩
theorem lw_p35 : lw_okq (⟨"ReplayHouse", "isDifferentWith", "(III)Z"⟩, 13) := ⟨⟨by decide +kernel, by decide +kernel⟩, List.mem_of_getElem? (i := 22) (by decide +kernel), List.mem_of_getElem? (i := 756) (by decide +kernel), List.mem_of_getElem? (i := 757) (by decide +kernel)⟩
theorem lw_p36 : lw_okq (⟨"ReplayHouseModel", "may", "(ZI)Z"⟩, 47) := ⟨⟨by decide +kernel, by decide +kernel⟩, List.mem_of_getElem? (i := 786) (by decide +kernel), List.mem_of_getElem? (i := 945) (by decide +kernel), List.mem_of_getElem? (i := 946) (by decide +kernel)⟩
theorem lw_p37 : lw_okq (⟨"ReplayHouseModel", "here", "()I"⟩, 47) := ⟨⟨by decide +kernel, by decide +kernel⟩, List.mem_of_getElem? (i := 786) (by decide +kernel), List.mem_of_getElem? (i := 949) (by decide +kernel), List.mem_of_getElem? (i := 950) (by decide +kernel)⟩
theorem lw_p38 : lw_okq (⟨"ReplayHouseModel", "fine", "()Z"⟩, 47) := ⟨⟨by decide +kernel, by decide +kernel⟩, List.mem_of_getElem? (i := 786) (by decide +kernel), List.mem_of_getElem? (i := 953) (by decide +kernel), List.mem_of_getElem? (i := 954) (by decide +kernel)⟩
theorem lw_p39 : lw_okq (⟨"ReplayHouseModel", "statement", "()V"⟩, 47) := ⟨⟨by decide +kernel, by decide +kernel⟩, List.mem_of_getElem? (i := 786) (by decide +kernel), List.mem_of_getElem? (i := 957) (by decide +kernel), List.mem_of_getElem? (i := 958) (by decide +kernel)⟩
theorem lw_p40 : lw_okq (⟨"ReplayHouseModel", "word", "()J"⟩, 47) := ⟨⟨by decide +kernel, by decide +kernel⟩, List.mem_of_getElem? (i := 786) (by decide +kernel), List.mem_of_getElem? (i := 961) (by decide +kernel), List.mem_of_getElem? (i := 962) (by decide +kernel)⟩
theorem lw_p41 : lw_okq (⟨"ReplayHouseModel", "wrong", "(I)V"⟩, 47) := ⟨⟨by decide +kernel, by decide +kernel⟩, List.mem_of_getElem? (i := 786) (by decide +kernel), List.mem_of_getElem? (i := 971) (by decide +kernel), List.mem_of_getElem? (i := 972) (by decide +kernel)⟩
theorem lw_p42 : lw_okq (⟨"ReplayHouseModel", "pass", "()V"⟩, 47) := ⟨⟨by decide +kernel, by decide +kernel⟩, List.mem_of_getElem? (i := 786) (by decide +kernel), List.mem_of_getElem? (i := 975) (by decide +kernel), List.mem_of_getElem? (i := 976) (by decide +kernel)⟩
theorem lw_p43 : lw_okq (⟨"ReplayHouseModel", "emit", "(II)V"⟩, 47) := ⟨⟨by decide +kernel, by decide +kernel⟩, List.mem_of_getElem? (i := 786) (by decide +kernel), List.mem_of_getElem? (i := 979) (by decide +kernel), List.mem_of_getElem? (i := 980) (by decide +kernel)⟩
theorem lw_p44 : lw_okq (⟨"ReplayHouseModel", "whole", "()V"⟩, 47) := ⟨⟨by decide +kernel, by decide +kernel⟩, List.mem_of_getElem? (i := 786) (by decide +kernel), List.mem_of_getElem? (i := 983) (by decide +kernel), List.mem_of_getElem? (i := 984) (by decide +kernel)⟩
theorem lw_p45 : lw_okq (⟨"ReplayHouseModel", "row", "()V"⟩, 47) := ⟨⟨by decide +kernel, by decide +kernel⟩, List.mem_of_getElem? (i := 786) (by decide +kernel), List.mem_of_getElem? (i := 987) (by decide +kernel), List.mem_of_getElem? (i := 988) (by decide +kernel)⟩
theorem lw_p46 : lw_okq (⟨"ReplayHouseModel", "simple", "()V"⟩, 47) := ⟨⟨by decide +kernel, by decide +kernel⟩, List.mem_of_getElem? (i := 786) (by decide +kernel), List.mem_of_getElem? (i := 991) (by decide +kernel), List.mem_of_getElem? (i := 992) (by decide +kernel)⟩
theorem lw_p47 : lw_okq (⟨"ReplayHouseModel", "digits", "()V"⟩, 47) := ⟨⟨by decide +kernel, by decide +kernel⟩, List.mem_of_getElem? (i := 786) (by decide +kernel), List.mem_of_getElem? (i := 998) (by decide +kernel), List.mem_of_getElem? (i := 999) (by decide +kernel)⟩
def lw_privs_3 : List (MethodName × Nat) := [(⟨"ReplayHouse", "areTouching", "(II)Z"⟩, 13), (⟨"ReplayHouse", "smallSet", "(I)I"⟩, 13), (⟨"ReplayHouse", "doAlwaysIn", "(I)V"⟩, 13), (⟨"ReplayHouse", "isDifferentWith", "(III)Z"⟩, 13), (⟨"ReplayHouseModel", "may", "(ZI)Z"⟩, 47), (⟨"ReplayHouseModel", "here", "()I"⟩, 47), (⟨"ReplayHouseModel", "fine", "()Z"⟩, 47), (⟨"ReplayHouseModel", "statement", "()V"⟩, 47), (⟨"ReplayHouseModel", "word", "()J"⟩, 47), (⟨"ReplayHouseModel", "wrong", "(I)V"⟩, 47), (⟨"ReplayHouseModel", "pass", "()V"⟩, 47), (⟨"ReplayHouseModel", "emit", "(II)V"⟩, 47), (⟨"ReplayHouseModel", "whole", "()V"⟩, 47), (⟨"ReplayHouseModel", "row", "()V"⟩, 47), (⟨"ReplayHouseModel", "simple", "()V"⟩, 47), (⟨"ReplayHouseModel", "digits", "()V"⟩, 47)]
theorem lw_r3 : ∀ q ∈ lw_privs_3, lw_okq q := List.forall_mem_cons.mpr ⟨lw_p32, List.forall_mem_cons.mpr ⟨lw_p33, List.forall_mem_cons.mpr ⟨lw_p34, List.forall_mem_cons.mpr ⟨lw_p35, List.forall_mem_cons.mpr ⟨lw_p36, List.forall_mem_cons.mpr ⟨lw_p37, List.forall_mem_cons.mpr ⟨lw_p38, List.forall_mem_cons.mpr ⟨lw_p39, List.forall_mem_cons.mpr ⟨lw_p40, List.forall_mem_cons.mpr ⟨lw_p41, List.forall_mem_cons.mpr ⟨lw_p42, List.forall_mem_cons.mpr ⟨lw_p43, List.forall_mem_cons.mpr ⟨lw_p44, List.forall_mem_cons.mpr ⟨lw_p45, List.forall_mem_cons.mpr ⟨lw_p46, List.forall_mem_cons.mpr ⟨lw_p47, fun _ h => absurd h List.not_mem_nil⟩⟩⟩⟩⟩⟩⟩⟩⟩⟩⟩⟩⟩⟩⟩⟩
theorem lw_p48 : lw_okq (⟨"ReplayHouseModel", "need", "(I)V"⟩, 47) := ⟨⟨by decide +kernel, by decide +kernel⟩, List.mem_of_getElem? (i := 786) (by decide +kernel), List.mem_of_getElem? (i := 1004) (by decide +kernel), List.mem_of_getElem? (i := 1005) (by decide +kernel)⟩
theorem lw_p49 : lw_okq (⟨"ReplayHouseModel", "isAsk", "(I)Z"⟩, 47) := ⟨⟨by decide +kernel, by decide +kernel⟩, List.mem_of_getElem? (i := 786) (by decide +kernel), List.mem_of_getElem? (i := 1027) (by decide +kernel), List.mem_of_getElem? (i := 1028) (by decide +kernel)⟩
theorem lw_p50 : lw_okq (⟨"ReplayHouseModel", "runAll", "(II)V"⟩, 47) := ⟨⟨by decide +kernel, by decide +kernel⟩, List.mem_of_getElem? (i := 786) (by decide +kernel), List.mem_of_getElem? (i := 1038) (by decide +kernel), List.mem_of_getElem? (i := 1039) (by decide +kernel)⟩
theorem lw_p51 : lw_okq (⟨"ReplayHouseModel", "findLine", "()V"⟩, 47) := ⟨⟨by decide +kernel, by decide +kernel⟩, List.mem_of_getElem? (i := 786) (by decide +kernel), List.mem_of_getElem? (i := 1042) (by decide +kernel), List.mem_of_getElem? (i := 1043) (by decide +kernel)⟩
theorem lw_p52 : lw_okq (⟨"ReplayHouseModel", "run", "(III)V"⟩, 47) := ⟨⟨by decide +kernel, by decide +kernel⟩, List.mem_of_getElem? (i := 786) (by decide +kernel), List.mem_of_getElem? (i := 1046) (by decide +kernel), List.mem_of_getElem? (i := 1047) (by decide +kernel)⟩
theorem lw_p53 : lw_okq (⟨"ReplayHouseModel", "does", "(II)V"⟩, 47) := ⟨⟨by decide +kernel, by decide +kernel⟩, List.mem_of_getElem? (i := 786) (by decide +kernel), List.mem_of_getElem? (i := 1050) (by decide +kernel), List.mem_of_getElem? (i := 1051) (by decide +kernel)⟩
theorem lw_p54 : lw_okq (⟨"ReplayHouseModel", "push", "(I)V"⟩, 47) := ⟨⟨by decide +kernel, by decide +kernel⟩, List.mem_of_getElem? (i := 786) (by decide +kernel), List.mem_of_getElem? (i := 1054) (by decide +kernel), List.mem_of_getElem? (i := 1055) (by decide +kernel)⟩
theorem lw_p55 : lw_okq (⟨"ReplayHouseModel", "pop", "()I"⟩, 47) := ⟨⟨by decide +kernel, by decide +kernel⟩, List.mem_of_getElem? (i := 786) (by decide +kernel), List.mem_of_getElem? (i := 1058) (by decide +kernel), List.mem_of_getElem? (i := 1059) (by decide +kernel)⟩
theorem lw_p56 : lw_okq (⟨"ReplayHouseModel", "keepAnswers", "()V"⟩, 47) := ⟨⟨by decide +kernel, by decide +kernel⟩, List.mem_of_getElem? (i := 786) (by decide +kernel), List.mem_of_getElem? (i := 1090) (by decide +kernel), List.mem_of_getElem? (i := 1091) (by decide +kernel)⟩
theorem lw_p57 : lw_okq (⟨"ReplayHouseModel", "runBothAll", "()V"⟩, 47) := ⟨⟨by decide +kernel, by decide +kernel⟩, List.mem_of_getElem? (i := 786) (by decide +kernel), List.mem_of_getElem? (i := 1099) (by decide +kernel), List.mem_of_getElem? (i := 1100) (by decide +kernel)⟩
theorem lw_p58 : lw_okq (⟨"ReplayHouseModel", "runBoth", "(I)V"⟩, 47) := ⟨⟨by decide +kernel, by decide +kernel⟩, List.mem_of_getElem? (i := 786) (by decide +kernel), List.mem_of_getElem? (i := 1103) (by decide +kernel), List.mem_of_getElem? (i := 1104) (by decide +kernel)⟩
theorem lw_p59 : lw_okq (⟨"ReplayHouseModel", "unlike", "(I)I"⟩, 47) := ⟨⟨by decide +kernel, by decide +kernel⟩, List.mem_of_getElem? (i := 786) (by decide +kernel), List.mem_of_getElem? (i := 1107) (by decide +kernel), List.mem_of_getElem? (i := 1108) (by decide +kernel)⟩
theorem lw_p60 : lw_okq (⟨"ReplayHouseModel", "findWheres", "()V"⟩, 47) := ⟨⟨by decide +kernel, by decide +kernel⟩, List.mem_of_getElem? (i := 786) (by decide +kernel), List.mem_of_getElem? (i := 1115) (by decide +kernel), List.mem_of_getElem? (i := 1116) (by decide +kernel)⟩
theorem lw_p61 : lw_okq (⟨"ReplayHouseModel", "isLowest", "(I)Z"⟩, 47) := ⟨⟨by decide +kernel, by decide +kernel⟩, List.mem_of_getElem? (i := 786) (by decide +kernel), List.mem_of_getElem? (i := 1119) (by decide +kernel), List.mem_of_getElem? (i := 1120) (by decide +kernel)⟩
theorem lw_p62 : lw_okq (⟨"ReplayHouseModel", "isLike", "(II)Z"⟩, 47) := ⟨⟨by decide +kernel, by decide +kernel⟩, List.mem_of_getElem? (i := 786) (by decide +kernel), List.mem_of_getElem? (i := 1123) (by decide +kernel), List.mem_of_getElem? (i := 1124) (by decide +kernel)⟩
theorem lw_p63 : lw_okq (⟨"ReplayHouseModel", "areTouching", "(II)Z"⟩, 47) := ⟨⟨by decide +kernel, by decide +kernel⟩, List.mem_of_getElem? (i := 786) (by decide +kernel), List.mem_of_getElem? (i := 1135) (by decide +kernel), List.mem_of_getElem? (i := 1136) (by decide +kernel)⟩
def lw_privs_4 : List (MethodName × Nat) := [(⟨"ReplayHouseModel", "need", "(I)V"⟩, 47), (⟨"ReplayHouseModel", "isAsk", "(I)Z"⟩, 47), (⟨"ReplayHouseModel", "runAll", "(II)V"⟩, 47), (⟨"ReplayHouseModel", "findLine", "()V"⟩, 47), (⟨"ReplayHouseModel", "run", "(III)V"⟩, 47), (⟨"ReplayHouseModel", "does", "(II)V"⟩, 47), (⟨"ReplayHouseModel", "push", "(I)V"⟩, 47), (⟨"ReplayHouseModel", "pop", "()I"⟩, 47), (⟨"ReplayHouseModel", "keepAnswers", "()V"⟩, 47), (⟨"ReplayHouseModel", "runBothAll", "()V"⟩, 47), (⟨"ReplayHouseModel", "runBoth", "(I)V"⟩, 47), (⟨"ReplayHouseModel", "unlike", "(I)I"⟩, 47), (⟨"ReplayHouseModel", "findWheres", "()V"⟩, 47), (⟨"ReplayHouseModel", "isLowest", "(I)Z"⟩, 47), (⟨"ReplayHouseModel", "isLike", "(II)Z"⟩, 47), (⟨"ReplayHouseModel", "areTouching", "(II)Z"⟩, 47)]
theorem lw_r4 : ∀ q ∈ lw_privs_4, lw_okq q := List.forall_mem_cons.mpr ⟨lw_p48, List.forall_mem_cons.mpr ⟨lw_p49, List.forall_mem_cons.mpr ⟨lw_p50, List.forall_mem_cons.mpr ⟨lw_p51, List.forall_mem_cons.mpr ⟨lw_p52, List.forall_mem_cons.mpr ⟨lw_p53, List.forall_mem_cons.mpr ⟨lw_p54, List.forall_mem_cons.mpr ⟨lw_p55, List.forall_mem_cons.mpr ⟨lw_p56, List.forall_mem_cons.mpr ⟨lw_p57, List.forall_mem_cons.mpr ⟨lw_p58, List.forall_mem_cons.mpr ⟨lw_p59, List.forall_mem_cons.mpr ⟨lw_p60, List.forall_mem_cons.mpr ⟨lw_p61, List.forall_mem_cons.mpr ⟨lw_p62, List.forall_mem_cons.mpr ⟨lw_p63, fun _ h => absurd h List.not_mem_nil⟩⟩⟩⟩⟩⟩⟩⟩⟩⟩⟩⟩⟩⟩⟩⟩
theorem lw_p64 : lw_okq (⟨"ReplayHouseModel", "findSmall", "(I)Z"⟩, 47) := ⟨⟨by decide +kernel, by decide +kernel⟩, List.mem_of_getElem? (i := 786) (by decide +kernel), List.mem_of_getElem? (i := 1147) (by decide +kernel), List.mem_of_getElem? (i := 1148) (by decide +kernel)⟩
def lw_privs_5 : List (MethodName × Nat) := [(⟨"ReplayHouseModel", "findSmall", "(I)Z"⟩, 47)]
theorem lw_r5 : ∀ q ∈ lw_privs_5, lw_okq q := List.forall_mem_cons.mpr ⟨lw_p64, fun _ h => absurd h List.not_mem_nil⟩
def lw_privs : List (MethodName × Nat) := lw_privs_1 ++ (lw_privs_2 ++ (lw_privs_3 ++ (lw_privs_4 ++ (lw_privs_5))))
def lw_tbl : List Cond := k2_sels lw_privs ++ tables_1
theorem lw_privs_ok : ∀ q ∈ lw_privs, lw_okq q := by
  show ∀ q ∈ lw_privs_1 ++ (lw_privs_2 ++ (lw_privs_3 ++ (lw_privs_4 ++ (lw_privs_5)))), lw_okq q
  exact List.forall_mem_append.mpr ⟨lw_r1, List.forall_mem_append.mpr ⟨lw_r2, List.forall_mem_append.mpr ⟨lw_r3, List.forall_mem_append.mpr ⟨lw_r4, lw_r5⟩⟩⟩⟩
-- ===== end of PART A; then your names; then what follows =====
end
section
/-! ===== BEGIN words of one list among another's, by their places ===== -/
theorem goodIn_r {big : List Cond} (ws : List Cond) (ps : List Nat) (hp : ws = ps.filterMap (fun i => big[i]?)) (h : ws.all goodWord = true) : GoodIn big ws := by
  intro w hw
  have h1 := List.all_eq_true.mp h w hw
  rw [hp] at hw
  obtain ⟨i, -, hi⟩ := List.mem_filterMap.mp hw
  have hm : w ∈ big := by first | exact List.mem_of_getElem? hi | exact List.getElem?_mem hi
  exact ⟨hm, good_of_word h1⟩
theorem goodIn_app {big a b : List Cond} (ha : GoodIn big a) (hb : GoodIn big b) : GoodIn big (a ++ b) := fun w h => (List.mem_append.mp h).elim (ha w) (hb w)
theorem goodIn_ca {big a b : List Cond} {c : Cond} (ha : GoodIn big (c :: a)) (hb : GoodIn big b) : GoodIn big (c :: (a ++ b)) := fun w h => (List.mem_cons.mp h).elim (fun e => ha w (List.mem_cons.mpr (Or.inl e))) (fun h => (List.mem_append.mp h).elim (fun h => ha w (List.mem_cons.mpr (Or.inr h))) (hb w))
theorem goodIn_sub {big ws : List Cond} (hm : ∀ w ∈ ws, w ∈ big) (h : ws.all goodWord = true) : GoodIn big ws := fun w hw => ⟨hm w hw, good_of_word (List.all_eq_true.mp h w hw)⟩
/-! ===== END ===== -/

/-! ===== BEGIN exceptions that leave a method, and their catching by the caller (launches without stack traces) ===== -/
section VXA
/-! The laws vx_back, vx_callV, vx_callS, vx_callSW, vx_throw0, vx_throwS follow proofs of the library, with one case more: JvmDerived/Free/Laws.lean (Back.of_free), Shelf42/LK1.lean (callV, callS), Shelf/KitTraced.lean (throwNew0V, throwNewS). -/
/-- where a method has thrown q: the class by its name, the cell, what was written, the world -/
def vx_T (XC : String → State → State → Prop) (st : State) (q : Addr) (t : State) (mc ms : Nat) (free : Addr → Prop) : Prop :=
  ∃ (E : String) (ce : Cell) (L : List Loc), XC E st t ∧ t.heap[q]? = some ce ∧ ce.vm = .none ∧ st.vm.findClass E = some ce.cls ∧ st.WarmedH t.vm ∧ st.sameButNew ({ t with vm := st.vm } : State) L mc ms ∧ ∀ z ∈ L, free z.base
def vx_Q (Qc : Array Value → State → Outcome → State → Prop) (XC : String → State → State → Prop) (mc ms : Nat) (free : Addr → Prop) : Array Value → State → Outcome → State → Prop := fun a st o t =>
  (Qc a st o t ∧ ∃ L, FrameEnd st o t L mc ms ∧ ∀ q ∈ L, free q.base) ∨ ∃ q, o = .threw q ∧ vx_T XC st q t mc ms free
/-- a callee that returns or throws -/
def vx_Met (l : Launch) (y : MethodName) (ws : List Cond) (rm : Room) (Pc : Array Value → State → Prop) (Qc : Array Value → State → Outcome → State → Prop) (XC : String → State → State → Prop) (mc ms : Nat) (free : Addr → Prop) : Prop :=
  MetFree l y (headSpec ws rm) Pc (fun _ _ _ _ _ => True) (vx_Q Qc XC mc ms free)
def vx_Post (XC : String → State → State → Prop) (mc ms : Nat) (free : Addr → Prop) : Pt → Array Value → Addr → Pt → Prop := fun A a q B =>
  ∃ (g : JFrame) (mk : MethodId) (t : State) (L : List Loc) (E : String) (ce : Cell), B.U.heap = t.heap ∧ B.U.vm = t.vm ∧ XC E (A.U.calling g mk a) t ∧ t.heap[q]? = some ce ∧ ce.vm = .none ∧ A.U.vm.findClass E = some ce.cls ∧ B.locs = A.locs ++ L ∧ (∀ z ∈ L, free z.base) ∧ B.cells = A.cells + mc ∧ B.slots = A.slots + ms
def vx_Back (l : Launch) (R : Room) (p : Program) (e : Env) (below : List Frame) (s : State) (sargs : Array Value) (y : MethodName) (len W9 : Nat)
    (Pre : Pt → Array Value → Prop) (Post : Pt → Array Value → Option Value → Pt → Prop) (PostX : Pt → Array Value → Addr → Pt → Prop) : Prop :=
  ∀ (m : MethodId) (meth : Method) (c : Code) (A : Pt) (g : JFrame) (ig : Instr) (mk : MethodId) (a : Array Value),
    Stand p l e R s m sargs below meth c A.U A.locs A.cells A.slots → g.method = m → g.locals.size = c.maxLocals → decode c.code g.pc = .ok (ig, len) →
    2 * g.monitorRoom + (g.stack.map fun v => v.category).sum ≤ W9 → A.U.methodNamed? y = some mk → Pre A a →
    (∃ (v : Option Value) (B : Pt), Stand p l e R s m sargs below meth c B.U B.locs B.cells B.slots ∧ Post A a v B ∧
      Steps p.tables e below (doInvoke e (A.U.setTop g) [] mk a).1 (B.U.setTop { g with pc := g.pc + len, stack := v.toList ++ g.stack })) ∨
    (∃ (q : Addr) (B : Pt), Stand p l e R s m sargs below meth c B.U B.locs B.cells B.slots ∧ PostX A a q B ∧
      Steps p.tables e below (doInvoke e (A.U.setTop g) [] mk a).1 ((B.U.setTop g).pushFrame (.throwing q)))
section Payer
variable {l : Launch} {R : Room} {p : Program} {e : Env} {below : List Frame} {s : State} {sargs : Array Value} {y : MethodName} {len W9 : Nat}
theorem vx_back {ws : List Cond} {rm : Room} {Pc : Array Value → State → Prop} {Qc : Array Value → State → Outcome → State → Prop} {XC : String → State → State → Prop} {mc ms : Nat} {free : Addr → Prop} {bytes : ByteArray} {maxL : Nat} {ret : Option FieldType}
    (hM : vx_Met l y ws rm Pc Qc XC mc ms free) (hblind : FrameBlind Pc) (hrc : rm.cells = mc) (hrs : rm.slots = ms)
    (hframes : rm.frames + 1 ≤ R.frames) (hlocals : W9 + (maxL + 11) + rm.locals ≤ R.locals)
    (hws : ∀ w ∈ ws, ∀ a' U, s.WarmedH U.vm → w.before a' U = true) (hcode : Cond.code y bytes maxL ret ∈ ws) (hinit : ∀ a' U, s.WarmedH U.vm → (Cond.initialized y.cls).before a' U = true) :
    vx_Back l R p e below s sargs y len W9 (PreOf R mc ms Pc) (PostOf Qc mc ms free) (vx_Post XC mc ms free) := by
  intro m meth c A g ig mk a X hg hsize hdg hW hn hp
  have h1 : (headSpec ws rm).pre.before a A.U = true := atoms_intro fun w hw => hws w hw _ _ X.warmed
  have h2 : (Cond.code y bytes maxL ret).before a A.U = true := hws _ hcode _ _ X.warmed
  have h3 : (Cond.initialized y.cls).before a A.U = true := hinit _ _ X.warmed
  have h4 : A.cells + (headSpec ws rm).room.cells ≤ R.cells := by rw [show (headSpec ws rm).room.cells = mc from hrc]; exact hp.1
  have h5 : A.slots + (headSpec ws rm).room.slots ≤ R.slots := by rw [show (headSpec ws rm).room.slots = ms from hrs]; exact hp.2.1
  have hPc : Pc a (A.U.calling g mk a) := hblind _ _ _ _ hp.2.2
  obtain ⟨U, Ls, c0, s0⟩ := A
  dsimp only [Pt.U, Pt.locs, Pt.cells, Pt.slots] at h1 h2 h3 h4 h5 X hn hPc ⊢
  obtain ⟨methY, cY, hmY, hcY, -, hlY, -, -, -, -⟩ := Cond.code_spec hn h2
  obtain ⟨kY, hkY, -⟩ := className_of_methodNamed hn
  have hinitY : kY.init = .initialized := Cond.initialized_spec (findClass_of_methodNamed hn) hkY h3
  have h : At U g.method c below := by rw [hg]; exact X.here
  have hlocals9 : W9 + (maxL + 11) + (headSpec ws rm).room.locals ≤ R.locals := hlocals
  have happ : (headSpec ws rm).appliesLoose y e.platform (U.calling g mk a) = true :=
    Spec.appliesLoose_calling (g := g) h hdg hn hkY hinitY
      (X.room_calling (g := g) (R' := (headSpec ws rm).room) hsize hmY hcY hframes (by rw [hlY]; omega) h4 h5) h1
  obtain ⟨mid, hmid⟩ := h.above
  have hfr : (U.setTop g).frames = (.java g :: mid) ++ below := by rw [State.frames_setTop' g h.top, hmid]; rfl
  obtain ⟨o, s₂, hsteps, -, hend, hq⟩ := Steps.callFree hM p X.admits X.cas X.clock (acts := []) hfr happ hPc trivial
  have hq' : vx_Q Qc XC mc ms free a (U.calling g mk a) o s₂ := hq
  rw [State.frames_setTop' g h.top] at hend
  obtain ⟨g₀, hg0⟩ := Option.isSome_iff_exists.mp h.top
  obtain ⟨r, hr⟩ := State.topJava?_eq_some.mp hg0
  have hr' : (({ U with heap := s₂.heap, slotsUsed := s₂.slotsUsed } : State).setVm s₂.vm).frames = .java g₀ :: r := hr
  rcases hq' with ⟨hqc, L, hfe, hL⟩ | ⟨q, rfl, E, ce, L, hx, hce, hcv, hcl, hW₂, hsm, hL⟩
  · obtain ⟨⟨v, rfl⟩, hW₂, e2, q2, q3, q4, q5, q6⟩ := id hfe
    have e3 : s₂ = ({ (U.calling g mk a).setFrames s₂.frames with heap := s₂.heap, slotsUsed := s₂.slotsUsed } : State).setVm s₂.vm := by
      have : s₂ = ({ s₂ with vm := (U.calling g mk a).vm } : State).setVm s₂.vm := rfl
      rw [e2] at this
      exact this
    obtain ⟨c₂, i₂, len₂, hc₂, hd₂, hf₂⟩ := hend
    have hW' : U.WarmedH s₂.vm := hW₂
    have hcc : c₂ = c := by
      have h1 : s₂.code? g.method = U.code? g.method := by
        rw [State.code?_eq, State.code?_eq, hW'.alike.method?]
      exact Option.some.inj (hc₂.symm.trans (h1.trans h.code))
    subst hcc
    have hlen : len₂ = len := by rw [hdg] at hd₂; cases hd₂; rfl
    subst hlen
    have hs₂ : s₂ = (({ U with heap := s₂.heap, slotsUsed := s₂.slotsUsed } : State).setVm s₂.vm).setTop { g with pc := g.pc + len₂, stack := v.toList ++ g.stack } := by
      refine e3.trans ?_
      rw [hf₂, State.calling_eq h.top, State.setFrames_setFrames, State.setTop_of_frames _ hr', hr]
      rfl
    have hsame : U.sameButNew ({ U with heap := s₂.heap, slotsUsed := s₂.slotsUsed } : State) L mc ms := by
      refine ⟨?_, q2, q3, q4, q5, q6⟩
      obtain ⟨t, ht, -⟩ := State.frames_cons hr
      show ({ U with heap := s₂.heap, slotsUsed := s₂.slotsUsed } : State) = { U.setFrames U.frames with heap := s₂.heap, slotsUsed := s₂.slotsUsed }
      rw [State.setFrames_self ht]
    subst hg
    refine Or.inl ⟨v, ⟨(({ U with heap := s₂.heap, slotsUsed := s₂.slotsUsed } : State).setVm s₂.vm), Ls ++ L, c0 + mc, s0 + ms⟩,
      ⟨X.admits, X.cas, X.clock, X.frames, X.room, X.hears, X.method, X.code, (X.here.setHeapUsed s₂.heap s₂.slotsUsed).setVm hW'.alike, X.tail, State.WarmedH.trans X.warmed hW', X.limits, X.bytes, X.same.trans (hsame.setVm s.vm)⟩,
      ⟨g, mk, s₂, L, rfl, rfl, hqc, rfl, hL, rfl, rfl⟩, ?_⟩
    show Steps p.tables e below _ ((({ U with heap := s₂.heap, slotsUsed := s₂.slotsUsed } : State).setVm s₂.vm).setTop { g with pc := g.pc + len₂, stack := v.toList ++ g.stack })
    rw [← hs₂]
    exact hsteps
  · obtain ⟨e2, q2, q3, q4, q5, q6⟩ := id hsm
    have e3 : s₂ = ({ (U.calling g mk a).setFrames s₂.frames with heap := s₂.heap, slotsUsed := s₂.slotsUsed } : State).setVm s₂.vm := by
      have : s₂ = ({ s₂ with vm := (U.calling g mk a).vm } : State).setVm s₂.vm := rfl
      rw [e2] at this
      exact this
    have hf₂ : s₂.frames = .throwing q :: .java g :: U.frames.tail := hend
    have hW' : U.WarmedH s₂.vm := hW₂
    have hs₂ : s₂ = ((({ U with heap := s₂.heap, slotsUsed := s₂.slotsUsed } : State).setVm s₂.vm).setTop g).pushFrame (.throwing q) := by
      refine e3.trans ?_
      rw [hf₂, State.calling_eq h.top, State.setFrames_setFrames, State.pushFrame, State.frames_setTop _ hr', State.setTop_of_frames _ hr', State.setFrames_setFrames, hr]
      rfl
    have hsame : U.sameButNew ({ U with heap := s₂.heap, slotsUsed := s₂.slotsUsed } : State) L mc ms := by
      refine ⟨?_, q2, q3, q4, q5, q6⟩
      obtain ⟨t, ht, -⟩ := State.frames_cons hr
      show ({ U with heap := s₂.heap, slotsUsed := s₂.slotsUsed } : State) = { U.setFrames U.frames with heap := s₂.heap, slotsUsed := s₂.slotsUsed }
      rw [State.setFrames_self ht]
    subst hg
    refine Or.inr ⟨q, ⟨(({ U with heap := s₂.heap, slotsUsed := s₂.slotsUsed } : State).setVm s₂.vm), Ls ++ L, c0 + mc, s0 + ms⟩,
      ⟨X.admits, X.cas, X.clock, X.frames, X.room, X.hears, X.method, X.code, (X.here.setHeapUsed s₂.heap s₂.slotsUsed).setVm hW'.alike, X.tail, State.WarmedH.trans X.warmed hW', X.limits, X.bytes, X.same.trans (hsame.setVm s.vm)⟩,
      ⟨g, mk, s₂, L, E, ce, rfl, rfl, hx, hce, hcv, hcl, rfl, hL, rfl, rfl⟩, ?_⟩
    show Steps p.tables e below _ (((({ U with heap := s₂.heap, slotsUsed := s₂.slotsUsed } : State).setVm s₂.vm).setTop g).pushFrame (.throwing q))
    rw [← hs₂]
    exact hsteps
end Payer
section Calls
variable {p : Program} {l : Launch} {e : Env} {R : Room} {s : State} {m : MethodId} {args : Array Value} {below : List Frame} {meth : Method} {c : Code} {T : State} {locs : List Loc} {cells slots : Nat}
theorem vx_callV (X : Stand p l e R s m args below meth c T locs cells slots) (hexec : p.tables.exec = Jvm.exec) {own C : String} {index : Nat} {y : MethodName} {bytes : ByteArray} {maxL : Nat} {ret : Option FieldType}
    (hown : s.vm.findClass own = some m.cls) (hlink : (Cond.methodLink own index y).before args s = true) (hinst : (Cond.instanceMethod y).before args s = true) (hsel : (Cond.selects C y y).before args s = true)
    (hcode : (Cond.code y bytes maxL ret).before args s = true) (hy : y.cls ≠ "java/lang/invoke/MethodHandle" ∧ y.cls ≠ "java/lang/invoke/VarHandle")
    {W9 : Nat} {Pre : Pt → Array Value → Prop} {Post : Pt → Array Value → Option Value → Pt → Prop} {PostX : Pt → Array Value → Addr → Pt → Prop} (hK : vx_Back l R p e below s args y 3 W9 Pre Post PostX)
    {b : Addr} {cellB : Cell} (hcell : T.heap[b]? = some cellB) (hobj : cellB.vm.isStatics = false) (hcls : s.vm.findClass C = some cellB.cls)
    {g : JFrame} (hg : g.method = m) (hsize : g.locals.size = c.maxLocals) {argsL rest : List Value} (hlen : ∀ sig, parseMethodDescriptor y.desc = some sig → argsL.length = sig.parameters.length)
    (hstack : g.stack = argsL.reverse ++ .ref b :: rest) (hW : 2 * g.monitorRoom + (rest.map fun v => v.category).sum ≤ W9) (hdg : decode c.code g.pc = .ok (.invokevirtual index, 3))
    (hpre : ∀ vm₁, s.WarmedH vm₁ → Pre ⟨T.setVm vm₁, locs, cells, slots⟩ (Value.ref b :: argsL).toArray) :
    (∃ (v : Option Value) (vm₁ : Vm) (B : Pt), s.WarmedH vm₁ ∧ Stand p l e R s m args below meth c B.U B.locs B.cells B.slots ∧ Post ⟨T.setVm vm₁, locs, cells, slots⟩ (Value.ref b :: argsL).toArray v B ∧
      ∀ target, Steps p.tables e below (B.U.setTop { g with pc := g.pc + 3, stack := v.toList ++ rest }) target → Steps p.tables e below (T.setTop g) target) ∨
    (∃ (q : Addr) (vm₁ : Vm) (B : Pt), s.WarmedH vm₁ ∧ Stand p l e R s m args below meth c B.U B.locs B.cells B.slots ∧ PostX ⟨T.setVm vm₁, locs, cells, slots⟩ (Value.ref b :: argsL).toArray q B ∧
      Steps p.tables e below (T.setTop g) ((B.U.setTop { g with stack := rest }).pushFrame (.throwing q))) := by
  obtain ⟨mk, methM, hnamed, hmethM, hstM, habM⟩ := Cond.instanceMethod_spec hinst
  obtain ⟨methM', cM, hmethM', -, -, -, -, -, -, hsigM⟩ := Cond.code_spec hnamed hcode
  cases hmethM.symm.trans hmethM'
  obtain ⟨c2, r2, m2, q1, q2, q3, q4, kP, hkP, hkPi⟩ := Cond.selects_spec hsel
  cases hcls.symm.trans q1
  cases (State.methodFound?_of_named hnamed hy).symm.trans q2
  cases hnamed.symm.trans q3
  have hselP : selectMethod e.platform s.vm cellB.cls mk = .method mk := by rw [Launch.admits_selectMethod X.admits]; exact q4
  obtain ⟨vm₁, X₁, hstep₁⟩ := X.invokevirtual hexec hown hlink hnamed hmethM hstM hkP hkPi hy (a := b) (cell := cellB) hcell
    (fun z h => by rw [h] at hobj; cases hobj) hselP hmethM habM hkP hkPi (g := g) hg (argsL := argsL) (rest := rest) (hlen _ hsigM) hstack hdg
  rcases hK m meth c ⟨T.setVm vm₁, locs, cells, slots⟩ { g with stack := rest } (.invokevirtual index) mk (Value.ref b :: argsL).toArray X₁ hg hsize hdg hW (X₁.named hnamed) (hpre vm₁ X₁.warmed) with ⟨v, B, X', hpost, hsteps⟩ | ⟨q, B, X', hpost, hsteps⟩
  · exact Or.inl ⟨v, vm₁, B, X₁.warmed, X', hpost, fun target h => hstep₁ _ fun acts => by rw [doInvoke_state]; exact hsteps.trans h⟩
  · exact Or.inr ⟨q, vm₁, B, X₁.warmed, X', hpost, hstep₁ _ fun acts => by rw [doInvoke_state]; exact hsteps⟩
theorem vx_callS (X : Stand p l e R s m args below meth c T locs cells slots) (hexec : p.tables.exec = Jvm.exec) {own : String} {index : Nat} {y : MethodName} {bytes : ByteArray} {maxL : Nat} {ret : Option FieldType}
    (hown : s.vm.findClass own = some m.cls) (hlink : (Cond.methodLink own index y).before args s = true) (hstat : (Cond.static y).before args s = true) (hinit : (Cond.initialized y.cls).before args s = true)
    (hcode : (Cond.code y bytes maxL ret).before args s = true) (hy : y.cls ≠ "java/lang/invoke/MethodHandle" ∧ y.cls ≠ "java/lang/invoke/VarHandle")
    {W9 : Nat} {Pre : Pt → Array Value → Prop} {Post : Pt → Array Value → Option Value → Pt → Prop} {PostX : Pt → Array Value → Addr → Pt → Prop} (hK : vx_Back l R p e below s args y 3 W9 Pre Post PostX)
    {g : JFrame} (hg : g.method = m) (hsize : g.locals.size = c.maxLocals) {argsL rest : List Value} (hlen : ∀ sig, parseMethodDescriptor y.desc = some sig → argsL.length = sig.parameters.length)
    (hstack : g.stack = argsL.reverse ++ rest) (hW : 2 * g.monitorRoom + (rest.map fun v => v.category).sum ≤ W9) (hdg : decode c.code g.pc = .ok (.invokestatic index, 3))
    (hpre : ∀ vm₁, s.WarmedH vm₁ → Pre ⟨T.setVm vm₁, locs, cells, slots⟩ argsL.toArray) :
    (∃ (v : Option Value) (vm₁ : Vm) (B : Pt), s.WarmedH vm₁ ∧ Stand p l e R s m args below meth c B.U B.locs B.cells B.slots ∧ Post ⟨T.setVm vm₁, locs, cells, slots⟩ argsL.toArray v B ∧
      ∀ target, Steps p.tables e below (B.U.setTop { g with pc := g.pc + 3, stack := v.toList ++ rest }) target → Steps p.tables e below (T.setTop g) target) ∨
    (∃ (q : Addr) (vm₁ : Vm) (B : Pt), s.WarmedH vm₁ ∧ Stand p l e R s m args below meth c B.U B.locs B.cells B.slots ∧ PostX ⟨T.setVm vm₁, locs, cells, slots⟩ argsL.toArray q B ∧
      Steps p.tables e below (T.setTop g) ((B.U.setTop { g with stack := rest }).pushFrame (.throwing q))) := by
  obtain ⟨mk, hnamed⟩ := Cond.code_named hcode
  obtain ⟨methM, cM, hmethM, -, -, -, -, -, -, hsigM⟩ := Cond.code_spec hnamed hcode
  have hstatic : methM.isStatic = true := Cond.static_spec hnamed hmethM hstat
  obtain ⟨kP, hkP, -⟩ := className_of_methodNamed hnamed
  have hinitP : kP.init = .initialized := Cond.initialized_spec (findClass_of_methodNamed hnamed) hkP hinit
  obtain ⟨vm₁, X₁, hstep₁⟩ := X.invokestatic hexec hown hlink hnamed hmethM hstatic hkP hinitP hy (g := g) hg (argsL := argsL) (rest := rest) (hlen _ hsigM) hstack hdg
  rcases hK m meth c ⟨T.setVm vm₁, locs, cells, slots⟩ { g with stack := rest } (.invokestatic index) mk argsL.toArray X₁ hg hsize hdg hW (X₁.named hnamed) (hpre vm₁ X₁.warmed) with ⟨v, B, X', hpost, hsteps⟩ | ⟨q, B, X', hpost, hsteps⟩
  · exact Or.inl ⟨v, vm₁, B, X₁.warmed, X', hpost, fun target h => hstep₁ _ fun acts => by rw [doInvoke_state]; exact hsteps.trans h⟩
  · exact Or.inr ⟨q, vm₁, B, X₁.warmed, X', hpost, hstep₁ _ fun acts => by rw [doInvoke_state]; exact hsteps⟩
end Calls
theorem vx_cls {s : State} {T : State} {vm₁ : Vm} {E : String} {k : ClassId} (hW : s.WarmedH vm₁) (h : (T.setVm vm₁).vm.findClass E = some k) : s.vm.findClass E = some k := by
  have h1 : vm₁.findClass E = some k := h
  rw [hW.alike.findClass] at h1
  exact h1
/-- the method's frame g, with q thrown over it -/
def vx_W (p : Program) (l : Launch) (e : Env) (R : Room) (s : State) (m : MethodId) (args : Array Value) (below : List Frame) (meth : Method) (c : Code) (H : Heap) (locs : List Loc) (cells slots : Nat) (Q : State → Prop) (g : JFrame) (q : Addr) : Prop :=
  ∀ T : State, T.heap = H → Stand p l e R s m args below meth c T locs cells slots → ∃ t, Steps p.tables e below ((T.setTop g).pushFrame (.throwing q)) t ∧ Q t
def vx_Run (p : Program) (l : Launch) (e : Env) (R : Room) (s : State) (m : MethodId) (args : Array Value) (below : List Frame) (meth : Method) (c : Code) (H : Heap) (locs : List Loc) (cells slots mc ms : Nat) (g : JFrame) (rest : List Value) (Qa : State → Outcome → State → Prop) (XC : String → State → State → Prop) (free : Addr → Prop) : Prop :=
  ∀ T : State, T.heap = H → Stand p l e R s m args below meth c T locs cells slots →
    (∃ (v : Option Value) (st₀ t T' : State) (L : List Loc), st₀.heap = H ∧ Stand p l e R s m args below meth c T' (locs ++ L) (cells + mc) (slots + ms) ∧ (∀ q ∈ L, free q.base) ∧ T'.heap = t.heap ∧ T'.vm = t.vm ∧ Qa st₀ (.returned v) t ∧
      Goes p e below T g T' { g with pc := g.pc + 3, stack := v.toList ++ rest }) ∨
    (∃ (q : Addr) (st₀ t T' : State) (L : List Loc) (E : String) (ce : Cell), st₀.heap = H ∧ Stand p l e R s m args below meth c T' (locs ++ L) (cells + mc) (slots + ms) ∧ (∀ z ∈ L, free z.base) ∧ T'.heap = t.heap ∧ T'.vm = t.vm ∧ XC E st₀ t ∧ t.heap[q]? = some ce ∧ ce.vm = .none ∧ s.vm.findClass E = some ce.cls ∧
      Steps p.tables e below (T.setTop g) ((T'.setTop { g with stack := rest }).pushFrame (.throwing q)))
def vx_X {S : Type} (px : S → Prop) (B : String → S → State → Prop) (A : Nat → Prop) : String → State → State → Prop := fun E st t => ∃ u : S, px u ∧ B E u t ∧ va_F A st t
section Runs
variable {p : Program} {l : Launch} {e : Env} {R : Room} {s : State} {m : MethodId} {args : Array Value} {below : List Frame} {meth : Method} {c : Code} {H : Heap} {locs : List Loc} {cells slots : Nat}
variable {y : MethodName} {bytes cc : ByteArray} {maxL nL mc ms n index : Nat} {ret : Option FieldType} {ws : List Cond} {rm : Room} {Pc : Array Value → State → Prop} {Qc : Array Value → State → Outcome → State → Prop} {XC : String → State → State → Prop} {free : Addr → Prop} {Ts : List Cond} {own C : String} {b : Addr} {As rest : List Value} {g : JFrame}
theorem vx_callBack (cb : CallB R s args own index y bytes maxL ret ws rm mc ms n) (hM : vx_Met l y ws rm Pc Qc XC mc ms free) (hbl : FrameBlind Pc) : vx_Back l R p e below s args y 3 8 (PreOf R mc ms Pc) (PostOf Qc mc ms free) (vx_Post XC mc ms free) := by
  obtain ⟨hrc, hrs, hfr, hlo, hws, hcw, -, hini, -⟩ := cb
  exact vx_back (bytes := bytes) (maxL := maxL) (ret := ret) hM hbl hrc hrs hfr hlo hws hcw (fun a' U hW => word_at hW (Or.inl (by first | rfl | simp [Cond.onTables, Cond.keeps, Cond.steady])) hini)
theorem vx_runV (S : CallFix p m c cc nL s args Ts own) (hM : vx_Met l y ws rm Pc Qc XC mc ms free) (cw : CallW R s args own C index y bytes maxL ret ws rm mc ms n) (hp : PreV s H C b Pc As)
    (hg : g.method = m) (hn : As.length = n) (hsize : g.locals.size = nL) (hstack : g.stack = As.reverse ++ .ref b :: rest) (hW : 2 * g.monitorRoom + (rest.map fun v => v.category).sum ≤ 8) (hdg : decode cc g.pc = .ok (.invokevirtual index, 3)) (hf : cells + mc ≤ R.cells ∧ slots + ms ≤ R.slots) :
    vx_Run p l e R s m args below meth c H locs cells slots mc ms g rest (Qc (Value.ref b :: As).toArray) XC free := by
  have hK : vx_Back l R p e below s args y 3 8 (PreOf R mc ms Pc) (PostOf Qc mc ms free) (vx_Post XC mc ms free) := vx_callBack cw.1 hM hp.1
  obtain ⟨⟨-, -, -, -, -, -, hcode, -, hy, hlen, hl⟩, hin, hse⟩ := cw
  obtain ⟨hx, hb, hml, ho, -⟩ := S
  obtain ⟨-, ⟨cellB, hcB, hoB, hclB⟩, hPc⟩ := hp
  intro T hT X
  rcases vx_callV X hx (C := C) (bytes := bytes) (maxL := maxL) (ret := ret) ho hl hin hse hcode hy hK (by rw [hT]; exact hcB) hoB hclB hg (hsize.trans hml.symm) (argsL := As) (rest := rest) (fun sig h => hn.trans (hlen sig h)) hstack hW (by rw [hb]; exact hdg)
    (fun vm₁ hW₁ => ⟨hf.1, hf.2, hPc (T.setVm vm₁) hT hW₁⟩) with ⟨v, vm₁, ⟨U', l2, c2, s2⟩, hW₁, X', ⟨g', mk, t, L, e1, e2, hq, h1, hL, h2, h3⟩, st⟩ | ⟨q, vm₁, ⟨U', l2, c2, s2⟩, hW₁, X', ⟨g', mk, t, L, E, ce, e1, e2, hq, hce, hcv, hcl, h1, hL, h2, h3⟩, st⟩
  · dsimp only [Pt.U, Pt.locs, Pt.cells, Pt.slots] at X' e1 e2 h1 h2 h3 st
    subst h1; subst h2; subst h3
    exact Or.inl ⟨v, (T.setVm vm₁).calling g' mk (Value.ref b :: As).toArray, t, U', L, hT, X', hL, e1, e2, hq, st⟩
  · dsimp only [Pt.U, Pt.locs, Pt.cells, Pt.slots] at X' e1 e2 h1 h2 h3 st hcl
    subst h1; subst h2; subst h3
    exact Or.inr ⟨q, (T.setVm vm₁).calling g' mk (Value.ref b :: As).toArray, t, U', L, E, ce, hT, X', hL, e1, e2, hq, hce, hcv, vx_cls hW₁ hcl, st⟩
theorem vx_runS (S : CallFix p m c cc nL s args Ts own) (hM : vx_Met l y ws rm Pc Qc XC mc ms free) (cw : CallB R s args own index y bytes maxL ret ws rm mc ms n ∧ (Cond.static y).before args s = true) (hp : PreS s H Pc As)
    (hg : g.method = m) (hn : As.length = n) (hsize : g.locals.size = nL) (hstack : g.stack = As.reverse ++ rest) (hW : 2 * g.monitorRoom + (rest.map fun v => v.category).sum ≤ 8) (hdg : decode cc g.pc = .ok (.invokestatic index, 3)) (hf : cells + mc ≤ R.cells ∧ slots + ms ≤ R.slots) :
    vx_Run p l e R s m args below meth c H locs cells slots mc ms g rest (Qc As.toArray) XC free := by
  have hK : vx_Back l R p e below s args y 3 8 (PreOf R mc ms Pc) (PostOf Qc mc ms free) (vx_Post XC mc ms free) := vx_callBack cw.1 hM hp.1
  obtain ⟨⟨-, -, -, -, -, -, hcode, hini, hy, hlen, hl⟩, hstt⟩ := cw
  obtain ⟨hx, hb, hml, ho, -⟩ := S
  intro T hT X
  rcases vx_callS X hx (bytes := bytes) (maxL := maxL) (ret := ret) ho hl hstt hini hcode hy hK hg (hsize.trans hml.symm) (argsL := As) (rest := rest) (fun sig h => hn.trans (hlen sig h)) hstack hW (by rw [hb]; exact hdg)
    (fun vm₁ hW₁ => ⟨hf.1, hf.2, hp.2 (T.setVm vm₁) hT hW₁⟩) with ⟨v, vm₁, ⟨U', l2, c2, s2⟩, hW₁, X', ⟨g', mk, t, L, e1, e2, hq, h1, hL, h2, h3⟩, st⟩ | ⟨q, vm₁, ⟨U', l2, c2, s2⟩, hW₁, X', ⟨g', mk, t, L, E, ce, e1, e2, hq, hce, hcv, hcl, h1, hL, h2, h3⟩, st⟩
  · dsimp only [Pt.U, Pt.locs, Pt.cells, Pt.slots] at X' e1 e2 h1 h2 h3 st
    subst h1; subst h2; subst h3
    exact Or.inl ⟨v, (T.setVm vm₁).calling g' mk As.toArray, t, U', L, hT, X', hL, e1, e2, hq, st⟩
  · dsimp only [Pt.U, Pt.locs, Pt.cells, Pt.slots] at X' e1 e2 h1 h2 h3 st hcl
    subst h1; subst h2; subst h3
    exact Or.inr ⟨q, (T.setVm vm₁).calling g' mk As.toArray, t, U', L, E, ce, hT, X', hL, e1, e2, hq, hce, hcv, vx_cls hW₁ hcl, st⟩
end Runs
section Rows
variable {p : Program} {l : Launch} {e : Env} {R : Room} {s : State} {m : MethodId} {args : Array Value} {below : List Frame} {meth : Method} {c : Code} {H : Heap} {locs : List Loc} {cells slots : Nat} {Q : State → Prop}
variable {mc ms : Nat} {free : Addr → Prop} {A0 A1 : Nat → Prop} {H0 : Heap} {a : Array Value} {pc : Nat} {ls : Array Slot} {st0 rest : List Value}
theorem vx_keep {st₀ t T' : State} {L : List Loc} (h0 : st₀.heap = H) (e1 : T'.heap = t.heap) (hS : va_S A0 H0 H locs) (hA : ∀ q, q < H.size → A1 q → A0 q) (hf : ∀ q, free q → A0 q) (hL : ∀ q ∈ L, free q.base) (hF : va_F A1 st₀ t) :
    H.size ≤ T'.heap.size ∧ (∀ q : Nat, q < H.size → ¬ A1 q → T'.heap[q]? = H[q]?) ∧ va_S A0 H0 T'.heap (locs ++ L) := by
  obtain ⟨hz, hk⟩ := hF
  rw [h0] at hz hk
  exact ⟨by rw [e1]; exact hz, fun q h1 h2 => by rw [e1]; exact hk q h1 h2,
    ⟨Nat.le_trans hS.1 (by rw [e1]; exact hz), fun q h1 h2 => by rw [e1, hk q (Nat.lt_of_lt_of_le h1 hS.1) (fun z => h2 (hA q (Nat.lt_of_lt_of_le h1 hS.1) z))]; exact hS.2.1 q h1 h2, fun q hq => by
      rcases List.mem_append.mp hq with h | h
      · exact hS.2.2 q h
      · exact hf _ (hL q h)⟩⟩
theorem vx_calli {S SX : Type} {post : Int32 → S → Prop} {px : SX → Prop} {B : S → State → Prop} {BX : String → SX → State → Prop} {AX : Nat → Prop} (hr : vx_Run p l e R s m args below meth c H locs cells slots mc ms (F0 m pc ls st0) rest (va_Qi post B A1 a) (vx_X px BX AX) free) (hS : va_S A0 H0 H locs) (hA : ∀ q, q < H.size → A1 q → A0 q) (hf : ∀ q, free q → A0 q) (hAX : ∀ q, q < H.size → AX q → A0 q)
    (kx : ∀ (E : String) (ce : Cell) (q9 : Addr) (u : SX) (t : State) (H1 : Heap) (locs1 : List Loc), t.heap = H1 → s.vm.Alike t.vm → px u → BX E u t → H.size ≤ H1.size → (∀ q : Nat, q < H.size → ¬ AX q → H1[q]? = H[q]?) → va_S A0 H0 H1 locs1 → H1[q9]? = some ce → ce.vm = .none → s.vm.findClass E = some ce.cls → vx_W p l e R s m args below meth c H1 locs1 (cells + mc) (slots + ms) Q (F0 m pc ls rest) q9)
    (kk : ∀ (r : Int32) (u : S) (t : State) (H1 : Heap) (locs1 : List Loc), t.heap = H1 → s.vm.Alike t.vm → post r u → B u t → H.size ≤ H1.size → (∀ q : Nat, q < H.size → ¬ A1 q → H1[q]? = H[q]?) → va_S A0 H0 H1 locs1 → W p l e R s m args below meth c H1 locs1 (cells + mc) (slots + ms) Q (F0 m (pc + 3) ls (.int r :: rest))) : W p l e R s m args below meth c H locs cells slots Q (F0 m pc ls st0) := by
  intro T hT X
  rcases hr T hT X with ⟨v, st₀, t, T', L, h0, X', hL, e1, e2, ⟨⟨r, u, hv, hp, hb⟩, hF⟩, st⟩ | ⟨q, st₀, t, T', L, E, ce, h0, X', hL, e1, e2, ⟨u, hp, hb, hF⟩, hce, hcv, hcl, st⟩
  · cases hv
    obtain ⟨k1, k2, k3⟩ := vx_keep h0 e1 hS hA hf hL hF
    obtain ⟨t2, a1, b1⟩ := kk r u t T'.heap (locs ++ L) e1.symm (by rw [← e2]; exact X'.warmed.alike) hp hb k1 k2 k3 T' rfl X'
    exact ⟨t2, st t2 a1, b1⟩
  · obtain ⟨k1, k2, k3⟩ := vx_keep h0 e1 hS hAX hf hL hF
    obtain ⟨t2, a1, b1⟩ := kx E ce q u t T'.heap (locs ++ L) e1.symm (by rw [← e2]; exact X'.warmed.alike) hp hb k1 k2 k3 (by rw [e1]; exact hce) hcv hcl T' rfl X'
    exact ⟨t2, st.trans a1, b1⟩
theorem vx_calll {S SX : Type} {post : Int64 → S → Prop} {px : SX → Prop} {B : S → State → Prop} {BX : String → SX → State → Prop} {AX : Nat → Prop} (hr : vx_Run p l e R s m args below meth c H locs cells slots mc ms (F0 m pc ls st0) rest (va_Ql post B A1 a) (vx_X px BX AX) free) (hS : va_S A0 H0 H locs) (hA : ∀ q, q < H.size → A1 q → A0 q) (hf : ∀ q, free q → A0 q) (hAX : ∀ q, q < H.size → AX q → A0 q)
    (kx : ∀ (E : String) (ce : Cell) (q9 : Addr) (u : SX) (t : State) (H1 : Heap) (locs1 : List Loc), t.heap = H1 → s.vm.Alike t.vm → px u → BX E u t → H.size ≤ H1.size → (∀ q : Nat, q < H.size → ¬ AX q → H1[q]? = H[q]?) → va_S A0 H0 H1 locs1 → H1[q9]? = some ce → ce.vm = .none → s.vm.findClass E = some ce.cls → vx_W p l e R s m args below meth c H1 locs1 (cells + mc) (slots + ms) Q (F0 m pc ls rest) q9)
    (kk : ∀ (r : Int64) (u : S) (t : State) (H1 : Heap) (locs1 : List Loc), t.heap = H1 → s.vm.Alike t.vm → post r u → B u t → H.size ≤ H1.size → (∀ q : Nat, q < H.size → ¬ A1 q → H1[q]? = H[q]?) → va_S A0 H0 H1 locs1 → W p l e R s m args below meth c H1 locs1 (cells + mc) (slots + ms) Q (F0 m (pc + 3) ls (.long r :: rest))) : W p l e R s m args below meth c H locs cells slots Q (F0 m pc ls st0) := by
  intro T hT X
  rcases hr T hT X with ⟨v, st₀, t, T', L, h0, X', hL, e1, e2, ⟨⟨r, u, hv, hp, hb⟩, hF⟩, st⟩ | ⟨q, st₀, t, T', L, E, ce, h0, X', hL, e1, e2, ⟨u, hp, hb, hF⟩, hce, hcv, hcl, st⟩
  · cases hv
    obtain ⟨k1, k2, k3⟩ := vx_keep h0 e1 hS hA hf hL hF
    obtain ⟨t2, a1, b1⟩ := kk r u t T'.heap (locs ++ L) e1.symm (by rw [← e2]; exact X'.warmed.alike) hp hb k1 k2 k3 T' rfl X'
    exact ⟨t2, st t2 a1, b1⟩
  · obtain ⟨k1, k2, k3⟩ := vx_keep h0 e1 hS hAX hf hL hF
    obtain ⟨t2, a1, b1⟩ := kx E ce q u t T'.heap (locs ++ L) e1.symm (by rw [← e2]; exact X'.warmed.alike) hp hb k1 k2 k3 (by rw [e1]; exact hce) hcv hcl T' rfl X'
    exact ⟨t2, st.trans a1, b1⟩
theorem vx_callf {S SX : Type} {post : UInt32 → S → Prop} {px : SX → Prop} {B : S → State → Prop} {BX : String → SX → State → Prop} {AX : Nat → Prop} (hr : vx_Run p l e R s m args below meth c H locs cells slots mc ms (F0 m pc ls st0) rest (va_Qf post B A1 a) (vx_X px BX AX) free) (hS : va_S A0 H0 H locs) (hA : ∀ q, q < H.size → A1 q → A0 q) (hf : ∀ q, free q → A0 q) (hAX : ∀ q, q < H.size → AX q → A0 q)
    (kx : ∀ (E : String) (ce : Cell) (q9 : Addr) (u : SX) (t : State) (H1 : Heap) (locs1 : List Loc), t.heap = H1 → s.vm.Alike t.vm → px u → BX E u t → H.size ≤ H1.size → (∀ q : Nat, q < H.size → ¬ AX q → H1[q]? = H[q]?) → va_S A0 H0 H1 locs1 → H1[q9]? = some ce → ce.vm = .none → s.vm.findClass E = some ce.cls → vx_W p l e R s m args below meth c H1 locs1 (cells + mc) (slots + ms) Q (F0 m pc ls rest) q9)
    (kk : ∀ (r : UInt32) (u : S) (t : State) (H1 : Heap) (locs1 : List Loc), t.heap = H1 → s.vm.Alike t.vm → post r u → B u t → H.size ≤ H1.size → (∀ q : Nat, q < H.size → ¬ A1 q → H1[q]? = H[q]?) → va_S A0 H0 H1 locs1 → W p l e R s m args below meth c H1 locs1 (cells + mc) (slots + ms) Q (F0 m (pc + 3) ls (.float r :: rest))) : W p l e R s m args below meth c H locs cells slots Q (F0 m pc ls st0) := by
  intro T hT X
  rcases hr T hT X with ⟨v, st₀, t, T', L, h0, X', hL, e1, e2, ⟨⟨r, u, hv, hp, hb⟩, hF⟩, st⟩ | ⟨q, st₀, t, T', L, E, ce, h0, X', hL, e1, e2, ⟨u, hp, hb, hF⟩, hce, hcv, hcl, st⟩
  · cases hv
    obtain ⟨k1, k2, k3⟩ := vx_keep h0 e1 hS hA hf hL hF
    obtain ⟨t2, a1, b1⟩ := kk r u t T'.heap (locs ++ L) e1.symm (by rw [← e2]; exact X'.warmed.alike) hp hb k1 k2 k3 T' rfl X'
    exact ⟨t2, st t2 a1, b1⟩
  · obtain ⟨k1, k2, k3⟩ := vx_keep h0 e1 hS hAX hf hL hF
    obtain ⟨t2, a1, b1⟩ := kx E ce q u t T'.heap (locs ++ L) e1.symm (by rw [← e2]; exact X'.warmed.alike) hp hb k1 k2 k3 (by rw [e1]; exact hce) hcv hcl T' rfl X'
    exact ⟨t2, st.trans a1, b1⟩
theorem vx_calld {S SX : Type} {post : UInt64 → S → Prop} {px : SX → Prop} {B : S → State → Prop} {BX : String → SX → State → Prop} {AX : Nat → Prop} (hr : vx_Run p l e R s m args below meth c H locs cells slots mc ms (F0 m pc ls st0) rest (va_Qd post B A1 a) (vx_X px BX AX) free) (hS : va_S A0 H0 H locs) (hA : ∀ q, q < H.size → A1 q → A0 q) (hf : ∀ q, free q → A0 q) (hAX : ∀ q, q < H.size → AX q → A0 q)
    (kx : ∀ (E : String) (ce : Cell) (q9 : Addr) (u : SX) (t : State) (H1 : Heap) (locs1 : List Loc), t.heap = H1 → s.vm.Alike t.vm → px u → BX E u t → H.size ≤ H1.size → (∀ q : Nat, q < H.size → ¬ AX q → H1[q]? = H[q]?) → va_S A0 H0 H1 locs1 → H1[q9]? = some ce → ce.vm = .none → s.vm.findClass E = some ce.cls → vx_W p l e R s m args below meth c H1 locs1 (cells + mc) (slots + ms) Q (F0 m pc ls rest) q9)
    (kk : ∀ (r : UInt64) (u : S) (t : State) (H1 : Heap) (locs1 : List Loc), t.heap = H1 → s.vm.Alike t.vm → post r u → B u t → H.size ≤ H1.size → (∀ q : Nat, q < H.size → ¬ A1 q → H1[q]? = H[q]?) → va_S A0 H0 H1 locs1 → W p l e R s m args below meth c H1 locs1 (cells + mc) (slots + ms) Q (F0 m (pc + 3) ls (.double r :: rest))) : W p l e R s m args below meth c H locs cells slots Q (F0 m pc ls st0) := by
  intro T hT X
  rcases hr T hT X with ⟨v, st₀, t, T', L, h0, X', hL, e1, e2, ⟨⟨r, u, hv, hp, hb⟩, hF⟩, st⟩ | ⟨q, st₀, t, T', L, E, ce, h0, X', hL, e1, e2, ⟨u, hp, hb, hF⟩, hce, hcv, hcl, st⟩
  · cases hv
    obtain ⟨k1, k2, k3⟩ := vx_keep h0 e1 hS hA hf hL hF
    obtain ⟨t2, a1, b1⟩ := kk r u t T'.heap (locs ++ L) e1.symm (by rw [← e2]; exact X'.warmed.alike) hp hb k1 k2 k3 T' rfl X'
    exact ⟨t2, st t2 a1, b1⟩
  · obtain ⟨k1, k2, k3⟩ := vx_keep h0 e1 hS hAX hf hL hF
    obtain ⟨t2, a1, b1⟩ := kx E ce q u t T'.heap (locs ++ L) e1.symm (by rw [← e2]; exact X'.warmed.alike) hp hb k1 k2 k3 (by rw [e1]; exact hce) hcv hcl T' rfl X'
    exact ⟨t2, st.trans a1, b1⟩
theorem vx_callv {S SX : Type} {post : S → Prop} {px : SX → Prop} {B : S → State → Prop} {BX : String → SX → State → Prop} {AX : Nat → Prop} (hr : vx_Run p l e R s m args below meth c H locs cells slots mc ms (F0 m pc ls st0) rest (va_Qv post B A1 a) (vx_X px BX AX) free) (hS : va_S A0 H0 H locs) (hA : ∀ q, q < H.size → A1 q → A0 q) (hf : ∀ q, free q → A0 q) (hAX : ∀ q, q < H.size → AX q → A0 q)
    (kx : ∀ (E : String) (ce : Cell) (q9 : Addr) (u : SX) (t : State) (H1 : Heap) (locs1 : List Loc), t.heap = H1 → s.vm.Alike t.vm → px u → BX E u t → H.size ≤ H1.size → (∀ q : Nat, q < H.size → ¬ AX q → H1[q]? = H[q]?) → va_S A0 H0 H1 locs1 → H1[q9]? = some ce → ce.vm = .none → s.vm.findClass E = some ce.cls → vx_W p l e R s m args below meth c H1 locs1 (cells + mc) (slots + ms) Q (F0 m pc ls rest) q9)
    (kk : ∀ (u : S) (t : State) (H1 : Heap) (locs1 : List Loc), t.heap = H1 → s.vm.Alike t.vm → post u → B u t → H.size ≤ H1.size → (∀ q : Nat, q < H.size → ¬ A1 q → H1[q]? = H[q]?) → va_S A0 H0 H1 locs1 → W p l e R s m args below meth c H1 locs1 (cells + mc) (slots + ms) Q (F0 m (pc + 3) ls (rest))) : W p l e R s m args below meth c H locs cells slots Q (F0 m pc ls st0) := by
  intro T hT X
  rcases hr T hT X with ⟨v, st₀, t, T', L, h0, X', hL, e1, e2, ⟨⟨u, hv, hp, hb⟩, hF⟩, st⟩ | ⟨q, st₀, t, T', L, E, ce, h0, X', hL, e1, e2, ⟨u, hp, hb, hF⟩, hce, hcv, hcl, st⟩
  · cases hv
    obtain ⟨k1, k2, k3⟩ := vx_keep h0 e1 hS hA hf hL hF
    obtain ⟨t2, a1, b1⟩ := kk u t T'.heap (locs ++ L) e1.symm (by rw [← e2]; exact X'.warmed.alike) hp hb k1 k2 k3 T' rfl X'
    exact ⟨t2, st t2 a1, b1⟩
  · obtain ⟨k1, k2, k3⟩ := vx_keep h0 e1 hS hAX hf hL hF
    obtain ⟨t2, a1, b1⟩ := kx E ce q u t T'.heap (locs ++ L) e1.symm (by rw [← e2]; exact X'.warmed.alike) hp hb k1 k2 k3 (by rw [e1]; exact hce) hcv hcl T' rfl X'
    exact ⟨t2, st.trans a1, b1⟩
end Rows
section Ends
variable {p : Program} {l : Launch} {e : Env} {R : Room} {s : State} {m : MethodId} {args : Array Value} {below : List Frame} {meth : Method} {c : Code} {H : Heap} {locs : List Loc} {cells slots : Nat} {Q : State → Prop}
variable {mc ms : Nat} {free : Addr → Prop} {A0 A1 : Nat → Prop} {H0 : Heap} {a : Array Value} {ls : Array Slot} {st0 rest : List Value}
variable {Qc : Array Value → State → Outcome → State → Prop} {XC : String → State → State → Prop}
/-- what a body that may throw owes at its end -/
def vx_MQ (below : List Frame) (Qc : Array Value → State → Outcome → State → Prop) (XC : String → State → State → Prop) (a : Array Value) (s : State) (mc ms : Nat) (free : Addr → Prop) : State → Prop := fun t =>
  ∃ o, t.status = .running ∧ Ended t below o ∧ vx_Q Qc XC mc ms free a s o t
theorem vx_ret {g : JFrame} {mc ms : Nat} (k : W p l e R s m args below meth c H locs cells slots (MQ below Qc args s mc ms free) g) : W p l e R s m args below meth c H locs cells slots (vx_MQ below Qc XC args s mc ms free) g := by
  intro T hT X
  obtain ⟨t, a1, o, b1, b2, b3, b4⟩ := k T hT X
  exact ⟨t, a1, o, b1, b2, Or.inl ⟨b3, b4⟩⟩
/-- not caught here: it goes on to the caller -/
theorem vx_widen {g : JFrame} {q : Addr} {k n : Nat} (h1 : cells ≤ k) (h2 : slots ≤ n) (kk : vx_W p l e R s m args below meth c H locs k n Q g q) : vx_W p l e R s m args below meth c H locs cells slots Q g q := fun T hT X => kk T hT (stand_widen X h1 h2)
theorem vx_out {pc : Nat} {E : String} {ce : Cell} {q : Addr} {mc ms : Nat} (hout : ∀ x ∈ c.exceptionTable.toList, covers x pc = false) (hlocks : meth.locks = false) (hcell : H[q]? = some ce) (hv : ce.vm = .none) (hcl : s.vm.findClass E = some ce.cls)
    (hx : ∀ t : State, t.heap = H → s.vm.Alike t.vm → XC E s t) (hf : ∀ z ∈ locs, free z.base) (hc : cells ≤ mc) (hs : slots ≤ ms) :
    vx_W p l e R s m args below meth c H locs cells slots (vx_MQ below Qc XC args s mc ms free) (F0 m pc ls rest) q := by
  intro T hT X
  obtain ⟨st1, hrun, hend, hW, hsm⟩ := X.leaveThrown q (g := F0 m pc ls rest) rfl rfl rfl hout hlocks
  have hcell9 : (T.setFrames (.throwing q :: below)).heap[q]? = some ce := by
    show T.heap[q]? = some ce
    rw [hT]; exact hcell
  exact ⟨_, st1, .threw q, hrun, hend, Or.inr ⟨q, rfl, E, ce, locs, hx _ hT hW.alike, hcell9, hv, hcl, hW, hsm.mono hc hs, hf⟩⟩
theorem vx_frame {U : State} {k n : Nat} (h : s.sameButNew ({ U with vm := s.vm } : State) locs k n) : s.heap.size ≤ U.heap.size ∧ ∀ q : Nat, q < s.heap.size → (∀ z ∈ locs, z.base ≠ q) → U.heap[q]? = s.heap[q]? := by
  obtain ⟨-, h2, -, -, -, h6⟩ := h
  refine ⟨h2, fun q hq hz => ?_⟩
  obtain ⟨c9, e1, e2, e3, e4⟩ := h6 q _ (Array.getElem?_eq_getElem hq)
  have hs : c9.slots = (s.heap[q]).slots := Array.ext_getElem? fun i => e4 i fun hm => hz _ hm rfl
  have h9 : c9 = s.heap[q] := by
    rw [hs] at e2
    exact e2
  have e5 : U.heap[q]? = some c9 := e1
  rw [e5, h9, Array.getElem?_eq_getElem hq]
/-- the words of a throw but the four that speak of the heap -/
def vx_no (w : Cond) : Bool := decide (w ≠ .isRef (.static Bundle.tN "UNASSIGNED_STACK" Bundle.steD)) && decide (w ≠ .isRef (.static Bundle.tN "SUPPRESSED_SENTINEL" Bundle.listD)) && decide (w ≠ .laysStatic Bundle.tN "UNASSIGNED_STACK" Bundle.steD) && decide (w ≠ .laysStatic Bundle.tN "SUPPRESSED_SENTINEL" Bundle.listD)
def vx_at0 (own : String) (ic : Nat) (X : String) (names : List String) : List Cond := (Bundle.ownAtoms0 own ic X names).filter vx_no
def vx_atS (own : String) (ic : Nat) (X : String) (names : List String) : List Cond := (Bundle.ownAtoms own ic X names).filter vx_no
/-- a word that the tables alone decide, or a good one -/
def vx_ot (w : Cond) : Bool := w.onTables || goodWord w
theorem vx_ot_at {args a' : Array Value} {s U : State} {w : Cond} (hW : s.WarmedH U.vm) (hvm : s.vm = U.vm) (hg : vx_ot w = true) (h : w.before args s = true) : w.before a' U = true := by
  simp only [vx_ot, Bool.or_eq_true] at hg
  rcases hg with hg | hg
  · exact va_tabs hg hvm h
  · exact word_at hW (good_of_word hg) h
/-- a list's words: the good ones out of the method's own list, the others by premises of their own -/
theorem vx_hat {args : Array Value} {s : State} {L B : List Cond} (h1 : ∀ w ∈ L.filter goodWord, w.before args s = true) (h2 : ∀ w ∈ L.filter (fun w => !goodWord w), w ∈ B) (h3 : ∀ w ∈ B, w.before args s = true) : ∀ w ∈ L, w.before args s = true := by
  intro w hw
  by_cases g : goodWord w = true
  · exact h1 w (List.mem_filter.mpr ⟨hw, g⟩)
  · refine h3 w (h2 w (List.mem_filter.mpr ⟨hw, ?_⟩))
    show (!goodWord w) = true
    cases hgw : goodWord w
    · rfl
    · exact absurd hgw g
theorem vx_c {args : Array Value} {s : State} {w : Cond} {B : List Cond} (h : w.before args s = true) (t : ∀ w ∈ B, w.before args s = true) : ∀ w' ∈ w :: B, w'.before args s = true := fun w' h' => (List.mem_cons.mp h').elim (fun e => by rw [e]; exact h) (t w')
theorem vx_n {args : Array Value} {s : State} : ∀ w ∈ ([] : List Cond), w.before args s = true := fun _ h => nomatch h
theorem vx_own {args : Array Value} {s : State} {L : List Cond} (h1 : ∀ w ∈ L.filter vx_no, w.before args s = true)
    (hU : (Cond.isRef (.static Bundle.tN "UNASSIGNED_STACK" Bundle.steD)).before args s = true) (hN : (Cond.isRef (.static Bundle.tN "SUPPRESSED_SENTINEL" Bundle.listD)).before args s = true)
    (lU : (Cond.laysStatic Bundle.tN "UNASSIGNED_STACK" Bundle.steD).before args s = true) (lN : (Cond.laysStatic Bundle.tN "SUPPRESSED_SENTINEL" Bundle.listD).before args s = true) : ∀ w ∈ L, w.before args s = true := by
  intro w hw
  by_cases e1 : w = .isRef (.static Bundle.tN "UNASSIGNED_STACK" Bundle.steD)
  · rw [e1]; exact hU
  · by_cases e2 : w = .isRef (.static Bundle.tN "SUPPRESSED_SENTINEL" Bundle.listD)
    · rw [e2]; exact hN
    · by_cases e3 : w = .laysStatic Bundle.tN "UNASSIGNED_STACK" Bundle.steD
      · rw [e3]; exact lU
      · by_cases e4 : w = .laysStatic Bundle.tN "SUPPRESSED_SENTINEL" Bundle.listD
        · rw [e4]; exact lN
        · exact h1 w (List.mem_filter.mpr ⟨hw, by unfold vx_no; rw [decide_eq_true e1, decide_eq_true e2, decide_eq_true e3, decide_eq_true e4]; rfl⟩)
/-- where a static field lies, its class's statics cell in H -/
def vx_L (C n d : String) (A : Nat → Prop) (U : State) (H : Heap) : Prop := ∃ (c : ClassId) (k : Class) (i : Nat) (f : Field) (a : Nat) (cell : Cell), U.vm.findClass C = some c ∧ U.fieldFound? C n d = some (c, k, i, f) ∧ f.isStatic = true ∧ k.statics = some a ∧ H[a]? = some cell ∧ cell.vm.isStatics = true ∧ cell.cls = c ∧ f.slot < cell.slots.size ∧ k.staticTypes[f.slot]? = some f.type ∧ ¬ A a
theorem vx_L.moved {C n d : String} {A : Nat → Prop} {u U : State} {H : Heap} (hvm : u.vm.Alike U.vm) (h : vx_L C n d A u H) : vx_L C n d A U H := by
  obtain ⟨c, k, i, f, a, cell, h1, h2, h3, h4, h5, h6, h7, h8, h9, h10⟩ := h
  obtain ⟨k', hi', he⟩ := State.fieldFound?_setVm hvm h2
  exact ⟨c, k', i, f, a, cell, by rw [hvm.findClass]; exact h1, hi', h3, by rw [he]; exact h4, h5, h6, h7, h8, by rw [he]; exact h9, h10⟩
theorem vx_L.kept {C n d : String} {A : Nat → Prop} {U : State} {H H1 : Heap} (h : vx_L C n d A U H) (hq : ∀ a : Nat, a < H.size → ¬ A a → H1[a]? = H[a]?) : vx_L C n d A U H1 := by
  obtain ⟨c, k, i, f, a, cell, h1, h2, h3, h4, h5, h6, h7, h8, h9, h10⟩ := h
  exact ⟨c, k, i, f, a, cell, h1, h2, h3, h4, by rw [hq a (Array.getElem?_eq_some_iff.mp h5).1 h10]; exact h5, h6, h7, h8, h9, h10⟩
theorem vx_L.narrow {C n d : String} {A B : Nat → Prop} {U : State} {H : Heap} (h : vx_L C n d A U H) (hAB : ∀ q, B q → A q) : vx_L C n d B U H := by
  obtain ⟨c, k, i, f, a, cell, h1, h2, h3, h4, h5, h6, h7, h8, h9, h10⟩ := h
  exact ⟨c, k, i, f, a, cell, h1, h2, h3, h4, h5, h6, h7, h8, h9, fun z => h10 (hAB _ z)⟩
theorem vx_L.word {C n d : String} {A : Nat → Prop} {s : State} {args : Array Value} (h : vx_L C n d A s s.heap) : (Cond.laysStatic C n d).before args s = true := by
  obtain ⟨c, k, i, f, a, cell, h1, h2, h3, h4, h5, h6, h7, h8, h9, -⟩ := h
  show (Cond.laysStatic C n d).holds args s none s [] = true
  exact Cond.laysStatic_of h1 h2 h3 h4 h5 h6 h7 h8 h9
/-- .. and what it holds: null or some reference -/
def vx_Zq (C n d : String) (A : Nat → Prop) (U : State) (H : Heap) : Prop := va_Zq C n d A U H ∧ vx_L C n d A U H
theorem vx_Zq.moved {C n d : String} {A : Nat → Prop} {u U : State} {H : Heap} (hvm : u.vm.Alike U.vm) (h : vx_Zq C n d A u H) : vx_Zq C n d A U H := ⟨va_Zq.moved hvm h.1, vx_L.moved hvm h.2⟩
theorem vx_Zq.kept {C n d : String} {A : Nat → Prop} {U : State} {H H1 : Heap} (h : vx_Zq C n d A U H) (hq : ∀ a : Nat, a < H.size → ¬ A a → H1[a]? = H[a]?) : vx_Zq C n d A U H1 := ⟨va_Zq.kept h.1 hq, vx_L.kept h.2 hq⟩
theorem vx_Zq.narrow {C n d : String} {A B : Nat → Prop} {U : State} {H : Heap} (h : vx_Zq C n d A U H) (hAB : ∀ q, B q → A q) : vx_Zq C n d B U H := ⟨va_Zq.narrow h.1 hAB, vx_L.narrow h.2 hAB⟩
theorem vx_Zqof {args : Array Value} {s : State} {C n d : String} {A : Nat → Prop} (hl : (Cond.laysStatic C n d).before args s = true) (hini : (Cond.initialized C).before args s = true) (h : (Cond.isRef (.static C n d)).before args s = true) (hA : ∀ a : Nat, a < s.heap.size → ¬ A a) : vx_Zq C n d A s s.heap := by
  refine ⟨va_Zqof hl hini h hA, ?_⟩
  obtain ⟨c, k, i, f, a, cell, h1, h2, h3, h4, h5, h6, h7, h8, h9⟩ := Cond.laysStatic_spec hl
  exact ⟨c, k, i, f, a, cell, h1, h2, h3, h4, h5, h6, h7, h8, h9, hA a (Array.getElem?_eq_some_iff.mp h5).1⟩
theorem vx_isRef {C n d : String} {v : Value} {A : Nat → Prop} {s : State} {args : Array Value} (h : va_Z C n d v A s s.heap) (hv : v.isRef = true) : (Cond.isRef (.static C n d)).before args s = true := by
  obtain ⟨cf, kf, fi, f, a, cell, h1, h2, h3, h4, h5, h6, h7, -⟩ := h
  have he : (Term.static C n d).eval args s none [] s = some v := by
    simp [Term.eval, State.fieldNamed?, h1, h2, h4, h5, h6, h7]
  simp only [Cond.before, Cond.holds, Cond.value, he]
  cases v <;> simp_all [Value.isRef]
theorem vx_isRefq {C n d : String} {A : Nat → Prop} {s : State} {args : Array Value} (h : va_Zq C n d A s s.heap) : (Cond.isRef (.static C n d)).before args s = true := by
  rcases h with h | ⟨t, h⟩
  · exact vx_isRef h rfl
  · exact vx_isRef h rfl
/-- the same frame, seen from here: as if the method were called anew in this heap -/
theorem vx_rebase {T : State} (X : Stand p l e R s m args below meth c T locs cells slots) {R' : Room} (hf : R'.frames ≤ R.frames) (hl : R'.locals ≤ R.locals) (hc : cells + R'.cells ≤ R.cells) (hs : slots + R'.slots ≤ R.slots) :
    Stand p l e R' ((T.setVm s.vm).setFrames (.invoking m args :: below)) m args below meth c T [] 0 0 := by
  have htop : (T.setVm s.vm).topJava?.isSome := X.here.top
  have hF : ((T.setVm s.vm).setFrames (.invoking m args :: below)).frames = .invoking m args :: below := State.frames_setFrames _ (State.cur_lt_of_top htop)
  obtain ⟨g₀, hg0⟩ := Option.isSome_iff_exists.mp htop
  obtain ⟨r, hr⟩ := State.topJava?_eq_some.mp hg0
  have hl9 : e.platform.stackLimits (T.setVm s.vm).me = e.platform.stackLimits s.me := X.limits
  have hb9 : (T.setVm s.vm).me.stackBytes = s.me.stackBytes := X.bytes
  refine ⟨X.admits, X.cas, X.clock, hF, ?_, X.hears, X.method, X.code, X.here, X.tail, X.warmed, ?_, ?_, ?_⟩
  · have h := X.room
    have hU : ((T.setVm s.vm).setFrames (.invoking m args :: below)).localsInUse = s.localsInUse := by
      rw [State.localsInUse_invoking hF (meth := meth) (c := c) X.method X.code, State.localsInUse_invoking X.frames X.method X.code]
    simp only [State.hasRoom, Bool.and_eq_true, decide_eq_true_eq] at h ⊢
    obtain ⟨⟨⟨⟨h1, h2, h3, h4, h5, h6⟩, h7⟩, h8⟩, h9⟩ := h
    rw [X.frames, List.length_cons] at h2 h3
    have q1 := X.heapSize
    have q2 := X.used
    simp only [hF, hU, List.length_cons, State.stackLimits_setFrames, State.stackBytes_setFrames, hl9, hb9]
    refine ⟨⟨⟨⟨by omega, by omega, by omega, by omega, by omega, h6⟩, ?_⟩, ?_⟩, X.book⟩
    · show T.heap.size + R'.cells ≤ e.platform.maxCells
      omega
    · show T.slotsUsed + R'.slots ≤ e.platform.maxSlots
      omega
  · rw [State.stackLimits_setFrames]; rfl
  · rw [State.stackBytes_setFrames]; rfl
  · refine ⟨?_, Nat.le_refl _, Nat.le_refl _, ?_, ?_, fun a c9 h9 => ⟨c9, h9, rfl, rfl, fun _ _ => rfl⟩⟩
    · obtain ⟨t, ht, -⟩ := State.frames_cons hr
      show T.setVm s.vm = { ((T.setVm s.vm).setFrames (.invoking m args :: below)).setFrames (T.setVm s.vm).frames with heap := T.heap, slotsUsed := T.slotsUsed }
      rw [State.setFrames_setFrames, State.setFrames_self ht]
      rfl
    · show T.slotsUsed = T.slotsUsed + ((T.heap.toList.drop T.heap.size).map (·.slots.size)).sum
      rw [List.drop_eq_nil_of_le (Nat.le_of_eq Array.length_toList)]
      rfl
    · show ((T.heap.toList.drop T.heap.size).map (·.slots.size)).sum ≤ 0
      rw [List.drop_eq_nil_of_le (Nat.le_of_eq Array.length_toList)]
      exact Nat.le_refl _
/-- 'throw new E()': new; dup; invokespecial; athrow -/
theorem vx_throw0 {cc : ByteArray} {pc : Nat} (hexec : p.tables.exec = Jvm.exec) (hb : c.code = cc) (hl : l.stackTraces = false) {own cls : String} {names : List String} {ik ic mc ms : Nat} {A : Nat → Prop}
    (hown : s.vm.findClass own = some m.cls) (hcls : Bundle.fit cls = true) (hnames : ∀ n ∈ names, Bundle.fit n = true)
    (hk : (Cond.classLink own ik cls).before args s = true) (hini : (Cond.initialized cls).before args s = true) (hat : ∀ w ∈ vx_at0 own ic cls names, w.before args s = true)
    (hgood : ∀ w ∈ Cond.classLink own ik cls :: Cond.initialized cls :: vx_at0 own ic cls names, vx_ot w = true)
    (hU : vx_Zq Bundle.tN "UNASSIGNED_STACK" Bundle.steD A s s.heap) (hN : vx_Zq Bundle.tN "SUPPRESSED_SENTINEL" Bundle.listD A s s.heap) (hS : va_S A s.heap H locs) (hsize : ls.size = c.maxLocals)
    (d0 : decode cc pc = .ok (.new ik, 3)) (d3 : decode cc (pc + 3) = .ok (.dup, 1)) (d4 : decode cc (pc + 4) = .ok (.invokespecial ic, 3)) (d7 : decode cc (pc + 7) = .ok (.athrow, 1))
    (hout : ∀ x ∈ c.exceptionTable.toList, covers x (pc + 7) = false)
    (hRframes : names.length + 3 < R.frames) (hRlocals : (rest.map fun v => v.category).sum + (13 * (names.length + 1) + 42) ≤ R.locals) (hRcells : cells + 1 ≤ R.cells) (hRslots : slots + 6 ≤ R.slots) (hlocks : meth.locks = false)
    (hx : ∀ t : State, s.vm.Alike t.vm → H.size ≤ t.heap.size → (∀ q : Nat, q < H.size → t.heap[q]? = H[q]?) → XC cls s t)
    (hf : ∀ z ∈ locs, free z.base) (hc : cells + 1 ≤ mc) (hs : slots + 6 ≤ ms) :
    W p l e R s m args below meth c H locs cells slots (vx_MQ below Qc XC args s mc ms free) (F0 m pc ls rest) := by
  intro T hT X
  have htr : e.platform.stackTraces = false := (show e.platform.stackTraces = l.stackTraces by rw [X.admits.platform]).trans hl
  have Y := vx_rebase X (R' := { frames := R.frames, locals := R.locals, cells := 1, slots := 6 }) (Nat.le_refl _) (Nat.le_refl _) hRcells hRslots
  obtain ⟨s', hA⟩ : ∃ z, z = (T.setVm s.vm).setFrames (.invoking m args :: below) := ⟨_, rfl⟩
  rw [← hA] at Y
  have hvm : s'.vm = s.vm := by rw [hA]; rfl
  have hhp : s'.heap = H := by rw [hA]; exact hT
  have hW0 : s.WarmedH s'.vm := by rw [hvm]; exact State.WarmedH.refl s
  have hat' : ∀ w ∈ vx_at0 own ic cls names, w.before args s' = true := fun w hw => vx_ot_at hW0 hvm.symm (hgood w (List.mem_cons_of_mem _ (List.mem_cons_of_mem _ hw))) (hat w hw)
  have hk' : (Cond.classLink own ik cls).before args s' = true := vx_ot_at hW0 hvm.symm (hgood _ List.mem_cons_self) hk
  have hini' : (Cond.initialized cls).before args s' = true := vx_ot_at hW0 hvm.symm (hgood _ (List.mem_cons_of_mem _ List.mem_cons_self)) hini
  have hU' : vx_Zq Bundle.tN "UNASSIGNED_STACK" Bundle.steD A s' s'.heap := by rw [hhp]; exact vx_Zq.moved hW0.alike (hU.kept hS.2.1)
  have hN' : vx_Zq Bundle.tN "SUPPRESSED_SENTINEL" Bundle.listD A s' s'.heap := by rw [hhp]; exact vx_Zq.moved hW0.alike (hN.kept hS.2.1)
  have h : ∀ w ∈ Bundle.ownAtoms0 own ic cls names, w.before args s' = true := vx_own hat' (vx_isRefq hU'.1) (vx_isRefq hN'.1) hU'.2.word hN'.2.word
  have hown' : s'.vm.findClass own = some m.cls := by rw [hvm]; exact hown
  have hins : (Cond.instantiable cls 6).before args s' = true := h _ (by simp [Bundle.ownAtoms0])
  obtain ⟨vm₁, cX, kX, hfX, hkX, -, -, X₁, st1⟩ := Y.newCold hexec (own := own) (C := cls) (index := ik) (n := 6) hown' hk' hins hini'
    (g := F0 m pc ls rest) rfl (by rw [hb]; exact d0) (Nat.le_refl _) (Nat.le_refl _)
  generalize hT1 : (T.setVm vm₁).pushCell { cls := cX, slots := kX.instanceTypes.map defaultValue, vm := .none } = T1 at X₁ st1
  have hcat : (Value.ref T.heap.size).category = 1 := rfl
  have hcellA : T1.heap[T.heap.size]? = some (freshCell cX kX) := by rw [← hT1]; exact State.heap_pushCell_size _ _
  have d3' : decode c.code (pc + 3) = .ok (.dup, 1) := by rw [hb]; exact d3
  obtain ⟨U, hsteps, hrun, hend, hW, hsame, ce, hce, hO⟩ := X₁.ctorThrow0 hexec htr (own := own) (cls := cls) (names := names) (ic := ic) hown' hcls hnames h (fun x hx => nomatch hx) hfX hkX hcellA (by rw [hhp, hT]; exact Nat.le_refl _)
    (g := { method := m, pc := pc + 4, locals := ls, stack := .ref T.heap.size :: .ref T.heap.size :: rest, locked := none }) rfl hsize rfl rfl (rest := rest) rfl
    (by rw [hb]; exact d4) (by rw [hb]; exact d7) hout hRframes (by simp only [List.map_cons, List.sum_cons, hcat]; omega) hlocks
  obtain ⟨f1, f2⟩ := vx_frame hsame
  rw [hhp] at f1 f2
  have hWs : s.WarmedH U.vm := State.WarmedH.trans hW0 hW
  have hcl : s.vm.findClass cls = some ce.cls := by
    have h9 := hO.cls
    rw [hvm] at h9
    exact h9
  have hall : s.sameButNew ({ U with vm := s.vm } : State) locs mc ms := by
    subst hA
    obtain ⟨e1, e2⟩ := hsame
    rw [State.setFrames_setFrames] at e1
    have h2 : (T.setVm s.vm).sameButNew ({ U with vm := s.vm } : State) [] (0 + 1) (0 + 6) := ⟨e1, e2⟩
    have h3 := X.same.trans h2
    rw [List.append_nil] at h3
    exact h3.mono hc hs
  refine ⟨U, ?_, .threw T.heap.size, hrun, hend, Or.inr ⟨T.heap.size, rfl, cls, ce, locs, hx U hWs.alike f1 (fun q hq => f2 q hq (fun z hz => nomatch hz)), hce, hO.vm, hcl, hWs, hall, hf⟩⟩
  refine st1 _ ?_
  show Steps p.tables e below (T1.setTop { method := m, pc := pc + 3, locals := ls, stack := .ref T.heap.size :: rest, locked := none }) _
  jvm_step X₁.here [X₁.here.top, hexec, d3', Value.category]
  exact hsteps
/-- 'throw new E("text")': new; dup; ldc; invokespecial; athrow -/
theorem vx_throwS {cc : ByteArray} {pc : Nat} (hexec : p.tables.exec = Jvm.exec) (hb : c.code = cc) (hl : l.stackTraces = false) {own cls text : String} {names : List String} {ik is ic mc ms sa : Nat} {A : Nat → Prop}
    (hown : s.vm.findClass own = some m.cls) (hcls : Bundle.fit cls = true) (hnames : ∀ n ∈ names, Bundle.fit n = true)
    (hk : (Cond.classLink own ik cls).before args s = true) (hini : (Cond.initialized cls).before args s = true) (hstr : vk_R own is text sa s) (hat : ∀ w ∈ vx_atS own ic cls names, w.before args s = true)
    (hgood : ∀ w ∈ Cond.classLink own ik cls :: Cond.initialized cls :: vx_atS own ic cls names, vx_ot w = true)
    (hU : vx_Zq Bundle.tN "UNASSIGNED_STACK" Bundle.steD A s s.heap) (hN : vx_Zq Bundle.tN "SUPPRESSED_SENTINEL" Bundle.listD A s s.heap) (hS : va_S A s.heap H locs) (hsize : ls.size = c.maxLocals)
    (d0 : decode cc pc = .ok (.new ik, 3)) (d3 : decode cc (pc + 3) = .ok (.dup, 1)) (d4 : decode cc (pc + 4) = .ok (.ldc is, 2)) (d6 : decode cc (pc + 6) = .ok (.invokespecial ic, 3)) (d9 : decode cc (pc + 9) = .ok (.athrow, 1))
    (hout : ∀ x ∈ c.exceptionTable.toList, covers x (pc + 9) = false)
    (hRframes : names.length + 3 < R.frames) (hRlocals : (rest.map fun v => v.category).sum + (13 * (names.length + 1) + 43) ≤ R.locals) (hRcells : cells + 1 ≤ R.cells) (hRslots : slots + 6 ≤ R.slots) (hlocks : meth.locks = false)
    (hx : ∀ t : State, s.vm.Alike t.vm → H.size ≤ t.heap.size → (∀ q : Nat, q < H.size → t.heap[q]? = H[q]?) → XC cls s t)
    (hf : ∀ z ∈ locs, free z.base) (hc : cells + 1 ≤ mc) (hs : slots + 6 ≤ ms) :
    W p l e R s m args below meth c H locs cells slots (vx_MQ below Qc XC args s mc ms free) (F0 m pc ls rest) := by
  intro T hT X
  have htr : e.platform.stackTraces = false := (show e.platform.stackTraces = l.stackTraces by rw [X.admits.platform]).trans hl
  have Y := vx_rebase X (R' := { frames := R.frames, locals := R.locals, cells := 1, slots := 6 }) (Nat.le_refl _) (Nat.le_refl _) hRcells hRslots
  obtain ⟨s', hA⟩ : ∃ z, z = (T.setVm s.vm).setFrames (.invoking m args :: below) := ⟨_, rfl⟩
  rw [← hA] at Y
  have hvm : s'.vm = s.vm := by rw [hA]; rfl
  have hhp : s'.heap = H := by rw [hA]; exact hT
  have hW0 : s.WarmedH s'.vm := by rw [hvm]; exact State.WarmedH.refl s
  have hat' : ∀ w ∈ vx_atS own ic cls names, w.before args s' = true := fun w hw => vx_ot_at hW0 hvm.symm (hgood w (List.mem_cons_of_mem _ (List.mem_cons_of_mem _ hw))) (hat w hw)
  have hk' : (Cond.classLink own ik cls).before args s' = true := vx_ot_at hW0 hvm.symm (hgood _ List.mem_cons_self) hk
  have hini' : (Cond.initialized cls).before args s' = true := vx_ot_at hW0 hvm.symm (hgood _ (List.mem_cons_of_mem _ List.mem_cons_self)) hini
  have hU' : vx_Zq Bundle.tN "UNASSIGNED_STACK" Bundle.steD A s' s'.heap := by rw [hhp]; exact vx_Zq.moved hW0.alike (hU.kept hS.2.1)
  have hN' : vx_Zq Bundle.tN "SUPPRESSED_SENTINEL" Bundle.listD A s' s'.heap := by rw [hhp]; exact vx_Zq.moved hW0.alike (hN.kept hS.2.1)
  have h : ∀ w ∈ Bundle.ownAtoms own ic cls names, w.before args s' = true := vx_own hat' (vx_isRefq hU'.1) (vx_isRefq hN'.1) hU'.2.word hN'.2.word
  have hown' : s'.vm.findClass own = some m.cls := by rw [hvm]; exact hown
  have hins : (Cond.instantiable cls 6).before args s' = true := h _ (by simp [Bundle.ownAtoms])
  obtain ⟨vm₁, cX, kX, hfX, hkX, -, -, X₁, st1⟩ := Y.newCold hexec (own := own) (C := cls) (index := ik) (n := 6) hown' hk' hins hini'
    (g := F0 m pc ls rest) rfl (by rw [hb]; exact d0) (Nat.le_refl _) (Nat.le_refl _)
  generalize hT1 : (T.setVm vm₁).pushCell { cls := cX, slots := kX.instanceTypes.map defaultValue, vm := .none } = T1 at X₁ st1
  have hcat : (Value.ref T.heap.size).category = 1 := rfl
  have hcellA : T1.heap[T.heap.size]? = some (freshCell cX kX) := by rw [← hT1]; exact State.heap_pushCell_size _ _
  have d3' : decode c.code (pc + 3) = .ok (.dup, 1) := by rw [hb]; exact d3
  have d4' : decode c.code (pc + 4) = .ok (.ldc is, 2) := by rw [hb]; exact d4
  have hstr' : vk_R own is text sa s' := vk_R.warm hW0 hstr
  obtain ⟨U, hsteps, hrun, hend, hW, hsame, ce, hce, hO⟩ := X₁.ctorThrowS hexec htr (own := own) (cls := cls) (names := names) (ic := ic) hown' hcls hnames h (fun x hx => nomatch hx) hfX hkX hcellA (by rw [hhp, hT]; exact Nat.le_refl _) (msg := .ref sa) rfl
    (g := { method := m, pc := pc + 6, locals := ls, stack := .ref sa :: .ref T.heap.size :: .ref T.heap.size :: rest, locked := none }) rfl hsize rfl rfl (rest := rest) rfl
    (by rw [hb]; exact d6) (by rw [hb]; exact d9) hout hRframes (by simp only [List.map_cons, List.sum_cons, hcat]; omega) hlocks
  obtain ⟨f1, f2⟩ := vx_frame hsame
  rw [hhp] at f1 f2
  have hWs : s.WarmedH U.vm := State.WarmedH.trans hW0 hW
  have hcl : s.vm.findClass cls = some ce.cls := by
    have h9 := hO.cls
    rw [hvm] at h9
    exact h9
  have hall : s.sameButNew ({ U with vm := s.vm } : State) locs mc ms := by
    subst hA
    obtain ⟨e1, e2⟩ := hsame
    rw [State.setFrames_setFrames] at e1
    have h2 : (T.setVm s.vm).sameButNew ({ U with vm := s.vm } : State) [] (0 + 1) (0 + 6) := ⟨e1, e2⟩
    have h3 := X.same.trans h2
    rw [List.append_nil] at h3
    exact h3.mono hc hs
  refine ⟨U, ?_, .threw T.heap.size, hrun, hend, Or.inr ⟨T.heap.size, rfl, cls, ce, locs, hx U hWs.alike f1 (fun q hq => f2 q hq (fun z hz => nomatch hz)), hce, hO.vm, hcl, hWs, hall, hf⟩⟩
  refine st1 _ ?_
  show Steps p.tables e below (T1.setTop { method := m, pc := pc + 3, locals := ls, stack := .ref T.heap.size :: rest, locked := none }) _
  jvm_step X₁.here [X₁.here.top, hexec, d3', Value.category]
  exact X₁.ldcString hexec (own := own) (text := text) (index := is) (a := sa) hown' hstr'.1 hstr'.2
    (g := { method := m, pc := pc + 4, locals := ls, stack := .ref T.heap.size :: .ref T.heap.size :: rest, locked := none }) rfl d4' _ hsteps
/-- 'throw new E("text")', the text by a wide index -/
theorem vx_throwSW {cc : ByteArray} {pc : Nat} (hexec : p.tables.exec = Jvm.exec) (hb : c.code = cc) (hl : l.stackTraces = false) {own cls text : String} {names : List String} {ik is ic mc ms sa : Nat} {A : Nat → Prop}
    (hown : s.vm.findClass own = some m.cls) (hcls : Bundle.fit cls = true) (hnames : ∀ n ∈ names, Bundle.fit n = true)
    (hk : (Cond.classLink own ik cls).before args s = true) (hini : (Cond.initialized cls).before args s = true) (hstr : vk_R own is text sa s) (hat : ∀ w ∈ vx_atS own ic cls names, w.before args s = true)
    (hgood : ∀ w ∈ Cond.classLink own ik cls :: Cond.initialized cls :: vx_atS own ic cls names, vx_ot w = true)
    (hU : vx_Zq Bundle.tN "UNASSIGNED_STACK" Bundle.steD A s s.heap) (hN : vx_Zq Bundle.tN "SUPPRESSED_SENTINEL" Bundle.listD A s s.heap) (hS : va_S A s.heap H locs) (hsize : ls.size = c.maxLocals)
    (d0 : decode cc pc = .ok (.new ik, 3)) (d3 : decode cc (pc + 3) = .ok (.dup, 1)) (d4 : decode cc (pc + 4) = .ok (.ldc_w is, 3)) (d7 : decode cc (pc + 7) = .ok (.invokespecial ic, 3)) (d10 : decode cc (pc + 10) = .ok (.athrow, 1))
    (hout : ∀ x ∈ c.exceptionTable.toList, covers x (pc + 10) = false)
    (hRframes : names.length + 3 < R.frames) (hRlocals : (rest.map fun v => v.category).sum + (13 * (names.length + 1) + 43) ≤ R.locals) (hRcells : cells + 1 ≤ R.cells) (hRslots : slots + 6 ≤ R.slots) (hlocks : meth.locks = false)
    (hx : ∀ t : State, s.vm.Alike t.vm → H.size ≤ t.heap.size → (∀ q : Nat, q < H.size → t.heap[q]? = H[q]?) → XC cls s t)
    (hf : ∀ z ∈ locs, free z.base) (hc : cells + 1 ≤ mc) (hs : slots + 6 ≤ ms) :
    W p l e R s m args below meth c H locs cells slots (vx_MQ below Qc XC args s mc ms free) (F0 m pc ls rest) := by
  intro T hT X
  have htr : e.platform.stackTraces = false := (show e.platform.stackTraces = l.stackTraces by rw [X.admits.platform]).trans hl
  have Y := vx_rebase X (R' := { frames := R.frames, locals := R.locals, cells := 1, slots := 6 }) (Nat.le_refl _) (Nat.le_refl _) hRcells hRslots
  obtain ⟨s', hA⟩ : ∃ z, z = (T.setVm s.vm).setFrames (.invoking m args :: below) := ⟨_, rfl⟩
  rw [← hA] at Y
  have hvm : s'.vm = s.vm := by rw [hA]; rfl
  have hhp : s'.heap = H := by rw [hA]; exact hT
  have hW0 : s.WarmedH s'.vm := by rw [hvm]; exact State.WarmedH.refl s
  have hat' : ∀ w ∈ vx_atS own ic cls names, w.before args s' = true := fun w hw => vx_ot_at hW0 hvm.symm (hgood w (List.mem_cons_of_mem _ (List.mem_cons_of_mem _ hw))) (hat w hw)
  have hk' : (Cond.classLink own ik cls).before args s' = true := vx_ot_at hW0 hvm.symm (hgood _ List.mem_cons_self) hk
  have hini' : (Cond.initialized cls).before args s' = true := vx_ot_at hW0 hvm.symm (hgood _ (List.mem_cons_of_mem _ List.mem_cons_self)) hini
  have hU' : vx_Zq Bundle.tN "UNASSIGNED_STACK" Bundle.steD A s' s'.heap := by rw [hhp]; exact vx_Zq.moved hW0.alike (hU.kept hS.2.1)
  have hN' : vx_Zq Bundle.tN "SUPPRESSED_SENTINEL" Bundle.listD A s' s'.heap := by rw [hhp]; exact vx_Zq.moved hW0.alike (hN.kept hS.2.1)
  have h : ∀ w ∈ Bundle.ownAtoms own ic cls names, w.before args s' = true := vx_own hat' (vx_isRefq hU'.1) (vx_isRefq hN'.1) hU'.2.word hN'.2.word
  have hown' : s'.vm.findClass own = some m.cls := by rw [hvm]; exact hown
  have hins : (Cond.instantiable cls 6).before args s' = true := h _ (by simp [Bundle.ownAtoms])
  obtain ⟨vm₁, cX, kX, hfX, hkX, -, -, X₁, st1⟩ := Y.newCold hexec (own := own) (C := cls) (index := ik) (n := 6) hown' hk' hins hini'
    (g := F0 m pc ls rest) rfl (by rw [hb]; exact d0) (Nat.le_refl _) (Nat.le_refl _)
  generalize hT1 : (T.setVm vm₁).pushCell { cls := cX, slots := kX.instanceTypes.map defaultValue, vm := .none } = T1 at X₁ st1
  have hcat : (Value.ref T.heap.size).category = 1 := rfl
  have hcellA : T1.heap[T.heap.size]? = some (freshCell cX kX) := by rw [← hT1]; exact State.heap_pushCell_size _ _
  have d3' : decode c.code (pc + 3) = .ok (.dup, 1) := by rw [hb]; exact d3
  have d4' : decode c.code (pc + 4) = .ok (.ldc_w is, 3) := by rw [hb]; exact d4
  have hstr' : vk_R own is text sa s' := vk_R.warm hW0 hstr
  obtain ⟨U, hsteps, hrun, hend, hW, hsame, ce, hce, hO⟩ := X₁.ctorThrowS hexec htr (own := own) (cls := cls) (names := names) (ic := ic) hown' hcls hnames h (fun x hx => nomatch hx) hfX hkX hcellA (by rw [hhp, hT]; exact Nat.le_refl _) (msg := .ref sa) rfl
    (g := { method := m, pc := pc + 7, locals := ls, stack := .ref sa :: .ref T.heap.size :: .ref T.heap.size :: rest, locked := none }) rfl hsize rfl rfl (rest := rest) rfl
    (by rw [hb]; exact d7) (by rw [hb]; exact d10) hout hRframes (by simp only [List.map_cons, List.sum_cons, hcat]; omega) hlocks
  obtain ⟨f1, f2⟩ := vx_frame hsame
  rw [hhp] at f1 f2
  have hWs : s.WarmedH U.vm := State.WarmedH.trans hW0 hW
  have hcl : s.vm.findClass cls = some ce.cls := by
    have h9 := hO.cls
    rw [hvm] at h9
    exact h9
  have hall : s.sameButNew ({ U with vm := s.vm } : State) locs mc ms := by
    subst hA
    obtain ⟨e1, e2⟩ := hsame
    rw [State.setFrames_setFrames] at e1
    have h2 : (T.setVm s.vm).sameButNew ({ U with vm := s.vm } : State) [] (0 + 1) (0 + 6) := ⟨e1, e2⟩
    have h3 := X.same.trans h2
    rw [List.append_nil] at h3
    exact h3.mono hc hs
  refine ⟨U, ?_, .threw T.heap.size, hrun, hend, Or.inr ⟨T.heap.size, rfl, cls, ce, locs, hx U hWs.alike f1 (fun q hq => f2 q hq (fun z hz => nomatch hz)), hce, hO.vm, hcl, hWs, hall, hf⟩⟩
  refine st1 _ ?_
  show Steps p.tables e below (T1.setTop { method := m, pc := pc + 3, locals := ls, stack := .ref T.heap.size :: rest, locked := none }) _
  jvm_step X₁.here [X₁.here.top, hexec, d3', Value.category]
  exact X₁.ldcStringW hexec (own := own) (text := text) (index := is) (a := sa) hown' hstr'.1 hstr'.2
    (g := { method := m, pc := pc + 4, locals := ls, stack := .ref T.heap.size :: .ref T.heap.size :: rest, locked := none }) rfl d4' _ hsteps
end Ends
section Bodies
variable {l : Launch}
theorem vx_ofW {y : MethodName} {ws ws' : List Cond} {rm : Room} {Pc : Array Value → State → Prop} {Qc : Array Value → State → Outcome → State → Prop} {XC : String → State → State → Prop} {mc ms : Nat} {free : Addr → Prop} {cc : ByteArray} {maxL : Nat} {ret : Option FieldType}
    (hy : plainName y.cls = true) (hw : ws = Cond.code y cc maxL ret :: ws')
    (body : ∀ p e s m args below meth c s₁, BodyLoose p l y (headSpec ws rm) cc maxL ret e s m args below meth c s₁ → c.maxLocals = maxL → (∀ x ∈ c.exceptionTable.toList, False) → Pc args s →
      W p l e (headSpec ws rm).room s m args below meth c s.heap [] 0 0 (vx_MQ below Qc XC args s mc ms free) (entryFrame m args maxL)) : vx_Met l y ws rm Pc Qc XC mc ms free := by
  refine MetFree.of_bodyS (code := cc) (maxLocals := maxL) (ret := ret) hy ?_ ?_
  · intro args s m h hn
    obtain ⟨meth, c, h1, h2, h3, h4, h5, h6, -, -⟩ := Cond.code_spec hn (atoms_spec (ws := ws) h _ (by rw [hw]; exact List.mem_cons_self))
    exact ⟨meth, c, h1, h2, h3, h4, h5, h6⟩
  · intro p e s m args below meth c s₁ B hml hP _
    have hh0 : s₁.heap = s.heap := by rw [B.state]; rfl
    have ht : ∀ x ∈ c.exceptionTable.toList, False := by
      obtain ⟨meth9, c9, h1, h2, -, -, -, -, h7, -⟩ := Cond.code_spec B.named (atoms_spec (ws := ws) B.pre _ (by rw [hw]; exact List.mem_cons_self))
      cases Option.some.inj (h1.symm.trans B.method)
      cases Option.some.inj (h2.symm.trans (Stand.of_body B).code)
      intro x hx
      rw [Array.isEmpty_iff.mp h7] at hx
      cases hx
    obtain ⟨t, a1, o, b1, b2, b3⟩ := body p e s m args below meth c s₁ B hml ht hP s₁ hh0 (Stand.of_body B)
    exact ⟨t, o, a1, b1, b2, b3⟩
/-- the table of a body with handlers -/
theorem vx_table {p : Program} {x y : MethodName} {S : Spec} {cc bytes : ByteArray} {maxL maxL' : Nat} {ret ret' : Option FieldType} {e : Env} {s s₁ : State} {m : MethodId} {args : Array Value} {below : List Frame} {meth : Method} {c : Code} {hh : List (Nat × Nat × Nat × Nat)}
    (B : BodyLoose p l y S cc maxL ret e s m args below meth c s₁) (h : (Cond.codeWith y bytes maxL' ret' hh).before args s = true) : c.exceptionTable.toList = tableOf hh := by
  obtain ⟨m9, meth9, c9, hn9, h1, h2, -, -, h6, -⟩ := Cond.codeWith_spec h
  cases Option.some.inj (hn9.symm.trans B.named)
  cases Option.some.inj (h1.symm.trans B.method)
  cases Option.some.inj (h2.symm.trans (Stand.of_body B).code)
  rw [← h6, table_eq]
end Bodies
end VXA
/-! ===== END ===== -/
/-! ===== BEGIN a static call of a method with an exception table ===== -/
section VXS
variable {p : Program} {l : Launch} {e : Env} {R : Room} {s : State} {m : MethodId} {args : Array Value} {below : List Frame} {meth : Method} {c : Code} {T : State} {H : Heap} {locs : List Loc} {cells slots : Nat}
abbrev vx_CSW (R : Room) (s : State) (args : Array Value) (own : String) (index : Nat) (y : MethodName) (bytes : ByteArray) (maxL : Nat) (ret : Option FieldType) (hh : List (Nat × Nat × Nat × Nat)) (ws : List Cond) (rm : Room) (mc ms n : Nat) : Prop :=
  (rm.cells = mc ∧ rm.slots = ms ∧ rm.frames + 1 ≤ R.frames ∧ 8 + (maxL + 11) + rm.locals ≤ R.locals ∧ (∀ w ∈ ws, ∀ (a' : Array Value) (U : State), s.WarmedH U.vm → w.before a' U = true) ∧ Cond.codeWith y bytes maxL ret hh ∈ ws) ∧
  (Cond.codeWith y bytes maxL ret hh).before args s = true ∧ (Cond.initialized y.cls).before args s = true ∧ (y.cls ≠ "java/lang/invoke/MethodHandle" ∧ y.cls ≠ "java/lang/invoke/VarHandle") ∧
  (∀ sig, parseMethodDescriptor y.desc = some sig → n = sig.parameters.length) ∧ (Cond.methodLink own index y).before args s = true ∧ (Cond.static y).before args s = true
theorem vx_cwSW {own : String} {index maxL mc ms : Nat} {y : MethodName} {bytes : ByteArray} {ret : Option FieldType} {hh : List (Nat × Nat × Nat × Nat)} {Ts ws ws' : List Cond} {rm : Room} (n : Nat) (ht : ∀ w ∈ Ts, w.before args s = true) (hT : GoodIn Ts (va_wsS own index y ws)) (hw : ws = Cond.codeWith y bytes maxL ret hh :: ws') (hrc : rm.cells = mc) (hrs : rm.slots = ms)
    (hd : y.cls ≠ "java/lang/invoke/MethodHandle" ∧ y.cls ≠ "java/lang/invoke/VarHandle" ∧ (parseMethodDescriptor y.desc).map (fun d => d.parameters.length) = some n) (hR : rm.frames + 1 ≤ R.frames ∧ 8 + (maxL + 11) + rm.locals ≤ R.locals) :
    vx_CSW R s args own index y bytes maxL ret hh ws rm mc ms n := by
  have ok : ∀ w ∈ va_wsS own index y ws, w.before args s = true := fun w h => ht w (hT w h).1
  have hG : GoodIn Ts ws := fun w h => hT w (by unfold va_wsS; exact List.mem_append_right _ h)
  have hc : Cond.codeWith y bytes maxL ret hh ∈ ws := by rw [hw]; exact List.mem_cons_self
  refine ⟨⟨hrc, hrs, hR.1, hR.2, pay_in ht hG, hc⟩, ht _ (hG _ hc).1, ok _ (by simp [va_wsS]), ⟨hd.1, hd.2.1⟩, fun sig h => ?_, ok _ (by simp [va_wsS]), ok _ (by simp [va_wsS])⟩
  have h2 := hd.2.2
  rw [h] at h2
  exact (Option.some.inj h2).symm
theorem vx_callSW (X : Stand p l e R s m args below meth c T locs cells slots) (hexec : p.tables.exec = Jvm.exec) {own : String} {index : Nat} {y : MethodName} {bytes : ByteArray} {maxL : Nat} {ret : Option FieldType} {hh : List (Nat × Nat × Nat × Nat)}
    (hown : s.vm.findClass own = some m.cls) (hlink : (Cond.methodLink own index y).before args s = true) (hstat : (Cond.static y).before args s = true) (hinit : (Cond.initialized y.cls).before args s = true)
    (hcode : (Cond.codeWith y bytes maxL ret hh).before args s = true) (hy : y.cls ≠ "java/lang/invoke/MethodHandle" ∧ y.cls ≠ "java/lang/invoke/VarHandle")
    {W9 : Nat} {Pre : Pt → Array Value → Prop} {Post : Pt → Array Value → Option Value → Pt → Prop} (hK : Back l R p e below s args y 3 W9 Pre Post)
    {g : JFrame} (hg : g.method = m) (hsize : g.locals.size = c.maxLocals) {argsL rest : List Value} (hlen : ∀ sig, parseMethodDescriptor y.desc = some sig → argsL.length = sig.parameters.length)
    (hstack : g.stack = argsL.reverse ++ rest) (hW : 2 * g.monitorRoom + (rest.map fun v => v.category).sum ≤ W9) (hdg : decode c.code g.pc = .ok (.invokestatic index, 3))
    (hpre : ∀ vm₁, s.WarmedH vm₁ → Pre ⟨T.setVm vm₁, locs, cells, slots⟩ argsL.toArray) :
    ∃ (v : Option Value) (vm₁ : Vm) (B : Pt), s.WarmedH vm₁ ∧ Stand p l e R s m args below meth c B.U B.locs B.cells B.slots ∧ Post ⟨T.setVm vm₁, locs, cells, slots⟩ argsL.toArray v B ∧
      ∀ target, Steps p.tables e below (B.U.setTop { g with pc := g.pc + 3, stack := v.toList ++ rest }) target → Steps p.tables e below (T.setTop g) target := by
  obtain ⟨mk, methM, cM, hnamed, hmethM, -, -, -, -, -, -, hsigM⟩ := Cond.codeWith_spec hcode
  have hstatic : methM.isStatic = true := Cond.static_spec hnamed hmethM hstat
  obtain ⟨kP, hkP, -⟩ := className_of_methodNamed hnamed
  have hinitP : kP.init = .initialized := Cond.initialized_spec (findClass_of_methodNamed hnamed) hkP hinit
  obtain ⟨vm₁, X₁, hstep₁⟩ := X.invokestatic hexec hown hlink hnamed hmethM hstatic hkP hinitP hy (g := g) hg (argsL := argsL) (rest := rest) (hlen _ hsigM) hstack hdg
  obtain ⟨v, B, X', hpost, hsteps⟩ := hK m meth c ⟨T.setVm vm₁, locs, cells, slots⟩ { g with stack := rest } (.invokestatic index) mk argsL.toArray X₁ hg hsize hdg hW (X₁.named hnamed) (hpre vm₁ X₁.warmed)
  exact ⟨v, vm₁, B, X₁.warmed, X', hpost, fun target h => hstep₁ _ fun acts => by rw [doInvoke_state]; exact hsteps.trans h⟩
theorem vx_runSW {y : MethodName} {bytes cc : ByteArray} {maxL nL mc ms n index : Nat} {ret : Option FieldType} {hh : List (Nat × Nat × Nat × Nat)} {ws : List Cond} {rm : Room} {Pc : Array Value → State → Prop} {Qc : Array Value → State → Outcome → State → Prop} {free : Addr → Prop} {Ts : List Cond} {own : String} {As rest : List Value} {g : JFrame}
    (S : CallFix p m c cc nL s args Ts own) (hM : Met l y ws rm Pc Qc mc ms free) (cw : vx_CSW R s args own index y bytes maxL ret hh ws rm mc ms n) (hp : PreS s H Pc As)
    (hg : g.method = m) (hn : As.length = n) (hsize : g.locals.size = nL) (hstack : g.stack = As.reverse ++ rest) (hW : 2 * g.monitorRoom + (rest.map fun v => v.category).sum ≤ 8) (hdg : decode cc g.pc = .ok (.invokestatic index, 3)) (hf : cells + mc ≤ R.cells ∧ slots + ms ≤ R.slots) :
    va_Run p l e R s m args below meth c H locs cells slots mc ms g rest (Qc As.toArray) (free) := by
  obtain ⟨⟨hrc, hrs, hfr, hlo, hws, hcw⟩, hcode, hini, hy, hlen, hl, hstt⟩ := cw
  have hK : Back l R p e below s args y 3 8 (PreOf R mc ms Pc) (PostOf Qc mc ms free) := va_backW (hh := hh) (bytes := bytes) (maxL := maxL) (ret := ret) hM hp.1 hrc hrs hfr hlo hws hcw (fun a' U hW => word_at hW (Or.inl (by first | rfl | simp [Cond.onTables, Cond.keeps, Cond.steady])) hini)
  obtain ⟨hx, hb, hml, ho, -⟩ := S
  intro T hT X
  obtain ⟨v, vm₁, ⟨U', l2, c2, s2⟩, hW₁, X', ⟨g', mk, t, L, e1, e2, hq, h1, hL, h2, h3⟩, st⟩ := vx_callSW X hx (hh := hh) (bytes := bytes) (maxL := maxL) (ret := ret) ho hl hstt hini hcode hy hK hg (hsize.trans hml.symm) (argsL := As) (rest := rest) (fun sig h => hn.trans (hlen sig h)) hstack hW (by rw [hb]; exact hdg)
    (fun vm₁ hW₁ => ⟨hf.1, hf.2, hp.2 (T.setVm vm₁) hT hW₁⟩)
  dsimp only [Pt.U, Pt.locs, Pt.cells, Pt.slots] at X' e1 e2 h1 h2 h3 st
  subst h1; subst h2; subst h3
  exact ⟨v, (T.setVm vm₁).calling g' mk As.toArray, t, U', L, hT, X', hL, e1, e2, hq, st⟩
/-- a thing of a world lies in the heap -/
theorem vx_lt {D : va_G} {cl : List vw_C} {ws : va_W} {H1 : Heap} (h : va_P D cl ws H1) {k : Nat} {q : Nat × va_E} (hk : ws[k]? = some q) : q.1 < H1.size := (h k q hk).lt
end VXS
/-! ===== END ===== -/
/-! ===== BEGIN methods with a table of their own: called by a name, returning or throwing ===== -/
section VXH
/-! vx_backW, vx_callVX, vx_callSX, vx_callVW, vx_runVW, vx_runVX, vx_runSX, vx_ofWH follow the same proofs as their sisters above (Free/Laws.lean, Shelf42/LK1.lean); vx_outP calls Shelf42/NT130.lean (outThrough). -/
section
variable {l : Launch} {R : Room} {p : Program} {e : Env} {below : List Frame} {s : State} {sargs : Array Value} {y : MethodName} {len W9 : Nat}
theorem vx_backW {ws : List Cond} {rm : Room} {Pc : Array Value → State → Prop} {Qc : Array Value → State → Outcome → State → Prop} {XC : String → State → State → Prop} {mc ms : Nat} {free : Addr → Prop} {bytes : ByteArray} {maxL : Nat} {ret : Option FieldType} {hh : List (Nat × Nat × Nat × Nat)}
    (hM : vx_Met l y ws rm Pc Qc XC mc ms free) (hblind : FrameBlind Pc) (hrc : rm.cells = mc) (hrs : rm.slots = ms)
    (hframes : rm.frames + 1 ≤ R.frames) (hlocals : W9 + (maxL + 11) + rm.locals ≤ R.locals)
    (hws : ∀ w ∈ ws, ∀ a' U, s.WarmedH U.vm → w.before a' U = true) (hcode : Cond.codeWith y bytes maxL ret hh ∈ ws) (hinit : ∀ a' U, s.WarmedH U.vm → (Cond.initialized y.cls).before a' U = true) :
    vx_Back l R p e below s sargs y len W9 (PreOf R mc ms Pc) (PostOf Qc mc ms free) (vx_Post XC mc ms free) := by
  intro m meth c A g ig mk a X hg hsize hdg hW hn hp
  have h1 : (headSpec ws rm).pre.before a A.U = true := atoms_intro fun w hw => hws w hw _ _ X.warmed
  have h2 : (Cond.codeWith y bytes maxL ret hh).before a A.U = true := hws _ hcode _ _ X.warmed
  have h3 : (Cond.initialized y.cls).before a A.U = true := hinit _ _ X.warmed
  have h4 : A.cells + (headSpec ws rm).room.cells ≤ R.cells := by rw [show (headSpec ws rm).room.cells = mc from hrc]; exact hp.1
  have h5 : A.slots + (headSpec ws rm).room.slots ≤ R.slots := by rw [show (headSpec ws rm).room.slots = ms from hrs]; exact hp.2.1
  have hPc : Pc a (A.U.calling g mk a) := hblind _ _ _ _ hp.2.2
  obtain ⟨U, Ls, c0, s0⟩ := A
  dsimp only [Pt.U, Pt.locs, Pt.cells, Pt.slots] at h1 h2 h3 h4 h5 X hn hPc ⊢
  obtain ⟨m9, methY, cY, hn9, hmY, hcY, -, hlY, -⟩ := Cond.codeWith_spec h2
  cases Option.some.inj (hn9.symm.trans hn)
  obtain ⟨kY, hkY, -⟩ := className_of_methodNamed hn
  have hinitY : kY.init = .initialized := Cond.initialized_spec (findClass_of_methodNamed hn) hkY h3
  have h : At U g.method c below := by rw [hg]; exact X.here
  have hlocals9 : W9 + (maxL + 11) + (headSpec ws rm).room.locals ≤ R.locals := hlocals
  have happ : (headSpec ws rm).appliesLoose y e.platform (U.calling g mk a) = true :=
    Spec.appliesLoose_calling (g := g) h hdg hn hkY hinitY
      (X.room_calling (g := g) (R' := (headSpec ws rm).room) hsize hmY hcY hframes (by rw [hlY]; omega) h4 h5) h1
  obtain ⟨mid, hmid⟩ := h.above
  have hfr : (U.setTop g).frames = (.java g :: mid) ++ below := by rw [State.frames_setTop' g h.top, hmid]; rfl
  obtain ⟨o, s₂, hsteps, -, hend, hq⟩ := Steps.callFree hM p X.admits X.cas X.clock (acts := []) hfr happ hPc trivial
  have hq' : vx_Q Qc XC mc ms free a (U.calling g mk a) o s₂ := hq
  rw [State.frames_setTop' g h.top] at hend
  obtain ⟨g₀, hg0⟩ := Option.isSome_iff_exists.mp h.top
  obtain ⟨r, hr⟩ := State.topJava?_eq_some.mp hg0
  have hr' : (({ U with heap := s₂.heap, slotsUsed := s₂.slotsUsed } : State).setVm s₂.vm).frames = .java g₀ :: r := hr
  rcases hq' with ⟨hqc, L, hfe, hL⟩ | ⟨q, rfl, E, ce, L, hx, hce, hcv, hcl, hW₂, hsm, hL⟩
  · obtain ⟨⟨v, rfl⟩, hW₂, e2, q2, q3, q4, q5, q6⟩ := id hfe
    have e3 : s₂ = ({ (U.calling g mk a).setFrames s₂.frames with heap := s₂.heap, slotsUsed := s₂.slotsUsed } : State).setVm s₂.vm := by
      have : s₂ = ({ s₂ with vm := (U.calling g mk a).vm } : State).setVm s₂.vm := rfl
      rw [e2] at this
      exact this
    obtain ⟨c₂, i₂, len₂, hc₂, hd₂, hf₂⟩ := hend
    have hW' : U.WarmedH s₂.vm := hW₂
    have hcc : c₂ = c := by
      have h1 : s₂.code? g.method = U.code? g.method := by
        rw [State.code?_eq, State.code?_eq, hW'.alike.method?]
      exact Option.some.inj (hc₂.symm.trans (h1.trans h.code))
    subst hcc
    have hlen : len₂ = len := by rw [hdg] at hd₂; cases hd₂; rfl
    subst hlen
    have hs₂ : s₂ = (({ U with heap := s₂.heap, slotsUsed := s₂.slotsUsed } : State).setVm s₂.vm).setTop { g with pc := g.pc + len₂, stack := v.toList ++ g.stack } := by
      refine e3.trans ?_
      rw [hf₂, State.calling_eq h.top, State.setFrames_setFrames, State.setTop_of_frames _ hr', hr]
      rfl
    have hsame : U.sameButNew ({ U with heap := s₂.heap, slotsUsed := s₂.slotsUsed } : State) L mc ms := by
      refine ⟨?_, q2, q3, q4, q5, q6⟩
      obtain ⟨t, ht, -⟩ := State.frames_cons hr
      show ({ U with heap := s₂.heap, slotsUsed := s₂.slotsUsed } : State) = { U.setFrames U.frames with heap := s₂.heap, slotsUsed := s₂.slotsUsed }
      rw [State.setFrames_self ht]
    subst hg
    refine Or.inl ⟨v, ⟨(({ U with heap := s₂.heap, slotsUsed := s₂.slotsUsed } : State).setVm s₂.vm), Ls ++ L, c0 + mc, s0 + ms⟩,
      ⟨X.admits, X.cas, X.clock, X.frames, X.room, X.hears, X.method, X.code, (X.here.setHeapUsed s₂.heap s₂.slotsUsed).setVm hW'.alike, X.tail, State.WarmedH.trans X.warmed hW', X.limits, X.bytes, X.same.trans (hsame.setVm s.vm)⟩,
      ⟨g, mk, s₂, L, rfl, rfl, hqc, rfl, hL, rfl, rfl⟩, ?_⟩
    show Steps p.tables e below _ ((({ U with heap := s₂.heap, slotsUsed := s₂.slotsUsed } : State).setVm s₂.vm).setTop { g with pc := g.pc + len₂, stack := v.toList ++ g.stack })
    rw [← hs₂]
    exact hsteps
  · obtain ⟨e2, q2, q3, q4, q5, q6⟩ := id hsm
    have e3 : s₂ = ({ (U.calling g mk a).setFrames s₂.frames with heap := s₂.heap, slotsUsed := s₂.slotsUsed } : State).setVm s₂.vm := by
      have : s₂ = ({ s₂ with vm := (U.calling g mk a).vm } : State).setVm s₂.vm := rfl
      rw [e2] at this
      exact this
    have hf₂ : s₂.frames = .throwing q :: .java g :: U.frames.tail := hend
    have hW' : U.WarmedH s₂.vm := hW₂
    have hs₂ : s₂ = ((({ U with heap := s₂.heap, slotsUsed := s₂.slotsUsed } : State).setVm s₂.vm).setTop g).pushFrame (.throwing q) := by
      refine e3.trans ?_
      rw [hf₂, State.calling_eq h.top, State.setFrames_setFrames, State.pushFrame, State.frames_setTop _ hr', State.setTop_of_frames _ hr', State.setFrames_setFrames, hr]
      rfl
    have hsame : U.sameButNew ({ U with heap := s₂.heap, slotsUsed := s₂.slotsUsed } : State) L mc ms := by
      refine ⟨?_, q2, q3, q4, q5, q6⟩
      obtain ⟨t, ht, -⟩ := State.frames_cons hr
      show ({ U with heap := s₂.heap, slotsUsed := s₂.slotsUsed } : State) = { U.setFrames U.frames with heap := s₂.heap, slotsUsed := s₂.slotsUsed }
      rw [State.setFrames_self ht]
    subst hg
    refine Or.inr ⟨q, ⟨(({ U with heap := s₂.heap, slotsUsed := s₂.slotsUsed } : State).setVm s₂.vm), Ls ++ L, c0 + mc, s0 + ms⟩,
      ⟨X.admits, X.cas, X.clock, X.frames, X.room, X.hears, X.method, X.code, (X.here.setHeapUsed s₂.heap s₂.slotsUsed).setVm hW'.alike, X.tail, State.WarmedH.trans X.warmed hW', X.limits, X.bytes, X.same.trans (hsame.setVm s.vm)⟩,
      ⟨g, mk, s₂, L, E, ce, rfl, rfl, hx, hce, hcv, hcl, rfl, hL, rfl, rfl⟩, ?_⟩
    show Steps p.tables e below _ (((({ U with heap := s₂.heap, slotsUsed := s₂.slotsUsed } : State).setVm s₂.vm).setTop g).pushFrame (.throwing q))
    rw [← hs₂]
    exact hsteps
end
variable {p : Program} {l : Launch} {e : Env} {R : Room} {s : State} {m : MethodId} {args : Array Value} {below : List Frame} {meth : Method} {c : Code} {T : State} {H : Heap} {locs : List Loc} {cells slots : Nat}
theorem vx_callVX (X : Stand p l e R s m args below meth c T locs cells slots) (hexec : p.tables.exec = Jvm.exec) {own C : String} {index : Nat} {y : MethodName} {bytes : ByteArray} {maxL : Nat} {ret : Option FieldType} {hh : List (Nat × Nat × Nat × Nat)}
    (hown : s.vm.findClass own = some m.cls) (hlink : (Cond.methodLink own index y).before args s = true) (hinst : (Cond.instanceMethod y).before args s = true) (hsel : (Cond.selects C y y).before args s = true)
    (hcode : (Cond.codeWith y bytes maxL ret hh).before args s = true) (hy : y.cls ≠ "java/lang/invoke/MethodHandle" ∧ y.cls ≠ "java/lang/invoke/VarHandle")
    {W9 : Nat} {Pre : Pt → Array Value → Prop} {Post : Pt → Array Value → Option Value → Pt → Prop} {PostX : Pt → Array Value → Addr → Pt → Prop} (hK : vx_Back l R p e below s args y 3 W9 Pre Post PostX)
    {b : Addr} {cellB : Cell} (hcell : T.heap[b]? = some cellB) (hobj : cellB.vm.isStatics = false) (hcls : s.vm.findClass C = some cellB.cls)
    {g : JFrame} (hg : g.method = m) (hsize : g.locals.size = c.maxLocals) {argsL rest : List Value} (hlen : ∀ sig, parseMethodDescriptor y.desc = some sig → argsL.length = sig.parameters.length)
    (hstack : g.stack = argsL.reverse ++ .ref b :: rest) (hW : 2 * g.monitorRoom + (rest.map fun v => v.category).sum ≤ W9) (hdg : decode c.code g.pc = .ok (.invokevirtual index, 3))
    (hpre : ∀ vm₁, s.WarmedH vm₁ → Pre ⟨T.setVm vm₁, locs, cells, slots⟩ (Value.ref b :: argsL).toArray) :
    (∃ (v : Option Value) (vm₁ : Vm) (B : Pt), s.WarmedH vm₁ ∧ Stand p l e R s m args below meth c B.U B.locs B.cells B.slots ∧ Post ⟨T.setVm vm₁, locs, cells, slots⟩ (Value.ref b :: argsL).toArray v B ∧
      ∀ target, Steps p.tables e below (B.U.setTop { g with pc := g.pc + 3, stack := v.toList ++ rest }) target → Steps p.tables e below (T.setTop g) target) ∨
    (∃ (q : Addr) (vm₁ : Vm) (B : Pt), s.WarmedH vm₁ ∧ Stand p l e R s m args below meth c B.U B.locs B.cells B.slots ∧ PostX ⟨T.setVm vm₁, locs, cells, slots⟩ (Value.ref b :: argsL).toArray q B ∧
      Steps p.tables e below (T.setTop g) ((B.U.setTop { g with stack := rest }).pushFrame (.throwing q))) := by
  obtain ⟨mk, methM, hnamed, hmethM, hstM, habM⟩ := Cond.instanceMethod_spec hinst
  obtain ⟨m8, methM', cM, hn8, hmethM', -, -, -, -, -, -, hsigM⟩ := Cond.codeWith_spec hcode
  cases Option.some.inj (hn8.symm.trans hnamed)
  cases hmethM.symm.trans hmethM'
  obtain ⟨c2, r2, m2, q1, q2, q3, q4, kP, hkP, hkPi⟩ := Cond.selects_spec hsel
  cases hcls.symm.trans q1
  cases (State.methodFound?_of_named hnamed hy).symm.trans q2
  cases hnamed.symm.trans q3
  have hselP : selectMethod e.platform s.vm cellB.cls mk = .method mk := by rw [Launch.admits_selectMethod X.admits]; exact q4
  obtain ⟨vm₁, X₁, hstep₁⟩ := X.invokevirtual hexec hown hlink hnamed hmethM hstM hkP hkPi hy (a := b) (cell := cellB) hcell
    (fun z h => by rw [h] at hobj; cases hobj) hselP hmethM habM hkP hkPi (g := g) hg (argsL := argsL) (rest := rest) (hlen _ hsigM) hstack hdg
  rcases hK m meth c ⟨T.setVm vm₁, locs, cells, slots⟩ { g with stack := rest } (.invokevirtual index) mk (Value.ref b :: argsL).toArray X₁ hg hsize hdg hW (X₁.named hnamed) (hpre vm₁ X₁.warmed) with ⟨v, B, X', hpost, hsteps⟩ | ⟨q, B, X', hpost, hsteps⟩
  · exact Or.inl ⟨v, vm₁, B, X₁.warmed, X', hpost, fun target h => hstep₁ _ fun acts => by rw [doInvoke_state]; exact hsteps.trans h⟩
  · exact Or.inr ⟨q, vm₁, B, X₁.warmed, X', hpost, hstep₁ _ fun acts => by rw [doInvoke_state]; exact hsteps⟩
theorem vx_callSX (X : Stand p l e R s m args below meth c T locs cells slots) (hexec : p.tables.exec = Jvm.exec) {own : String} {index : Nat} {y : MethodName} {bytes : ByteArray} {maxL : Nat} {ret : Option FieldType} {hh : List (Nat × Nat × Nat × Nat)}
    (hown : s.vm.findClass own = some m.cls) (hlink : (Cond.methodLink own index y).before args s = true) (hstat : (Cond.static y).before args s = true) (hinit : (Cond.initialized y.cls).before args s = true)
    (hcode : (Cond.codeWith y bytes maxL ret hh).before args s = true) (hy : y.cls ≠ "java/lang/invoke/MethodHandle" ∧ y.cls ≠ "java/lang/invoke/VarHandle")
    {W9 : Nat} {Pre : Pt → Array Value → Prop} {Post : Pt → Array Value → Option Value → Pt → Prop} {PostX : Pt → Array Value → Addr → Pt → Prop} (hK : vx_Back l R p e below s args y 3 W9 Pre Post PostX)
    {g : JFrame} (hg : g.method = m) (hsize : g.locals.size = c.maxLocals) {argsL rest : List Value} (hlen : ∀ sig, parseMethodDescriptor y.desc = some sig → argsL.length = sig.parameters.length)
    (hstack : g.stack = argsL.reverse ++ rest) (hW : 2 * g.monitorRoom + (rest.map fun v => v.category).sum ≤ W9) (hdg : decode c.code g.pc = .ok (.invokestatic index, 3))
    (hpre : ∀ vm₁, s.WarmedH vm₁ → Pre ⟨T.setVm vm₁, locs, cells, slots⟩ argsL.toArray) :
    (∃ (v : Option Value) (vm₁ : Vm) (B : Pt), s.WarmedH vm₁ ∧ Stand p l e R s m args below meth c B.U B.locs B.cells B.slots ∧ Post ⟨T.setVm vm₁, locs, cells, slots⟩ argsL.toArray v B ∧
      ∀ target, Steps p.tables e below (B.U.setTop { g with pc := g.pc + 3, stack := v.toList ++ rest }) target → Steps p.tables e below (T.setTop g) target) ∨
    (∃ (q : Addr) (vm₁ : Vm) (B : Pt), s.WarmedH vm₁ ∧ Stand p l e R s m args below meth c B.U B.locs B.cells B.slots ∧ PostX ⟨T.setVm vm₁, locs, cells, slots⟩ argsL.toArray q B ∧
      Steps p.tables e below (T.setTop g) ((B.U.setTop { g with stack := rest }).pushFrame (.throwing q))) := by
  obtain ⟨mk, methM, cM, hnamed, hmethM, -, -, -, -, -, -, hsigM⟩ := Cond.codeWith_spec hcode
  have hstatic : methM.isStatic = true := Cond.static_spec hnamed hmethM hstat
  obtain ⟨kP, hkP, -⟩ := className_of_methodNamed hnamed
  have hinitP : kP.init = .initialized := Cond.initialized_spec (findClass_of_methodNamed hnamed) hkP hinit
  obtain ⟨vm₁, X₁, hstep₁⟩ := X.invokestatic hexec hown hlink hnamed hmethM hstatic hkP hinitP hy (g := g) hg (argsL := argsL) (rest := rest) (hlen _ hsigM) hstack hdg
  rcases hK m meth c ⟨T.setVm vm₁, locs, cells, slots⟩ { g with stack := rest } (.invokestatic index) mk argsL.toArray X₁ hg hsize hdg hW (X₁.named hnamed) (hpre vm₁ X₁.warmed) with ⟨v, B, X', hpost, hsteps⟩ | ⟨q, B, X', hpost, hsteps⟩
  · exact Or.inl ⟨v, vm₁, B, X₁.warmed, X', hpost, fun target h => hstep₁ _ fun acts => by rw [doInvoke_state]; exact hsteps.trans h⟩
  · exact Or.inr ⟨q, vm₁, B, X₁.warmed, X', hpost, hstep₁ _ fun acts => by rw [doInvoke_state]; exact hsteps⟩
theorem vx_callVW (X : Stand p l e R s m args below meth c T locs cells slots) (hexec : p.tables.exec = Jvm.exec) {own C : String} {index : Nat} {y : MethodName} {bytes : ByteArray} {maxL : Nat} {ret : Option FieldType} {hh : List (Nat × Nat × Nat × Nat)}
    (hown : s.vm.findClass own = some m.cls) (hlink : (Cond.methodLink own index y).before args s = true) (hinst : (Cond.instanceMethod y).before args s = true) (hsel : (Cond.selects C y y).before args s = true)
    (hcode : (Cond.codeWith y bytes maxL ret hh).before args s = true) (hy : y.cls ≠ "java/lang/invoke/MethodHandle" ∧ y.cls ≠ "java/lang/invoke/VarHandle")
    {W9 : Nat} {Pre : Pt → Array Value → Prop} {Post : Pt → Array Value → Option Value → Pt → Prop} (hK : Back l R p e below s args y 3 W9 Pre Post)
    {b : Addr} {cellB : Cell} (hcell : T.heap[b]? = some cellB) (hobj : cellB.vm.isStatics = false) (hcls : s.vm.findClass C = some cellB.cls)
    {g : JFrame} (hg : g.method = m) (hsize : g.locals.size = c.maxLocals) {argsL rest : List Value} (hlen : ∀ sig, parseMethodDescriptor y.desc = some sig → argsL.length = sig.parameters.length)
    (hstack : g.stack = argsL.reverse ++ .ref b :: rest) (hW : 2 * g.monitorRoom + (rest.map fun v => v.category).sum ≤ W9) (hdg : decode c.code g.pc = .ok (.invokevirtual index, 3))
    (hpre : ∀ vm₁, s.WarmedH vm₁ → Pre ⟨T.setVm vm₁, locs, cells, slots⟩ (Value.ref b :: argsL).toArray) :
    ∃ (v : Option Value) (vm₁ : Vm) (B : Pt), s.WarmedH vm₁ ∧ Stand p l e R s m args below meth c B.U B.locs B.cells B.slots ∧ Post ⟨T.setVm vm₁, locs, cells, slots⟩ (Value.ref b :: argsL).toArray v B ∧
      ∀ target, Steps p.tables e below (B.U.setTop { g with pc := g.pc + 3, stack := v.toList ++ rest }) target → Steps p.tables e below (T.setTop g) target := by
  obtain ⟨mk, methM, hnamed, hmethM, hstM, habM⟩ := Cond.instanceMethod_spec hinst
  obtain ⟨m8, methM', cM, hn8, hmethM', -, -, -, -, -, -, hsigM⟩ := Cond.codeWith_spec hcode
  cases Option.some.inj (hn8.symm.trans hnamed)
  cases hmethM.symm.trans hmethM'
  obtain ⟨c2, r2, m2, q1, q2, q3, q4, kP, hkP, hkPi⟩ := Cond.selects_spec hsel
  cases hcls.symm.trans q1
  cases (State.methodFound?_of_named hnamed hy).symm.trans q2
  cases hnamed.symm.trans q3
  have hselP : selectMethod e.platform s.vm cellB.cls mk = .method mk := by rw [Launch.admits_selectMethod X.admits]; exact q4
  obtain ⟨vm₁, X₁, hstep₁⟩ := X.invokevirtual hexec hown hlink hnamed hmethM hstM hkP hkPi hy (a := b) (cell := cellB) hcell
    (fun z h => by rw [h] at hobj; cases hobj) hselP hmethM habM hkP hkPi (g := g) hg (argsL := argsL) (rest := rest) (hlen _ hsigM) hstack hdg
  obtain ⟨v, B, X', hpost, hsteps⟩ := hK m meth c ⟨T.setVm vm₁, locs, cells, slots⟩ { g with stack := rest } (.invokevirtual index) mk (Value.ref b :: argsL).toArray X₁ hg hsize hdg hW (X₁.named hnamed) (hpre vm₁ X₁.warmed)
  exact ⟨v, vm₁, B, X₁.warmed, X', hpost, fun target h => hstep₁ _ fun acts => by rw [doInvoke_state]; exact hsteps.trans h⟩
abbrev vx_CVW (R : Room) (s : State) (args : Array Value) (own C : String) (index : Nat) (y : MethodName) (bytes : ByteArray) (maxL : Nat) (ret : Option FieldType) (hh : List (Nat × Nat × Nat × Nat)) (ws : List Cond) (rm : Room) (mc ms n : Nat) : Prop :=
  (rm.cells = mc ∧ rm.slots = ms ∧ rm.frames + 1 ≤ R.frames ∧ 8 + (maxL + 11) + rm.locals ≤ R.locals ∧ (∀ w ∈ ws, ∀ (a' : Array Value) (U : State), s.WarmedH U.vm → w.before a' U = true) ∧ Cond.codeWith y bytes maxL ret hh ∈ ws) ∧
  (Cond.codeWith y bytes maxL ret hh).before args s = true ∧ (Cond.initialized y.cls).before args s = true ∧ (y.cls ≠ "java/lang/invoke/MethodHandle" ∧ y.cls ≠ "java/lang/invoke/VarHandle") ∧
  (∀ sig, parseMethodDescriptor y.desc = some sig → n = sig.parameters.length) ∧ (Cond.methodLink own index y).before args s = true ∧ (Cond.instanceMethod y).before args s = true ∧ (Cond.selects C y y).before args s = true
theorem vx_cwVW {own C : String} {index maxL mc ms : Nat} {y : MethodName} {bytes : ByteArray} {ret : Option FieldType} {hh : List (Nat × Nat × Nat × Nat)} {Ts ws ws' : List Cond} {rm : Room} (n : Nat) (ht : ∀ w ∈ Ts, w.before args s = true) (hT : GoodIn Ts (wsV own index C y ws)) (hw : ws = Cond.codeWith y bytes maxL ret hh :: ws') (hrc : rm.cells = mc) (hrs : rm.slots = ms)
    (hd : y.cls = C ∧ y.cls ≠ "java/lang/invoke/MethodHandle" ∧ y.cls ≠ "java/lang/invoke/VarHandle" ∧ (parseMethodDescriptor y.desc).map (fun d => d.parameters.length) = some n) (hR : rm.frames + 1 ≤ R.frames ∧ 8 + (maxL + 11) + rm.locals ≤ R.locals) :
    vx_CVW R s args own C index y bytes maxL ret hh ws rm mc ms n := by
  obtain ⟨hC, hd⟩ := hd
  subst hC
  have ok : ∀ w ∈ wsV own index y.cls y ws, w.before args s = true := fun w h => ht w (hT w h).1
  have hG : GoodIn Ts ws := fun w h => hT w (by unfold wsV; exact List.mem_append_right _ h)
  have hc : Cond.codeWith y bytes maxL ret hh ∈ ws := by rw [hw]; exact List.mem_cons_self
  refine ⟨⟨hrc, hrs, hR.1, hR.2, pay_in ht hG, hc⟩, ht _ (hG _ hc).1, ok _ (by simp [wsV]), ⟨hd.1, hd.2.1⟩, fun sig h => ?_, ok _ (by simp [wsV]), ok _ (by simp [wsV]), ok _ (by simp [wsV])⟩
  have h2 := hd.2.2
  rw [h] at h2
  exact (Option.some.inj h2).symm
theorem vx_runVW {y : MethodName} {bytes cc : ByteArray} {maxL nL mc ms n index : Nat} {ret : Option FieldType} {hh : List (Nat × Nat × Nat × Nat)} {ws : List Cond} {rm : Room} {Pc : Array Value → State → Prop} {Qc : Array Value → State → Outcome → State → Prop} {free : Addr → Prop} {Ts : List Cond} {own C : String} {b : Addr} {As rest : List Value} {g : JFrame}
    (S : CallFix p m c cc nL s args Ts own) (hM : Met l y ws rm Pc Qc mc ms free) (cw : vx_CVW R s args own C index y bytes maxL ret hh ws rm mc ms n) (hp : PreV s H C b Pc As)
    (hg : g.method = m) (hn : As.length = n) (hsize : g.locals.size = nL) (hstack : g.stack = As.reverse ++ .ref b :: rest) (hW : 2 * g.monitorRoom + (rest.map fun v => v.category).sum ≤ 8) (hdg : decode cc g.pc = .ok (.invokevirtual index, 3)) (hf : cells + mc ≤ R.cells ∧ slots + ms ≤ R.slots) :
    va_Run p l e R s m args below meth c H locs cells slots mc ms g rest (Qc (Value.ref b :: As).toArray) free := by
  obtain ⟨⟨hrc, hrs, hfr, hlo, hws, hcw⟩, hcode, hini, hy, hlen, hl, hin, hse⟩ := cw
  have hK : Back l R p e below s args y 3 8 (PreOf R mc ms Pc) (PostOf Qc mc ms free) := va_backW (hh := hh) (bytes := bytes) (maxL := maxL) (ret := ret) hM hp.1 hrc hrs hfr hlo hws hcw (fun a' U hW => word_at hW (Or.inl (by first | rfl | simp [Cond.onTables, Cond.keeps, Cond.steady])) hini)
  obtain ⟨hx, hb, hml, ho, -⟩ := S
  obtain ⟨-, ⟨cellB, hcB, hoB, hclB⟩, hPc⟩ := hp
  intro T hT X
  obtain ⟨v, vm₁, ⟨U', l2, c2, s2⟩, hW₁, X', ⟨g', mk, t, L, e1, e2, hq, h1, hL, h2, h3⟩, st⟩ := vx_callVW X hx (C := C) (hh := hh) (bytes := bytes) (maxL := maxL) (ret := ret) ho hl hin hse hcode hy hK (by rw [hT]; exact hcB) hoB hclB hg (hsize.trans hml.symm) (argsL := As) (rest := rest) (fun sig h => hn.trans (hlen sig h)) hstack hW (by rw [hb]; exact hdg)
    (fun vm₁ hW₁ => ⟨hf.1, hf.2, hPc (T.setVm vm₁) hT hW₁⟩)
  dsimp only [Pt.U, Pt.locs, Pt.cells, Pt.slots] at X' e1 e2 h1 h2 h3 st
  subst h1; subst h2; subst h3
  exact ⟨v, (T.setVm vm₁).calling g' mk (Value.ref b :: As).toArray, t, U', L, hT, X', hL, e1, e2, hq, st⟩
section
variable {y : MethodName} {bytes cc : ByteArray} {maxL nL mc ms n index : Nat} {ret : Option FieldType} {ws : List Cond} {rm : Room} {Pc : Array Value → State → Prop} {Qc : Array Value → State → Outcome → State → Prop} {XC : String → State → State → Prop} {free : Addr → Prop} {Ts : List Cond} {own C : String} {b : Addr} {As rest : List Value} {g : JFrame}
theorem vx_runVX {hh : List (Nat × Nat × Nat × Nat)} (S : CallFix p m c cc nL s args Ts own) (hM : vx_Met l y ws rm Pc Qc XC mc ms free) (cw : vx_CVW R s args own C index y bytes maxL ret hh ws rm mc ms n) (hp : PreV s H C b Pc As)
    (hg : g.method = m) (hn : As.length = n) (hsize : g.locals.size = nL) (hstack : g.stack = As.reverse ++ .ref b :: rest) (hW : 2 * g.monitorRoom + (rest.map fun v => v.category).sum ≤ 8) (hdg : decode cc g.pc = .ok (.invokevirtual index, 3)) (hf : cells + mc ≤ R.cells ∧ slots + ms ≤ R.slots) :
    vx_Run p l e R s m args below meth c H locs cells slots mc ms g rest (Qc (Value.ref b :: As).toArray) XC free := by
  obtain ⟨⟨hrc, hrs, hfr, hlo, hws, hcw⟩, hcode, hini, hy, hlen, hl, hin, hse⟩ := cw
  have hK : vx_Back l R p e below s args y 3 8 (PreOf R mc ms Pc) (PostOf Qc mc ms free) (vx_Post XC mc ms free) := vx_backW (hh := hh) (bytes := bytes) (maxL := maxL) (ret := ret) hM hp.1 hrc hrs hfr hlo hws hcw (fun a' U hW => word_at hW (Or.inl (by first | rfl | simp [Cond.onTables, Cond.keeps, Cond.steady])) hini)
  obtain ⟨hx, hb, hml, ho, -⟩ := S
  obtain ⟨-, ⟨cellB, hcB, hoB, hclB⟩, hPc⟩ := hp
  intro T hT X
  rcases vx_callVX X hx (C := C) (hh := hh) (bytes := bytes) (maxL := maxL) (ret := ret) ho hl hin hse hcode hy hK (by rw [hT]; exact hcB) hoB hclB hg (hsize.trans hml.symm) (argsL := As) (rest := rest) (fun sig h => hn.trans (hlen sig h)) hstack hW (by rw [hb]; exact hdg)
    (fun vm₁ hW₁ => ⟨hf.1, hf.2, hPc (T.setVm vm₁) hT hW₁⟩) with ⟨v, vm₁, ⟨U', l2, c2, s2⟩, hW₁, X', ⟨g', mk, t, L, e1, e2, hq, h1, hL, h2, h3⟩, st⟩ | ⟨q, vm₁, ⟨U', l2, c2, s2⟩, hW₁, X', ⟨g', mk, t, L, E, ce, e1, e2, hq, hce, hcv, hcl, h1, hL, h2, h3⟩, st⟩
  · dsimp only [Pt.U, Pt.locs, Pt.cells, Pt.slots] at X' e1 e2 h1 h2 h3 st
    subst h1; subst h2; subst h3
    exact Or.inl ⟨v, (T.setVm vm₁).calling g' mk (Value.ref b :: As).toArray, t, U', L, hT, X', hL, e1, e2, hq, st⟩
  · dsimp only [Pt.U, Pt.locs, Pt.cells, Pt.slots] at X' e1 e2 h1 h2 h3 st hcl
    subst h1; subst h2; subst h3
    exact Or.inr ⟨q, (T.setVm vm₁).calling g' mk (Value.ref b :: As).toArray, t, U', L, E, ce, hT, X', hL, e1, e2, hq, hce, hcv, vx_cls hW₁ hcl, st⟩
theorem vx_runSX {hh : List (Nat × Nat × Nat × Nat)} (S : CallFix p m c cc nL s args Ts own) (hM : vx_Met l y ws rm Pc Qc XC mc ms free) (cw : vx_CSW R s args own index y bytes maxL ret hh ws rm mc ms n) (hp : PreS s H Pc As)
    (hg : g.method = m) (hn : As.length = n) (hsize : g.locals.size = nL) (hstack : g.stack = As.reverse ++ rest) (hW : 2 * g.monitorRoom + (rest.map fun v => v.category).sum ≤ 8) (hdg : decode cc g.pc = .ok (.invokestatic index, 3)) (hf : cells + mc ≤ R.cells ∧ slots + ms ≤ R.slots) :
    vx_Run p l e R s m args below meth c H locs cells slots mc ms g rest (Qc As.toArray) XC free := by
  obtain ⟨⟨hrc, hrs, hfr, hlo, hws, hcw⟩, hcode, hini, hy, hlen, hl, hstt⟩ := cw
  have hK : vx_Back l R p e below s args y 3 8 (PreOf R mc ms Pc) (PostOf Qc mc ms free) (vx_Post XC mc ms free) := vx_backW (hh := hh) (bytes := bytes) (maxL := maxL) (ret := ret) hM hp.1 hrc hrs hfr hlo hws hcw (fun a' U hW => word_at hW (Or.inl (by first | rfl | simp [Cond.onTables, Cond.keeps, Cond.steady])) hini)
  obtain ⟨hx, hb, hml, ho, -⟩ := S
  intro T hT X
  rcases vx_callSX X hx (hh := hh) (bytes := bytes) (maxL := maxL) (ret := ret) ho hl hstt hini hcode hy hK hg (hsize.trans hml.symm) (argsL := As) (rest := rest) (fun sig h => hn.trans (hlen sig h)) hstack hW (by rw [hb]; exact hdg)
    (fun vm₁ hW₁ => ⟨hf.1, hf.2, hp.2 (T.setVm vm₁) hT hW₁⟩) with ⟨v, vm₁, ⟨U', l2, c2, s2⟩, hW₁, X', ⟨g', mk, t, L, e1, e2, hq, h1, hL, h2, h3⟩, st⟩ | ⟨q, vm₁, ⟨U', l2, c2, s2⟩, hW₁, X', ⟨g', mk, t, L, E, ce, e1, e2, hq, hce, hcv, hcl, h1, hL, h2, h3⟩, st⟩
  · dsimp only [Pt.U, Pt.locs, Pt.cells, Pt.slots] at X' e1 e2 h1 h2 h3 st
    subst h1; subst h2; subst h3
    exact Or.inl ⟨v, (T.setVm vm₁).calling g' mk As.toArray, t, U', L, hT, X', hL, e1, e2, hq, st⟩
  · dsimp only [Pt.U, Pt.locs, Pt.cells, Pt.slots] at X' e1 e2 h1 h2 h3 st hcl
    subst h1; subst h2; subst h3
    exact Or.inr ⟨q, (T.setVm vm₁).calling g' mk As.toArray, t, U', L, E, ce, hT, X', hL, e1, e2, hq, hce, hcv, vx_cls hW₁ hcl, st⟩
end
end VXH
theorem vx_ofWH {l : Launch} {y : MethodName} {ws ws' : List Cond} {rm : Room} {Pc : Array Value → State → Prop} {Qc : Array Value → State → Outcome → State → Prop} {XC : String → State → State → Prop} {mc ms : Nat} {free : Addr → Prop} {cc : ByteArray} {maxL : Nat} {ret : Option FieldType} {hh : List (Nat × Nat × Nat × Nat)}
    (hy : plainName y.cls = true) (hw : ws = Cond.codeWith y cc maxL ret hh :: ws')
    (body : ∀ p e s m args below meth c s₁, BodyLoose p l y (headSpec ws rm) cc maxL ret e s m args below meth c s₁ → c.maxLocals = maxL → Pc args s →
      W p l e (headSpec ws rm).room s m args below meth c s.heap [] 0 0 (vx_MQ below Qc XC args s mc ms free) (entryFrame m args maxL)) : vx_Met l y ws rm Pc Qc XC mc ms free := by
  refine MetFree.of_bodyS (code := cc) (maxLocals := maxL) (ret := ret) hy ?_ ?_
  · intro args s m h hn
    obtain ⟨m9, meth, c, hn9, h1, h2, h3, h4, -, h5, h6, -⟩ := Cond.codeWith_spec (atoms_spec (ws := ws) h _ (by rw [hw]; exact List.mem_cons_self))
    cases hn.symm.trans hn9
    exact ⟨meth, c, h1, h2, h3, h4, h5, h6⟩
  · intro p e s m args below meth c s₁ B hml hP _
    have hh0 : s₁.heap = s.heap := by rw [B.state]; rfl
    obtain ⟨t, a1, o, b1, b2, b3⟩ := body p e s m args below meth c s₁ B hml hP s₁ hh0 (Stand.of_body B)
    exact ⟨t, o, a1, b1, b2, b3⟩
/-! ===== END ===== -/
end
section
/-! ===== BEGIN printed: names, fields, word lists, decode rows ===== -/
def RX0 : String := "ReplayHouse$AskBook"
def TX0 : u_T := fun k => match k with
  | 0 => ("ReplayHouse$AskBook", "kinds", "[I", true)
  | 1 => ("ReplayHouse$AskBook", "firsts", "[I", true)
  | 2 => ("ReplayHouse$AskBook", "seconds", "[I", true)
  | 3 => ("ReplayHouse$AskBook", "ticks", "[I", true)
  | 4 => ("ReplayHouse$AskBook", "causes", "[I", true)
  | 5 => ("ReplayHouse$AskBook", "causeFields", "[I", true)
  | 6 => ("ReplayHouse$AskBook", "order", "[I", true)
  | _ => ("ReplayHouse$AskBook", "size", "I", false)
def tyX0 : Nat → FieldType := fun k => match k with
  | 0 => .array .int
  | 1 => .array .int
  | 2 => .array .int
  | 3 => .array .int
  | 4 => .array .int
  | 5 => .array .int
  | 6 => .array .int
  | _ => .int
abbrev wsX00 : List Cond := u_ws RX0 TX0 8
theorem nmX0 : ∀ a, a < 8 → ∀ b, b < 8 → a ≠ b → (TX0 a).2.1 ≠ (TX0 b).2.1 := by decide +kernel
theorem tyX0_ok : ∀ k, k < 8 → parseFieldDescriptor (TX0 k).2.2.1 = some (tyX0 k) := by decide +kernel
abbrev cX0_init : ByteArray := prog_2_method_1_code
def yX0_init : MethodName := ⟨RX0, "<init>", "()V"⟩
abbrev cX0_write : ByteArray := prog_2_method_2_code
def yX0_write : MethodName := ⟨RX0, "write", "(IIII)I"⟩
abbrev cX0_placeOf : ByteArray := prog_2_method_3_code
def yX0_placeOf : MethodName := ⟨RX0, "placeOf", "(I)I"⟩
def RX1 : String := "ReplayHouse$Reader"
def TX1 : u_T := fun k => match k with
  | 0 => ("ReplayHouse$Reader", "signs", "[I", true)
  | 1 => ("ReplayHouse$Reader", "bytes", "[I", false)
  | 2 => ("ReplayHouse$Reader", "length", "I", false)
  | 3 => ("ReplayHouse$Reader", "at", "I", false)
  | 4 => ("ReplayHouse$Reader", "used", "I", false)
  | _ => ("ReplayHouse$Reader", "steps", "I", false)
def tyX1 : Nat → FieldType := fun k => match k with
  | 0 => .array .int
  | 1 => .array .int
  | 2 => .int
  | 3 => .int
  | 4 => .int
  | _ => .int
abbrev wsX10 : List Cond := u_ws RX1 TX1 6
theorem nmX1 : ∀ a, a < 6 → ∀ b, b < 6 → a ≠ b → (TX1 a).2.1 ≠ (TX1 b).2.1 := by decide +kernel
theorem tyX1_ok : ∀ k, k < 6 → parseFieldDescriptor (TX1 k).2.2.1 = some (tyX1 k) := by decide +kernel
abbrev cX1_init : ByteArray := prog_3_method_1_code
def yX1_init : MethodName := ⟨RX1, "<init>", "()V"⟩
abbrev cX1_understands : ByteArray := prog_3_method_2_code
def yX1_understands : MethodName := ⟨RX1, "understands", "([II)Z"⟩
abbrev cX1_place : ByteArray := prog_3_method_3_code
def yX1_place : MethodName := ⟨RX1, "place", "()I"⟩
abbrev cX1_script : ByteArray := prog_3_method_4_code
def yX1_script : MethodName := ⟨RX1, "script", "()LReplayHouse$Script;"⟩
abbrev cX1_readSteps : ByteArray := prog_3_method_5_code
def yX1_readSteps : MethodName := ⟨RX1, "readSteps", "(I)Z"⟩
abbrev cX1_readStep : ByteArray := prog_3_method_6_code
def yX1_readStep : MethodName := ⟨RX1, "readStep", "(I)Z"⟩
abbrev cX1_readWhen : ByteArray := prog_3_method_7_code
def yX1_readWhen : MethodName := ⟨RX1, "readWhen", "(II)Z"⟩
abbrev cX1_readCompare : ByteArray := prog_3_method_8_code
def yX1_readCompare : MethodName := ⟨RX1, "readCompare", "(I)Z"⟩
abbrev cX1_readSum : ByteArray := prog_3_method_9_code
def yX1_readSum : MethodName := ⟨RX1, "readSum", "(I)Z"⟩
abbrev cX1_joinFor : ByteArray := prog_3_method_10_code
def yX1_joinFor : MethodName := ⟨RX1, "joinFor", "(I)I"⟩
abbrev cX1_readTerm : ByteArray := prog_3_method_11_code
def yX1_readTerm : MethodName := ⟨RX1, "readTerm", "(I)Z"⟩
abbrev cX1_readNumber : ByteArray := prog_3_method_12_code
def yX1_readNumber : MethodName := ⟨RX1, "readNumber", "()Z"⟩
abbrev cX1_skipBlanks : ByteArray := prog_3_method_13_code
def yX1_skipBlanks : MethodName := ⟨RX1, "skipBlanks", "()V"⟩
abbrev cX1_takeSign : ByteArray := prog_3_method_14_code
def yX1_takeSign : MethodName := ⟨RX1, "takeSign", "(C)Z"⟩
abbrev cX1_takeWord : ByteArray := prog_3_method_15_code
def yX1_takeWord : MethodName := ⟨RX1, "takeWord", "(Ljava/lang/String;)Z"⟩
abbrev cX1_byteAt : ByteArray := prog_3_method_16_code
def yX1_byteAt : MethodName := ⟨RX1, "byteAt", "(I)I"⟩
abbrev cX1_isDigit : ByteArray := prog_3_method_17_code
def yX1_isDigit : MethodName := ⟨RX1, "isDigit", "(I)Z"⟩
abbrev cX1_isLetter : ByteArray := prog_3_method_18_code
def yX1_isLetter : MethodName := ⟨RX1, "isLetter", "(I)Z"⟩
abbrev cX1_lay : ByteArray := prog_3_method_19_code
def yX1_lay : MethodName := ⟨RX1, "lay", "(II)Z"⟩
def RX2 : String := "ReplayHouse$Run"
def TX2 : u_T := fun k => match k with
  | 0 => ("ReplayHouse$Run", "values", "[I", true)
  | 1 => ("ReplayHouse$Run", "answers", "[I", true)
  | 2 => ("ReplayHouse$Run", "lengths", "[I", true)
  | 3 => ("ReplayHouse$Run", "reads", "[I", true)
  | 4 => ("ReplayHouse$Run", "writes", "[I", true)
  | 5 => ("ReplayHouse$Run", "steps", "[I", true)
  | 6 => ("ReplayHouse$Run", "isDone", "[Z", true)
  | 7 => ("ReplayHouse$Run", "stepsOfKinds", "[I", true)
  | 8 => ("ReplayHouse$Run", "outsideCalls", "I", false)
  | 9 => ("ReplayHouse$Run", "kept", "[I", true)
  | 10 => ("ReplayHouse$Run", "markedValues", "[I", true)
  | 11 => ("ReplayHouse$Run", "stack", "[I", true)
  | 12 => ("ReplayHouse$Run", "markedId", "I", false)
  | 13 => ("ReplayHouse$Run", "latestId", "I", false)
  | 14 => ("ReplayHouse$Run", "top", "I", false)
  | 15 => ("ReplayHouse$Run", "now", "I", false)
  | 16 => ("ReplayHouse$Run", "first", "I", false)
  | _ => ("ReplayHouse$Run", "second", "I", false)
def tyX2 : Nat → FieldType := fun k => match k with
  | 0 => .array .int
  | 1 => .array .int
  | 2 => .array .int
  | 3 => .array .int
  | 4 => .array .int
  | 5 => .array .int
  | 6 => .array .boolean
  | 7 => .array .int
  | 8 => .int
  | 9 => .array .int
  | 10 => .array .int
  | 11 => .array .int
  | 12 => .int
  | 13 => .int
  | 14 => .int
  | 15 => .int
  | 16 => .int
  | _ => .int
abbrev wsX20 : List Cond := u_ws RX2 TX2 18
theorem nmX2 : ∀ a, a < 18 → ∀ b, b < 18 → a ≠ b → (TX2 a).2.1 ≠ (TX2 b).2.1 := by decide +kernel
theorem tyX2_ok : ∀ k, k < 18 → parseFieldDescriptor (TX2 k).2.2.1 = some (tyX2 k) := by decide +kernel
abbrev cX2_init : ByteArray := prog_4_method_1_code
def yX2_init : MethodName := ⟨RX2, "<init>", "()V"⟩
abbrev cX2_start : ByteArray := prog_4_method_2_code
def yX2_start : MethodName := ⟨RX2, "start", "([I[II)V"⟩
abbrev cX2_mark : ByteArray := prog_4_method_3_code
def yX2_mark : MethodName := ⟨RX2, "mark", "()V"⟩
abbrev cX2_backToMark : ByteArray := prog_4_method_4_code
def yX2_backToMark : MethodName := ⟨RX2, "backToMark", "()V"⟩
abbrev cX2_has : ByteArray := prog_4_method_5_code
def yX2_has : MethodName := ⟨RX2, "has", "(II)Z"⟩
abbrev cX2_obey : ByteArray := prog_4_method_6_code
def yX2_obey : MethodName := ⟨RX2, "obey", "(LReplayHouse$Script;IIII)V"⟩
abbrev cX2_work : ByteArray := prog_4_method_7_code
def yX2_work : MethodName := ⟨RX2, "work", "(II)V"⟩
abbrev cX2_join : ByteArray := prog_4_method_8_code
def yX2_join : MethodName := ⟨RX2, "join", "(III)I"⟩
abbrev cX2_read : ByteArray := prog_4_method_9_code
def yX2_read : MethodName := ⟨RX2, "read", "(I)I"⟩
abbrev cX2_write : ByteArray := prog_4_method_10_code
def yX2_write : MethodName := ⟨RX2, "write", "(II)V"⟩
abbrev cX2_answer : ByteArray := prog_4_method_11_code
def yX2_answer : MethodName := ⟨RX2, "answer", "(I)V"⟩
abbrev cX2_push : ByteArray := prog_4_method_12_code
def yX2_push : MethodName := ⟨RX2, "push", "(I)V"⟩
abbrev cX2_pop : ByteArray := prog_4_method_13_code
def yX2_pop : MethodName := ⟨RX2, "pop", "()I"⟩
def RX3 : String := "ReplayHouse$Script"
def TX3 : u_T := fun k => match k with
  | 0 => ("ReplayHouse$Script", "signs", "[I", true)
  | _ => ("ReplayHouse$Script", "steps", "I", true)
def tyX3 : Nat → FieldType := fun k => match k with
  | 0 => .array .int
  | _ => .int
abbrev wsX30 : List Cond := u_ws RX3 TX3 2
theorem nmX3 : ∀ a, a < 2 → ∀ b, b < 2 → a ≠ b → (TX3 a).2.1 ≠ (TX3 b).2.1 := by decide +kernel
theorem tyX3_ok : ∀ k, k < 2 → parseFieldDescriptor (TX3 k).2.2.1 = some (tyX3 k) := by decide +kernel
abbrev cX3_init : ByteArray := prog_5_method_1_code
def yX3_init : MethodName := ⟨RX3, "<init>", "([II)V"⟩
def RX4 : String := "ReplayHouse"
def TX4 : u_T := fun k => match k with
  | 0 => ("ReplayHouse", "tape", "[I", true)
  | 1 => ("ReplayHouse", "begins", "[I", true)
  | 2 => ("ReplayHouse", "kept", "[I", true)
  | 3 => ("ReplayHouse", "noisy", "[Z", true)
  | 4 => ("ReplayHouse", "scripts", "[LReplayHouse$Script;", true)
  | 5 => ("ReplayHouse", "reader", "LReplayHouse$Reader;", true)
  | 6 => ("ReplayHouse", "book", "LReplayHouse$AskBook;", true)
  | 7 => ("ReplayHouse", "whole", "[LReplayHouse$Run;", true)
  | 8 => ("ReplayHouse", "trial", "[LReplayHouse$Run;", true)
  | 9 => ("ReplayHouse", "smallSets", "[I", true)
  | 10 => ("ReplayHouse", "smallKnown", "I", false)
  | 11 => ("ReplayHouse", "runsKnown", "Z", false)
  | _ => ("ReplayHouse", "tapeLength", "I", false)
def tyX4 : Nat → FieldType := fun k => match k with
  | 0 => .array .int
  | 1 => .array .int
  | 2 => .array .int
  | 3 => .array .boolean
  | 4 => .array (.object "ReplayHouse$Script")
  | 5 => .object "ReplayHouse$Reader"
  | 6 => .object "ReplayHouse$AskBook"
  | 7 => .array (.object "ReplayHouse$Run")
  | 8 => .array (.object "ReplayHouse$Run")
  | 9 => .array .int
  | 10 => .int
  | 11 => .boolean
  | _ => .int
abbrev wsX40 : List Cond := u_ws RX4 TX4 13
theorem nmX4 : ∀ a, a < 13 → ∀ b, b < 13 → a ≠ b → (TX4 a).2.1 ≠ (TX4 b).2.1 := by decide +kernel
theorem tyX4_ok : ∀ k, k < 13 → parseFieldDescriptor (TX4 k).2.2.1 = some (tyX4 k) := by decide +kernel
abbrev cX4_init : ByteArray := prog_1_method_1_code
def yX4_init : MethodName := ⟨RX4, "<init>", "()V"⟩
abbrev cX4_feed : ByteArray := prog_1_method_2_code
def yX4_feed : MethodName := ⟨RX4, "feed", "(IIIII)I"⟩
abbrev cX4_text : ByteArray := prog_1_method_3_code
def yX4_text : MethodName := ⟨RX4, "text", "(III)I"⟩
abbrev cX4_begin : ByteArray := prog_1_method_4_code
def yX4_begin : MethodName := ⟨RX4, "begin", "(II)I"⟩
abbrev cX4_keep : ByteArray := prog_1_method_5_code
def yX4_keep : MethodName := ⟨RX4, "keep", "(II)I"⟩
abbrev cX4_ask : ByteArray := prog_1_method_6_code
def yX4_ask : MethodName := ⟨RX4, "ask", "(IIII)I"⟩
abbrev cX4_caused : ByteArray := prog_1_method_7_code
def yX4_caused : MethodName := ⟨RX4, "caused", "(III)I"⟩
abbrev cX4_fields : ByteArray := prog_1_method_8_code
def yX4_fields : MethodName := ⟨RX4, "fields", "(II)I"⟩
abbrev cX4_field : ByteArray := prog_1_method_9_code
def yX4_field : MethodName := ⟨RX4, "field", "(III)I"⟩
abbrev cX4_end : ByteArray := prog_1_method_10_code
def yX4_end : MethodName := ⟨RX4, "end", "(II)I"⟩
abbrev cX4_touched : ByteArray := prog_1_method_11_code
def yX4_touched : MethodName := ⟨RX4, "touched", "(III)I"⟩
abbrev cX4_calls : ByteArray := prog_1_method_12_code
def yX4_calls : MethodName := ⟨RX4, "calls", "(I)I"⟩
abbrev cX4_never : ByteArray := prog_1_method_13_code
def yX4_never : MethodName := ⟨RX4, "never", "(II)I"⟩
abbrev cX4_noise : ByteArray := prog_1_method_14_code
def yX4_noise : MethodName := ⟨RX4, "noise", "(IIZ)Z"⟩
abbrev cX4_learn : ByteArray := prog_1_method_15_code
def yX4_learn : MethodName := ⟨RX4, "learn", "()I"⟩
abbrev cX4_differs : ByteArray := prog_1_method_16_code
def yX4_differs : MethodName := ⟨RX4, "differs", "(I)I"⟩
abbrev cX4_shapes : ByteArray := prog_1_method_17_code
def yX4_shapes : MethodName := ⟨RX4, "shapes", "()I"⟩
abbrev cX4_shape : ByteArray := prog_1_method_18_code
def yX4_shape : MethodName := ⟨RX4, "shape", "(II)I"⟩
abbrev cX4_touch : ByteArray := prog_1_method_19_code
def yX4_touch : MethodName := ⟨RX4, "touch", "(II)Z"⟩
abbrev cX4_free : ByteArray := prog_1_method_20_code
def yX4_free : MethodName := ⟨RX4, "free", "(I)I"⟩
abbrev cX4_small : ByteArray := prog_1_method_21_code
def yX4_small : MethodName := ⟨RX4, "small", "(I)I"⟩
abbrev cX4_smallest : ByteArray := prog_1_method_22_code
def yX4_smallest : MethodName := ⟨RX4, "smallest", "(II)I"⟩
abbrev cX4_lag : ByteArray := prog_1_method_23_code
def yX4_lag : MethodName := ⟨RX4, "lag", "(III)I"⟩
abbrev cX4_count : ByteArray := prog_1_method_24_code
def yX4_count : MethodName := ⟨RX4, "count", "(I)I"⟩
abbrev cX4_checkVersion : ByteArray := prog_1_method_25_code
def yX4_checkVersion : MethodName := ⟨RX4, "checkVersion", "(I)V"⟩
abbrev cX4_checkKind : ByteArray := prog_1_method_26_code
def yX4_checkKind : MethodName := ⟨RX4, "checkKind", "(I)V"⟩
abbrev cX4_checkField : ByteArray := prog_1_method_27_code
def yX4_checkField : MethodName := ⟨RX4, "checkField", "(I)V"⟩
abbrev cX4_checkKey : ByteArray := prog_1_method_28_code
def yX4_checkKey : MethodName := ⟨RX4, "checkKey", "(I)V"⟩
abbrev cX4_checkAsk : ByteArray := prog_1_method_29_code
def yX4_checkAsk : MethodName := ⟨RX4, "checkAsk", "(I)V"⟩
abbrev cX4_layNumber : ByteArray := prog_1_method_30_code
def yX4_layNumber : MethodName := ⟨RX4, "layNumber", "(I)V"⟩
abbrev cX4_noisyFields : ByteArray := prog_1_method_31_code
def yX4_noisyFields : MethodName := ⟨RX4, "noisyFields", "()I"⟩
abbrev cX4_stepsOfTexts : ByteArray := prog_1_method_32_code
def yX4_stepsOfTexts : MethodName := ⟨RX4, "stepsOfTexts", "()I"⟩
abbrev cX4_forgetRuns : ByteArray := prog_1_method_33_code
def yX4_forgetRuns : MethodName := ⟨RX4, "forgetRuns", "()V"⟩
abbrev cX4_bringRuns : ByteArray := prog_1_method_34_code
def yX4_bringRuns : MethodName := ⟨RX4, "bringRuns", "()V"⟩
abbrev cX4_doAll : ByteArray := prog_1_method_35_code
def yX4_doAll : MethodName := ⟨RX4, "doAll", "(LReplayHouse$Run;II)V"⟩
abbrev cX4_doAsk : ByteArray := prog_1_method_36_code
def yX4_doAsk : MethodName := ⟨RX4, "doAsk", "(LReplayHouse$Run;II)V"⟩
abbrev cX4_learnFrom : ByteArray := prog_1_method_37_code
def yX4_learnFrom : MethodName := ⟨RX4, "learnFrom", "(ILReplayHouse$Run;LReplayHouse$Run;)I"⟩
abbrev cX4_whereDifferent : ByteArray := prog_1_method_38_code
def yX4_whereDifferent : MethodName := ⟨RX4, "whereDifferent", "(I[LReplayHouse$Run;)I"⟩
abbrev cX4_shapeOf : ByteArray := prog_1_method_39_code
def yX4_shapeOf : MethodName := ⟨RX4, "shapeOf", "(I)I"⟩
abbrev cX4_lowestOfShape : ByteArray := prog_1_method_40_code
def yX4_lowestOfShape : MethodName := ⟨RX4, "lowestOfShape", "(I)I"⟩
abbrev cX4_asksOfShape : ByteArray := prog_1_method_41_code
def yX4_asksOfShape : MethodName := ⟨RX4, "asksOfShape", "(I)I"⟩
abbrev cX4_areTouching : ByteArray := prog_1_method_42_code
def yX4_areTouching : MethodName := ⟨RX4, "areTouching", "(II)Z"⟩
abbrev cX4_isIn : ByteArray := prog_1_method_43_code
def yX4_isIn : MethodName := ⟨RX4, "isIn", "(III)Z"⟩
abbrev cX4_smallSet : ByteArray := prog_1_method_44_code
def yX4_smallSet : MethodName := ⟨RX4, "smallSet", "(I)I"⟩
abbrev cX4_doAlwaysIn : ByteArray := prog_1_method_45_code
def yX4_doAlwaysIn : MethodName := ⟨RX4, "doAlwaysIn", "(I)V"⟩
abbrev cX4_isDifferentWith : ByteArray := prog_1_method_46_code
def yX4_isDifferentWith : MethodName := ⟨RX4, "isDifferentWith", "(III)Z"⟩
def RX5 : String := "ReplayHouseModel"
def TX5 : u_T := fun k => match k with
  | 0 => ("ReplayHouseModel", "thrown", "I", false)
  | 1 => ("ReplayHouseModel", "taped", "I", false)
  | 2 => ("ReplayHouseModel", "size", "I", false)
  | 3 => ("ReplayHouseModel", "at", "I", false)
  | 4 => ("ReplayHouseModel", "bad", "I", false)
  | 5 => ("ReplayHouseModel", "codes", "I", false)
  | 6 => ("ReplayHouseModel", "statements", "I", false)
  | 7 => ("ReplayHouseModel", "whens", "I", false)
  | 8 => ("ReplayHouseModel", "opens", "I", false)
  | 9 => ("ReplayHouseModel", "tape", "[I", true)
  | 10 => ("ReplayHouseModel", "code", "[I", true)
  | 11 => ("ReplayHouseModel", "codeNumber", "[I", true)
  | 12 => ("ReplayHouseModel", "store", "[I", true)
  | 13 => ("ReplayHouseModel", "storeNumber", "[I", true)
  | 14 => ("ReplayHouseModel", "storeSize", "[I", true)
  | 15 => ("ReplayHouseModel", "sMany", "[I", true)
  | 16 => ("ReplayHouseModel", "asks", "I", false)
  | 17 => ("ReplayHouseModel", "begins", "[I", true)
  | 18 => ("ReplayHouseModel", "kept", "[I", true)
  | 19 => ("ReplayHouseModel", "kind", "[I", true)
  | 20 => ("ReplayHouseModel", "askA", "[I", true)
  | 21 => ("ReplayHouseModel", "askB", "[I", true)
  | 22 => ("ReplayHouseModel", "tick", "[I", true)
  | 23 => ("ReplayHouseModel", "by", "[I", true)
  | 24 => ("ReplayHouseModel", "byField", "[I", true)
  | 25 => ("ReplayHouseModel", "line", "[I", true)
  | 26 => ("ReplayHouseModel", "length", "[I", true)
  | 27 => ("ReplayHouseModel", "fields", "[I", true)
  | 28 => ("ReplayHouseModel", "reads", "[I", true)
  | 29 => ("ReplayHouseModel", "writes", "[I", true)
  | 30 => ("ReplayHouseModel", "done", "[I", true)
  | 31 => ("ReplayHouseModel", "keys", "[I", true)
  | 32 => ("ReplayHouseModel", "stack", "[I", true)
  | 33 => ("ReplayHouseModel", "isDone", "[Z", true)
  | 34 => ("ReplayHouseModel", "ran", "[Z", true)
  | 35 => ("ReplayHouseModel", "lines", "I", false)
  | 36 => ("ReplayHouseModel", "latest", "I", false)
  | 37 => ("ReplayHouseModel", "called", "I", false)
  | 38 => ("ReplayHouseModel", "stacked", "I", false)
  | 39 => ("ReplayHouseModel", "isNoise", "[Z", true)
  | 40 => ("ReplayHouseModel", "otherLength", "[I", true)
  | 41 => ("ReplayHouseModel", "otherFields", "[I", true)
  | 42 => ("ReplayHouseModel", "where", "[I", true)
  | 43 => ("ReplayHouseModel", "smallMany", "I", false)
  | 44 => ("ReplayHouseModel", "smallBits", "I", false)
  | 45 => ("ReplayHouseModel", "tenFrom", "I", false)
  | _ => ("ReplayHouseModel", "tenMany", "I", false)
def tyX5 : Nat → FieldType := fun k => match k with
  | 0 => .int
  | 1 => .int
  | 2 => .int
  | 3 => .int
  | 4 => .int
  | 5 => .int
  | 6 => .int
  | 7 => .int
  | 8 => .int
  | 9 => .array .int
  | 10 => .array .int
  | 11 => .array .int
  | 12 => .array .int
  | 13 => .array .int
  | 14 => .array .int
  | 15 => .array .int
  | 16 => .int
  | 17 => .array .int
  | 18 => .array .int
  | 19 => .array .int
  | 20 => .array .int
  | 21 => .array .int
  | 22 => .array .int
  | 23 => .array .int
  | 24 => .array .int
  | 25 => .array .int
  | 26 => .array .int
  | 27 => .array .int
  | 28 => .array .int
  | 29 => .array .int
  | 30 => .array .int
  | 31 => .array .int
  | 32 => .array .int
  | 33 => .array .boolean
  | 34 => .array .boolean
  | 35 => .int
  | 36 => .int
  | 37 => .int
  | 38 => .int
  | 39 => .array .boolean
  | 40 => .array .int
  | 41 => .array .int
  | 42 => .array .int
  | 43 => .int
  | 44 => .int
  | 45 => .int
  | _ => .int
abbrev wsX50 : List Cond := u_ws RX5 TX5 47
theorem nmX5 : ∀ a, a < 47 → ∀ b, b < 47 → a ≠ b → (TX5 a).2.1 ≠ (TX5 b).2.1 := by decide +kernel
theorem tyX5_ok : ∀ k, k < 47 → parseFieldDescriptor (TX5 k).2.2.1 = some (tyX5 k) := by decide +kernel
abbrev cX5_thrown : ByteArray := prog_7_method_1_code
def yX5_thrown : MethodName := ⟨RX5, "thrown", "()I"⟩
abbrev cX5_may : ByteArray := prog_7_method_2_code
def yX5_may : MethodName := ⟨RX5, "may", "(ZI)Z"⟩
abbrev cX5_within : ByteArray := prog_7_method_3_code
def yX5_within : MethodName := ⟨RX5, "within", "(III)Z"⟩
abbrev cX5_init : ByteArray := prog_7_method_4_code
def yX5_init : MethodName := ⟨RX5, "<init>", "()V"⟩
abbrev cX5_feed : ByteArray := prog_7_method_5_code
def yX5_feed : MethodName := ⟨RX5, "feed", "(IIIII)I"⟩
abbrev cX5_fine : ByteArray := prog_7_method_6_code
def yX5_fine : MethodName := ⟨RX5, "fine", "()Z"⟩
abbrev cX5_wrong : ByteArray := prog_7_method_7_code
def yX5_wrong : MethodName := ⟨RX5, "wrong", "(I)V"⟩
abbrev cX5_here : ByteArray := prog_7_method_8_code
def yX5_here : MethodName := ⟨RX5, "here", "()I"⟩
abbrev cX5_isSmall : ByteArray := prog_7_method_9_code
def yX5_isSmall : MethodName := ⟨RX5, "isSmall", "(I)Z"⟩
abbrev cX5_isDigit : ByteArray := prog_7_method_10_code
def yX5_isDigit : MethodName := ⟨RX5, "isDigit", "(I)Z"⟩
abbrev cX5_word : ByteArray := prog_7_method_11_code
def yX5_word : MethodName := ⟨RX5, "word", "()J"⟩
abbrev cX5_pass : ByteArray := prog_7_method_12_code
def yX5_pass : MethodName := ⟨RX5, "pass", "()V"⟩
abbrev cX5_emit : ByteArray := prog_7_method_13_code
def yX5_emit : MethodName := ⟨RX5, "emit", "(II)V"⟩
abbrev cX5_need : ByteArray := prog_7_method_14_code
def yX5_need : MethodName := ⟨RX5, "need", "(I)V"⟩
abbrev cX5_digits : ByteArray := prog_7_method_15_code
def yX5_digits : MethodName := ⟨RX5, "digits", "()V"⟩
abbrev cX5_simple : ByteArray := prog_7_method_16_code
def yX5_simple : MethodName := ⟨RX5, "simple", "()V"⟩
abbrev cX5_row : ByteArray := prog_7_method_17_code
def yX5_row : MethodName := ⟨RX5, "row", "()V"⟩
abbrev cX5_whole : ByteArray := prog_7_method_18_code
def yX5_whole : MethodName := ⟨RX5, "whole", "()V"⟩
abbrev cX5_statement : ByteArray := prog_7_method_19_code
def yX5_statement : MethodName := ⟨RX5, "statement", "()V"⟩
abbrev cX5_text : ByteArray := prog_7_method_20_code
def yX5_text : MethodName := ⟨RX5, "text", "(III)I"⟩
abbrev cX5_begin : ByteArray := prog_7_method_21_code
def yX5_begin : MethodName := ⟨RX5, "begin", "(II)I"⟩
abbrev cX5_keep : ByteArray := prog_7_method_22_code
def yX5_keep : MethodName := ⟨RX5, "keep", "(II)I"⟩
abbrev cX5_ask : ByteArray := prog_7_method_23_code
def yX5_ask : MethodName := ⟨RX5, "ask", "(IIII)I"⟩
abbrev cX5_isAsk : ByteArray := prog_7_method_24_code
def yX5_isAsk : MethodName := ⟨RX5, "isAsk", "(I)Z"⟩
abbrev cX5_isVersion : ByteArray := prog_7_method_25_code
def yX5_isVersion : MethodName := ⟨RX5, "isVersion", "(I)Z"⟩
abbrev cX5_caused : ByteArray := prog_7_method_26_code
def yX5_caused : MethodName := ⟨RX5, "caused", "(III)I"⟩
abbrev cX5_findLine : ByteArray := prog_7_method_27_code
def yX5_findLine : MethodName := ⟨RX5, "findLine", "()V"⟩
abbrev cX5_push : ByteArray := prog_7_method_28_code
def yX5_push : MethodName := ⟨RX5, "push", "(I)V"⟩
abbrev cX5_pop : ByteArray := prog_7_method_29_code
def yX5_pop : MethodName := ⟨RX5, "pop", "()I"⟩
abbrev cX5_does : ByteArray := prog_7_method_30_code
def yX5_does : MethodName := ⟨RX5, "does", "(II)V"⟩
abbrev cX5_run : ByteArray := prog_7_method_31_code
def yX5_run : MethodName := ⟨RX5, "run", "(III)V"⟩
abbrev cX5_runAll : ByteArray := prog_7_method_32_code
def yX5_runAll : MethodName := ⟨RX5, "runAll", "(II)V"⟩
abbrev cX5_fields : ByteArray := prog_7_method_33_code
def yX5_fields : MethodName := ⟨RX5, "fields", "(II)I"⟩
abbrev cX5_field : ByteArray := prog_7_method_34_code
def yX5_field : MethodName := ⟨RX5, "field", "(III)I"⟩
abbrev cX5_end : ByteArray := prog_7_method_35_code
def yX5_end : MethodName := ⟨RX5, "end", "(II)I"⟩
abbrev cX5_touched : ByteArray := prog_7_method_36_code
def yX5_touched : MethodName := ⟨RX5, "touched", "(III)I"⟩
abbrev cX5_calls : ByteArray := prog_7_method_37_code
def yX5_calls : MethodName := ⟨RX5, "calls", "(I)I"⟩
abbrev cX5_never : ByteArray := prog_7_method_38_code
def yX5_never : MethodName := ⟨RX5, "never", "(II)I"⟩
abbrev cX5_noise : ByteArray := prog_7_method_39_code
def yX5_noise : MethodName := ⟨RX5, "noise", "(IIZ)Z"⟩
abbrev cX5_keepAnswers : ByteArray := prog_7_method_40_code
def yX5_keepAnswers : MethodName := ⟨RX5, "keepAnswers", "()V"⟩
abbrev cX5_learn : ByteArray := prog_7_method_41_code
def yX5_learn : MethodName := ⟨RX5, "learn", "()I"⟩
abbrev cX5_unlike : ByteArray := prog_7_method_42_code
def yX5_unlike : MethodName := ⟨RX5, "unlike", "(I)I"⟩
abbrev cX5_runBoth : ByteArray := prog_7_method_43_code
def yX5_runBoth : MethodName := ⟨RX5, "runBoth", "(I)V"⟩
abbrev cX5_runBothAll : ByteArray := prog_7_method_44_code
def yX5_runBothAll : MethodName := ⟨RX5, "runBothAll", "()V"⟩
abbrev cX5_differs : ByteArray := prog_7_method_45_code
def yX5_differs : MethodName := ⟨RX5, "differs", "(I)I"⟩
abbrev cX5_findWheres : ByteArray := prog_7_method_46_code
def yX5_findWheres : MethodName := ⟨RX5, "findWheres", "()V"⟩
abbrev cX5_isLike : ByteArray := prog_7_method_47_code
def yX5_isLike : MethodName := ⟨RX5, "isLike", "(II)Z"⟩
abbrev cX5_isLowest : ByteArray := prog_7_method_48_code
def yX5_isLowest : MethodName := ⟨RX5, "isLowest", "(I)Z"⟩
abbrev cX5_shapes : ByteArray := prog_7_method_49_code
def yX5_shapes : MethodName := ⟨RX5, "shapes", "()I"⟩
abbrev cX5_shape : ByteArray := prog_7_method_50_code
def yX5_shape : MethodName := ⟨RX5, "shape", "(II)I"⟩
abbrev cX5_areTouching : ByteArray := prog_7_method_51_code
def yX5_areTouching : MethodName := ⟨RX5, "areTouching", "(II)Z"⟩
abbrev cX5_touch : ByteArray := prog_7_method_52_code
def yX5_touch : MethodName := ⟨RX5, "touch", "(II)Z"⟩
abbrev cX5_free : ByteArray := prog_7_method_53_code
def yX5_free : MethodName := ⟨RX5, "free", "(I)I"⟩
abbrev cX5_findSmall : ByteArray := prog_7_method_54_code
def yX5_findSmall : MethodName := ⟨RX5, "findSmall", "(I)Z"⟩
abbrev cX5_small : ByteArray := prog_7_method_55_code
def yX5_small : MethodName := ⟨RX5, "small", "(I)I"⟩
abbrev cX5_smallest : ByteArray := prog_7_method_56_code
def yX5_smallest : MethodName := ⟨RX5, "smallest", "(II)I"⟩
abbrev cX5_lag : ByteArray := prog_7_method_57_code
def yX5_lag : MethodName := ⟨RX5, "lag", "(III)I"⟩
abbrev cX5_count : ByteArray := prog_7_method_58_code
def yX5_count : MethodName := ⟨RX5, "count", "(I)I"⟩
def RJx8e188 : String := "java/lang/Cloneable"
def TJx8e188 : u_T := fun k => match k with
  | _ => ("", "", "", false)
def tyJx8e188 : Nat → FieldType := fun k => match k with
  | _ => .int
abbrev wsJx8e1880 : List Cond := u_ws RJx8e188 TJx8e188 0
theorem nmJx8e188 : ∀ a, a < 0 → ∀ b, b < 0 → a ≠ b → (TJx8e188 a).2.1 ≠ (TJx8e188 b).2.1 := by decide +kernel
theorem tyJx8e188_ok : ∀ k, k < 0 → parseFieldDescriptor (TJx8e188 k).2.2.1 = some (tyJx8e188 k) := by decide +kernel
def RJ6 : String := "java/lang/Integer"
def TJ6 : u_T := fun k => match k with
  | _ => ("", "", "", false)
def tyJ6 : Nat → FieldType := fun k => match k with
  | _ => .int
abbrev wsJ60 : List Cond := u_ws RJ6 TJ6 0
theorem nmJ6 : ∀ a, a < 0 → ∀ b, b < 0 → a ≠ b → (TJ6 a).2.1 ≠ (TJ6 b).2.1 := by decide +kernel
theorem tyJ6_ok : ∀ k, k < 0 → parseFieldDescriptor (TJ6 k).2.2.1 = some (tyJ6 k) := by decide +kernel
abbrev cJ6_bitCount_0f7a4 : ByteArray := prog_12_method_49_code
def yJ6_bitCount_0f7a4 : MethodName := ⟨RJ6, "bitCount", "(I)I"⟩
def RJ9 : String := "java/lang/Math"
def TJ9 : u_T := fun k => match k with
  | _ => ("", "", "", false)
def tyJ9 : Nat → FieldType := fun k => match k with
  | _ => .int
abbrev wsJ90 : List Cond := u_ws RJ9 TJ9 0
theorem nmJ9 : ∀ a, a < 0 → ∀ b, b < 0 → a ≠ b → (TJ9 a).2.1 ≠ (TJ9 b).2.1 := by decide +kernel
theorem tyJ9_ok : ∀ k, k < 0 → parseFieldDescriptor (TJ9 k).2.2.1 = some (tyJ9 k) := by decide +kernel
abbrev cJ9_max_7cf53 : ByteArray := prog_13_method_65_code
def yJ9_max_7cf53 : MethodName := ⟨RJ9, "max", "(II)I"⟩
abbrev cJ9_min_7cf53 : ByteArray := prog_13_method_69_code
def yJ9_min_7cf53 : MethodName := ⟨RJ9, "min", "(II)I"⟩
def RJ0 : String := "java/lang/String"
def TJ0 : u_T := fun k => match k with
  | _ => ("", "", "", false)
def tyJ0 : Nat → FieldType := fun k => match k with
  | _ => .int
abbrev wsJ00 : List Cond := u_ws RJ0 TJ0 0
theorem nmJ0 : ∀ a, a < 0 → ∀ b, b < 0 → a ≠ b → (TJ0 a).2.1 ≠ (TJ0 b).2.1 := by decide +kernel
theorem tyJ0_ok : ∀ k, k < 0 → parseFieldDescriptor (TJ0 k).2.2.1 = some (tyJ0 k) := by decide +kernel
abbrev cJ0_length_8abf5 : ByteArray := prog_15_method_54_code
def yJ0_length_8abf5 : MethodName := ⟨RJ0, "length", "()I"⟩
abbrev cJ0_charAt_5068e : ByteArray := prog_15_method_56_code
def yJ0_charAt_5068e : MethodName := ⟨RJ0, "charAt", "(I)C"⟩
abbrev cJ0_coder_7d493 : ByteArray := prog_15_method_152_code
def yJ0_coder_7d493 : MethodName := ⟨RJ0, "coder", "()B"⟩
abbrev cJ0_isLatin1_aae02 : ByteArray := prog_15_method_154_code
def yJ0_isLatin1_aae02 : MethodName := ⟨RJ0, "isLatin1", "()Z"⟩
abbrev cJ0_checkIndex_df160 : ByteArray := prog_15_method_155_code
def yJ0_checkIndex_df160 : MethodName := ⟨RJ0, "checkIndex", "(II)V"⟩
def RJ1 : String := "java/lang/StringLatin1"
def TJ1 : u_T := fun k => match k with
  | _ => ("", "", "", false)
def tyJ1 : Nat → FieldType := fun k => match k with
  | _ => .int
abbrev wsJ10 : List Cond := u_ws RJ1 TJ1 0
theorem nmJ1 : ∀ a, a < 0 → ∀ b, b < 0 → a ≠ b → (TJ1 a).2.1 ≠ (TJ1 b).2.1 := by decide +kernel
theorem tyJ1_ok : ∀ k, k < 0 → parseFieldDescriptor (TJ1 k).2.2.1 = some (tyJ1 k) := by decide +kernel
abbrev cJ1_charAt_3b067 : ByteArray := prog_16_method_2_code
def yJ1_charAt_3b067 : MethodName := ⟨RJ1, "charAt", "([BI)C"⟩
def RJ2 : String := "java/lang/StringUTF16"
def TJ2 : u_T := fun k => match k with
  | _ => ("", "", "", false)
def tyJ2 : Nat → FieldType := fun k => match k with
  | _ => .int
abbrev wsJ20 : List Cond := u_ws RJ2 TJ2 0
theorem nmJ2 : ∀ a, a < 0 → ∀ b, b < 0 → a ≠ b → (TJ2 a).2.1 ≠ (TJ2 b).2.1 := by decide +kernel
theorem tyJ2_ok : ∀ k, k < 0 → parseFieldDescriptor (TJ2 k).2.2.1 = some (tyJ2 k) := by decide +kernel
abbrev cJ2_getChar_3b067 : ByteArray := prog_17_method_5_code
def yJ2_getChar_3b067 : MethodName := ⟨RJ2, "getChar", "([BI)C"⟩
abbrev cJ2_length_9d52b : ByteArray := prog_17_method_6_code
def yJ2_length_9d52b : MethodName := ⟨RJ2, "length", "([B)I"⟩
abbrev cJ2_charAt_3b067 : ByteArray := prog_17_method_83_code
def yJ2_charAt_3b067 : MethodName := ⟨RJ2, "charAt", "([BI)C"⟩
abbrev cJ2_checkIndex_2214a : ByteArray := prog_17_method_91_code
def yJ2_checkIndex_2214a : MethodName := ⟨RJ2, "checkIndex", "(I[B)V"⟩
def RJ10 : String := "java/lang/System"
def TJ10 : u_T := fun k => match k with
  | _ => ("", "", "", false)
def tyJ10 : Nat → FieldType := fun k => match k with
  | _ => .int
abbrev wsJ100 : List Cond := u_ws RJ10 TJ10 0
theorem nmJ10 : ∀ a, a < 0 → ∀ b, b < 0 → a ≠ b → (TJ10 a).2.1 ≠ (TJ10 b).2.1 := by decide +kernel
theorem tyJ10_ok : ∀ k, k < 0 → parseFieldDescriptor (TJ10 k).2.2.1 = some (tyJ10 k) := by decide +kernel
def RJ7 : String := "java/util/Arrays"
def TJ7 : u_T := fun k => match k with
  | _ => ("", "", "", false)
def tyJ7 : Nat → FieldType := fun k => match k with
  | _ => .int
abbrev wsJ70 : List Cond := u_ws RJ7 TJ7 0
theorem nmJ7 : ∀ a, a < 0 → ∀ b, b < 0 → a ≠ b → (TJ7 a).2.1 ≠ (TJ7 b).2.1 := by decide +kernel
theorem tyJ7_ok : ∀ k, k < 0 → parseFieldDescriptor (TJ7 k).2.2.1 = some (tyJ7 k) := by decide +kernel
abbrev cJ7_fill_53178 : ByteArray := prog_20_method_103_code
def yJ7_fill_53178 : MethodName := ⟨RJ7, "fill", "([II)V"⟩
abbrev cJ7_copyOf_59c91 : ByteArray := prog_20_method_123_code
def yJ7_copyOf_59c91 : MethodName := ⟨RJ7, "copyOf", "([II)[I"⟩
def RJ3 : String := "jdk/internal/util/Preconditions"
def TJ3 : u_T := fun k => match k with
  | _ => ("", "", "", false)
def tyJ3 : Nat → FieldType := fun k => match k with
  | _ => .int
abbrev wsJ30 : List Cond := u_ws RJ3 TJ3 0
theorem nmJ3 : ∀ a, a < 0 → ∀ b, b < 0 → a ≠ b → (TJ3 a).2.1 ≠ (TJ3 b).2.1 := by decide +kernel
theorem tyJ3_ok : ∀ k, k < 0 → parseFieldDescriptor (TJ3 k).2.2.1 = some (tyJ3 k) := by decide +kernel
abbrev cJ3_checkIndex_8e157 : ByteArray := prog_22_method_11_code
def yJ3_checkIndex_8e157 : MethodName := ⟨RJ3, "checkIndex", "(IILjava/util/function/BiFunction;)I"⟩
def RL : String := "ReplayHouseLaw"
abbrev cL_text : ByteArray := method_3_code
def yL_text : MethodName := ⟨RL, "text", "(LReplayHouse;III[J)I"⟩
abbrev cL_begin : ByteArray := method_4_code
def yL_begin : MethodName := ⟨RL, "begin", "(LReplayHouse;II[J)I"⟩
abbrev cL_keep : ByteArray := method_5_code
def yL_keep : MethodName := ⟨RL, "keep", "(LReplayHouse;II[J)I"⟩
abbrev cL_ask : ByteArray := method_6_code
def yL_ask : MethodName := ⟨RL, "ask", "(LReplayHouse;IIII[J)I"⟩
abbrev cL_caused : ByteArray := method_7_code
def yL_caused : MethodName := ⟨RL, "caused", "(LReplayHouse;III[J)I"⟩
abbrev cL_fields : ByteArray := method_8_code
def yL_fields : MethodName := ⟨RL, "fields", "(LReplayHouse;II[J)I"⟩
abbrev cL_field : ByteArray := method_9_code
def yL_field : MethodName := ⟨RL, "field", "(LReplayHouse;III[J)I"⟩
abbrev cL_end : ByteArray := method_10_code
def yL_end : MethodName := ⟨RL, "end", "(LReplayHouse;II[J)I"⟩
abbrev cL_touched : ByteArray := method_11_code
def yL_touched : MethodName := ⟨RL, "touched", "(LReplayHouse;III[J)I"⟩
abbrev cL_calls : ByteArray := method_12_code
def yL_calls : MethodName := ⟨RL, "calls", "(LReplayHouse;I[J)I"⟩
abbrev cL_never : ByteArray := method_13_code
def yL_never : MethodName := ⟨RL, "never", "(LReplayHouse;II[J)I"⟩
abbrev cL_noise : ByteArray := method_14_code
def yL_noise : MethodName := ⟨RL, "noise", "(LReplayHouse;IIZ[J)I"⟩
abbrev cL_differs : ByteArray := method_15_code
def yL_differs : MethodName := ⟨RL, "differs", "(LReplayHouse;I[J)I"⟩
abbrev cL_shape : ByteArray := method_16_code
def yL_shape : MethodName := ⟨RL, "shape", "(LReplayHouse;II[J)I"⟩
abbrev cL_touch : ByteArray := method_17_code
def yL_touch : MethodName := ⟨RL, "touch", "(LReplayHouse;II[J)I"⟩
abbrev cL_free : ByteArray := method_18_code
def yL_free : MethodName := ⟨RL, "free", "(LReplayHouse;I[J)I"⟩
abbrev cL_small : ByteArray := method_19_code
def yL_small : MethodName := ⟨RL, "small", "(LReplayHouse;I[J)I"⟩
abbrev cL_smallest : ByteArray := method_20_code
def yL_smallest : MethodName := ⟨RL, "smallest", "(LReplayHouse;II[J)I"⟩
abbrev cL_lag : ByteArray := method_21_code
def yL_lag : MethodName := ⟨RL, "lag", "(LReplayHouse;III[J)I"⟩
abbrev cL_law : ByteArray := code
def yL_law : MethodName := ⟨RL, "law", "([I)Z"⟩
end
section
/-! ===== the pure machine: its state, its values, its tables ===== -/
/-- an object's ints by field, its arrays by field -/
abbrev zLS : Type := (Nat → Int32) × (Nat → Nat → Int32)
/-- kind of object, number, its state -/
abbrev zSG : Type := Nat → Nat → zLS
/-- an int, a reference (kind, number, 0 or field + 1), a long -/
abbrev zVV : Type := Int32 ⊕ ((Nat × Nat × Nat) ⊕ Int64)
abbrev zAD : Type := Nat → Nat → Nat → Nat
abbrev zRR : Type := (Option zVV ⊕ Nat) × zSG
abbrev zLC : Type := List (Nat × zVV)
abbrev zCI : Type := (List zVV → zSG → Option zRR) × Nat × Nat × Nat × Nat
def z_tV (ad : zAD) : zVV → Value
  | .inl x => .int x
  | .inr (.inl q) => .ref (ad q.1 q.2.1 q.2.2)
  | .inr (.inr x) => .long x
def z_isL : zVV → Bool
  | .inr (.inr _) => true
  | _ => false
def z_wt : List zVV → Nat
  | [] => 0
  | v :: r => (bif z_isL v then 2 else 1) + z_wt r
def z_look {α : Type} : List (Nat × α) → Nat → Option α
  | [], _ => none
  | q :: r, i => bif Nat.beq q.1 i then some q.2 else z_look r i
def z_put1 (lc : zLC) (i : Nat) (v : zVV) : zLC := (i, v) :: lc.filter (fun q => !(q.1 == i) && !(q.1 + 1 == i && z_isL q.2))
def z_put2 (lc : zLC) (i : Nat) (v : zVV) : zLC := (i, v) :: lc.filter (fun q => !(q.1 == i) && (!(q.1 == i + 1) && !(q.1 + 1 == i && z_isL q.2)))
def z_keepL (lc : zLC) (live : List Nat) : zLC := live.filterMap (fun i => (z_look lc i).map (fun v => (i, v)))
abbrev z_inb (x : Int32) (n : Nat) : Prop := 0 ≤ x.toInt ∧ x.toInt < (n : Int)
def z_bi (n : Int) : Int32 := (Int8.ofInt n).toInt32
def z_si (n : Int) : Int32 := (Int16.ofInt n).toInt32
def z_gI (g : zSG) (c i k : Nat) (v : Int32) : zSG := va_up g c (va_up (g c) i (upd (g c i).1 k v, (g c i).2))
def z_gA (g : zSG) (c i k : Nat) (f : Nat → Int32) : zSG := va_up g c (va_up (g c) i ((g c i).1, va_up (g c i).2 k f))
def z_fkL0 : List (Nat × Nat) := [(1, 0), (1, 0), (1, 0), (1, 0), (1, 0), (2, 1), (2, 2), (1, 0), (1, 0), (1, 0), (0, 0), (0, 1), (0, 0)]
def z_fkL1 : List (Nat × Nat) := [(1, 0), (3, 0), (0, 0), (0, 0), (0, 0), (0, 0)]
def z_fkL2 : List (Nat × Nat) := [(1, 0), (1, 0), (1, 0), (1, 0), (1, 0), (1, 0), (1, 0), (0, 0)]
def z_fkL3 : List (Nat × Nat) := [(0, 0), (0, 0), (0, 0), (0, 0), (0, 0), (0, 0), (0, 0), (0, 0), (0, 0), (1, 0), (1, 0), (1, 0), (1, 0), (1, 0), (1, 0), (1, 0), (0, 0), (1, 0), (1, 0), (1, 0), (1, 0), (1, 0), (1, 0), (1, 0), (1, 0), (1, 0), (1, 0), (1, 0), (1, 0), (1, 0), (1, 0), (1, 0), (1, 0), (1, 0), (1, 0), (0, 0), (0, 0), (0, 0), (0, 0), (1, 0), (1, 0), (1, 0), (1, 0), (0, 0), (0, 0), (0, 0), (0, 0)]
def z_fkL4 : List (Nat × Nat) := [(1, 0), (1, 0), (1, 0), (1, 0), (1, 0), (1, 0), (1, 0), (1, 0), (0, 0), (1, 0), (1, 0), (1, 0), (0, 0), (0, 0), (0, 0), (0, 0), (0, 0), (0, 0)]
def z_fkL5 : List (Nat × Nat) := [(1, 0), (0, 0)]
def z_fk (c k : Nat) : Nat × Nat := match c with
  | 0 => z_fkL0.getD k (9, 9)
  | 1 => z_fkL1.getD k (9, 9)
  | 2 => z_fkL2.getD k (9, 9)
  | 3 => z_fkL3.getD k (9, 9)
  | 4 => z_fkL4.getD k (9, 9)
  | _ => z_fkL5.getD k (9, 9)
def z_akL0 : List (Nat × Nat) := [(0, 400), (0, 8), (0, 16), (1, 32), (3, 8), (9, 0), (9, 0), (2, 2), (2, 2), (0, 30), (9, 0), (9, 0), (9, 0)]
def z_akL1 : List (Nat × Nat) := [(0, 400), (9, 0), (9, 0), (9, 0), (9, 0), (9, 0)]
def z_akL2 : List (Nat × Nat) := [(0, 30), (0, 30), (0, 30), (0, 30), (0, 30), (0, 30), (0, 30), (9, 0)]
def z_akL3 : List (Nat × Nat) := [(9, 0), (9, 0), (9, 0), (9, 0), (9, 0), (9, 0), (9, 0), (9, 0), (9, 0), (0, 400), (0, 500), (0, 500), (0, 4000), (0, 4000), (0, 8), (0, 8), (9, 0), (0, 8), (0, 16), (0, 30), (0, 30), (0, 30), (0, 30), (0, 30), (0, 30), (0, 30), (0, 30), (0, 240), (0, 30), (0, 30), (0, 30), (0, 8), (0, 128), (1, 240), (1, 30), (9, 0), (9, 0), (9, 0), (9, 0), (1, 32), (0, 30), (0, 240), (0, 30), (9, 0), (9, 0), (9, 0), (9, 0)]
def z_akL4 : List (Nat × Nat) := [(0, 8), (0, 240), (0, 30), (0, 30), (0, 30), (0, 30), (1, 30), (0, 4), (9, 0), (0, 16), (0, 8), (0, 32), (9, 0), (9, 0), (9, 0), (9, 0), (9, 0), (9, 0)]
def z_akL5 : List (Nat × Nat) := [(0, 0), (9, 0)]
def z_ak (c k : Nat) : Nat × Nat := match c with
  | 0 => z_akL0.getD k (9, 0)
  | 1 => z_akL1.getD k (9, 0)
  | 2 => z_akL2.getD k (9, 0)
  | 3 => z_akL3.getD k (9, 0)
  | 4 => z_akL4.getD k (9, 0)
  | _ => z_akL5.getD k (9, 0)
def z_nf (c : Nat) : Nat := match c with
  | 0 => 13
  | 1 => 6
  | 2 => 8
  | 3 => 47
  | 4 => 18
  | _ => 2
def z_ni (c : Nat) : Nat := match c with
  | 0 => 1
  | 1 => 1
  | 2 => 1
  | 3 => 1
  | 4 => 4
  | _ => 8
def zWI : List (Nat × Nat × Nat) := [(0, 0, 0), (0, 0, 1), (0, 0, 2), (0, 0, 3), (0, 0, 4), (0, 0, 5), (0, 0, 8), (0, 0, 9), (0, 0, 10), (1, 0, 0), (1, 0, 1), (2, 0, 0), (2, 0, 1), (2, 0, 2), (2, 0, 3), (2, 0, 4), (2, 0, 5), (2, 0, 6), (2, 0, 7), (3, 0, 0), (3, 0, 10), (3, 0, 11), (3, 0, 12), (3, 0, 13), (3, 0, 14), (3, 0, 15), (3, 0, 16), (3, 0, 18), (3, 0, 19), (3, 0, 20), (3, 0, 21), (3, 0, 22), (3, 0, 23), (3, 0, 24), (3, 0, 25), (3, 0, 26), (3, 0, 27), (3, 0, 28), (3, 0, 29), (3, 0, 30), (3, 0, 31), (3, 0, 32), (3, 0, 33), (3, 0, 34), (3, 0, 35), (3, 0, 40), (3, 0, 41), (3, 0, 42), (3, 0, 43), (4, 0, 0), (4, 0, 1), (4, 0, 2), (4, 0, 3), (4, 0, 4), (4, 0, 5), (4, 0, 6), (4, 0, 7), (4, 0, 8), (4, 0, 10), (4, 0, 11), (4, 0, 12), (4, 1, 0), (4, 1, 1), (4, 1, 2), (4, 1, 3), (4, 1, 4), (4, 1, 5), (4, 1, 6), (4, 1, 7), (4, 1, 8), (4, 1, 10), (4, 1, 11), (4, 1, 12), (4, 2, 0), (4, 2, 1), (4, 2, 2), (4, 2, 3), (4, 2, 4), (4, 2, 5), (4, 2, 6), (4, 2, 7), (4, 2, 8), (4, 2, 10), (4, 2, 11), (4, 2, 12), (4, 3, 0), (4, 3, 1), (4, 3, 2), (4, 3, 3), (4, 3, 4), (4, 3, 5), (4, 3, 6), (4, 3, 7), (4, 3, 8), (4, 3, 10), (4, 3, 11), (4, 3, 12)]
def zSI : List (Nat × Nat × Nat) := [(5, 0, 0), (5, 0, 1), (5, 1, 0), (5, 1, 1), (5, 2, 0), (5, 2, 1), (5, 3, 0), (5, 3, 1), (5, 4, 0), (5, 4, 1), (5, 5, 0), (5, 5, 1), (5, 6, 0), (5, 6, 1), (5, 7, 0), (5, 7, 1)]
def z_alen (g : zSG) (c i k : Nat) : Nat := match c with
  | 5 => ((g 5 i).1 0).toNatClampNeg
  | c => (z_ak c k).2
def z_fval (ad : zAD) (g : zSG) (c i k : Nat) : Value := match z_fk c k with
  | (0, _) => .int ((g c i).1 k)
  | (1, _) => .ref (ad c i (k + 1))
  | (2, d) => .ref (ad d 0 0)
  | (_, _) => .ref (if (g c i).1 k = 1 then ad 0 0 1 else ad 9 0 0)
def z_cell (ad : zAD) (ca : Nat → ClassId) (g : zSG) (q : Nat × Nat × Nat) : va_E := match q with
  | (c, i, 0) => .inr (c, (List.range (z_nf c)).map (z_fval ad g c i))
  | (c, i, k + 1) => match (z_ak c k).1 with
    | 0 => .inl (ca 0, z_alen g c i k, .inl ((g c i).2 k))
    | 1 => .inl (ca 1, z_alen g c i k, .inl ((g c i).2 k))
    | 2 => .inl (ca 2, 2, .inr (.inr (.inr (.inr (fun j => some (ad 4 ((bif Nat.beq k 7 then 0 else 2) + j) 0))))))
    | _ => .inl (ca 3, 8, .inr (.inr (.inr (.inr (fun j => some (ad 5 j 0))))))
abbrev z_aq (ad : zAD) (q : Nat × Nat × Nat) : Nat := ad q.1 q.2.1 q.2.2
def z_wl (ad : zAD) (ca : Nat → ClassId) (g : zSG) : va_W := zWI.map (fun q => (z_aq ad q, z_cell ad ca g q))
def z_sl (ad : zAD) (ca : Nat → ClassId) (g : zSG) : va_W := zSI.map (fun q => (z_aq ad q, z_cell ad ca g q))
def zCL : List vw_C := [(RX4, TX4, 13), (RX1, TX1, 6), (RX0, TX0, 8), (RX5, TX5, 47), (RX2, TX2, 18), (RX3, TX3, 2)]
def zTL (ca : Nat → ClassId) : List (ClassId × FieldType) := [(ca 0, .int), (ca 1, .boolean), (ca 2, .object RX2), (ca 3, .object RX3)]
/-! the steps: k goes on at a place, with variables, stack, state, room left -/
abbrev zKK : Type := Nat → zLC → List zVV → zSG → Nat × Nat → Option zRR
def z_tsw (k : Int → Option zRR) (x : Int) (d : Int) : Int → List Int → Option zRR
  | _, [] => k d
  | lo, o :: r => if x = lo then k o else z_tsw k x d (lo + 1) r
/-- links of fields by the pool's places; calls; constants; throws; the number of variables; what is given back (0 nothing, 1 int, 2 boolean, 3 long) -/
abbrev zMI : Type := (Nat → Option (Nat × Nat)) × (Nat → Option zCI) × (Nat → Option zVV) × (Nat → Option Nat) × Nat × Nat
def z_getF (g : zSG) (c i kf : Nat) (k : zVV → Option zRR) : Option zRR := match z_fk c kf with
  | (0, _) => k (.inl ((g c i).1 kf))
  | (1, _) => k (.inr (.inl (c, i, kf + 1)))
  | (2, d) => k (.inr (.inl (d, 0, 0)))
  | (3, _) => if (g c i).1 kf = 1 then k (.inr (.inl (0, 0, 1))) else none
  | _ => none
def z_putF (g : zSG) (c i kf : Nat) (v : zVV) (k : zSG → Option zRR) : Option zRR := match z_fk c kf with
  | (0, 0) => (match v with
    | .inl x => k (z_gI g c i kf x)
    | _ => none)
  | (0, _) => (match v with
    | .inl x => if x = 0 ∨ x = 1 then k (z_gI g c i kf x) else none
    | _ => none)
  | (3, _) => (match v with
    | .inr (.inl (0, 0, 1)) => k (z_gI g c i kf 1)
    | _ => none)
  | _ => none
def z_bI (o : Option zRR) (k : Int32 → zSG → Option zRR) : Option zRR := match o with
  | some (.inl (some (.inl x)), g) => k x g
  | some (.inr e, g) => some (.inr e, g)
  | _ => none
def z_bL (o : Option zRR) (k : Int64 → zSG → Option zRR) : Option zRR := match o with
  | some (.inl (some (.inr (.inr x))), g) => k x g
  | some (.inr e, g) => some (.inr e, g)
  | _ => none
def z_bV (o : Option zRR) (k : zSG → Option zRR) : Option zRR := match o with
  | some (.inl none, g) => k g
  | some (.inr e, g) => some (.inr e, g)
  | _ => none
def z_cll (k : zKK) (ci : zCI) (nx : Nat) (lc : zLC) (st : List zVV) (g : zSG) (b : Nat × Nat) : Option zRR :=
  bif Nat.ble ci.2.1 st.length && Nat.ble ci.2.2.2.1 b.1 && Nat.ble ci.2.2.2.2 b.2 && Nat.ble (z_wt (st.drop ci.2.1)) 8 then (match ci.2.2.1 with
    | 0 => z_bV (ci.1 (st.take ci.2.1).reverse g) (fun g' => k nx lc (st.drop ci.2.1) g' (b.1 - ci.2.2.2.1, b.2 - ci.2.2.2.2))
    | 1 => z_bI (ci.1 (st.take ci.2.1).reverse g) (fun x g' => k nx lc (.inl x :: st.drop ci.2.1) g' (b.1 - ci.2.2.2.1, b.2 - ci.2.2.2.2))
    | _ => z_bL (ci.1 (st.take ci.2.1).reverse g) (fun x g' => k nx lc (.inr (.inr x) :: st.drop ci.2.1) g' (b.1 - ci.2.2.2.1, b.2 - ci.2.2.2.2))) else none
def z_stp (M : zMI) (k : zKK) (i : Instr) (nx tg pc : Nat) (lc : zLC) (st : List zVV) (g : zSG) (b : Nat × Nat) : Option zRR :=
  match i with
  | .iconst n => k nx lc (.inl (Int32.ofInt n) :: st) g b
  | .bipush n => k nx lc (.inl (z_bi n) :: st) g b
  | .sipush n => k nx lc (.inl (z_si n) :: st) g b
  | .lconst n => k nx lc (.inr (.inr (Int64.ofNat (n : Nat))) :: st) g b
  | .ldc j => match M.2.2.1 j with
    | some v => bif z_isL v then none else k nx lc (v :: st) g b
    | none => none
  | .ldc_w j => match M.2.2.1 j with
    | some (.inl x) => k nx lc (.inl x :: st) g b
    | _ => none
  | .ldc2_w j => match M.2.2.1 j with
    | some (.inr (.inr x)) => k nx lc (.inr (.inr x) :: st) g b
    | _ => none
  | .iload_n j => match z_look lc j with
    | some (.inl x) => k nx lc (.inl x :: st) g b
    | _ => none
  | .iload j => match z_look lc j with
    | some (.inl x) => k nx lc (.inl x :: st) g b
    | _ => none
  | .aload_n j => match z_look lc j with
    | some (.inr (.inl x)) => k nx lc (.inr (.inl x) :: st) g b
    | _ => none
  | .aload j => match z_look lc j with
    | some (.inr (.inl x)) => k nx lc (.inr (.inl x) :: st) g b
    | _ => none
  | .lload_n j => match z_look lc j with
    | some (.inr (.inr x)) => k nx lc (.inr (.inr x) :: st) g b
    | _ => none
  | .istore_n j => match st with
    | .inl x :: r => bif Nat.blt j M.2.2.2.2.1 then k nx (z_put1 lc j (.inl x)) r g b else none
    | _ => none
  | .istore j => match st with
    | .inl x :: r => bif Nat.blt j M.2.2.2.2.1 then k nx (z_put1 lc j (.inl x)) r g b else none
    | _ => none
  | .astore_n j => match st with
    | .inr (.inl x) :: r => bif Nat.blt j M.2.2.2.2.1 then k nx (z_put1 lc j (.inr (.inl x))) r g b else none
    | _ => none
  | .astore j => match st with
    | .inr (.inl x) :: r => bif Nat.blt j M.2.2.2.2.1 then k nx (z_put1 lc j (.inr (.inl x))) r g b else none
    | _ => none
  | .lstore_n j => match st with
    | .inr (.inr x) :: r => bif Nat.blt (j + 1) M.2.2.2.2.1 then k nx (z_put2 lc j (.inr (.inr x))) r g b else none
    | _ => none
  | .iinc j n => match z_look lc j with
    | some (.inl x) => bif Nat.blt j M.2.2.2.2.1 then k nx (z_put1 lc j (.inl (x + Int32.ofInt n))) st g b else none
    | _ => none
  | .iadd => match st with
    | .inl y :: .inl x :: r => k nx lc (.inl (x + y) :: r) g b
    | _ => none
  | .isub => match st with
    | .inl y :: .inl x :: r => k nx lc (.inl (x - y) :: r) g b
    | _ => none
  | .imul => match st with
    | .inl y :: .inl x :: r => k nx lc (.inl (x * y) :: r) g b
    | _ => none
  | .iand => match st with
    | .inl y :: .inl x :: r => k nx lc (.inl (x &&& y) :: r) g b
    | _ => none
  | .ior => match st with
    | .inl y :: .inl x :: r => k nx lc (.inl (x ||| y) :: r) g b
    | _ => none
  | .ishl => match st with
    | .inl y :: .inl x :: r => k nx lc (.inl (x <<< (y &&& 31)) :: r) g b
    | _ => none
  | .ishr => match st with
    | .inl y :: .inl x :: r => k nx lc (.inl (x >>> (y &&& 31)) :: r) g b
    | _ => none
  | .iushr => match st with
    | .inl y :: .inl x :: r => k nx lc (.inl ((x.toUInt32 >>> (y.toUInt32 &&& Int32.toUInt32 31)).toInt32) :: r) g b
    | _ => none
  | .idiv => match st with
    | .inl y :: .inl x :: r => if y = 0 then none else k nx lc (.inl (x / y) :: r) g b
    | _ => none
  | .irem => match st with
    | .inl y :: .inl x :: r => if y = 0 then none else k nx lc (.inl (x - x / y * y) :: r) g b
    | _ => none
  | .i2l => match st with
    | .inl x :: r => k nx lc (.inr (.inr x.toInt64) :: r) g b
    | _ => none
  | .lor => match st with
    | .inr (.inr y) :: .inr (.inr x) :: r => k nx lc (.inr (.inr (x ||| y)) :: r) g b
    | _ => none
  | .lshl => match st with
    | .inl y :: .inr (.inr x) :: r => k nx lc (.inr (.inr (x <<< (y.toInt64 &&& 63))) :: r) g b
    | _ => none
  | .lcmp => match st with
    | .inr (.inr y) :: .inr (.inr x) :: r => k nx lc (.inl (lg_cmp x y) :: r) g b
    | _ => none
  | .dup => match st with
    | v :: r => bif z_isL v then none else k nx lc (v :: v :: r) g b
    | _ => none
  | .dup2 => match st with
    | v :: w :: r => bif z_isL v || z_isL w then none else k nx lc (v :: w :: v :: w :: r) g b
    | _ => none
  | .pop => match st with
    | v :: r => bif z_isL v then none else k nx lc r g b
    | _ => none
  | .goto _ => k tg lc st g b
  | .ifCond cd _ => match st with
    | .inl x :: r => match cd with
      | .eq => if x = 0 then k tg lc r g b else k nx lc r g b
      | .ne => if x = 0 then k nx lc r g b else k tg lc r g b
      | .lt => if x < 0 then k tg lc r g b else k nx lc r g b
      | .ge => if 0 ≤ x then k tg lc r g b else k nx lc r g b
      | .gt => if 0 < x then k tg lc r g b else k nx lc r g b
      | .le => if x ≤ 0 then k tg lc r g b else k nx lc r g b
    | _ => none
  | .if_icmp cd _ => match st with
    | .inl y :: .inl x :: r => match cd with
      | .eq => if x = y then k tg lc r g b else k nx lc r g b
      | .ne => if x = y then k nx lc r g b else k tg lc r g b
      | .lt => if x < y then k tg lc r g b else k nx lc r g b
      | .ge => if y ≤ x then k tg lc r g b else k nx lc r g b
      | .gt => if y < x then k tg lc r g b else k nx lc r g b
      | .le => if x ≤ y then k tg lc r g b else k nx lc r g b
    | _ => none
  | .tableswitch d lo hi offs => match st with
    | .inl x :: r => bif decide (hi = lo + (offs.toList.length : Int) - 1) && (d :: offs.toList).all (fun o => decide (0 ≤ (pc : Int) + o)) then z_tsw (fun o => k ((pc : Int) + o).toNat lc r g b) x.toInt d lo offs.toList else none
    | _ => none
  | .getfield j => match st with
    | .inr (.inl (c, o, 0)) :: r => match M.1 j with
      | some (c', kf) => bif Nat.beq c c' then (if o < z_ni c then z_getF g c o kf (fun v => k nx lc (v :: r) g b) else none) else none
      | none => none
    | _ => none
  | .putfield j => match st with
    | v :: .inr (.inl (c, o, 0)) :: r => match M.1 j with
      | some (c', kf) => bif Nat.beq c c' && Nat.blt c 5 then (if o < z_ni c then z_putF g c o kf v (fun g' => k nx lc r g' b) else none) else none
      | none => none
    | _ => none
  | .iaload => match st with
    | .inl x :: .inr (.inl (c, o, f + 1)) :: r => bif Nat.beq (z_ak c f).1 0 && Nat.blt c 6 then (if o < z_ni c then (if z_inb x (z_alen g c o f) then k nx lc (.inl ((g c o).2 f x.toNatClampNeg) :: r) g b else none) else none) else none
    | _ => none
  | .baload => match st with
    | .inl x :: .inr (.inl (c, o, f + 1)) :: r => bif Nat.beq (z_ak c f).1 1 && Nat.blt c 5 then (if o < z_ni c then (if z_inb x (z_alen g c o f) then k nx lc (.inl ((g c o).2 f x.toNatClampNeg) :: r) g b else none) else none) else none
    | _ => none
  | .iastore => match st with
    | .inl v :: .inl x :: .inr (.inl (c, o, f + 1)) :: r => bif Nat.beq (z_ak c f).1 0 && Nat.blt c 5 then (if o < z_ni c then (if z_inb x (z_alen g c o f) then k nx lc r (z_gA g c o f (upd ((g c o).2 f) x.toNatClampNeg v)) b else none) else none) else none
    | _ => none
  | .bastore => match st with
    | .inl v :: .inl x :: .inr (.inl (c, o, f + 1)) :: r => bif Nat.beq (z_ak c f).1 1 && Nat.blt c 5 then (if o < z_ni c then (if z_inb x (z_alen g c o f) then k nx lc r (z_gA g c o f (upd ((g c o).2 f) x.toNatClampNeg (v &&& 1))) b else none) else none) else none
    | _ => none
  | .arraylength => match st with
    | .inr (.inl (c, o, f + 1)) :: r => bif Nat.blt (z_ak c f).1 2 && Nat.blt c 6 then (if o < z_ni c then k nx lc (.inl (Int32.ofNat (z_alen g c o f)) :: r) g b else none) else none
    | _ => none
  | .aaload => match st with
    | .inl x :: .inr (.inl (0, 0, 5)) :: r => if z_inb x 8 then k nx lc (.inr (.inl (5, x.toNatClampNeg, 0)) :: r) g b else none
    | .inl x :: .inr (.inl (0, 0, 8)) :: r => if z_inb x 2 then k nx lc (.inr (.inl (4, x.toNatClampNeg, 0)) :: r) g b else none
    | .inl x :: .inr (.inl (0, 0, 9)) :: r => if z_inb x 2 then k nx lc (.inr (.inl (4, 2 + x.toNatClampNeg, 0)) :: r) g b else none
    | _ => none
  | .invokevirtual j => match M.2.1 j with
    | some ci => z_cll k ci nx lc st g b
    | none => none
  | .invokestatic j => match M.2.1 j with
    | some ci => z_cll k ci nx lc st g b
    | none => none
  | .new j => match M.2.2.2.1 j with
    | some e => bif Nat.ble 1 b.1 && Nat.ble 6 b.2 && Nat.ble (z_wt st) 8 then some (.inr e, g) else none
    | none => none
  | .ireturn => match st with
    | [.inl x] => match M.2.2.2.2.2 with
      | 1 => some (.inl (some (.inl x)), g)
      | 2 => if x = 0 ∨ x = 1 then some (.inl (some (.inl x)), g) else none
      | _ => none
    | _ => none
  | .lreturn => match st with
    | [.inr (.inr x)] => bif Nat.beq M.2.2.2.2.2 3 then some (.inl (some (.inr (.inr x))), g) else none
    | _ => none
  | .return_ => match st with
    | [] => bif Nat.beq M.2.2.2.2.2 0 then some (.inl none, g) else none
    | _ => none
  | _ => none
/-- code: a row a place: what is done there, the next place, the place gone to -/
abbrev zCD : Type := List (Nat × Instr × Nat × Nat)
abbrev zAG : Type := Nat → zLC → zSG → Nat × Nat → Option zRR
def z_inner (M : zMI) (cd : zCD) (cut : List (Nat × List Nat)) (ag : zAG) : Nat → zKK
  | 0, _, _, _, _, _ => none
  | K + 1, pc, lc, st, g, b => match z_look cd pc with
    | none => none
    | some (i, nx, tg) => z_stp M (fun pc' lc' st' g' b' => match z_look cut pc' with
      | some live => (match st' with
        | [] => ag pc' (z_keepL lc' live) g' b'
        | _ => none)
      | none => z_inner M cd cut ag K pc' lc' st' g' b') i nx tg pc lc st g b
def z_run (M : zMI) (cd : zCD) (cut : List (Nat × List Nat)) : Nat → zAG
  | 0, _, _, _, _ => none
  | n + 1, pc, lc, g, b => z_inner M cd cut (z_run M cd cut n) 2000 pc lc [] g b
end
section
/-! ===== words, worlds, what a method asks and gives ===== -/
def zWS : List Cond := lw_tbl.filter goodWord
theorem zWS_mem {w : Cond} (h : w ∈ lw_tbl) (g : goodWord w = true) : w ∈ zWS := List.mem_filter.mpr ⟨h, g⟩
theorem zWS_good {w : Cond} (h : w ∈ zWS) : goodWord w = true := (List.mem_filter.mp h).2
theorem zWS_in : GoodIn zWS zWS := fun w h => ⟨h, good_of_word (zWS_good h)⟩
theorem zWS_of {args : Array Value} {s : State} (h : ∀ w ∈ lw_tbl, w.before args s = true) : ∀ w ∈ zWS, w.before args s = true := fun w hw => h w (List.mem_filter.mp hw).1
/-- the field words of all kinds -/
theorem z_inF : (zCL.all fun q => (u_ws q.1 q.2.1 q.2.2).all fun w => decide (w ∈ zWS)) = true := by decide +kernel
theorem z_inFw {c : Nat} {q : vw_C} (h : zCL[c]? = some q) : ∀ w ∈ u_ws q.1 q.2.1 q.2.2, w ∈ zWS := fun w hw => of_decide_eq_true (List.all_eq_true.mp (List.all_eq_true.mp z_inF q (List.mem_of_getElem? h)) w hw)
def z_ty (c : Nat) : Nat → FieldType := match c with
  | 0 => tyX4
  | 1 => tyX1
  | 2 => tyX0
  | 3 => tyX5
  | 4 => tyX2
  | _ => tyX3
theorem z_tyok {c : Nat} {q : vw_C} (h : zCL[c]? = some q) : ∀ k, k < q.2.2 → parseFieldDescriptor (q.2.1 k).2.2.1 = some (z_ty c k) := by
  match c, h with
  | 0, h => cases h; exact tyX4_ok
  | 1, h => cases h; exact tyX1_ok
  | 2, h => cases h; exact tyX0_ok
  | 3, h => cases h; exact tyX5_ok
  | 4, h => cases h; exact tyX2_ok
  | 5, h => cases h; exact tyX3_ok
  | n + 6, h => cases h
theorem z_nmok {c : Nat} {q : vw_C} (h : zCL[c]? = some q) : ∀ a, a < q.2.2 → ∀ b, b < q.2.2 → a ≠ b → (q.2.1 a).2.1 ≠ (q.2.1 b).2.1 := by
  match c, h with
  | 0, h => cases h; exact nmX4
  | 1, h => cases h; exact nmX1
  | 2, h => cases h; exact nmX0
  | 3, h => cases h; exact nmX5
  | 4, h => cases h; exact nmX2
  | 5, h => cases h; exact nmX3
  | n + 6, h => cases h
theorem z_nfok {c : Nat} {q : vw_C} (h : zCL[c]? = some q) : q.2.2 = z_nf c := by
  match c, h with
  | 0, h => cases h; rfl
  | 1, h => cases h; rfl
  | 2, h => cases h; rfl
  | 3, h => cases h; rfl
  | 4, h => cases h; rfl
  | 5, h => cases h; rfl
  | n + 6, h => cases h
theorem zWI_nd : zWI.Nodup := by decide +kernel
theorem zWI_obj : ∀ c, c < 5 → ∀ o, o < z_ni c → (c, o, 0) ∈ zWI := by decide +kernel
theorem zWI_arr0 : ((List.range 5).all fun c => (List.range (z_ni c)).all fun o => (List.range (z_nf c)).all fun k => !(Nat.blt (z_ak c k).1 4) || decide ((c, o, k + 1) ∈ zWI)) = true := by decide +kernel
theorem zWI_arr (c : Nat) (hc : c < 5) (o : Nat) (ho : o < z_ni c) (k : Nat) (hk : k < z_nf c) (h : (z_ak c k).1 < 4) : (c, o, k + 1) ∈ zWI := by
  have h1 := List.all_eq_true.mp (List.all_eq_true.mp (List.all_eq_true.mp zWI_arr0 c (List.mem_range.mpr hc)) o (List.mem_range.mpr ho)) k (List.mem_range.mpr hk)
  simp only [Bool.or_eq_true, Bool.not_eq_true', decide_eq_true_eq] at h1
  rcases h1 with h1 | h1
  · have h2 : Nat.blt (z_ak c k).1 4 = true := Nat.blt_eq.mpr h
    rw [h2] at h1
    cases h1
  · exact h1
theorem zSI_obj : ∀ o, o < 8 → (5, o, 0) ∈ zSI := by decide +kernel
theorem zSI_arr : ∀ o, o < 8 → (5, o, 1) ∈ zSI := by decide +kernel
theorem zWI_lt : ∀ q ∈ zWI, q.1 < 5 := by decide +kernel
/-- the heap holds the world -/
def zHP (D : va_G) (ca : Nat → ClassId) (ad : zAD) (A : Nat → Prop) (g : zSG) (H : Heap) : Prop := va_P D zCL (z_wl ad ca g) H ∧ va_D A (z_wl ad ca g)
theorem z_gI_at (g : zSG) (c i k : Nat) (v : Int32) (c' i' : Nat) : z_gI g c i k v c' i' = if c' = c ∧ i' = i then (upd (g c i).1 k v, (g c i).2) else g c' i' := by
  unfold z_gI va_up
  by_cases h : c' = c
  · subst h
    by_cases h2 : i' = i
    · subst h2; simp
    · simp [h2]
  · simp [h]
theorem z_gA_at (g : zSG) (c i k : Nat) (f : Nat → Int32) (c' i' : Nat) : z_gA g c i k f c' i' = if c' = c ∧ i' = i then ((g c i).1, va_up (g c i).2 k f) else g c' i' := by
  unfold z_gA va_up
  by_cases h : c' = c
  · subst h
    by_cases h2 : i' = i
    · subst h2; simp
    · simp [h2]
  · simp [h]
theorem z_gI_5 {g : zSG} {c i k : Nat} {v : Int32} (h : c < 5) : z_gI g c i k v 5 = g 5 := by
  unfold z_gI va_up
  have : ¬ (5 : Nat) = c := by omega
  simp [this]
theorem z_gA_5 {g : zSG} {c i k : Nat} {f : Nat → Int32} (h : c < 5) : z_gA g c i k f 5 = g 5 := by
  unfold z_gA va_up
  have : ¬ (5 : Nat) = c := by omega
  simp [this]
theorem z_gI_2 (g : zSG) (c i k : Nat) (v : Int32) (c' i' : Nat) : (z_gI g c i k v c' i').2 = (g c' i').2 := by
  rw [z_gI_at]
  by_cases h : c' = c ∧ i' = i
  · rw [if_pos h, h.1, h.2]
  · rw [if_neg h]
theorem z_gA_1 (g : zSG) (c i k : Nat) (f : Nat → Int32) (c' i' : Nat) : (z_gA g c i k f c' i').1 = (g c' i').1 := by
  rw [z_gA_at]
  by_cases h : c' = c ∧ i' = i
  · rw [if_pos h, h.1, h.2]
  · rw [if_neg h]
theorem z_alen_eq {g g' : zSG} {c i k : Nat} (h : g' 5 = g 5) : z_alen g' c i k = z_alen g c i k := by
  unfold z_alen
  split
  · rw [h]
  · rfl
theorem z_cell_0 (ad : zAD) (ca : Nat → ClassId) (g : zSG) (c i : Nat) : z_cell ad ca g (c, i, 0) = .inr (c, (List.range (z_nf c)).map (z_fval ad g c i)) := rfl
theorem z_fval_cong {ad : zAD} {g g' : zSG} {c i k : Nat} (h : (g' c i).1 k = (g c i).1 k) : z_fval ad g' c i k = z_fval ad g c i k := by
  unfold z_fval
  split <;> simp [h]
theorem z_cell_gI {ad : zAD} {ca : Nat → ClassId} {g : zSG} {c i k : Nat} {v : Int32} (hc : c < 5) {q : Nat × Nat × Nat} (h : q ≠ (c, i, 0)) : z_cell ad ca (z_gI g c i k v) q = z_cell ad ca g q := by
  obtain ⟨c', i', k'⟩ := q
  cases k' with
  | zero =>
    have hn : ¬ (c' = c ∧ i' = i) := fun z => h (by rw [z.1, z.2])
    rw [z_cell_0, z_cell_0]
    have : z_fval ad (z_gI g c i k v) c' i' = z_fval ad g c' i' := by
      funext j
      exact z_fval_cong (by rw [z_gI_at, if_neg hn])
    rw [this]
  | succ k' =>
    unfold z_cell
    dsimp only
    rw [z_alen_eq (z_gI_5 hc), z_gI_2]
theorem z_cell_gA {ad : zAD} {ca : Nat → ClassId} {g : zSG} {c i k : Nat} {f : Nat → Int32} (hc : c < 5) {q : Nat × Nat × Nat} (h : q ≠ (c, i, k + 1)) : z_cell ad ca (z_gA g c i k f) q = z_cell ad ca g q := by
  obtain ⟨c', i', k'⟩ := q
  cases k' with
  | zero =>
    rw [z_cell_0, z_cell_0]
    have : z_fval ad (z_gA g c i k f) c' i' = z_fval ad g c' i' := by
      funext j
      exact z_fval_cong (by rw [z_gA_1])
    rw [this]
  | succ k' =>
    have h2 : (z_gA g c i k f c' i').2 k' = (g c' i').2 k' := by
      rw [z_gA_at]
      by_cases hn : c' = c ∧ i' = i
      · rw [if_pos hn, hn.1, hn.2]
        have : k' ≠ k := fun z => h (by rw [hn.1, hn.2, z])
        show va_up (g c i).2 k f k' = _
        rw [va_up_ne _ _ this]
      · rw [if_neg hn]
    unfold z_cell
    dsimp only
    rw [z_alen_eq (z_gA_5 hc), h2]
theorem z_rangeset {α : Type} {n k : Nat} {f f' : Nat → α} (hk : k < n) (h : ∀ j, j ≠ k → f' j = f j) : (List.range n).map f' = ((List.range n).map f).set k (f' k) := by
  apply List.ext_getElem?
  intro j
  by_cases hj : j = k
  · subst hj
    rw [List.getElem?_set_self (by simpa using hk)]
    simp [hk]
  · rw [List.getElem?_set_ne (Ne.symm hj)]
    simp only [List.getElem?_map]
    cases hq : (List.range n)[j]? with
    | none => rfl
    | some x =>
      have hx : x = j := by
        have := List.getElem?_eq_some_iff.mp hq
        obtain ⟨h1, h2⟩ := this
        simpa using h2.symm
      simp only [Option.map_some]
      rw [hx, h j hj]
theorem z_wlset {ad : zAD} {ca : Nat → ClassId} {g g' : zSG} {k : Nat} {q : Nat × Nat × Nat} {e : va_E} (hk : zWI[k]? = some q) (he : z_cell ad ca g' q = e) (ho : ∀ q', q' ≠ q → z_cell ad ca g' q' = z_cell ad ca g q') : (z_wl ad ca g).set k (z_aq ad q, e) = z_wl ad ca g' := by
  have hl : k < zWI.length := (List.getElem?_eq_some_iff.mp hk).1
  apply List.ext_getElem?
  intro j
  unfold z_wl
  by_cases hj : j = k
  · subst hj
    rw [List.getElem?_set_self (by simpa using hl)]
    simp only [List.getElem?_map, hk, Option.map_some]
    rw [he]
  · rw [List.getElem?_set_ne (Ne.symm hj)]
    simp only [List.getElem?_map]
    cases hq : zWI[j]? with
    | none => rfl
    | some x =>
      have hx : x ≠ q := by
        intro z
        subst z
        have h1 := List.getElem?_eq_some_iff.mp hq
        have h2 := List.getElem?_eq_some_iff.mp hk
        obtain ⟨a1, a2⟩ := h1
        obtain ⟨b1, b2⟩ := h2
        exact hj ((List.getElem?_inj a1 zWI_nd).mp (hq.trans hk.symm))
      simp only [Option.map_some]
      rw [ho x hx]
theorem z_wlget {ad : zAD} {ca : Nat → ClassId} {g : zSG} {q : Nat × Nat × Nat} (h : q ∈ zWI) : ∃ k : Nat, zWI[k]? = some q ∧ (z_wl ad ca g)[k]? = some (z_aq ad q, z_cell ad ca g q) := by
  obtain ⟨k, hk⟩ := List.getElem?_of_mem h
  refine ⟨k, hk, ?_⟩
  unfold z_wl
  rw [List.getElem?_map, hk]
  rfl
end
section
/-! ===== contracts, and the rows of the pure machine ===== -/
def zEx (k : Nat) : String := match k with
  | 0 => "java/lang/IllegalArgumentException"
  | 1 => "java/lang/IndexOutOfBoundsException"
  | _ => "java/util/NoSuchElementException"
def zWds : List (Nat × String) := [(62, "put"), (79, "say"), (84, "when"), (102, "a"), (104, "b"), (106, "id"), (108, "get"), (110, "outside")]
def zMsg : List (Nat × String) := [(229, "no such version"), (231, "no such kind"), (75, "not so many bytes on the tape"), (235, "no such key"), (103, "no such argument"), (107, "no such tick"), (239, "no such ask"), (119, "caused by one that is not lower"), (233, "no such field"), (146, "no such what"), (218, "no such rate")]
def zLen : List Nat := [3, 3, 4, 1, 1, 2, 3, 7]
def zByt : List (List Int32) := [[112, 117, 116], [115, 97, 121], [119, 104, 101, 110], [97], [98], [105, 100], [103, 101, 116], [111, 117, 116, 115, 105, 100, 101]]
def zDecl : List MethodName := [⟨"java/lang/RuntimeException", "<init>", "()V"⟩, ⟨"java/lang/RuntimeException", "<init>", "(Ljava/lang/String;)V"⟩, ⟨"java/lang/Exception", "<init>", "()V"⟩, ⟨"java/lang/Exception", "<init>", "(Ljava/lang/String;)V"⟩, ⟨"java/lang/Throwable", "<init>", "()V"⟩, ⟨"java/lang/Throwable", "<init>", "(Ljava/lang/String;)V"⟩]
def zCast : List (String × String) := [("java/lang/IllegalArgumentException", "java/lang/IllegalArgumentException"), ("java/lang/IndexOutOfBoundsException", "java/lang/IndexOutOfBoundsException"), ("java/util/NoSuchElementException", "java/util/NoSuchElementException")]
/-- what stays outside the world that is written: the scripts, statics, texts -/
def zEv (D : va_G) (ca : Nat → ClassId) (ad : zAD) (A : Nat → Prop) (g : zSG) (U : State) (H : Heap) : Prop :=
  va_P D zCL (z_sl ad ca g) H ∧ (∀ q ∈ zSI, ¬ A (z_aq ad q)) ∧ vx_Zq Bundle.tN "UNASSIGNED_STACK" Bundle.steD A U H ∧ vx_Zq Bundle.tN "SUPPRESSED_SENTINEL" Bundle.listD A U H ∧
  (∀ q ∈ zMsg, ∃ a, vk_R RX4 q.1 q.2 a U) ∧ (∀ i, i < 8 → vk_R RX1 (zWds.getD i (0, "")).1 (zWds.getD i (0, "")).2 (ad 6 i 0) U) ∧
  vk_S 8 zLen zByt (fun i => ad 6 i 0) (fun i => ad 6 i 1) A U H ∧ va_Z "java/lang/String" "COMPACT_STRINGS" "Z" (.int 1) A U H ∧
  va_Zq "jdk/internal/util/Preconditions" "SIOOBE_FORMATTER" "Ljava/util/function/BiFunction;" A U H ∧ (∀ x ∈ zDecl, va_Nw (.declares x) U) ∧ (∀ q ∈ zCast, va_Nw (.castable q.1 q.2) U)
theorem zEv.warm {D : va_G} {ca : Nat → ClassId} {ad : zAD} {A : Nat → Prop} {g : zSG} {s U : State} {H : Heap} (hW : s.WarmedH U.vm) (h : zEv D ca ad A g s H) : zEv D ca ad A g U H := by
  obtain ⟨h1, h2, h3, h4, h5, h6, h7, h8, h9, h10, h11⟩ := h
  exact ⟨h1, h2, vx_Zq.moved hW.alike h3, vx_Zq.moved hW.alike h4, fun q hq => by obtain ⟨a, ha⟩ := h5 q hq; exact ⟨a, ha.warm hW⟩, fun i hi => (h6 i hi).warm hW, h7.moved hW.alike, va_Z.moved hW.alike h8, va_Zq.moved hW.alike h9, fun x hx => (h10 x hx).warmD hW, fun q hq => (h11 q hq).warmC hW⟩
theorem zEv.same {D : va_G} {ca : Nat → ClassId} {ad : zAD} {A : Nat → Prop} {g : zSG} {s U : State} {H : Heap} (hv : U.vm = s.vm) (h : zEv D ca ad A g s H) : zEv D ca ad A g U H := by
  obtain ⟨h1, h2, h3, h4, h5, h6, h7, h8, h9, h10, h11⟩ := h
  have ha : s.vm.Alike U.vm := by rw [hv]; exact Vm.Alike.refl s.vm
  exact ⟨h1, h2, vx_Zq.moved ha h3, vx_Zq.moved ha h4, fun q hq => by obtain ⟨a, ha⟩ := h5 q hq; exact ⟨a, ha.same hv⟩, fun i hi => (h6 i hi).same hv, h7.moved ha, va_Z.moved ha h8, va_Zq.moved ha h9, fun x hx => (h10 x hx).same rfl hv.symm, fun q hq => (h11 q hq).same rfl hv.symm⟩
theorem zEv.kept {D : va_G} {ca : Nat → ClassId} {ad : zAD} {A : Nat → Prop} {g : zSG} {s : State} {H H1 : Heap} (h : zEv D ca ad A g s H) (hq : ∀ a : Nat, a < H.size → ¬ A a → H1[a]? = H[a]?) : zEv D ca ad A g s H1 := by
  obtain ⟨h1, h2, h3, h4, h5, h6, h7, h8, h9, h10, h11⟩ := h
  refine ⟨h1.kept (fun k q hk => ?_), h2, h3.kept hq, h4.kept hq, h5, h6, h7.kept hq, va_Z.kept h8 hq, va_Zq.kept h9 hq, h10, h11⟩
  have hm := List.mem_of_getElem? hk
  unfold z_sl at hm
  obtain ⟨p, hp, e⟩ := List.mem_map.mp hm
  have ha := h2 p hp
  have hlt := (h1 k q hk).lt
  rw [← e] at hlt ⊢
  exact hq _ hlt ha
theorem z_sl_cong {ad : zAD} {ca : Nat → ClassId} {g g' : zSG} (h : g' 5 = g 5) : z_sl ad ca g' = z_sl ad ca g := by
  have hi : ∀ q ∈ zSI, q.1 = 5 := by decide +kernel
  unfold z_sl
  apply List.map_congr_left
  intro q hq
  obtain ⟨c, i, k⟩ := q
  have : c = 5 := hi _ hq
  subst this
  congr 1
  cases k with
  | zero =>
    rw [z_cell_0, z_cell_0]
    have : z_fval ad g' 5 i = z_fval ad g 5 i := by
      funext j
      exact z_fval_cong (by rw [h])
    rw [this]
  | succ k =>
    unfold z_cell
    dsimp only
    rw [z_alen_eq h, h]
theorem zEv.cong {D : va_G} {ca : Nat → ClassId} {ad : zAD} {A : Nat → Prop} {g g' : zSG} {U : State} {H : Heap} (h5 : g' 5 = g 5) (h : zEv D ca ad A g U H) : zEv D ca ad A g' U H := by
  unfold zEv
  rw [z_sl_cong h5]
  exact h
/-- what a method asks -/
def zPc (D : va_G) (ca : Nat → ClassId) (ad : zAD) (A : Nat → Prop) (g : zSG) (vs : List zVV) : Array Value → State → Prop :=
  va_Pc (vs.map (z_tV ad)) (fun U => va_K D zCL (zTL ca) U ∧ zHP D ca ad A g U.heap ∧ (∀ q, U.heap.size ≤ q → A q) ∧ zEv D ca ad A g U U.heap)
/-- what it gives: back, or thrown -/
def zQ (D : va_G) (ca : Nat → ClassId) (ad : zAD) (A : Nat → Prop) (g : zSG) (r : zRR) : Array Value → State → Outcome → State → Prop := fun _ st o t => (∃ v, r.1 = .inl v ∧ o = .returned (v.map (z_tV ad)) ∧ zHP D ca ad A r.2 t.heap ∧ r.2 5 = g 5) ∧ va_F A st t
def zX (D : va_G) (ca : Nat → ClassId) (ad : zAD) (A : Nat → Prop) (g : zSG) (r : zRR) : String → State → State → Prop := fun E st t => (∃ k, r.1 = .inr k ∧ E = zEx k ∧ zHP D ca ad A r.2 t.heap ∧ r.2 5 = g 5) ∧ va_F A st t
/-- a method's contract by a function -/
def zCt (l : Launch) (y : MethodName) (bytes : ByteArray) (maxL : Nat) (ret : Option FieldType) (rm : Room) (F : List zVV → zSG → Option zRR) : Prop :=
  ∀ (D : va_G) (ca : Nat → ClassId) (ad : zAD) (A : Nat → Prop) (g : zSG) (vs : List zVV) (r : zRR), F vs g = some r →
    vx_Met l y (.code y bytes maxL ret :: zWS) rm (zPc D ca ad A g vs) (zQ D ca ad A g r) (zX D ca ad A g r) rm.cells rm.slots A
theorem zPc_blind {D : va_G} {ca : Nat → ClassId} {ad : zAD} {A : Nat → Prop} {g : zSG} {vs : List zVV} : FrameBlind (zPc D ca ad A g vs) := by
  intro a U g' mk h
  obtain ⟨h1, h2, h3, h4, h5⟩ := h
  exact ⟨h1, va_K.moved (u := U) (U := U.calling g' mk a) (Vm.Alike.refl U.vm) h2, h3, h4, h5.same rfl⟩
theorem z_cat (ad : zAD) (v : zVV) : ((z_tV ad v).category == 2) = z_isL v := by
  rcases v with x | q | x <;> rfl
theorem z_look_mem {α : Type} {l : List (Nat × α)} {i : Nat} {v : α} (h : z_look l i = some v) : (i, v) ∈ l := by
  induction l with
  | nil => cases h
  | cons q r ih =>
    unfold z_look at h
    cases hq : Nat.beq q.1 i with
    | true =>
      rw [hq] at h
      cases h
      have := Nat.eq_of_beq_eq_true hq
      subst this
      exact List.mem_cons_self
    | false =>
      rw [hq] at h
      exact List.mem_cons_of_mem _ (ih h)
def z_tL (ad : zAD) (lc : zLC) : List (Nat × Value) := lc.map (fun q => (q.1, z_tV ad q.2))
theorem z_look_ls {ad : zAD} {lc : zLC} {ls : Array Slot} {nL i : Nat} {v : zVV} (h : lv_has ls nL (z_tL ad lc)) (hv : z_look lc i = some v) : ls[i]? = some (.val (z_tV ad v)) := h.2.2 (i, z_tV ad v) (List.mem_map.mpr ⟨(i, v), z_look_mem hv, rfl⟩)
theorem z_put1_eq (ad : zAD) (lc : zLC) (i : Nat) (v : zVV) : (i, z_tV ad v) :: (z_tL ad lc).filter (fun q => !(q.1 == i) && !(q.1 + 1 == i && q.2.category == 2)) = z_tL ad (z_put1 lc i v) := by
  unfold z_tL z_put1
  rw [List.map_cons, List.filter_map]
  congr 2
  apply List.filter_congr
  intro q _
  simp only [Function.comp]
  rw [z_cat]
theorem z_put2_eq (ad : zAD) (lc : zLC) (i : Nat) (v : zVV) : (i, z_tV ad v) :: (z_tL ad lc).filter (fun q => !(q.1 == i) && (!(q.1 == i + 1) && !(q.1 + 1 == i && q.2.category == 2))) = z_tL ad (z_put2 lc i v) := by
  unfold z_tL z_put2
  rw [List.map_cons, List.filter_map]
  congr 2
  apply List.filter_congr
  intro q _
  simp only [Function.comp]
  rw [z_cat]
theorem z_keep_ls {ad : zAD} {lc : zLC} {ls : Array Slot} {nL : Nat} (live : List Nat) (h : lv_has ls nL (z_tL ad lc)) : lv_has ls nL (z_tL ad (z_keepL lc live)) := by
  refine ⟨h.1, h.2.1, fun q hq => ?_⟩
  obtain ⟨p, hp, e⟩ := List.mem_map.mp hq
  unfold z_keepL at hp
  obtain ⟨i, -, hi⟩ := List.mem_filterMap.mp hp
  cases hv : z_look lc i with
  | none => rw [hv] at hi; cases hi
  | some v =>
    rw [hv] at hi
    cases hi
    rw [← e]
    exact z_look_ls h hv
theorem z_wt_sum (ad : zAD) (st : List zVV) : ((st.map (z_tV ad)).map fun v => v.category).sum = z_wt st := by
  induction st with
  | nil => rfl
  | cons v r ih =>
    rw [List.map_cons, List.map_cons, List.sum_cons, ih, z_wt]
    congr 1
    rcases v with x | q | x <;> rfl
theorem z_inb_iff {x : Int32} {n : Nat} : z_inb x n ↔ vp_in x n := vp_in_iff.symm
/-- the goal of a walk: from here, with these variables, this stack and state, the method gives r -/
def zG (p : Program) (l : Launch) (e : Env) (R : Room) (s : State) (m : MethodId) (args : Array Value) (below : List Frame) (meth : Method) (c : Code) (D : va_G) (ca : Nat → ClassId) (ad : zAD) (A : Nat → Prop) (g0 : zSG) (nL : Nat) (pc : Nat) (lc : zLC) (st : List zVV) (g : zSG) (b : Nat × Nat) (r : zRR) : Prop :=
  ∀ (H : Heap) (locs : List Loc) (cells slots : Nat) (ls : Array Slot), zHP D ca ad A g H → va_S A s.heap H locs → lv_has ls nL (z_tL ad lc) → cells + b.1 ≤ R.cells → slots + b.2 ≤ R.slots → g 5 = g0 5 →
    W p l e R s m args below meth c H locs cells slots (vx_MQ below (zQ D ca ad A g0 r) (zX D ca ad A g0 r) args s R.cells R.slots A) (F0 m pc ls (st.map (z_tV ad)))
section Rows
variable {p : Program} {l : Launch} {e : Env} {R : Room} {s : State} {m : MethodId} {args : Array Value} {below : List Frame} {meth : Method} {c : Code} {D : va_G} {ca : Nat → ClassId} {ad : zAD} {A : Nat → Prop} {g0 : zSG} {nL pc : Nat} {lc : zLC} {st : List zVV} {g : zSG} {b : Nat × Nat} {r : zRR} {cc : ByteArray} {own : String}
theorem zs_iconst (hx : p.tables.exec = Jvm.exec) (hb : c.code = cc) {n : Int} (hd : decode cc pc = .ok (.iconst n, 1)) (hk : zG p l e R s m args below meth c D ca ad A g0 nL (pc + 1) (lc) (.inl (Int32.ofInt n) :: st) g b r) : zG p l e R s m args below meth c D ca ad A g0 nL (pc) (lc) (st) g b r := fun H locs cells slots ls hP hS hl h1 h2 h5 => lv_iconst hx hb hd rfl (hk H locs cells slots ls hP hS hl h1 h2 h5)
theorem zs_bipush (hx : p.tables.exec = Jvm.exec) (hb : c.code = cc) {n : Int} (hd : decode cc pc = .ok (.bipush n, 2)) (hk : zG p l e R s m args below meth c D ca ad A g0 nL (pc + 2) (lc) (.inl (z_bi n) :: st) g b r) : zG p l e R s m args below meth c D ca ad A g0 nL (pc) (lc) (st) g b r := fun H locs cells slots ls hP hS hl h1 h2 h5 => lv_bipush hx hb hd rfl (hk H locs cells slots ls hP hS hl h1 h2 h5)
theorem zs_sipush (hx : p.tables.exec = Jvm.exec) (hb : c.code = cc) {n : Int} (hd : decode cc pc = .ok (.sipush n, 3)) (hk : zG p l e R s m args below meth c D ca ad A g0 nL (pc + 3) (lc) (.inl (z_si n) :: st) g b r) : zG p l e R s m args below meth c D ca ad A g0 nL (pc) (lc) (st) g b r := fun H locs cells slots ls hP hS hl h1 h2 h5 => lv_sipush hx hb hd rfl (hk H locs cells slots ls hP hS hl h1 h2 h5)
theorem zs_lconst (hx : p.tables.exec = Jvm.exec) (hb : c.code = cc) {n : Fin 2} (hd : decode cc pc = .ok (.lconst n, 1)) (hk : zG p l e R s m args below meth c D ca ad A g0 nL (pc + 1) (lc) (.inr (.inr (Int64.ofNat (n : Nat))) :: st) g b r) : zG p l e R s m args below meth c D ca ad A g0 nL (pc) (lc) (st) g b r := fun H locs cells slots ls hP hS hl h1 h2 h5 => lv_lconst hx hb hd rfl (hk H locs cells slots ls hP hS hl h1 h2 h5)
theorem zs_iload_n (hx : p.tables.exec = Jvm.exec) (hb : c.code = cc) {j : Fin 4} {x : Int32} (hv : z_look lc j = some (.inl x)) (hd : decode cc pc = .ok (.iload_n j, 1)) (hk : zG p l e R s m args below meth c D ca ad A g0 nL (pc + 1) (lc) (.inl x :: st) g b r) : zG p l e R s m args below meth c D ca ad A g0 nL (pc) (lc) (st) g b r := fun H locs cells slots ls hP hS hl h1 h2 h5 => lv_iload_n hx hb hd rfl (z_look_ls hl hv) (hk H locs cells slots ls hP hS hl h1 h2 h5)
theorem zs_iload (hx : p.tables.exec = Jvm.exec) (hb : c.code = cc) {j : Nat} {x : Int32} (hv : z_look lc j = some (.inl x)) (hd : decode cc pc = .ok (.iload j, 2)) (hk : zG p l e R s m args below meth c D ca ad A g0 nL (pc + 2) (lc) (.inl x :: st) g b r) : zG p l e R s m args below meth c D ca ad A g0 nL (pc) (lc) (st) g b r := fun H locs cells slots ls hP hS hl h1 h2 h5 => lv_iload hx hb hd (z_look_ls hl hv) (hk H locs cells slots ls hP hS hl h1 h2 h5)
theorem zs_aload_n (hx : p.tables.exec = Jvm.exec) (hb : c.code = cc) {j : Fin 4} {x : Nat × Nat × Nat} (hv : z_look lc j = some (.inr (.inl x))) (hd : decode cc pc = .ok (.aload_n j, 1)) (hk : zG p l e R s m args below meth c D ca ad A g0 nL (pc + 1) (lc) (.inr (.inl x) :: st) g b r) : zG p l e R s m args below meth c D ca ad A g0 nL (pc) (lc) (st) g b r := fun H locs cells slots ls hP hS hl h1 h2 h5 => lv_aload_n hx hb hd rfl (z_look_ls hl hv) (hk H locs cells slots ls hP hS hl h1 h2 h5)
theorem zs_aload (hx : p.tables.exec = Jvm.exec) (hb : c.code = cc) {j : Nat} {x : Nat × Nat × Nat} (hv : z_look lc j = some (.inr (.inl x))) (hd : decode cc pc = .ok (.aload j, 2)) (hk : zG p l e R s m args below meth c D ca ad A g0 nL (pc + 2) (lc) (.inr (.inl x) :: st) g b r) : zG p l e R s m args below meth c D ca ad A g0 nL (pc) (lc) (st) g b r := fun H locs cells slots ls hP hS hl h1 h2 h5 => lv_aload hx hb hd (z_look_ls hl hv) (hk H locs cells slots ls hP hS hl h1 h2 h5)
theorem zs_lload_n (hx : p.tables.exec = Jvm.exec) (hb : c.code = cc) {j : Fin 4} {x : Int64} (hv : z_look lc j = some (.inr (.inr x))) (hd : decode cc pc = .ok (.lload_n j, 1)) (hk : zG p l e R s m args below meth c D ca ad A g0 nL (pc + 1) (lc) (.inr (.inr x) :: st) g b r) : zG p l e R s m args below meth c D ca ad A g0 nL (pc) (lc) (st) g b r := fun H locs cells slots ls hP hS hl h1 h2 h5 => lv_lload_n hx hb hd rfl (z_look_ls hl hv) (hk H locs cells slots ls hP hS hl h1 h2 h5)
theorem zs_lload (hx : p.tables.exec = Jvm.exec) (hb : c.code = cc) {j : Nat} {x : Int64} (hv : z_look lc j = some (.inr (.inr x))) (hd : decode cc pc = .ok (.lload j, 2)) (hk : zG p l e R s m args below meth c D ca ad A g0 nL (pc + 2) (lc) (.inr (.inr x) :: st) g b r) : zG p l e R s m args below meth c D ca ad A g0 nL (pc) (lc) (st) g b r := fun H locs cells slots ls hP hS hl h1 h2 h5 => lv_lload hx hb hd (z_look_ls hl hv) (hk H locs cells slots ls hP hS hl h1 h2 h5)
theorem zs_istore_n (hx : p.tables.exec = Jvm.exec) (hb : c.code = cc) {j : Fin 4} {x : Int32} (hn : (j : Nat) < nL) (hd : decode cc pc = .ok (.istore_n j, 1)) (hk : zG p l e R s m args below meth c D ca ad A g0 nL (pc + 1) (z_put1 lc j (.inl x)) (st) g b r) : zG p l e R s m args below meth c D ca ad A g0 nL (pc) (lc) (.inl x :: st) g b r := fun H locs cells slots ls hP hS hl h1 h2 h5 => lv_istore_n hx hb hd rfl hl hn (z_put1_eq ad lc j (.inl x)) (fun ls hl => hk H locs cells slots ls hP hS hl h1 h2 h5)
theorem zs_istore (hx : p.tables.exec = Jvm.exec) (hb : c.code = cc) {j : Nat} {x : Int32} (hn : j < nL) (hd : decode cc pc = .ok (.istore j, 2)) (hk : zG p l e R s m args below meth c D ca ad A g0 nL (pc + 2) (z_put1 lc j (.inl x)) (st) g b r) : zG p l e R s m args below meth c D ca ad A g0 nL (pc) (lc) (.inl x :: st) g b r := fun H locs cells slots ls hP hS hl h1 h2 h5 => lv_istore hx hb hd hl hn (z_put1_eq ad lc j (.inl x)) (fun ls hl => hk H locs cells slots ls hP hS hl h1 h2 h5)
theorem zs_astore_n (hx : p.tables.exec = Jvm.exec) (hb : c.code = cc) {j : Fin 4} {x : Nat × Nat × Nat} (hn : (j : Nat) < nL) (hd : decode cc pc = .ok (.astore_n j, 1)) (hk : zG p l e R s m args below meth c D ca ad A g0 nL (pc + 1) (z_put1 lc j (.inr (.inl x))) (st) g b r) : zG p l e R s m args below meth c D ca ad A g0 nL (pc) (lc) (.inr (.inl x) :: st) g b r := fun H locs cells slots ls hP hS hl h1 h2 h5 => lv_astore_n hx hb hd rfl hl hn (z_put1_eq ad lc j (.inr (.inl x))) (fun ls hl => hk H locs cells slots ls hP hS hl h1 h2 h5)
theorem zs_astore (hx : p.tables.exec = Jvm.exec) (hb : c.code = cc) {j : Nat} {x : Nat × Nat × Nat} (hn : j < nL) (hd : decode cc pc = .ok (.astore j, 2)) (hk : zG p l e R s m args below meth c D ca ad A g0 nL (pc + 2) (z_put1 lc j (.inr (.inl x))) (st) g b r) : zG p l e R s m args below meth c D ca ad A g0 nL (pc) (lc) (.inr (.inl x) :: st) g b r := fun H locs cells slots ls hP hS hl h1 h2 h5 => lv_astore hx hb hd hl hn (z_put1_eq ad lc j (.inr (.inl x))) (fun ls hl => hk H locs cells slots ls hP hS hl h1 h2 h5)
theorem zs_lstore_n (hx : p.tables.exec = Jvm.exec) (hb : c.code = cc) {j : Fin 4} {x : Int64} (hn : (j : Nat) + 1 < nL) (hd : decode cc pc = .ok (.lstore_n j, 1)) (hk : zG p l e R s m args below meth c D ca ad A g0 nL (pc + 1) (z_put2 lc j (.inr (.inr x))) (st) g b r) : zG p l e R s m args below meth c D ca ad A g0 nL (pc) (lc) (.inr (.inr x) :: st) g b r := fun H locs cells slots ls hP hS hl h1 h2 h5 => lv_lstore_n hx hb hd rfl hl hn (z_put2_eq ad lc j (.inr (.inr x))) (fun ls hl => hk H locs cells slots ls hP hS hl h1 h2 h5)
theorem zs_iinc (hx : p.tables.exec = Jvm.exec) (hb : c.code = cc) {j : Nat} {n : Int} {x : Int32} (hv : z_look lc j = some (.inl x)) (hn : j < nL) (hd : decode cc pc = .ok (.iinc j n, 3)) (hk : zG p l e R s m args below meth c D ca ad A g0 nL (pc + 3) (z_put1 lc j (.inl (x + Int32.ofInt n))) (st) g b r) : zG p l e R s m args below meth c D ca ad A g0 nL (pc) (lc) (st) g b r := by
  intro H locs cells slots ls hP hS hl h1 h2 h5
  obtain ⟨k, hk2⟩ := List.getElem?_of_mem (show (j, Value.int x) ∈ z_tL ad lc from List.mem_map.mpr ⟨(j, .inl x), z_look_mem hv, rfl⟩)
  exact lv_iinc hx hb hd hl (k := k) hk2 rfl hn (z_put1_eq ad lc j (.inl (x + Int32.ofInt n))) (fun ls hl => hk H locs cells slots ls hP hS hl h1 h2 h5)
theorem zs_iadd (hx : p.tables.exec = Jvm.exec) (hb : c.code = cc) {x y : Int32} (hd : decode cc pc = .ok (.iadd, 1)) (hk : zG p l e R s m args below meth c D ca ad A g0 nL (pc + 1) (lc) (.inl (x + y) :: st) g b r) : zG p l e R s m args below meth c D ca ad A g0 nL (pc) (lc) (.inl y :: .inl x :: st) g b r := fun H locs cells slots ls hP hS hl h1 h2 h5 => lv_iadd hx hb hd (hk H locs cells slots ls hP hS hl h1 h2 h5)
theorem zs_isub (hx : p.tables.exec = Jvm.exec) (hb : c.code = cc) {x y : Int32} (hd : decode cc pc = .ok (.isub, 1)) (hk : zG p l e R s m args below meth c D ca ad A g0 nL (pc + 1) (lc) (.inl (x - y) :: st) g b r) : zG p l e R s m args below meth c D ca ad A g0 nL (pc) (lc) (.inl y :: .inl x :: st) g b r := fun H locs cells slots ls hP hS hl h1 h2 h5 => lv_isub hx hb hd (hk H locs cells slots ls hP hS hl h1 h2 h5)
theorem zs_imul (hx : p.tables.exec = Jvm.exec) (hb : c.code = cc) {x y : Int32} (hd : decode cc pc = .ok (.imul, 1)) (hk : zG p l e R s m args below meth c D ca ad A g0 nL (pc + 1) (lc) (.inl (x * y) :: st) g b r) : zG p l e R s m args below meth c D ca ad A g0 nL (pc) (lc) (.inl y :: .inl x :: st) g b r := fun H locs cells slots ls hP hS hl h1 h2 h5 => lv_imul hx hb hd (hk H locs cells slots ls hP hS hl h1 h2 h5)
theorem zs_iand (hx : p.tables.exec = Jvm.exec) (hb : c.code = cc) {x y : Int32} (hd : decode cc pc = .ok (.iand, 1)) (hk : zG p l e R s m args below meth c D ca ad A g0 nL (pc + 1) (lc) (.inl (x &&& y) :: st) g b r) : zG p l e R s m args below meth c D ca ad A g0 nL (pc) (lc) (.inl y :: .inl x :: st) g b r := fun H locs cells slots ls hP hS hl h1 h2 h5 => lv_iand hx hb hd (hk H locs cells slots ls hP hS hl h1 h2 h5)
theorem zs_ior (hx : p.tables.exec = Jvm.exec) (hb : c.code = cc) {x y : Int32} (hd : decode cc pc = .ok (.ior, 1)) (hk : zG p l e R s m args below meth c D ca ad A g0 nL (pc + 1) (lc) (.inl (x ||| y) :: st) g b r) : zG p l e R s m args below meth c D ca ad A g0 nL (pc) (lc) (.inl y :: .inl x :: st) g b r := fun H locs cells slots ls hP hS hl h1 h2 h5 => lv_ior hx hb hd (hk H locs cells slots ls hP hS hl h1 h2 h5)
theorem zs_ishl (hx : p.tables.exec = Jvm.exec) (hb : c.code = cc) {x y : Int32} (hd : decode cc pc = .ok (.ishl, 1)) (hk : zG p l e R s m args below meth c D ca ad A g0 nL (pc + 1) (lc) (.inl (x <<< (y &&& 31)) :: st) g b r) : zG p l e R s m args below meth c D ca ad A g0 nL (pc) (lc) (.inl y :: .inl x :: st) g b r := fun H locs cells slots ls hP hS hl h1 h2 h5 => lv_ishl hx hb hd (hk H locs cells slots ls hP hS hl h1 h2 h5)
theorem zs_ishr (hx : p.tables.exec = Jvm.exec) (hb : c.code = cc) {x y : Int32} (hd : decode cc pc = .ok (.ishr, 1)) (hk : zG p l e R s m args below meth c D ca ad A g0 nL (pc + 1) (lc) (.inl (x >>> (y &&& 31)) :: st) g b r) : zG p l e R s m args below meth c D ca ad A g0 nL (pc) (lc) (.inl y :: .inl x :: st) g b r := fun H locs cells slots ls hP hS hl h1 h2 h5 => lv_ishr hx hb hd (hk H locs cells slots ls hP hS hl h1 h2 h5)
theorem zs_iushr (hx : p.tables.exec = Jvm.exec) (hb : c.code = cc) {x y : Int32} (hd : decode cc pc = .ok (.iushr, 1)) (hk : zG p l e R s m args below meth c D ca ad A g0 nL (pc + 1) (lc) (.inl ((x.toUInt32 >>> (y.toUInt32 &&& Int32.toUInt32 31)).toInt32) :: st) g b r) : zG p l e R s m args below meth c D ca ad A g0 nL (pc) (lc) (.inl y :: .inl x :: st) g b r := fun H locs cells slots ls hP hS hl h1 h2 h5 => lv_iushr hx hb hd rfl (hk H locs cells slots ls hP hS hl h1 h2 h5)
theorem zs_idiv (hx : p.tables.exec = Jvm.exec) (hb : c.code = cc) {x y : Int32} (hne : ¬ y = 0) (hd : decode cc pc = .ok (.idiv, 1)) (hk : zG p l e R s m args below meth c D ca ad A g0 nL (pc + 1) (lc) (.inl (x / y) :: st) g b r) : zG p l e R s m args below meth c D ca ad A g0 nL (pc) (lc) (.inl y :: .inl x :: st) g b r := fun H locs cells slots ls hP hS hl h1 h2 h5 => lv_idiv hx hb hd hne (hk H locs cells slots ls hP hS hl h1 h2 h5)
theorem zs_irem (hx : p.tables.exec = Jvm.exec) (hb : c.code = cc) {x y : Int32} (hne : ¬ y = 0) (hd : decode cc pc = .ok (.irem, 1)) (hk : zG p l e R s m args below meth c D ca ad A g0 nL (pc + 1) (lc) (.inl (x - x / y * y) :: st) g b r) : zG p l e R s m args below meth c D ca ad A g0 nL (pc) (lc) (.inl y :: .inl x :: st) g b r := fun H locs cells slots ls hP hS hl h1 h2 h5 => lv_irem hx hb hd hne (hk H locs cells slots ls hP hS hl h1 h2 h5)
theorem zs_i2l (hx : p.tables.exec = Jvm.exec) (hb : c.code = cc) {x : Int32} (hd : decode cc pc = .ok (.i2l, 1)) (hk : zG p l e R s m args below meth c D ca ad A g0 nL (pc + 1) (lc) (.inr (.inr x.toInt64) :: st) g b r) : zG p l e R s m args below meth c D ca ad A g0 nL (pc) (lc) (.inl x :: st) g b r := fun H locs cells slots ls hP hS hl h1 h2 h5 => lv_i2l hx hb hd rfl (hk H locs cells slots ls hP hS hl h1 h2 h5)
theorem zs_lor (hx : p.tables.exec = Jvm.exec) (hb : c.code = cc) {x y : Int64} (hd : decode cc pc = .ok (.lor, 1)) (hk : zG p l e R s m args below meth c D ca ad A g0 nL (pc + 1) (lc) (.inr (.inr (x ||| y)) :: st) g b r) : zG p l e R s m args below meth c D ca ad A g0 nL (pc) (lc) (.inr (.inr y) :: .inr (.inr x) :: st) g b r := fun H locs cells slots ls hP hS hl h1 h2 h5 => lv_lor hx hb hd (hk H locs cells slots ls hP hS hl h1 h2 h5)
theorem zs_lshl (hx : p.tables.exec = Jvm.exec) (hb : c.code = cc) {x : Int64} {y : Int32} (hd : decode cc pc = .ok (.lshl, 1)) (hk : zG p l e R s m args below meth c D ca ad A g0 nL (pc + 1) (lc) (.inr (.inr (x <<< (y.toInt64 &&& 63))) :: st) g b r) : zG p l e R s m args below meth c D ca ad A g0 nL (pc) (lc) (.inl y :: .inr (.inr x) :: st) g b r := fun H locs cells slots ls hP hS hl h1 h2 h5 => lv_lshl hx hb hd rfl (hk H locs cells slots ls hP hS hl h1 h2 h5)
theorem zs_lcmp (hx : p.tables.exec = Jvm.exec) (hb : c.code = cc) {x y : Int64} (hd : decode cc pc = .ok (.lcmp, 1)) (hk : zG p l e R s m args below meth c D ca ad A g0 nL (pc + 1) (lc) (.inl (lg_cmp x y) :: st) g b r) : zG p l e R s m args below meth c D ca ad A g0 nL (pc) (lc) (.inr (.inr y) :: .inr (.inr x) :: st) g b r := fun H locs cells slots ls hP hS hl h1 h2 h5 => W.lcmp hx hb hd (hk H locs cells slots ls hP hS hl h1 h2 h5)
theorem z_cat1 {ad : zAD} {v : zVV} (h : z_isL v = false) : (z_tV ad v).category = 1 := by
  rcases v with x | q | x
  · rfl
  · rfl
  · cases h
theorem zs_dup (hx : p.tables.exec = Jvm.exec) (hb : c.code = cc) {v : zVV} (hv : z_isL v = false) (hd : decode cc pc = .ok (.dup, 1)) (hk : zG p l e R s m args below meth c D ca ad A g0 nL (pc + 1) (lc) (v :: v :: st) g b r) : zG p l e R s m args below meth c D ca ad A g0 nL (pc) (lc) (v :: st) g b r := fun H locs cells slots ls hP hS hl h1 h2 h5 => lv_dup hx hb hd (z_cat1 hv) (hk H locs cells slots ls hP hS hl h1 h2 h5)
theorem zs_dup2 (hx : p.tables.exec = Jvm.exec) (hb : c.code = cc) {v w : zVV} (hv : z_isL v = false) (hw : z_isL w = false) (hd : decode cc pc = .ok (.dup2, 1)) (hk : zG p l e R s m args below meth c D ca ad A g0 nL (pc + 1) (lc) (v :: w :: v :: w :: st) g b r) : zG p l e R s m args below meth c D ca ad A g0 nL (pc) (lc) (v :: w :: st) g b r := fun H locs cells slots ls hP hS hl h1 h2 h5 => lv_dup2_11 hx hb hd (z_cat1 hv) (z_cat1 hw) (hk H locs cells slots ls hP hS hl h1 h2 h5)
theorem zs_pop (hx : p.tables.exec = Jvm.exec) (hb : c.code = cc) {v : zVV} (hv : z_isL v = false) (hd : decode cc pc = .ok (.pop, 1)) (hk : zG p l e R s m args below meth c D ca ad A g0 nL (pc + 1) (lc) (st) g b r) : zG p l e R s m args below meth c D ca ad A g0 nL (pc) (lc) (v :: st) g b r := fun H locs cells slots ls hP hS hl h1 h2 h5 => lv_pop hx hb hd (z_cat1 hv) (hk H locs cells slots ls hP hS hl h1 h2 h5)
theorem zs_goto (hx : p.tables.exec = Jvm.exec) (hb : c.code = cc) {off : Int} {tgt : Nat} (ht : (pc : Int) + off = (tgt : Int)) (hd : decode cc pc = .ok (.goto off, 3)) (hk : zG p l e R s m args below meth c D ca ad A g0 nL (tgt) (lc) (st) g b r) : zG p l e R s m args below meth c D ca ad A g0 nL (pc) (lc) (st) g b r := fun H locs cells slots ls hP hS hl h1 h2 h5 => lv_goto hx hb hd ht (hk H locs cells slots ls hP hS hl h1 h2 h5)
theorem zs_if_eq (hx : p.tables.exec = Jvm.exec) (hb : c.code = cc) {x : Int32} {off : Int} {tgt : Nat} (ht : (pc : Int) + off = (tgt : Int)) (hd : decode cc pc = .ok (.ifCond .eq off, 3)) (kt : x = 0 → zG p l e R s m args below meth c D ca ad A g0 nL (tgt) (lc) (st) g b r) (kf : ¬ x = 0 → zG p l e R s m args below meth c D ca ad A g0 nL (pc + 3) (lc) (st) g b r) : zG p l e R s m args below meth c D ca ad A g0 nL (pc) (lc) (.inl x :: st) g b r := fun H locs cells slots ls hP hS hl h1 h2 h5 => lv_if_eq hx hb hd ht (fun q => kt q H locs cells slots ls hP hS hl h1 h2 h5) (fun q => kf q H locs cells slots ls hP hS hl h1 h2 h5)
theorem zs_if_ne (hx : p.tables.exec = Jvm.exec) (hb : c.code = cc) {x : Int32} {off : Int} {tgt : Nat} (ht : (pc : Int) + off = (tgt : Int)) (hd : decode cc pc = .ok (.ifCond .ne off, 3)) (kt : ¬ x = 0 → zG p l e R s m args below meth c D ca ad A g0 nL (tgt) (lc) (st) g b r) (kf : x = 0 → zG p l e R s m args below meth c D ca ad A g0 nL (pc + 3) (lc) (st) g b r) : zG p l e R s m args below meth c D ca ad A g0 nL (pc) (lc) (.inl x :: st) g b r := fun H locs cells slots ls hP hS hl h1 h2 h5 => lv_if_ne hx hb hd ht (fun q => kt q H locs cells slots ls hP hS hl h1 h2 h5) (fun q => kf q H locs cells slots ls hP hS hl h1 h2 h5)
theorem zs_if_lt (hx : p.tables.exec = Jvm.exec) (hb : c.code = cc) {x : Int32} {off : Int} {tgt : Nat} (ht : (pc : Int) + off = (tgt : Int)) (hd : decode cc pc = .ok (.ifCond .lt off, 3)) (kt : x < 0 → zG p l e R s m args below meth c D ca ad A g0 nL (tgt) (lc) (st) g b r) (kf : ¬ x < 0 → zG p l e R s m args below meth c D ca ad A g0 nL (pc + 3) (lc) (st) g b r) : zG p l e R s m args below meth c D ca ad A g0 nL (pc) (lc) (.inl x :: st) g b r := fun H locs cells slots ls hP hS hl h1 h2 h5 => lv_if_lt hx hb hd ht (fun q => kt q H locs cells slots ls hP hS hl h1 h2 h5) (fun q => kf q H locs cells slots ls hP hS hl h1 h2 h5)
theorem zs_if_ge (hx : p.tables.exec = Jvm.exec) (hb : c.code = cc) {x : Int32} {off : Int} {tgt : Nat} (ht : (pc : Int) + off = (tgt : Int)) (hd : decode cc pc = .ok (.ifCond .ge off, 3)) (kt : 0 ≤ x → zG p l e R s m args below meth c D ca ad A g0 nL (tgt) (lc) (st) g b r) (kf : ¬ 0 ≤ x → zG p l e R s m args below meth c D ca ad A g0 nL (pc + 3) (lc) (st) g b r) : zG p l e R s m args below meth c D ca ad A g0 nL (pc) (lc) (.inl x :: st) g b r := fun H locs cells slots ls hP hS hl h1 h2 h5 => lv_if_ge hx hb hd ht (fun q => kt q H locs cells slots ls hP hS hl h1 h2 h5) (fun q => kf q H locs cells slots ls hP hS hl h1 h2 h5)
theorem zs_if_gt (hx : p.tables.exec = Jvm.exec) (hb : c.code = cc) {x : Int32} {off : Int} {tgt : Nat} (ht : (pc : Int) + off = (tgt : Int)) (hd : decode cc pc = .ok (.ifCond .gt off, 3)) (kt : 0 < x → zG p l e R s m args below meth c D ca ad A g0 nL (tgt) (lc) (st) g b r) (kf : ¬ 0 < x → zG p l e R s m args below meth c D ca ad A g0 nL (pc + 3) (lc) (st) g b r) : zG p l e R s m args below meth c D ca ad A g0 nL (pc) (lc) (.inl x :: st) g b r := fun H locs cells slots ls hP hS hl h1 h2 h5 => lv_if_gt hx hb hd ht (fun q => kt q H locs cells slots ls hP hS hl h1 h2 h5) (fun q => kf q H locs cells slots ls hP hS hl h1 h2 h5)
theorem zs_if_le (hx : p.tables.exec = Jvm.exec) (hb : c.code = cc) {x : Int32} {off : Int} {tgt : Nat} (ht : (pc : Int) + off = (tgt : Int)) (hd : decode cc pc = .ok (.ifCond .le off, 3)) (kt : x ≤ 0 → zG p l e R s m args below meth c D ca ad A g0 nL (tgt) (lc) (st) g b r) (kf : ¬ x ≤ 0 → zG p l e R s m args below meth c D ca ad A g0 nL (pc + 3) (lc) (st) g b r) : zG p l e R s m args below meth c D ca ad A g0 nL (pc) (lc) (.inl x :: st) g b r := fun H locs cells slots ls hP hS hl h1 h2 h5 => lv_if_le hx hb hd ht (fun q => kt q H locs cells slots ls hP hS hl h1 h2 h5) (fun q => kf q H locs cells slots ls hP hS hl h1 h2 h5)
theorem zs_icmp_eq (hx : p.tables.exec = Jvm.exec) (hb : c.code = cc) {x y : Int32} {off : Int} {tgt : Nat} (ht : (pc : Int) + off = (tgt : Int)) (hd : decode cc pc = .ok (.if_icmp .eq off, 3)) (kt : x = y → zG p l e R s m args below meth c D ca ad A g0 nL (tgt) (lc) (st) g b r) (kf : ¬ x = y → zG p l e R s m args below meth c D ca ad A g0 nL (pc + 3) (lc) (st) g b r) : zG p l e R s m args below meth c D ca ad A g0 nL (pc) (lc) (.inl y :: .inl x :: st) g b r := fun H locs cells slots ls hP hS hl h1 h2 h5 => lv_icmp_eq hx hb hd ht (fun q => kt q H locs cells slots ls hP hS hl h1 h2 h5) (fun q => kf q H locs cells slots ls hP hS hl h1 h2 h5)
theorem zs_icmp_ne (hx : p.tables.exec = Jvm.exec) (hb : c.code = cc) {x y : Int32} {off : Int} {tgt : Nat} (ht : (pc : Int) + off = (tgt : Int)) (hd : decode cc pc = .ok (.if_icmp .ne off, 3)) (kt : ¬ x = y → zG p l e R s m args below meth c D ca ad A g0 nL (tgt) (lc) (st) g b r) (kf : x = y → zG p l e R s m args below meth c D ca ad A g0 nL (pc + 3) (lc) (st) g b r) : zG p l e R s m args below meth c D ca ad A g0 nL (pc) (lc) (.inl y :: .inl x :: st) g b r := fun H locs cells slots ls hP hS hl h1 h2 h5 => lv_icmp_ne hx hb hd ht (fun q => kt q H locs cells slots ls hP hS hl h1 h2 h5) (fun q => kf q H locs cells slots ls hP hS hl h1 h2 h5)
theorem zs_icmp_lt (hx : p.tables.exec = Jvm.exec) (hb : c.code = cc) {x y : Int32} {off : Int} {tgt : Nat} (ht : (pc : Int) + off = (tgt : Int)) (hd : decode cc pc = .ok (.if_icmp .lt off, 3)) (kt : x < y → zG p l e R s m args below meth c D ca ad A g0 nL (tgt) (lc) (st) g b r) (kf : ¬ x < y → zG p l e R s m args below meth c D ca ad A g0 nL (pc + 3) (lc) (st) g b r) : zG p l e R s m args below meth c D ca ad A g0 nL (pc) (lc) (.inl y :: .inl x :: st) g b r := fun H locs cells slots ls hP hS hl h1 h2 h5 => lv_icmp_lt hx hb hd ht (fun q => kt q H locs cells slots ls hP hS hl h1 h2 h5) (fun q => kf q H locs cells slots ls hP hS hl h1 h2 h5)
theorem zs_icmp_ge (hx : p.tables.exec = Jvm.exec) (hb : c.code = cc) {x y : Int32} {off : Int} {tgt : Nat} (ht : (pc : Int) + off = (tgt : Int)) (hd : decode cc pc = .ok (.if_icmp .ge off, 3)) (kt : y ≤ x → zG p l e R s m args below meth c D ca ad A g0 nL (tgt) (lc) (st) g b r) (kf : ¬ y ≤ x → zG p l e R s m args below meth c D ca ad A g0 nL (pc + 3) (lc) (st) g b r) : zG p l e R s m args below meth c D ca ad A g0 nL (pc) (lc) (.inl y :: .inl x :: st) g b r := fun H locs cells slots ls hP hS hl h1 h2 h5 => lv_icmp_ge hx hb hd ht (fun q => kt q H locs cells slots ls hP hS hl h1 h2 h5) (fun q => kf q H locs cells slots ls hP hS hl h1 h2 h5)
theorem zs_icmp_gt (hx : p.tables.exec = Jvm.exec) (hb : c.code = cc) {x y : Int32} {off : Int} {tgt : Nat} (ht : (pc : Int) + off = (tgt : Int)) (hd : decode cc pc = .ok (.if_icmp .gt off, 3)) (kt : y < x → zG p l e R s m args below meth c D ca ad A g0 nL (tgt) (lc) (st) g b r) (kf : ¬ y < x → zG p l e R s m args below meth c D ca ad A g0 nL (pc + 3) (lc) (st) g b r) : zG p l e R s m args below meth c D ca ad A g0 nL (pc) (lc) (.inl y :: .inl x :: st) g b r := fun H locs cells slots ls hP hS hl h1 h2 h5 => lv_icmp_gt hx hb hd ht (fun q => kt q H locs cells slots ls hP hS hl h1 h2 h5) (fun q => kf q H locs cells slots ls hP hS hl h1 h2 h5)
theorem zs_icmp_le (hx : p.tables.exec = Jvm.exec) (hb : c.code = cc) {x y : Int32} {off : Int} {tgt : Nat} (ht : (pc : Int) + off = (tgt : Int)) (hd : decode cc pc = .ok (.if_icmp .le off, 3)) (kt : x ≤ y → zG p l e R s m args below meth c D ca ad A g0 nL (tgt) (lc) (st) g b r) (kf : ¬ x ≤ y → zG p l e R s m args below meth c D ca ad A g0 nL (pc + 3) (lc) (st) g b r) : zG p l e R s m args below meth c D ca ad A g0 nL (pc) (lc) (.inl y :: .inl x :: st) g b r := fun H locs cells slots ls hP hS hl h1 h2 h5 => lv_icmp_le hx hb hd ht (fun q => kt q H locs cells slots ls hP hS hl h1 h2 h5) (fun q => kf q H locs cells slots ls hP hS hl h1 h2 h5)
end Rows
end
section
/-! ===== rows that look at the heap ===== -/
section Rows2
variable {p : Program} {l : Launch} {e : Env} {R : Room} {s : State} {m : MethodId} {args : Array Value} {below : List Frame} {meth : Method} {c : Code} {D : va_G} {ca : Nat → ClassId} {ad : zAD} {A : Nat → Prop} {g0 : zSG} {nL pc : Nat} {lc : zLC} {st : List zVV} {g : zSG} {b : Nat × Nat} {r : zRR} {cc : ByteArray} {own : String}
theorem z_one {D : va_G} {q : Nat × va_E} {H : Heap} (h : va_at D zCL q H) : va_P D zCL [q] H := by
  intro k x hk
  match k, hk with
  | 0, hk => cases hk; exact h
  | k + 1, hk => simp at hk
theorem z_atW {H : Heap} (hP : zHP D ca ad A g H) {q : Nat × Nat × Nat} (h : q ∈ zWI) : va_at D zCL (z_aq ad q, z_cell ad ca g q) H := by
  obtain ⟨k, -, h2⟩ := z_wlget (ad := ad) (ca := ca) (g := g) h
  exact hP.1 k _ h2
theorem z_atS {H : Heap} {locs : List Loc} (hE : zEv D ca ad A g0 s s.heap) (hS : va_S A s.heap H locs) (h5 : g 5 = g0 5) {q : Nat × Nat × Nat} (h : q ∈ zSI) : va_at D zCL (z_aq ad q, z_cell ad ca g q) H := by
  have h1 := (hE.kept hS.2.1).1
  rw [← z_sl_cong h5] at h1
  obtain ⟨k, hk⟩ := List.getElem?_of_mem h
  refine h1 k _ ?_
  unfold z_sl
  rw [List.getElem?_map, hk]
  rfl
/-- an object is there -/
theorem z_atO {H : Heap} {locs : List Loc} (hP : zHP D ca ad A g H) (hE : zEv D ca ad A g0 s s.heap) (hS : va_S A s.heap H locs) (h5 : g 5 = g0 5) {q : vw_C} {k o : Nat} (hq : zCL[k]? = some q) (ho : o < z_ni k) : va_at D zCL (ad k o 0, .inr (k, (List.range (z_nf k)).map (z_fval ad g k o))) H := by
  have hk : k < 6 := (List.getElem?_eq_some_iff.mp hq).1
  by_cases h : k < 5
  · exact z_atW hP (zWI_obj k h o ho)
  · have : k = 5 := by omega
    subst this
    exact z_atS hE hS h5 (zSI_obj o ho)
/-- an array is there -/
theorem z_atA {H : Heap} {locs : List Loc} (hP : zHP D ca ad A g H) (hE : zEv D ca ad A g0 s s.heap) (hS : va_S A s.heap H locs) (h5 : g 5 = g0 5) {k o f : Nat} (hk : k < 6) (ho : o < z_ni k) (hf : f < z_nf k) (ht : (z_ak k f).1 < 4) : va_at D zCL (ad k o (f + 1), z_cell ad ca g (k, o, f + 1)) H := by
  by_cases h : k < 5
  · exact z_atW hP (zWI_arr k h o ho f hf ht)
  · have : k = 5 := by omega
    subst this
    have hf0 : f = 0 := by
      match f, hf with
      | 0, _ => rfl
      | 1, _ => revert ht; decide
      | f + 2, hf => exact absurd hf (by have : z_nf 5 = 2 := rfl; omega)
    subst hf0
    exact z_atS hE hS h5 (zSI_arr o ho)
theorem z_getD_out {α : Type} (l : List α) (k : Nat) (d : α) (h : l.length ≤ k) : l.getD k d = d := by
  rw [List.getD_eq_getElem?_getD, List.getElem?_eq_none h]
  rfl
theorem z_ak_lt {k f : Nat} (hk : k < 6) (h : (z_ak k f).1 < 4) : f < z_nf k := by
  apply Nat.lt_of_not_le
  intro hf
  match k, hk with
  | 0, _ => rw [show z_ak 0 f = (9, 0) from z_getD_out _ _ _ hf] at h; exact absurd h (by decide)
  | 1, _ => rw [show z_ak 1 f = (9, 0) from z_getD_out _ _ _ hf] at h; exact absurd h (by decide)
  | 2, _ => rw [show z_ak 2 f = (9, 0) from z_getD_out _ _ _ hf] at h; exact absurd h (by decide)
  | 3, _ => rw [show z_ak 3 f = (9, 0) from z_getD_out _ _ _ hf] at h; exact absurd h (by decide)
  | 4, _ => rw [show z_ak 4 f = (9, 0) from z_getD_out _ _ _ hf] at h; exact absurd h (by decide)
  | 5, _ => rw [show z_ak 5 f = (9, 0) from z_getD_out _ _ _ hf] at h; exact absurd h (by decide)
theorem zs_getf (hx : p.tables.exec = Jvm.exec) (hb : c.code = cc) (hts : ∀ w ∈ zWS, w.before args s = true) (hown : s.vm.findClass own = some m.cls) (hK : va_K D zCL (zTL ca) s) (hE : zEv D ca ad A g0 s s.heap) {k o kf j : Nat} {q : vw_C} {v : zVV} (hq : zCL[k]? = some q) (ho : o < z_ni k) (hkf : kf < q.2.2)
    (hlink : Cond.fieldLink own j (q.2.1 kf).1 (q.2.1 kf).2.1 (q.2.1 kf).2.2.1 ∈ zWS) (hv : z_fval ad g k o kf = z_tV ad v) (hd : decode cc pc = .ok (.getfield j, 3)) (hk : zG p l e R s m args below meth c D ca ad A g0 nL (pc + 3) lc (v :: st) g b r) : zG p l e R s m args below meth c D ca ad A g0 nL pc lc (.inr (.inl (k, o, 0)) :: st) g b r := by
  intro H locs cells slots ls hP hS hl h1 h2 h5
  obtain ⟨C, T, N⟩ := q
  have hN : N = z_nf k := z_nfok hq
  refine va_get (D := D) (cl := zCL) (tys := zTL ca) (ci := k) (C := C) (T := T) (N := N) hx hb hts (z_inFw hq) hown hK (z_one (z_atO hP hE hS h5 hq ho)) 0 rfl hq kf hkf (hts _ hlink) (fun _ h => h) (v := z_tV ad v) ?_ hd (hk H locs cells slots ls hP hS hl h1 h2 h5)
  rw [List.getElem?_map, List.getElem?_range (by rw [← hN]; exact hkf)]
  show some (z_fval ad g k o kf) = _
  rw [hv]
theorem zs_putf (hx : p.tables.exec = Jvm.exec) (hb : c.code = cc) (hts : ∀ w ∈ zWS, w.before args s = true) (hown : s.vm.findClass own = some m.cls) (hK : va_K D zCL (zTL ca) s) {k o kf j : Nat} {q : vw_C} {v : zVV} {x : Int32} (hq : zCL[k]? = some q) (hk5 : k < 5) (ho : o < z_ni k) (hkf : kf < q.2.2)
    (hlink : Cond.fieldLink own j (q.2.1 kf).1 (q.2.1 kf).2.1 (q.2.1 kf).2.2.1 ∈ zWS) (hfin : (q.2.1 kf).2.2.2 = false) (hn : narrow (z_ty k kf) (z_tV ad v) = z_tV ad v) (hfit : fits (z_ty k kf) (z_tV ad v) = true) (hv : z_fval ad (z_gI g k o kf x) k o kf = z_tV ad v) (hd : decode cc pc = .ok (.putfield j, 3)) (hk : zG p l e R s m args below meth c D ca ad A g0 nL (pc + 3) lc st (z_gI g k o kf x) b r) : zG p l e R s m args below meth c D ca ad A g0 nL pc lc (v :: .inr (.inl (k, o, 0)) :: st) g b r := by
  intro H locs cells slots ls hP hS hl h1 h2 h5
  obtain ⟨C, T, N⟩ := q
  have hN : N = z_nf k := z_nfok hq
  obtain ⟨q0, e1, e2⟩ := z_wlget (ad := ad) (ca := ca) (g := g) (zWI_obj k hk5 o ho)
  refine va_put (D := D) (cl := zCL) (tys := zTL ca) (ci := k) (C := C) (T := T) (N := N) hx hb hts (z_inFw hq) (z_ty k) (z_tyok hq) (z_nmok hq) hown hK hP.1 hP.2 hS q0 e2 hq kf hkf (hts _ hlink) (fun _ h => h) hfin (z_tyok hq kf hkf) hn hfit (by simpa [hN] using hkf) hd (fun H1 locs1 hP1 hD1 hS1 => ?_)
  have hset : (z_wl ad ca g).set q0 (z_aq ad (k, o, 0), .inr (k, ((List.range (z_nf k)).map (z_fval ad g k o)).set kf (z_tV ad v))) = z_wl ad ca (z_gI g k o kf x) := by
    refine z_wlset e1 ?_ (fun q' hq' => z_cell_gI hk5 hq')
    rw [z_cell_0, ← hv]
    congr 2
    refine z_rangeset (by rw [← hN]; exact hkf) (fun j hj => z_fval_cong ?_)
    rw [z_gI_at, if_pos ⟨rfl, rfl⟩]
    show upd (g k o).1 kf x j = _
    exact pk_un hj
  rw [hset] at hP1 hD1
  exact hk H1 locs1 cells slots ls ⟨hP1, hD1⟩ hS1 hl h1 h2 (by rw [z_gI_5 hk5]; exact h5)
theorem z_cell_int {k o f : Nat} (h : (z_ak k f).1 = 0) : z_cell ad ca g (k, o, f + 1) = .inl (ca 0, z_alen g k o f, .inl ((g k o).2 f)) := by
  unfold z_cell
  dsimp only
  rw [h]
  rfl
theorem z_cell_bool {k o f : Nat} (h : (z_ak k f).1 = 1) : z_cell ad ca g (k, o, f + 1) = .inl (ca 1, z_alen g k o f, .inl ((g k o).2 f)) := by
  unfold z_cell
  dsimp only
  rw [h]
  rfl
theorem zs_iald (hx : p.tables.exec = Jvm.exec) (hb : c.code = cc) (hK : va_K D zCL (zTL ca) s) (hE : zEv D ca ad A g0 s s.heap) {k o f : Nat} {x : Int32} (hk6 : k < 6) (ho : o < z_ni k) (ht : (z_ak k f).1 = 0) (hin : z_inb x (z_alen g k o f)) (hd : decode cc pc = .ok (.iaload, 1)) (hk : zG p l e R s m args below meth c D ca ad A g0 nL (pc + 1) lc (.inl ((g k o).2 f x.toNatClampNeg) :: st) g b r) : zG p l e R s m args below meth c D ca ad A g0 nL pc lc (.inl x :: .inr (.inl (k, o, f + 1)) :: st) g b r := by
  intro H locs cells slots ls hP hS hl h1 h2 h5
  have hat := z_atA hP hE hS h5 hk6 ho (z_ak_lt hk6 (by rw [ht]; decide)) (by rw [ht]; decide)
  rw [z_cell_int ht] at hat
  exact va_iald hx hb hK (z_one hat) 0 0 rfl rfl (z_inb_iff.mp hin) hd (hk H locs cells slots ls hP hS hl h1 h2 h5)
theorem zs_zald (hx : p.tables.exec = Jvm.exec) (hb : c.code = cc) (hK : va_K D zCL (zTL ca) s) (hE : zEv D ca ad A g0 s s.heap) {k o f : Nat} {x : Int32} (hk6 : k < 6) (ho : o < z_ni k) (ht : (z_ak k f).1 = 1) (hin : z_inb x (z_alen g k o f)) (hd : decode cc pc = .ok (.baload, 1)) (hk : zG p l e R s m args below meth c D ca ad A g0 nL (pc + 1) lc (.inl ((g k o).2 f x.toNatClampNeg) :: st) g b r) : zG p l e R s m args below meth c D ca ad A g0 nL pc lc (.inl x :: .inr (.inl (k, o, f + 1)) :: st) g b r := by
  intro H locs cells slots ls hP hS hl h1 h2 h5
  have hat := z_atA hP hE hS h5 hk6 ho (z_ak_lt hk6 (by rw [ht]; decide)) (by rw [ht]; decide)
  rw [z_cell_bool ht] at hat
  exact va_zald hx hb hK (z_one hat) 0 1 rfl rfl (z_inb_iff.mp hin) hd (hk H locs cells slots ls hP hS hl h1 h2 h5)
theorem z_gA_self (g : zSG) (k o f : Nat) (h : Nat → Int32) : (z_gA g k o f h k o).2 f = h := by
  rw [z_gA_at, if_pos ⟨rfl, rfl⟩]
  exact va_up_self _ _ _
theorem zs_iast (hx : p.tables.exec = Jvm.exec) (hb : c.code = cc) (hK : va_K D zCL (zTL ca) s) {k o f : Nat} {x v : Int32} (hk5 : k < 5) (ho : o < z_ni k) (ht : (z_ak k f).1 = 0) (hin : z_inb x (z_alen g k o f)) (hd : decode cc pc = .ok (.iastore, 1)) (hk : zG p l e R s m args below meth c D ca ad A g0 nL (pc + 1) lc st (z_gA g k o f (upd ((g k o).2 f) x.toNatClampNeg v)) b r) : zG p l e R s m args below meth c D ca ad A g0 nL pc lc (.inl v :: .inl x :: .inr (.inl (k, o, f + 1)) :: st) g b r := by
  intro H locs cells slots ls hP hS hl h1 h2 h5
  obtain ⟨q0, e1, e2⟩ := z_wlget (ad := ad) (ca := ca) (g := g) (zWI_arr k hk5 o ho f (z_ak_lt (by omega) (by rw [ht]; decide)) (by rw [ht]; decide))
  rw [z_cell_int ht] at e2
  refine va_iast hx hb hK hP.1 hP.2 hS q0 0 e2 rfl (z_inb_iff.mp hin) hd (fun H1 locs1 hP1 hD1 hS1 => ?_)
  have hset : (z_wl ad ca g).set q0 (z_aq ad (k, o, f + 1), .inl (ca 0, z_alen g k o f, .inl (upd ((g k o).2 f) x.toNatClampNeg v))) = z_wl ad ca (z_gA g k o f (upd ((g k o).2 f) x.toNatClampNeg v)) := by
    refine z_wlset e1 ?_ (fun q' hq' => z_cell_gA hk5 hq')
    rw [z_cell_int ht, z_alen_eq (z_gA_5 hk5), z_gA_self]
  rw [hset] at hP1 hD1
  exact hk H1 locs1 cells slots ls ⟨hP1, hD1⟩ hS1 hl h1 h2 (by rw [z_gA_5 hk5]; exact h5)
theorem z_nar_bool (x : Int32) : vp_nar .boolean x = x &&& 1 := by
  unfold vp_nar
  first | rfl | simp [narrow]
theorem zs_zast (hx : p.tables.exec = Jvm.exec) (hb : c.code = cc) (hK : va_K D zCL (zTL ca) s) {k o f : Nat} {x v : Int32} (hk5 : k < 5) (ho : o < z_ni k) (ht : (z_ak k f).1 = 1) (hin : z_inb x (z_alen g k o f)) (hd : decode cc pc = .ok (.bastore, 1)) (hk : zG p l e R s m args below meth c D ca ad A g0 nL (pc + 1) lc st (z_gA g k o f (upd ((g k o).2 f) x.toNatClampNeg (v &&& 1))) b r) : zG p l e R s m args below meth c D ca ad A g0 nL pc lc (.inl v :: .inl x :: .inr (.inl (k, o, f + 1)) :: st) g b r := by
  intro H locs cells slots ls hP hS hl h1 h2 h5
  obtain ⟨q0, e1, e2⟩ := z_wlget (ad := ad) (ca := ca) (g := g) (zWI_arr k hk5 o ho f (z_ak_lt (by omega) (by rw [ht]; decide)) (by rw [ht]; decide))
  rw [z_cell_bool ht] at e2
  refine va_zast hx hb hK hP.1 hP.2 hS q0 1 e2 rfl (z_inb_iff.mp hin) hd (fun H1 locs1 hP1 hD1 hS1 => ?_)
  rw [z_nar_bool] at hP1 hD1
  have hset : (z_wl ad ca g).set q0 (z_aq ad (k, o, f + 1), .inl (ca 1, z_alen g k o f, .inl (upd ((g k o).2 f) x.toNatClampNeg (v &&& 1)))) = z_wl ad ca (z_gA g k o f (upd ((g k o).2 f) x.toNatClampNeg (v &&& 1))) := by
    refine z_wlset e1 ?_ (fun q' hq' => z_cell_gA hk5 hq')
    rw [z_cell_bool ht, z_alen_eq (z_gA_5 hk5), z_gA_self]
  rw [hset] at hP1 hD1
  exact hk H1 locs1 cells slots ls ⟨hP1, hD1⟩ hS1 hl h1 h2 (by rw [z_gA_5 hk5]; exact h5)
theorem zs_alen (hx : p.tables.exec = Jvm.exec) (hb : c.code = cc) (hK : va_K D zCL (zTL ca) s) (hE : zEv D ca ad A g0 s s.heap) {k o f : Nat} (hk6 : k < 6) (ho : o < z_ni k) (ht : (z_ak k f).1 < 2) (hd : decode cc pc = .ok (.arraylength, 1)) (hk : zG p l e R s m args below meth c D ca ad A g0 nL (pc + 1) lc (.inl (Int32.ofNat (z_alen g k o f)) :: st) g b r) : zG p l e R s m args below meth c D ca ad A g0 nL pc lc (.inr (.inl (k, o, f + 1)) :: st) g b r := by
  intro H locs cells slots ls hP hS hl h1 h2 h5
  have hat := z_atA (f := f) hP hE hS h5 hk6 ho (z_ak_lt hk6 (by omega)) (by omega)
  rcases (show (z_ak k f).1 = 0 ∨ (z_ak k f).1 = 1 by omega) with ht | ht
  · rw [z_cell_int ht] at hat
    exact va_alen hx hb hK (z_one hat) 0 0 rfl rfl rfl hd (hk H locs cells slots ls hP hS hl h1 h2 h5)
  · rw [z_cell_bool ht] at hat
    exact va_alen hx hb hK (z_one hat) 0 1 rfl rfl rfl hd (hk H locs cells slots ls hP hS hl h1 h2 h5)
/-- a row of references: scripts, the runs with all, the trial runs -/
def z_rfs (f : Nat) (x : Int32) : Nat × Nat × Nat := match f with
  | 4 => (5, x.toNatClampNeg, 0)
  | 7 => (4, x.toNatClampNeg, 0)
  | _ => (4, 2 + x.toNatClampNeg, 0)
def z_rfn (f : Nat) : Nat := match f with
  | 4 => 8
  | _ => 2
theorem zs_aald (hx : p.tables.exec = Jvm.exec) (hb : c.code = cc) (hK : va_K D zCL (zTL ca) s) {f : Nat} (hf : f = 4 ∨ f = 7 ∨ f = 8) {x : Int32} (hin : z_inb x (z_rfn f)) (hd : decode cc pc = .ok (.aaload, 1)) (hk : zG p l e R s m args below meth c D ca ad A g0 nL (pc + 1) lc (.inr (.inl (z_rfs f x)) :: st) g b r) : zG p l e R s m args below meth c D ca ad A g0 nL pc lc (.inl x :: .inr (.inl (0, 0, f + 1)) :: st) g b r := by
  intro H locs cells slots ls hP hS hl h1 h2 h5
  rcases hf with rfl | rfl | rfl
  · have hat := z_atW hP (zWI_arr 0 (by decide) 0 (by decide) 4 (by decide) (by decide))
    exact va_aldq hx hb hK (z_one hat) 0 3 rfl rfl (z_inb_iff.mp hin) hd (hk H locs cells slots ls hP hS hl h1 h2 h5)
  · have hat := z_atW hP (zWI_arr 0 (by decide) 0 (by decide) 7 (by decide) (by decide))
    have e : va_rf ((fun j => some (ad 4 ((bif Nat.beq 7 7 then 0 else 2) + j) 0)) x.toNatClampNeg) = z_tV ad (.inr (.inl (z_rfs 7 x))) := by
      show Value.ref (ad 4 (0 + x.toNatClampNeg) 0) = Value.ref (ad 4 x.toNatClampNeg 0)
      rw [Nat.zero_add]
    refine va_aldq hx hb hK (z_one hat) 0 2 rfl rfl (z_inb_iff.mp hin) hd ?_
    rw [e]
    exact hk H locs cells slots ls hP hS hl h1 h2 h5
  · have hat := z_atW hP (zWI_arr 0 (by decide) 0 (by decide) 8 (by decide) (by decide))
    exact va_aldq hx hb hK (z_one hat) 0 2 rfl rfl (z_inb_iff.mp hin) hd (hk H locs cells slots ls hP hS hl h1 h2 h5)
end Rows2
end
section
/-! ===== the pure machine is sound ===== -/
def z_len (i : Instr) : Option Nat := match i with
  | .iconst _ => some 1 | .bipush _ => some 2 | .sipush _ => some 3 | .lconst _ => some 1 | .ldc _ => some 2 | .ldc_w _ => some 3 | .ldc2_w _ => some 3
  | .iload_n _ => some 1 | .iload _ => some 2 | .aload_n _ => some 1 | .aload _ => some 2 | .lload_n _ => some 1
  | .istore_n _ => some 1 | .istore _ => some 2 | .astore_n _ => some 1 | .astore _ => some 2 | .lstore_n _ => some 1
  | .iinc _ _ => some 3 | .ifCond _ _ => some 3 | .if_icmp _ _ => some 3 | .goto _ => some 3
  | .getfield _ => some 3 | .putfield _ => some 3 | .invokevirtual _ => some 3 | .invokestatic _ => some 3 | .new _ => some 3
  | .tableswitch _ _ _ _ => none
  | _ => some 1
def z_off (i : Instr) : Option Int := match i with
  | .ifCond _ o => some o
  | .if_icmp _ o => some o
  | .goto o => some o
  | _ => none
def z_okb (cc : ByteArray) (pc : Nat) (i : Instr) (nx tg : Nat) : Bool :=
  decide (decode cc pc = .ok (i, nx - pc)) && (match z_len i with
    | some n => decide (nx = pc + n)
    | none => true) && (match z_off i with
    | some o => decide ((pc : Int) + o = (tg : Int))
    | none => true)
def z_okc (cc : ByteArray) (cd : zCD) : Bool := cd.all fun q => z_okb cc q.1 q.2.1 q.2.2.1 q.2.2.2
theorem z_okc_at {cc : ByteArray} {cd : zCD} (h : z_okc cc cd = true) {pc nx tg : Nat} {i : Instr} (hl : z_look cd pc = some (i, nx, tg)) : z_okb cc pc i nx tg = true := by
  unfold z_okc at h
  have h1 := List.all_eq_true.mp h (pc, i, nx, tg) (z_look_mem hl)
  exact h1
def z_flb (own : String) (j c kf : Nat) : Bool := match zCL[c]? with
  | some q => decide (kf < q.2.2) && decide (Cond.fieldLink own j (q.2.1 kf).1 (q.2.1 kf).2.1 (q.2.1 kf).2.2.1 ∈ zWS)
  | none => false
theorem z_flb_at {own : String} {j c kf : Nat} (h : z_flb own j c kf = true) : ∃ q, zCL[c]? = some q ∧ kf < q.2.2 ∧ Cond.fieldLink own j (q.2.1 kf).1 (q.2.1 kf).2.1 (q.2.1 kf).2.2.1 ∈ zWS := by
  unfold z_flb at h
  cases hq : zCL[c]? with
  | none => rw [hq] at h; cases h
  | some q =>
    rw [hq] at h
    simp only [Bool.and_eq_true, decide_eq_true_eq] at h
    exact ⟨q, rfl, h.1, h.2⟩
def z_csb (own : String) (j : Nat) (v : zVV) : Bool := match v with
  | .inl x => decide (Cond.constant own j x ∈ zWS)
  | .inr (.inl q) => decide (own = RX1) && decide (q.1 = 6) && decide (q.2.1 < 8) && decide (q.2.2 = 0) && decide ((zWds.getD q.2.1 (0, "")).1 = j)
  | .inr (.inr x) => decide (Cond.constantLong own j x ∈ zWS)
theorem z_fk_ok0 : ((List.range 5).all fun c => (List.range (z_nf c)).all fun k => match z_fk c k, zCL[c]? with
    | (0, 0), some q => decide (z_ty c k = .int) && !(q.2.1 k).2.2.2
    | (0, _), some q => decide (z_ty c k = .boolean) && !(q.2.1 k).2.2.2
    | (3, _), some q => decide (z_ty c k = .array .int) && !(q.2.1 k).2.2.2
    | _, some _ => true
    | _, none => false) = true := by decide +kernel
theorem z_fk_ok {c k : Nat} {q : vw_C} (hc : c < 5) (hq : zCL[c]? = some q) (hk : k < q.2.2) : (match z_fk c k with
    | (0, 0) => z_ty c k = .int ∧ (q.2.1 k).2.2.2 = false
    | (0, _) => z_ty c k = .boolean ∧ (q.2.1 k).2.2.2 = false
    | (3, _) => z_ty c k = .array .int ∧ (q.2.1 k).2.2.2 = false
    | _ => True) := by
  have h := List.all_eq_true.mp (List.all_eq_true.mp z_fk_ok0 c (List.mem_range.mpr hc)) k (List.mem_range.mpr (by rw [← z_nfok hq]; exact hk))
  rw [hq] at h
  split at h <;> simp_all
section Snd
variable {p : Program} {l : Launch} {e : Env} {R : Room} {s : State} {m : MethodId} {args : Array Value} {below : List Frame} {meth : Method} {c : Code} {D : va_G} {ca : Nat → ClassId} {ad : zAD} {A : Nat → Prop} {g0 : zSG} {nL pc : Nat} {lc : zLC} {st : List zVV} {g : zSG} {b : Nat × Nat} {r : zRR} {cc : ByteArray} {own : String}
theorem zs_iret (hx : p.tables.exec = Jvm.exec) (hb : c.code = cc) (hlocks : meth.locks = false) (hr : meth.sig.returnType = some .int) {x : Int32} (hd : decode cc pc = .ok (.ireturn, 1)) : zG p l e R s m args below meth c D ca ad A g0 nL pc lc [.inl x] g b (.inl (some (.inl x)), g) := by
  intro H locs cells slots ls hP hS hl h1 h2 h5
  refine W.widen (k := R.cells) (n := R.slots) (by omega) (by omega) ?_
  refine vx_ret ?_
  exact W.iret hx hb hr (fun t ht hW => ⟨⟨some (.inl x), rfl, rfl, by rw [ht]; exact hP, h5⟩, hS.F ht⟩) hS.2.2 hd hlocks
theorem zs_zret (hx : p.tables.exec = Jvm.exec) (hb : c.code = cc) (hlocks : meth.locks = false) (hr : meth.sig.returnType = some .boolean) {x : Int32} (hv : x = 0 ∨ x = 1) (hd : decode cc pc = .ok (.ireturn, 1)) : zG p l e R s m args below meth c D ca ad A g0 nL pc lc [.inl x] g b (.inl (some (.inl x)), g) := by
  intro H locs cells slots ls hP hS hl h1 h2 h5
  refine W.widen (k := R.cells) (n := R.slots) (by omega) (by omega) ?_
  refine vx_ret ?_
  exact W.zret hx hb hr (by rcases hv with rfl | rfl <;> rfl) (fun t ht hW => ⟨⟨some (.inl x), rfl, rfl, by rw [ht]; exact hP, h5⟩, hS.F ht⟩) hS.2.2 hd hlocks
theorem zs_lret (hx : p.tables.exec = Jvm.exec) (hb : c.code = cc) (hlocks : meth.locks = false) (hr : meth.sig.returnType = some .long) {x : Int64} (hd : decode cc pc = .ok (.lreturn, 1)) : zG p l e R s m args below meth c D ca ad A g0 nL pc lc [.inr (.inr x)] g b (.inl (some (.inr (.inr x))), g) := by
  intro H locs cells slots ls hP hS hl h1 h2 h5
  refine W.widen (k := R.cells) (n := R.slots) (by omega) (by omega) ?_
  refine vx_ret ?_
  exact W.lret hx hb hr (fun t ht hW => ⟨⟨some (.inr (.inr x)), rfl, rfl, by rw [ht]; exact hP, h5⟩, hS.F ht⟩) hS.2.2 hd hlocks
theorem zs_vret (hx : p.tables.exec = Jvm.exec) (hb : c.code = cc) (hlocks : meth.locks = false) (hr : meth.sig.returnType = none) (hd : decode cc pc = .ok (.return_, 1)) : zG p l e R s m args below meth c D ca ad A g0 nL pc lc [] g b (.inl none, g) := by
  intro H locs cells slots ls hP hS hl h1 h2 h5
  refine W.widen (k := R.cells) (n := R.slots) (by omega) (by omega) ?_
  refine vx_ret ?_
  exact W.vret hx hb hr (fun t ht hW => ⟨⟨none, rfl, rfl, by rw [ht]; exact hP, h5⟩, hS.F ht⟩) hS.2.2 hd hlocks
theorem z_tsw_spec {k : Int → Option zRR} {x d : Int} : ∀ (l : List Int) (lo : Int), z_tsw k x d lo l = some r → (∃ (j : Nat) (o : Int), l[j]? = some o ∧ x = lo + (j : Int) ∧ k o = some r) ∨ ((x < lo ∨ lo + (l.length : Int) ≤ x) ∧ k d = some r) := by
  intro l
  induction l with
  | nil =>
    intro lo h
    refine Or.inr ⟨?_, h⟩
    simp only [List.length_nil]
    omega
  | cons o r ih =>
    intro lo h
    unfold z_tsw at h
    by_cases hx : x = lo
    · rw [if_pos hx] at h
      exact Or.inl ⟨0, o, rfl, by simp [hx], h⟩
    · rw [if_neg hx] at h
      rcases ih (lo + 1) h with ⟨j, o', h1, h2, h3⟩ | ⟨h1, h2⟩
      · exact Or.inl ⟨j + 1, o', by simpa using h1, by omega, h3⟩
      · refine Or.inr ⟨?_, h2⟩
        simp only [List.length_cons]
        omega
theorem zs_tsw (hx : p.tables.exec = Jvm.exec) (hb : c.code = cc) {d lo hi : Int} {offs : Array Int} {len : Nat} {x : Int32} {k : zKK} (hd : decode cc pc = .ok (.tableswitch d lo hi offs, len)) (hh : hi = lo + (offs.toList.length : Int) - 1) (hall : ∀ o ∈ d :: offs.toList, 0 ≤ (pc : Int) + o)
    (h : z_tsw (fun o => k ((pc : Int) + o).toNat lc st g b) x.toInt d lo offs.toList = some r) (hk : ∀ pc' r, k pc' lc st g b = some r → zG p l e R s m args below meth c D ca ad A g0 nL pc' lc st g b r) : zG p l e R s m args below meth c D ca ad A g0 nL pc lc (.inl x :: st) g b r := by
  intro H locs cells slots ls hP hS hl h1 h2 h5
  rcases z_tsw_spec _ _ h with ⟨j, o, q1, q2, q3⟩ | ⟨q1, q2⟩
  · have hj : j < offs.toList.length := (List.getElem?_eq_some_iff.mp q1).1
    have hm := hall o (List.mem_cons_of_mem _ (List.mem_of_getElem? q1))
    refine lv_tableIn hx hb hd (off := o) (tgt := ((pc : Int) + o).toNat) (by omega) (by omega) ?_ (by omega) (hk _ _ q3 H locs cells slots ls hP hS hl h1 h2 h5)
    rw [q2, show lo + (j : Int) - lo = (j : Int) by omega, Int.toNat_natCast, ← Array.getElem?_toList]
    exact q1
  · have hm := hall d List.mem_cons_self
    exact lv_tableOut hx hb hd (tgt := ((pc : Int) + d).toNat) (by omega) (by omega) (hk _ _ q2 H locs cells slots ls hP hS hl h1 h2 h5)
theorem zs_ldc (hx : p.tables.exec = Jvm.exec) (hb : c.code = cc) (hts : ∀ w ∈ zWS, w.before args s = true) (hown : s.vm.findClass own = some m.cls) (hE : zEv D ca ad A g0 s s.heap) {j : Nat} {v : zVV} (hv : z_csb own j v = true) (hl2 : z_isL v = false) (hd : decode cc pc = .ok (.ldc j, 2)) (hk : zG p l e R s m args below meth c D ca ad A g0 nL (pc + 2) lc (v :: st) g b r) : zG p l e R s m args below meth c D ca ad A g0 nL pc lc st g b r := by
  intro H locs cells slots ls hP hS hl h1 h2 h5
  rcases v with x | ⟨k, i, f⟩ | x
  · have h9 : decide (Cond.constant own j x ∈ zWS) = true := hv
    exact lv_ldc hx hb hown (hts _ (of_decide_eq_true h9)) hd (hk H locs cells slots ls hP hS hl h1 h2 h5)
  · simp only [z_csb, Bool.and_eq_true, decide_eq_true_eq] at hv
    obtain ⟨⟨⟨⟨rfl, rfl⟩, h8⟩, rfl⟩, hj⟩ := hv
    obtain ⟨-, -, -, -, -, e6, -⟩ := hE
    have h9 := e6 i h8
    rw [hj] at h9
    exact va_ldcS hx hb hown h9 hd (hk H locs cells slots ls hP hS hl h1 h2 h5)
  · cases hl2
theorem zs_ldcw (hx : p.tables.exec = Jvm.exec) (hb : c.code = cc) (hts : ∀ w ∈ zWS, w.before args s = true) (hown : s.vm.findClass own = some m.cls) {j : Nat} {x : Int32} (hv : z_csb own j (.inl x) = true) (hd : decode cc pc = .ok (.ldc_w j, 3)) (hk : zG p l e R s m args below meth c D ca ad A g0 nL (pc + 3) lc (.inl x :: st) g b r) : zG p l e R s m args below meth c D ca ad A g0 nL pc lc st g b r := by
  intro H locs cells slots ls hP hS hl h1 h2 h5
  have h9 : decide (Cond.constant own j x ∈ zWS) = true := hv
  exact lv_ldcw hx hb hown (hts _ (of_decide_eq_true h9)) hd (hk H locs cells slots ls hP hS hl h1 h2 h5)
theorem zs_ldc2 (hx : p.tables.exec = Jvm.exec) (hb : c.code = cc) (hts : ∀ w ∈ zWS, w.before args s = true) (hown : s.vm.findClass own = some m.cls) {j : Nat} {x : Int64} (hv : z_csb own j (.inr (.inr x)) = true) (hd : decode cc pc = .ok (.ldc2_w j, 3)) (hk : zG p l e R s m args below meth c D ca ad A g0 nL (pc + 3) lc (.inr (.inr x) :: st) g b r) : zG p l e R s m args below meth c D ca ad A g0 nL pc lc st g b r := by
  intro H locs cells slots ls hP hS hl h1 h2 h5
  have h9 : decide (Cond.constantLong own j x ∈ zWS) = true := hv
  exact lv_ldc2 hx hb hown (hts _ (of_decide_eq_true h9)) hd (hk H locs cells slots ls hP hS hl h1 h2 h5)
end Snd
end
section
/-! ===== soundness of the pure machine, whole ===== -/
theorem z_ok1 {cc : ByteArray} {pc nx tg n : Nat} {i : Instr} (h : z_okb cc pc i nx tg = true) (hl : z_len i = some n) : decode cc pc = .ok (i, n) ∧ nx = pc + n := by
  unfold z_okb at h
  rw [hl] at h
  simp only [Bool.and_eq_true, decide_eq_true_eq] at h
  obtain ⟨⟨h1, h2⟩, -⟩ := h
  subst h2
  rw [Nat.add_sub_cancel_left] at h1
  exact ⟨h1, rfl⟩
theorem z_ok2 {cc : ByteArray} {pc nx tg : Nat} {o : Int} {i : Instr} (h : z_okb cc pc i nx tg = true) (hl : z_off i = some o) : (pc : Int) + o = (tg : Int) := by
  unfold z_okb at h
  rw [hl] at h
  simp only [Bool.and_eq_true, decide_eq_true_eq] at h
  exact h.2
theorem z_ok0 {cc : ByteArray} {pc nx tg : Nat} {i : Instr} (h : z_okb cc pc i nx tg = true) : decode cc pc = .ok (i, nx - pc) := by
  unfold z_okb at h
  simp only [Bool.and_eq_true, decide_eq_true_eq] at h
  exact h.1.1
theorem z_cnd {α : Type} {q : Bool} {x : Option α} {y : α} (h : (bif q then x else none) = some y) : q = true ∧ x = some y := by
  cases q with
  | true => exact ⟨rfl, h⟩
  | false => cases h
theorem z_cnd0 {α : Type} {q : Bool} {x : Option α} {y : α} (h : (bif q then none else x) = some y) : q = false ∧ x = some y := by
  cases q with
  | false => exact ⟨rfl, h⟩
  | true => cases h
theorem z_ift {α : Type} {q : Prop} [Decidable q] {x : Option α} {y : α} (h : (if q then x else none) = some y) : q ∧ x = some y := by
  by_cases hq : q
  · rw [if_pos hq] at h; exact ⟨hq, h⟩
  · rw [if_neg hq] at h; cases h
theorem z_iff0 {α : Type} {q : Prop} [Decidable q] {x : Option α} {y : α} (h : (if q then none else x) = some y) : ¬ q ∧ x = some y := by
  by_cases hq : q
  · rw [if_pos hq] at h; cases h
  · rw [if_neg hq] at h; exact ⟨hq, h⟩
section Main
variable {p : Program} {l : Launch} {e : Env} {R : Room} {s : State} {m : MethodId} {args : Array Value} {below : List Frame} {meth : Method} {c : Code} {D : va_G} {ca : Nat → ClassId} {ad : zAD} {A : Nat → Prop} {g0 : zSG} {nL pc : Nat} {lc : zLC} {st : List zVV} {g : zSG} {b : Nat × Nat} {r : zRR} {cc : ByteArray} {own : String}
/-- a throw at this place -/
def zThrH (p : Program) (l : Launch) (e : Env) (R : Room) (s : State) (m : MethodId) (args : Array Value) (below : List Frame) (meth : Method) (c : Code) (D : va_G) (ca : Nat → ClassId) (ad : zAD) (A : Nat → Prop) (g0 : zSG) (nL : Nat) (pc x : Nat) : Prop :=
  ∀ (lc : zLC) (st : List zVV) (g : zSG) (b : Nat × Nat), 1 ≤ b.1 → 6 ≤ b.2 → z_wt st ≤ 8 → zG p l e R s m args below meth c D ca ad A g0 nL pc lc st g b (.inr x, g)
/-- a call at this place -/
def zCalH (p : Program) (l : Launch) (e : Env) (R : Room) (s : State) (m : MethodId) (args : Array Value) (below : List Frame) (meth : Method) (c : Code) (D : va_G) (ca : Nat → ClassId) (ad : zAD) (A : Nat → Prop) (g0 : zSG) (nL : Nat) (pc nx : Nat) (ci : zCI) : Prop :=
  ∀ (lc : zLC) (st : List zVV) (g : zSG) (b : Nat × Nat) (r' r : zRR), ci.2.1 ≤ st.length → ci.2.2.2.1 ≤ b.1 → ci.2.2.2.2 ≤ b.2 → z_wt (st.drop ci.2.1) ≤ 8 → ci.1 (st.take ci.2.1).reverse g = some r' →
    (∀ v, r'.1 = .inl v → zG p l e R s m args below meth c D ca ad A g0 nL nx lc (v.toList ++ st.drop ci.2.1) r'.2 (b.1 - ci.2.2.2.1, b.2 - ci.2.2.2.2) r) → (∀ x, r'.1 = .inr x → r = (.inr x, r'.2)) → zG p l e R s m args below meth c D ca ad A g0 nL pc lc st g b r
theorem z_call {nx : Nat} {ci : zCI} {k : zKK} (hc : zCalH p l e R s m args below meth c D ca ad A g0 nL pc nx ci) (hk : ∀ pc' lc' st' g' b' r', k pc' lc' st' g' b' = some r' → zG p l e R s m args below meth c D ca ad A g0 nL pc' lc' st' g' b' r') (h : z_cll k ci nx lc st g b = some r) : zG p l e R s m args below meth c D ca ad A g0 nL pc lc st g b r := by
  unfold z_cll at h
  obtain ⟨h0, h⟩ := z_cnd h
  simp only [Bool.and_eq_true, Nat.ble_eq] at h0
  obtain ⟨⟨⟨a1, a2⟩, a3⟩, a4⟩ := h0
  have key : ∀ o, ci.1 (st.take ci.2.1).reverse g = o → o = ci.1 (st.take ci.2.1).reverse g := fun o h => h.symm
  split at h
  · unfold z_bV at h
    split at h
    · rename_i q
      exact hc lc st g b _ r a1 a2 a3 a4 q (fun v hv => by cases hv; exact hk _ _ _ _ _ _ h) (fun x hx => by cases hx)
    · rename_i q
      cases h
      exact hc lc st g b _ _ a1 a2 a3 a4 q (fun v hv => by cases hv) (fun x hx => by cases hx; rfl)
    · cases h
  · unfold z_bI at h
    split at h
    · rename_i q
      exact hc lc st g b _ r a1 a2 a3 a4 q (fun v hv => by cases hv; exact hk _ _ _ _ _ _ h) (fun x hx => by cases hx)
    · rename_i q
      cases h
      exact hc lc st g b _ _ a1 a2 a3 a4 q (fun v hv => by cases hv) (fun x hx => by cases hx; rfl)
    · cases h
  · unfold z_bL at h
    split at h
    · rename_i q
      exact hc lc st g b _ r a1 a2 a3 a4 q (fun v hv => by cases hv; exact hk _ _ _ _ _ _ h) (fun x hx => by cases hx)
    · rename_i q
      cases h
      exact hc lc st g b _ _ a1 a2 a3 a4 q (fun v hv => by cases hv) (fun x hx => by cases hx; rfl)
    · cases h
theorem z_getc (hx : p.tables.exec = Jvm.exec) (hb : c.code = cc) (hts : ∀ w ∈ zWS, w.before args s = true) (hown : s.vm.findClass own = some m.cls) (hK : va_K D zCL (zTL ca) s) (hE : zEv D ca ad A g0 s s.heap) {j k0 o kf : Nat} {kk : zVV → Option zRR} (hfl : z_flb own j k0 kf = true) (ho : o < z_ni k0) (hd : decode cc pc = .ok (.getfield j, 3))
    (hk : ∀ v, kk v = some r → zG p l e R s m args below meth c D ca ad A g0 nL (pc + 3) lc (v :: st) g b r) (h : z_getF g k0 o kf kk = some r) : zG p l e R s m args below meth c D ca ad A g0 nL pc lc (.inr (.inl (k0, o, 0)) :: st) g b r := by
  obtain ⟨q, hq, hkf, hlink⟩ := z_flb_at hfl
  unfold z_getF at h
  split at h
  · rename_i hfk
    exact zs_getf hx hb hts hown hK hE hq ho hkf hlink (by unfold z_fval; rw [hfk]; rfl) hd (hk _ h)
  · rename_i hfk
    exact zs_getf hx hb hts hown hK hE hq ho hkf hlink (by unfold z_fval; rw [hfk]; rfl) hd (hk _ h)
  · rename_i hfk
    exact zs_getf hx hb hts hown hK hE hq ho hkf hlink (by unfold z_fval; rw [hfk]; rfl) hd (hk _ h)
  · rename_i hfk
    obtain ⟨hg, h⟩ := z_ift h
    exact zs_getf hx hb hts hown hK hE hq ho hkf hlink (v := .inr (.inl (0, 0, 1))) (by unfold z_fval; rw [hfk]; show Value.ref (if (g k0 o).1 kf = 1 then ad 0 0 1 else ad 9 0 0) = _; rw [if_pos hg]; rfl) hd (hk _ h)
  · cases h
theorem z_putc (hx : p.tables.exec = Jvm.exec) (hb : c.code = cc) (hts : ∀ w ∈ zWS, w.before args s = true) (hown : s.vm.findClass own = some m.cls) (hK : va_K D zCL (zTL ca) s) {j k0 o kf : Nat} {v : zVV} {kk : zSG → Option zRR} (hfl : z_flb own j k0 kf = true) (h5k : k0 < 5) (ho : o < z_ni k0) (hd : decode cc pc = .ok (.putfield j, 3))
    (hk : ∀ g', kk g' = some r → zG p l e R s m args below meth c D ca ad A g0 nL (pc + 3) lc st g' b r) (h : z_putF g k0 o kf v kk = some r) : zG p l e R s m args below meth c D ca ad A g0 nL pc lc (v :: .inr (.inl (k0, o, 0)) :: st) g b r := by
  obtain ⟨q, hq, hkf, hlink⟩ := z_flb_at hfl
  have hty := z_fk_ok h5k hq hkf
  unfold z_putF at h
  split at h
  · rename_i hfk
    rw [hfk] at hty
    split at h
    · rename_i x
      exact zs_putf hx hb hts hown hK hq h5k ho hkf hlink hty.2 (by rw [hty.1]; rfl) (by rw [hty.1]; rfl) (by unfold z_fval; rw [hfk]; show Value.int ((z_gI g k0 o kf x k0 o).1 kf) = Value.int x; rw [z_gI_at, if_pos ⟨rfl, rfl⟩]; exact congrArg Value.int pk_us) hd (hk _ h)
    · cases h
  · rename_i n hne hfk
    rw [hfk] at hty
    split at h
    · rename_i x
      obtain ⟨h01, h⟩ := z_ift h
      have hty2 : z_ty k0 kf = .boolean ∧ (q.2.1 kf).2.2.2 = false := by
        cases n with
        | zero => exact absurd rfl hne
        | succ n => exact hty
      exact zs_putf hx hb hts hown hK hq h5k ho hkf hlink hty2.2 (by rw [hty2.1]; rcases h01 with rfl | rfl <;> rfl) (by rw [hty2.1]; rcases h01 with rfl | rfl <;> rfl) (by unfold z_fval; rw [hfk]; show Value.int ((z_gI g k0 o kf x k0 o).1 kf) = Value.int x; rw [z_gI_at, if_pos ⟨rfl, rfl⟩]; exact congrArg Value.int pk_us) hd (hk _ h)
    · cases h
  · rename_i hfk
    rw [hfk] at hty
    split at h
    · exact zs_putf hx hb hts hown hK hq h5k ho hkf hlink hty.2 (by rw [hty.1]; rfl) (by rw [hty.1]; rfl) (by unfold z_fval; rw [hfk]; show Value.ref (if (z_gI g k0 o kf 1 k0 o).1 kf = 1 then ad 0 0 1 else ad 9 0 0) = _; rw [if_pos (by rw [z_gI_at, if_pos ⟨rfl, rfl⟩]; exact pk_us)]; rfl) hd (hk _ h)
    · cases h
  · cases h
/-- the return's kind -/
def z_rt (n : Nat) (ret : Option FieldType) : Prop := match n with
  | 0 => ret = none
  | 1 => ret = some .int
  | 2 => ret = some .boolean
  | _ => ret = some .long
set_option maxHeartbeats 4000000 in
theorem z_step (hx : p.tables.exec = Jvm.exec) (hb : c.code = cc) (hts : ∀ w ∈ zWS, w.before args s = true) (hown : s.vm.findClass own = some m.cls) (hK : va_K D zCL (zTL ca) s) (hE : zEv D ca ad A g0 s s.heap) (hlocks : meth.locks = false) {M : zMI} {k : zKK} {i : Instr} {nx tg : Nat} (hnL : M.2.2.2.2.1 = nL) (hrt : z_rt M.2.2.2.2.2 meth.sig.returnType)
    (hfl : ∀ j c kf, M.1 j = some (c, kf) → z_flb own j c kf = true) (hcs : ∀ j v, M.2.2.1 j = some v → z_csb own j v = true)
    (hok : z_okb cc pc i nx tg = true) (hthr : ∀ j x, i = .new j → M.2.2.2.1 j = some x → zThrH p l e R s m args below meth c D ca ad A g0 nL pc x) (hcal : ∀ j ci, (i = .invokevirtual j ∨ i = .invokestatic j) → M.2.1 j = some ci → zCalH p l e R s m args below meth c D ca ad A g0 nL pc nx ci)
    (hk : ∀ pc' lc' st' g' b' r', k pc' lc' st' g' b' = some r' → zG p l e R s m args below meth c D ca ad A g0 nL pc' lc' st' g' b' r') (h : z_stp M k i nx tg pc lc st g b = some r) : zG p l e R s m args below meth c D ca ad A g0 nL pc lc st g b r := by
  subst hnL
  cases i with
  | iconst n =>
    obtain ⟨hd, rfl⟩ := z_ok1 hok rfl
    simp only [z_stp] at h
    exact zs_iconst hx hb hd (hk _ _ _ _ _ _ h)
  | bipush n =>
    obtain ⟨hd, rfl⟩ := z_ok1 hok rfl
    simp only [z_stp] at h
    exact zs_bipush hx hb hd (hk _ _ _ _ _ _ h)
  | sipush n =>
    obtain ⟨hd, rfl⟩ := z_ok1 hok rfl
    simp only [z_stp] at h
    exact zs_sipush hx hb hd (hk _ _ _ _ _ _ h)
  | lconst n =>
    obtain ⟨hd, rfl⟩ := z_ok1 hok rfl
    simp only [z_stp] at h
    exact zs_lconst hx hb hd (hk _ _ _ _ _ _ h)
  | ldc j =>
    obtain ⟨hd, rfl⟩ := z_ok1 hok rfl
    simp only [z_stp] at h
    cases hv : M.2.2.1 j with
    | none => rw [hv] at h; cases h
    | some v =>
      rw [hv] at h
      obtain ⟨h0, h⟩ := z_cnd0 h
      exact zs_ldc hx hb hts hown hE (hcs j v hv) h0 hd (hk _ _ _ _ _ _ h)
  | ldc_w j =>
    obtain ⟨hd, rfl⟩ := z_ok1 hok rfl
    simp only [z_stp] at h
    cases hv : M.2.2.1 j with
    | none => rw [hv] at h; cases h
    | some v =>
      rw [hv] at h
      rcases v with x | q | x
      · exact zs_ldcw hx hb hts hown (hcs j _ hv) hd (hk _ _ _ _ _ _ h)
      · cases h
      · cases h
  | ldc2_w j =>
    obtain ⟨hd, rfl⟩ := z_ok1 hok rfl
    simp only [z_stp] at h
    cases hv : M.2.2.1 j with
    | none => rw [hv] at h; cases h
    | some v =>
      rw [hv] at h
      rcases v with x | q | x
      · cases h
      · cases h
      · exact zs_ldc2 hx hb hts hown (hcs j _ hv) hd (hk _ _ _ _ _ _ h)
  | iload_n j =>
    obtain ⟨hd, rfl⟩ := z_ok1 hok rfl
    simp only [z_stp] at h
    split at h
    · rename_i x hv
      exact zs_iload_n hx hb hv hd (hk _ _ _ _ _ _ h)
    · cases h
  | iload j =>
    obtain ⟨hd, rfl⟩ := z_ok1 hok rfl
    simp only [z_stp] at h
    split at h
    · rename_i x hv
      exact zs_iload hx hb hv hd (hk _ _ _ _ _ _ h)
    · cases h
  | aload_n j =>
    obtain ⟨hd, rfl⟩ := z_ok1 hok rfl
    simp only [z_stp] at h
    split at h
    · rename_i x hv
      exact zs_aload_n hx hb hv hd (hk _ _ _ _ _ _ h)
    · cases h
  | aload j =>
    obtain ⟨hd, rfl⟩ := z_ok1 hok rfl
    simp only [z_stp] at h
    split at h
    · rename_i x hv
      exact zs_aload hx hb hv hd (hk _ _ _ _ _ _ h)
    · cases h
  | lload_n j =>
    obtain ⟨hd, rfl⟩ := z_ok1 hok rfl
    simp only [z_stp] at h
    split at h
    · rename_i x hv
      exact zs_lload_n hx hb hv hd (hk _ _ _ _ _ _ h)
    · cases h
  | istore_n j =>
    obtain ⟨hd, rfl⟩ := z_ok1 hok rfl
    simp only [z_stp] at h
    split at h
    · obtain ⟨h0, h⟩ := z_cnd h
      exact zs_istore_n hx hb (Nat.blt_eq.mp h0) hd (hk _ _ _ _ _ _ h)
    · cases h
  | istore j =>
    obtain ⟨hd, rfl⟩ := z_ok1 hok rfl
    simp only [z_stp] at h
    split at h
    · obtain ⟨h0, h⟩ := z_cnd h
      exact zs_istore hx hb (Nat.blt_eq.mp h0) hd (hk _ _ _ _ _ _ h)
    · cases h
  | astore_n j =>
    obtain ⟨hd, rfl⟩ := z_ok1 hok rfl
    simp only [z_stp] at h
    split at h
    · obtain ⟨h0, h⟩ := z_cnd h
      exact zs_astore_n hx hb (Nat.blt_eq.mp h0) hd (hk _ _ _ _ _ _ h)
    · cases h
  | astore j =>
    obtain ⟨hd, rfl⟩ := z_ok1 hok rfl
    simp only [z_stp] at h
    split at h
    · obtain ⟨h0, h⟩ := z_cnd h
      exact zs_astore hx hb (Nat.blt_eq.mp h0) hd (hk _ _ _ _ _ _ h)
    · cases h
  | lstore_n j =>
    obtain ⟨hd, rfl⟩ := z_ok1 hok rfl
    simp only [z_stp] at h
    split at h
    · obtain ⟨h0, h⟩ := z_cnd h
      exact zs_lstore_n hx hb (Nat.blt_eq.mp h0) hd (hk _ _ _ _ _ _ h)
    · cases h
  | iinc j n =>
    obtain ⟨hd, rfl⟩ := z_ok1 hok rfl
    simp only [z_stp] at h
    split at h
    · rename_i x hv
      obtain ⟨h0, h⟩ := z_cnd h
      exact zs_iinc hx hb hv (Nat.blt_eq.mp h0) hd (hk _ _ _ _ _ _ h)
    · cases h
  | iadd =>
    obtain ⟨hd, rfl⟩ := z_ok1 hok rfl
    simp only [z_stp] at h
    split at h
    · exact zs_iadd hx hb hd (hk _ _ _ _ _ _ h)
    · cases h
  | isub =>
    obtain ⟨hd, rfl⟩ := z_ok1 hok rfl
    simp only [z_stp] at h
    split at h
    · exact zs_isub hx hb hd (hk _ _ _ _ _ _ h)
    · cases h
  | imul =>
    obtain ⟨hd, rfl⟩ := z_ok1 hok rfl
    simp only [z_stp] at h
    split at h
    · exact zs_imul hx hb hd (hk _ _ _ _ _ _ h)
    · cases h
  | iand =>
    obtain ⟨hd, rfl⟩ := z_ok1 hok rfl
    simp only [z_stp] at h
    split at h
    · exact zs_iand hx hb hd (hk _ _ _ _ _ _ h)
    · cases h
  | ior =>
    obtain ⟨hd, rfl⟩ := z_ok1 hok rfl
    simp only [z_stp] at h
    split at h
    · exact zs_ior hx hb hd (hk _ _ _ _ _ _ h)
    · cases h
  | ishl =>
    obtain ⟨hd, rfl⟩ := z_ok1 hok rfl
    simp only [z_stp] at h
    split at h
    · exact zs_ishl hx hb hd (hk _ _ _ _ _ _ h)
    · cases h
  | ishr =>
    obtain ⟨hd, rfl⟩ := z_ok1 hok rfl
    simp only [z_stp] at h
    split at h
    · exact zs_ishr hx hb hd (hk _ _ _ _ _ _ h)
    · cases h
  | iushr =>
    obtain ⟨hd, rfl⟩ := z_ok1 hok rfl
    simp only [z_stp] at h
    split at h
    · exact zs_iushr hx hb hd (hk _ _ _ _ _ _ h)
    · cases h
  | i2l =>
    obtain ⟨hd, rfl⟩ := z_ok1 hok rfl
    simp only [z_stp] at h
    split at h
    · exact zs_i2l hx hb hd (hk _ _ _ _ _ _ h)
    · cases h
  | lor =>
    obtain ⟨hd, rfl⟩ := z_ok1 hok rfl
    simp only [z_stp] at h
    split at h
    · exact zs_lor hx hb hd (hk _ _ _ _ _ _ h)
    · cases h
  | lshl =>
    obtain ⟨hd, rfl⟩ := z_ok1 hok rfl
    simp only [z_stp] at h
    split at h
    · exact zs_lshl hx hb hd (hk _ _ _ _ _ _ h)
    · cases h
  | lcmp =>
    obtain ⟨hd, rfl⟩ := z_ok1 hok rfl
    simp only [z_stp] at h
    split at h
    · exact zs_lcmp hx hb hd (hk _ _ _ _ _ _ h)
    · cases h
  | idiv =>
    obtain ⟨hd, rfl⟩ := z_ok1 hok rfl
    simp only [z_stp] at h
    split at h
    · obtain ⟨h0, h⟩ := z_iff0 h
      exact zs_idiv hx hb h0 hd (hk _ _ _ _ _ _ h)
    · cases h
  | irem =>
    obtain ⟨hd, rfl⟩ := z_ok1 hok rfl
    simp only [z_stp] at h
    split at h
    · obtain ⟨h0, h⟩ := z_iff0 h
      exact zs_irem hx hb h0 hd (hk _ _ _ _ _ _ h)
    · cases h
  | dup =>
    obtain ⟨hd, rfl⟩ := z_ok1 hok rfl
    simp only [z_stp] at h
    split at h
    · obtain ⟨h0, h⟩ := z_cnd0 h
      exact zs_dup hx hb h0 hd (hk _ _ _ _ _ _ h)
    · cases h
  | pop =>
    obtain ⟨hd, rfl⟩ := z_ok1 hok rfl
    simp only [z_stp] at h
    split at h
    · obtain ⟨h0, h⟩ := z_cnd0 h
      exact zs_pop hx hb h0 hd (hk _ _ _ _ _ _ h)
    · cases h
  | dup2 =>
    obtain ⟨hd, rfl⟩ := z_ok1 hok rfl
    simp only [z_stp] at h
    split at h
    · obtain ⟨h0, h⟩ := z_cnd0 h
      simp only [Bool.or_eq_false_iff] at h0
      exact zs_dup2 hx hb h0.1 h0.2 hd (hk _ _ _ _ _ _ h)
    · cases h
  | goto o =>
    obtain ⟨hd, rfl⟩ := z_ok1 hok rfl
    simp only [z_stp] at h
    exact zs_goto hx hb (z_ok2 hok rfl) hd (hk _ _ _ _ _ _ h)
  | ifCond cd o =>
    obtain ⟨hd, rfl⟩ := z_ok1 hok rfl
    simp only [z_stp] at h
    split at h
    · cases cd with
      | eq =>
        dsimp only at h
        refine zs_if_eq hx hb (z_ok2 hok rfl) hd (fun q => ?_) (fun q => ?_)
        · rw [if_pos q] at h; exact hk _ _ _ _ _ _ h
        · rw [if_neg q] at h; exact hk _ _ _ _ _ _ h
      | ne =>
        dsimp only at h
        refine zs_if_ne hx hb (z_ok2 hok rfl) hd (fun q => ?_) (fun q => ?_)
        · rw [if_neg q] at h; exact hk _ _ _ _ _ _ h
        · rw [if_pos q] at h; exact hk _ _ _ _ _ _ h
      | lt =>
        dsimp only at h
        refine zs_if_lt hx hb (z_ok2 hok rfl) hd (fun q => ?_) (fun q => ?_)
        · rw [if_pos q] at h; exact hk _ _ _ _ _ _ h
        · rw [if_neg q] at h; exact hk _ _ _ _ _ _ h
      | ge =>
        dsimp only at h
        refine zs_if_ge hx hb (z_ok2 hok rfl) hd (fun q => ?_) (fun q => ?_)
        · rw [if_pos q] at h; exact hk _ _ _ _ _ _ h
        · rw [if_neg q] at h; exact hk _ _ _ _ _ _ h
      | gt =>
        dsimp only at h
        refine zs_if_gt hx hb (z_ok2 hok rfl) hd (fun q => ?_) (fun q => ?_)
        · rw [if_pos q] at h; exact hk _ _ _ _ _ _ h
        · rw [if_neg q] at h; exact hk _ _ _ _ _ _ h
      | le =>
        dsimp only at h
        refine zs_if_le hx hb (z_ok2 hok rfl) hd (fun q => ?_) (fun q => ?_)
        · rw [if_pos q] at h; exact hk _ _ _ _ _ _ h
        · rw [if_neg q] at h; exact hk _ _ _ _ _ _ h
    · cases h
  | if_icmp cd o =>
    obtain ⟨hd, rfl⟩ := z_ok1 hok rfl
    simp only [z_stp] at h
    split at h
    · cases cd with
      | eq =>
        dsimp only at h
        refine zs_icmp_eq hx hb (z_ok2 hok rfl) hd (fun q => ?_) (fun q => ?_)
        · rw [if_pos q] at h; exact hk _ _ _ _ _ _ h
        · rw [if_neg q] at h; exact hk _ _ _ _ _ _ h
      | ne =>
        dsimp only at h
        refine zs_icmp_ne hx hb (z_ok2 hok rfl) hd (fun q => ?_) (fun q => ?_)
        · rw [if_neg q] at h; exact hk _ _ _ _ _ _ h
        · rw [if_pos q] at h; exact hk _ _ _ _ _ _ h
      | lt =>
        dsimp only at h
        refine zs_icmp_lt hx hb (z_ok2 hok rfl) hd (fun q => ?_) (fun q => ?_)
        · rw [if_pos q] at h; exact hk _ _ _ _ _ _ h
        · rw [if_neg q] at h; exact hk _ _ _ _ _ _ h
      | ge =>
        dsimp only at h
        refine zs_icmp_ge hx hb (z_ok2 hok rfl) hd (fun q => ?_) (fun q => ?_)
        · rw [if_pos q] at h; exact hk _ _ _ _ _ _ h
        · rw [if_neg q] at h; exact hk _ _ _ _ _ _ h
      | gt =>
        dsimp only at h
        refine zs_icmp_gt hx hb (z_ok2 hok rfl) hd (fun q => ?_) (fun q => ?_)
        · rw [if_pos q] at h; exact hk _ _ _ _ _ _ h
        · rw [if_neg q] at h; exact hk _ _ _ _ _ _ h
      | le =>
        dsimp only at h
        refine zs_icmp_le hx hb (z_ok2 hok rfl) hd (fun q => ?_) (fun q => ?_)
        · rw [if_pos q] at h; exact hk _ _ _ _ _ _ h
        · rw [if_neg q] at h; exact hk _ _ _ _ _ _ h
    · cases h
  | tableswitch d lo hi offs =>
    have hd := z_ok0 hok
    simp only [z_stp] at h
    split at h
    · obtain ⟨h0, h⟩ := z_cnd h
      simp only [Bool.and_eq_true, decide_eq_true_eq, List.all_eq_true] at h0
      exact zs_tsw hx hb hd h0.1 h0.2 h (fun pc' r' q => hk _ _ _ _ _ _ q)
    · cases h
  | getfield j =>
    obtain ⟨hd, rfl⟩ := z_ok1 hok rfl
    simp only [z_stp] at h
    split at h
    · rename_i k0 o r0
      cases hf : M.1 j with
      | none => rw [hf] at h; cases h
      | some q =>
        obtain ⟨c1, kf⟩ := q
        rw [hf] at h
        obtain ⟨h0, h2⟩ := z_cnd h
        obtain ⟨ho, h3⟩ := z_ift h2
        have e0 := Nat.eq_of_beq_eq_true h0
        subst e0
        exact z_getc hx hb hts hown hK hE (hfl j _ kf hf) ho hd (fun v q => hk _ _ _ _ _ _ q) h3
    · cases h
  | putfield j =>
    obtain ⟨hd, rfl⟩ := z_ok1 hok rfl
    simp only [z_stp] at h
    split at h
    · rename_i v k0 o r0
      cases hf : M.1 j with
      | none => rw [hf] at h; cases h
      | some q =>
        obtain ⟨c1, kf⟩ := q
        rw [hf] at h
        obtain ⟨h0, h2⟩ := z_cnd h
        obtain ⟨ho, h3⟩ := z_ift h2
        simp only [Bool.and_eq_true] at h0
        have e0 := Nat.eq_of_beq_eq_true h0.1
        subst e0
        exact z_putc hx hb hts hown hK (hfl j _ kf hf) (Nat.blt_eq.mp h0.2) ho hd (fun g' q => hk _ _ _ _ _ _ q) h3
    · cases h
  | iaload =>
    obtain ⟨hd, rfl⟩ := z_ok1 hok rfl
    simp only [z_stp] at h
    split at h
    · obtain ⟨h0, h⟩ := z_cnd h
      obtain ⟨ho, h⟩ := z_ift h
      obtain ⟨hin, h⟩ := z_ift h
      simp only [Bool.and_eq_true] at h0
      exact zs_iald hx hb hK hE (Nat.blt_eq.mp h0.2) ho (Nat.eq_of_beq_eq_true h0.1) hin hd (hk _ _ _ _ _ _ h)
    · cases h
  | baload =>
    obtain ⟨hd, rfl⟩ := z_ok1 hok rfl
    simp only [z_stp] at h
    split at h
    · obtain ⟨h0, h⟩ := z_cnd h
      obtain ⟨ho, h⟩ := z_ift h
      obtain ⟨hin, h⟩ := z_ift h
      simp only [Bool.and_eq_true] at h0
      exact zs_zald hx hb hK hE (Nat.lt_trans (Nat.blt_eq.mp h0.2) (by decide)) ho (Nat.eq_of_beq_eq_true h0.1) hin hd (hk _ _ _ _ _ _ h)
    · cases h
  | iastore =>
    obtain ⟨hd, rfl⟩ := z_ok1 hok rfl
    simp only [z_stp] at h
    split at h
    · obtain ⟨h0, h⟩ := z_cnd h
      obtain ⟨ho, h⟩ := z_ift h
      obtain ⟨hin, h⟩ := z_ift h
      simp only [Bool.and_eq_true] at h0
      exact zs_iast hx hb hK (Nat.blt_eq.mp h0.2) ho (Nat.eq_of_beq_eq_true h0.1) hin hd (hk _ _ _ _ _ _ h)
    · cases h
  | bastore =>
    obtain ⟨hd, rfl⟩ := z_ok1 hok rfl
    simp only [z_stp] at h
    split at h
    · obtain ⟨h0, h⟩ := z_cnd h
      obtain ⟨ho, h⟩ := z_ift h
      obtain ⟨hin, h⟩ := z_ift h
      simp only [Bool.and_eq_true] at h0
      exact zs_zast hx hb hK (Nat.blt_eq.mp h0.2) ho (Nat.eq_of_beq_eq_true h0.1) hin hd (hk _ _ _ _ _ _ h)
    · cases h
  | arraylength =>
    obtain ⟨hd, rfl⟩ := z_ok1 hok rfl
    simp only [z_stp] at h
    split at h
    · obtain ⟨h0, h⟩ := z_cnd h
      obtain ⟨ho, h⟩ := z_ift h
      simp only [Bool.and_eq_true] at h0
      exact zs_alen hx hb hK hE (Nat.blt_eq.mp h0.2) ho (Nat.blt_eq.mp h0.1) hd (hk _ _ _ _ _ _ h)
    · cases h
  | aaload =>
    obtain ⟨hd, rfl⟩ := z_ok1 hok rfl
    simp only [z_stp] at h
    split at h
    · obtain ⟨hin, h⟩ := z_ift h
      exact zs_aald hx hb hK (f := 4) (Or.inl rfl) hin hd (hk _ _ _ _ _ _ h)
    · obtain ⟨hin, h⟩ := z_ift h
      exact zs_aald hx hb hK (f := 7) (Or.inr (Or.inl rfl)) hin hd (hk _ _ _ _ _ _ h)
    · obtain ⟨hin, h⟩ := z_ift h
      exact zs_aald hx hb hK (f := 8) (Or.inr (Or.inr rfl)) hin hd (hk _ _ _ _ _ _ h)
    · cases h
  | invokevirtual j =>
    simp only [z_stp] at h
    cases hv : M.2.1 j with
    | none => rw [hv] at h; cases h
    | some ci =>
      rw [hv] at h
      exact z_call (hcal j ci (Or.inl rfl) hv) hk h
  | invokestatic j =>
    simp only [z_stp] at h
    cases hv : M.2.1 j with
    | none => rw [hv] at h; cases h
    | some ci =>
      rw [hv] at h
      exact z_call (hcal j ci (Or.inr rfl) hv) hk h
  | new j =>
    simp only [z_stp] at h
    cases hv : M.2.2.2.1 j with
    | none => rw [hv] at h; cases h
    | some x =>
      rw [hv] at h
      obtain ⟨h0, h⟩ := z_cnd h
      simp only [Bool.and_eq_true, Nat.ble_eq] at h0
      cases h
      exact hthr j x rfl hv lc st g b h0.1.1 h0.1.2 h0.2
  | ireturn =>
    obtain ⟨hd, rfl⟩ := z_ok1 hok rfl
    simp only [z_stp] at h
    split at h
    · split at h
      · rename_i hm
        rw [hm] at hrt
        cases h
        exact zs_iret hx hb hlocks hrt hd
      · rename_i hm
        rw [hm] at hrt
        obtain ⟨h01, h⟩ := z_ift h
        cases h
        exact zs_zret hx hb hlocks hrt h01 hd
      · cases h
    · cases h
  | lreturn =>
    obtain ⟨hd, rfl⟩ := z_ok1 hok rfl
    simp only [z_stp] at h
    split at h
    · obtain ⟨h0, h⟩ := z_cnd h
      have hm := Nat.eq_of_beq_eq_true h0
      rw [hm] at hrt
      cases h
      exact zs_lret hx hb hlocks hrt hd
    · cases h
  | return_ =>
    obtain ⟨hd, rfl⟩ := z_ok1 hok rfl
    simp only [z_stp] at h
    split at h
    · obtain ⟨h0, h⟩ := z_cnd h
      have hm := Nat.eq_of_beq_eq_true h0
      rw [hm] at hrt
      cases h
      exact zs_vret hx hb hlocks hrt hd
    · cases h
  | _ => simp only [z_stp] at h; cases h
end Main
end
section
/-! ===== runs and calls ===== -/
def z_args : Nat → List zVV → zLC
  | _, [] => []
  | i, v :: r => (i, v) :: z_args (bif z_isL v then i + 2 else i + 1) r
theorem z_args_eq (ad : zAD) : ∀ (vs : List zVV) (i : Nat), lv_args i (vs.map (z_tV ad)) = z_tL ad (z_args i vs) := by
  intro vs
  induction vs with
  | nil => intro i; rfl
  | cons v r ih =>
    intro i
    rw [List.map_cons, lv_args]
    unfold z_args z_tL
    rw [List.map_cons]
    congr 1
    rw [ih]
    unfold z_tL
    congr 1
    rcases v with x | q | x <;> rfl
/-- what a walk stands on -/
def zCx (p : Program) (s : State) (m : MethodId) (args : Array Value) (meth : Method) (c : Code) (cc : ByteArray) (own : String) (nL : Nat) (D : va_G) (ca : Nat → ClassId) (ad : zAD) (A : Nat → Prop) (g0 : zSG) : Prop :=
  p.tables.exec = Jvm.exec ∧ c.code = cc ∧ c.maxLocals = nL ∧ s.vm.findClass own = some m.cls ∧ (∀ w ∈ zWS, w.before args s = true) ∧ va_K D zCL (zTL ca) s ∧ (∀ q, s.heap.size ≤ q → A q) ∧ zEv D ca ad A g0 s s.heap ∧ meth.locks = false ∧ (∀ x ∈ c.exceptionTable.toList, False)
/-- a call by the pool's place j is good -/
def zCalOK (l : Launch) (R : Room) (own : String) (nL : Nat) (j : Nat) (ins : Instr) (ci : zCI) : Prop :=
  ∀ (p : Program) (e : Env) (s : State) (m : MethodId) (args : Array Value) (below : List Frame) (meth : Method) (c : Code) (cc : ByteArray) (D : va_G) (ca : Nat → ClassId) (ad : zAD) (A : Nat → Prop) (g0 : zSG) (pc : Nat), zCx p s m args meth c cc own nL D ca ad A g0 → decode cc pc = .ok (ins, 3) → zCalH p l e R s m args below meth c D ca ad A g0 nL pc (pc + 3) ci
def zThrOK (l : Launch) (R : Room) (own : String) (nL : Nat) (cc : ByteArray) (pc x : Nat) : Prop :=
  ∀ (p : Program) (e : Env) (s : State) (m : MethodId) (args : Array Value) (below : List Frame) (meth : Method) (c : Code) (D : va_G) (ca : Nat → ClassId) (ad : zAD) (A : Nat → Prop) (g0 : zSG), zCx p s m args meth c cc own nL D ca ad A g0 → zThrH p l e R s m args below meth c D ca ad A g0 nL pc x
section Runs
variable {p : Program} {l : Launch} {e : Env} {R : Room} {s : State} {m : MethodId} {args : Array Value} {below : List Frame} {meth : Method} {c : Code} {D : va_G} {ca : Nat → ClassId} {ad : zAD} {A : Nat → Prop} {g0 : zSG} {cc : ByteArray} {own : String} {nL : Nat} {M : zMI} {cd : zCD} {cut : List (Nat × List Nat)}
theorem z_inner_s (C : zCx p s m args meth c cc own nL D ca ad A g0) (hnL : M.2.2.2.2.1 = nL) (hrt : z_rt M.2.2.2.2.2 meth.sig.returnType) (hfl : ∀ j c kf, M.1 j = some (c, kf) → z_flb own j c kf = true) (hcs : ∀ j v, M.2.2.1 j = some v → z_csb own j v = true) (hcd : z_okc cc cd = true)
    (hthr : ∀ pc j nx tg x, z_look cd pc = some (.new j, nx, tg) → M.2.2.2.1 j = some x → zThrOK l R own nL cc pc x) (hcal : ∀ j ci, M.2.1 j = some ci → ∀ pc i nx tg, z_look cd pc = some (i, nx, tg) → (i = .invokevirtual j ∨ i = .invokestatic j) → zCalOK l R own nL j i ci)
    {ag : zAG} (hag : ∀ pc lc g b r, ag pc lc g b = some r → zG p l e R s m args below meth c D ca ad A g0 nL pc lc [] g b r) : ∀ (K pc : Nat) (lc : zLC) (st : List zVV) (g : zSG) (b : Nat × Nat) (r : zRR), z_inner M cd cut ag K pc lc st g b = some r → zG p l e R s m args below meth c D ca ad A g0 nL pc lc st g b r := by
  have C' := C
  obtain ⟨hx, hb, hml, hown, hts, hK, hA, hE, hlocks, hex⟩ := C
  intro K
  induction K with
  | zero => intro pc lc st g b r h; cases h
  | succ K ih =>
    intro pc lc st g b r h
    unfold z_inner at h
    cases hl : z_look cd pc with
    | none => rw [hl] at h; cases h
    | some q =>
      obtain ⟨i, nx, tg⟩ := q
      rw [hl] at h
      have hok := z_okc_at hcd hl
      refine z_step hx hb hts hown hK hE hlocks hnL hrt hfl hcs hok (fun j x hi hj => hthr pc j nx tg x (by rw [hl, hi]) hj p e s m args below meth c D ca ad A g0 C') (fun j ci hi hj => ?_) (fun pc' lc' st' g' b' r' h' => ?_) h
      · have hlen : z_len i = some 3 := by rcases hi with rfl | rfl <;> rfl
        obtain ⟨hd, hnx⟩ := z_ok1 hok hlen
        subst hnx
        exact hcal j ci hj pc i _ tg hl hi p e s m args below meth c cc D ca ad A g0 pc C' hd
      · cases hc : z_look cut pc' with
        | none =>
          rw [hc] at h'
          exact ih _ _ _ _ _ _ h'
        | some live =>
          rw [hc] at h'
          cases st' with
          | nil =>
            intro H locs cells slots ls hP hS hl h1 h2 h5
            exact hag _ _ _ _ _ h' H locs cells slots ls hP hS (z_keep_ls live hl) h1 h2 h5
          | cons v st' => cases h'
theorem z_run_s (C : zCx p s m args meth c cc own nL D ca ad A g0) (hnL : M.2.2.2.2.1 = nL) (hrt : z_rt M.2.2.2.2.2 meth.sig.returnType) (hfl : ∀ j c kf, M.1 j = some (c, kf) → z_flb own j c kf = true) (hcs : ∀ j v, M.2.2.1 j = some v → z_csb own j v = true) (hcd : z_okc cc cd = true)
    (hthr : ∀ pc j nx tg x, z_look cd pc = some (.new j, nx, tg) → M.2.2.2.1 j = some x → zThrOK l R own nL cc pc x) (hcal : ∀ j ci, M.2.1 j = some ci → ∀ pc i nx tg, z_look cd pc = some (i, nx, tg) → (i = .invokevirtual j ∨ i = .invokestatic j) → zCalOK l R own nL j i ci) :
    ∀ (n pc : Nat) (lc : zLC) (g : zSG) (b : Nat × Nat) (r : zRR), z_run M cd cut n pc lc g b = some r → zG p l e R s m args below meth c D ca ad A g0 nL pc lc [] g b r := by
  intro n
  induction n with
  | zero => intro pc lc g b r h; cases h
  | succ n ih =>
    intro pc lc g b r h
    unfold z_run at h
    exact z_inner_s C hnL hrt hfl hcs hcd hthr hcal ih 2000 pc lc [] g b r h
end Runs
/-- the contract of a method by its run -/
theorem z_met {l : Launch} {y : MethodName} {cc : ByteArray} {nL : Nat} {ret : Option FieldType} {rm : Room} {own : String} {M : zMI} {cd : zCD} {cut : List (Nat × List Nat)} {F : List zVV → zSG → Option zRR} (hy : plainName y.cls = true) (hown : y.cls = own) (hnL : M.2.2.2.2.1 = nL) (hrt : z_rt M.2.2.2.2.2 ret) (hfl : ∀ j c kf, M.1 j = some (c, kf) → z_flb own j c kf = true) (hcs : ∀ j v, M.2.2.1 j = some v → z_csb own j v = true) (hcd : z_okc cc cd = true)
    (hthr : ∀ pc j nx tg x, z_look cd pc = some (.new j, nx, tg) → M.2.2.2.1 j = some x → zThrOK l rm own nL cc pc x) (hcal : ∀ j ci, M.2.1 j = some ci → ∀ pc i nx tg, z_look cd pc = some (i, nx, tg) → (i = .invokevirtual j ∨ i = .invokestatic j) → zCalOK l rm own nL j i ci)
    (hlen : ∀ (ad : zAD) vs g r, F vs g = some r → (lg_sl (vs.map (z_tV ad))).length ≤ nL) (hF : ∀ vs g r, F vs g = some r → ∃ n, z_run M cd cut n 0 (z_args 0 vs) g (rm.cells, rm.slots) = some r) : zCt l y cc nL ret rm F := by
  intro D ca ad A g vs r hr
  refine vx_ofW hy rfl ?_
  intro p e s m args below meth c s₁ B hml hex hv
  obtain ⟨rfl, hK, hP, hA, hE⟩ := hv
  have hts : ∀ w ∈ zWS, w.before (vs.map (z_tV ad)).toArray s = true := fun w hw => atoms_spec (ws := .code y cc nL ret :: zWS) B.pre w (List.mem_cons_of_mem _ hw)
  have hown2 : s.vm.findClass own = some m.cls := by rw [← hown]; exact findClass_of_methodNamed B.named
  have C : zCx p s m (vs.map (z_tV ad)).toArray meth c cc own nL D ca ad A g := ⟨B.exec, B.bytes, hml, hown2, hts, hK, hA, hE, B.notSynchronized, hex⟩
  obtain ⟨n, hn⟩ := hF vs g r hr
  have h := z_run_s (l := l) (e := e) (R := rm) (below := below) C hnL (by rw [B.returns]; exact hrt) hfl hcs hcd hthr hcal n 0 (z_args 0 vs) g (rm.cells, rm.slots) r hn
  rw [lg_entry_eq]
  refine h s.heap [] 0 0 _ hP va_S.rf ?_ (by simp) (by simp) rfl
  rw [← z_args_eq]
  exact lv_entry (vs.map (z_tV ad)) (hlen ad vs g r hr)
theorem z_goodV {own C : String} {j : Nat} {y : MethodName} {bytes : ByteArray} {maxL : Nat} {ret : Option FieldType} (h1 : Cond.code y bytes maxL ret ∈ zWS) : GoodIn zWS (.code y bytes maxL ret :: zWS) := by
  intro w hw
  rcases List.mem_cons.mp hw with rfl | hw
  · exact zWS_in _ h1
  · exact zWS_in _ hw
section Back
variable {p : Program} {l : Launch} {e : Env} {R : Room} {s : State} {m : MethodId} {args : Array Value} {below : List Frame} {meth : Method} {c : Code} {D : va_G} {ca : Nat → ClassId} {ad : zAD} {A : Nat → Prop} {g0 : zSG} {nL pc : Nat} {lc : zLC} {st rest : List zVV} {g : zSG} {b : Nat × Nat} {r r' : zRR} {cc : ByteArray} {own : String} {mc ms : Nat} {H : Heap} {locs : List Loc} {cells slots : Nat} {ls : Array Slot} {a : Array Value}
/-- behind a call -/
theorem z_behind (hex : ∀ x ∈ c.exceptionTable.toList, False) (hlocks : meth.locks = false) (hS : va_S A s.heap H locs) (hl : lv_has ls nL (z_tL ad lc)) (h1 : mc ≤ b.1) (h2 : ms ≤ b.2) (c1 : cells + b.1 ≤ R.cells) (c2 : slots + b.2 ≤ R.slots) (h5 : g 5 = g0 5)
    (hr : vx_Run p l e R s m args below meth c H locs cells slots mc ms (F0 m pc ls (st.map (z_tV ad))) (rest.map (z_tV ad)) (zQ D ca ad A g r' a) (zX D ca ad A g r') A)
    (hk : ∀ v, r'.1 = .inl v → zG p l e R s m args below meth c D ca ad A g0 nL (pc + 3) lc (v.toList ++ rest) r'.2 (b.1 - mc, b.2 - ms) r) (hx : ∀ x, r'.1 = .inr x → r = (.inr x, r'.2)) : W p l e R s m args below meth c H locs cells slots (vx_MQ below (zQ D ca ad A g0 r) (zX D ca ad A g0 r) args s R.cells R.slots A) (F0 m pc ls (st.map (z_tV ad))) := by
  intro T hT X
  rcases hr T hT X with ⟨v, st₀, t, T', L, h0, X', hL, e1, e2, ⟨⟨v', hv, ho, hHP, h55⟩, hF⟩, stp⟩ | ⟨q, st₀, t, T', L, E, ce, h0, X', hL, e1, e2, ⟨⟨k, hk', hE, hHP, h55⟩, hF⟩, hce, hcv, hcl, stp⟩
  · cases ho
    obtain ⟨k1, k2, k3⟩ := vx_keep h0 e1 hS (fun q _ h => h) (fun q h => h) hL hF
    have hw := hk v' hv T'.heap (locs ++ L) (cells + mc) (slots + ms) ls (by rw [e1]; exact hHP) k3 hl (by dsimp only; omega) (by dsimp only; omega) (h55.trans h5)
    have es : (v'.toList ++ rest).map (z_tV ad) = (v'.map (z_tV ad)).toList ++ rest.map (z_tV ad) := by
      cases v' <;> simp
    rw [es] at hw
    obtain ⟨t2, a1, b1⟩ := hw T' rfl X'
    exact ⟨t2, stp t2 a1, b1⟩
  · obtain ⟨k1, k2, k3⟩ := vx_keep h0 e1 hS (fun q _ h => h) (fun q h => h) hL hF
    have er := hx k hk'
    subst er
    have ho := vx_out (p := p) (l := l) (e := e) (R := R) (s := s) (m := m) (args := args) (below := below) (meth := meth) (c := c) (H := T'.heap) (locs := locs ++ L) (cells := cells + mc) (slots := slots + ms) (ls := ls) (rest := rest.map (z_tV ad)) (Qc := zQ D ca ad A g0 (.inr k, r'.2)) (XC := zX D ca ad A g0 (.inr k, r'.2)) (free := A) (pc := pc) (mc := R.cells) (ms := R.slots)
      (fun x hx => absurd (hex x hx) id) hlocks (by rw [e1]; exact hce) hcv hcl (fun t9 ht9 hal => ⟨⟨k, rfl, hE, by rw [ht9, e1]; exact hHP, h55.trans h5⟩, k3.F ht9⟩) k3.2.2 (by omega) (by omega)
    obtain ⟨t2, a1, b1⟩ := ho T' rfl X'
    exact ⟨t2, stp.trans a1, b1⟩
end Back
/-- a virtual call -/
theorem z_calV {l : Launch} {R : Room} {own C : String} {nL j n cn : Nat} {rk : Nat} {y : MethodName} {bytes : ByteArray} {maxL : Nat} {ret : Option FieldType} {rm : Room} {F : List zVV → zSG → Option zRR} {T : u_T} {N : Nat} (hCt : zCt l y bytes maxL ret rm F) (hw : (decide (Cond.methodLink own j y ∈ zWS) && decide (Cond.instanceMethod y ∈ zWS) && decide (Cond.selects C y y ∈ zWS) && decide (Cond.initialized C ∈ zWS)) = true) (hcode : Cond.code y bytes maxL ret ∈ zWS) (hC : y.cls = C)
    (hd : y.cls ≠ "java/lang/invoke/MethodHandle" ∧ y.cls ≠ "java/lang/invoke/VarHandle" ∧ (parseMethodDescriptor y.desc).map (fun d => d.parameters.length) = some n) (hR : rm.frames + 1 ≤ R.frames ∧ 8 + (maxL + 11) + rm.locals ≤ R.locals) (hcn : zCL[cn]? = some (C, T, N)) (hrec : ∀ vs g r, F vs g = some r → ∃ i rv, vs = .inr (.inl (cn, i, 0)) :: rv ∧ i < z_ni cn) : zCalOK l R own nL j (.invokevirtual j) (F, n + 1, rk, rm.cells, rm.slots) := by
  intro p e s m args below meth c cc D ca ad A g0 pc Cx hdec
  obtain ⟨hx, hb, hml, hown, hts, hK, hA, hE, hlocks, hex⟩ := Cx
  simp only [Bool.and_eq_true, decide_eq_true_eq] at hw
  obtain ⟨⟨⟨w1, w2⟩, w3⟩, w4⟩ := hw
  intro lc st g b r' r a1 a2 a3 a4 hF hk hxx H locs cells slots ls hP hS hl c1 c2 h5
  dsimp only at a1 a2 a3 a4 hF hk
  obtain ⟨i, rv, hvs, hi⟩ := hrec _ _ _ hF
  have hlen : rv.length = n := by
    have := congrArg List.length hvs
    simp only [List.length_reverse, List.length_take, List.length_cons] at this
    omega
  have hst : st.map (z_tV ad) = (rv.map (z_tV ad)).reverse ++ .ref (ad cn i 0) :: (st.drop (n + 1)).map (z_tV ad) := by
    have e1 : st.take (n + 1) = rv.reverse ++ [.inr (.inl (cn, i, 0))] := by
      have := congrArg List.reverse hvs
      rw [List.reverse_reverse, List.reverse_cons] at this
      exact this
    conv => lhs; rw [← List.take_append_drop (n + 1) st, e1]
    simp [z_tV]
  rw [hvs] at hF
  have hM := hCt D ca ad A g _ r' hF
  refine z_behind (g := g) (r' := r') (mc := rm.cells) (ms := rm.slots) (a := (Value.ref (ad cn i 0) :: rv.map (z_tV ad)).toArray) hex hlocks hS hl a2 a3 c1 c2 h5 ?_ hk hxx
  refine vx_runV (As := rv.map (z_tV ad)) (n := n) (cc := cc) (nL := nL) (Ts := zWS) (own := own) (C := C) (b := ad cn i 0) ⟨hx, hb, hml, hown, hts⟩ hM ⟨callB_of n hts (z_goodV (own := own) (C := C) (j := j) hcode) rfl rfl rfl (by rw [hC]; exact hts _ w4) (hts _ w1) hd hR, hts _ w2, hts _ w3⟩ ⟨zPc_blind, ?_, fun U hU hW => ⟨rfl, va_K.moved hW.alike hK, by rw [hU]; exact hP, fun q hq => hA q (Nat.le_trans hS.1 (by rw [← hU]; exact hq)), by rw [hU]; exact ((hE.kept hS.2.1).warm hW).cong h5⟩⟩ rfl (by simp [hlen]) hl.1 hst (lv_room (by rw [z_wt_sum]; exact a4)) hdec ⟨by omega, by omega⟩
  exact va_recv hK (z_one (z_atO hP hE hS h5 hcn hi)) hcn (q0 := 0) rfl
/-- a static call -/
theorem z_calS {l : Launch} {R : Room} {own : String} {nL j n : Nat} {rk : Nat} {y : MethodName} {bytes : ByteArray} {maxL : Nat} {ret : Option FieldType} {rm : Room} {F : List zVV → zSG → Option zRR} (hCt : zCt l y bytes maxL ret rm F) (hw : (decide (Cond.methodLink own j y ∈ zWS) && decide (Cond.static y ∈ zWS) && decide (Cond.initialized y.cls ∈ zWS)) = true) (hcode : Cond.code y bytes maxL ret ∈ zWS)
    (hd : y.cls ≠ "java/lang/invoke/MethodHandle" ∧ y.cls ≠ "java/lang/invoke/VarHandle" ∧ (parseMethodDescriptor y.desc).map (fun d => d.parameters.length) = some n) (hR : rm.frames + 1 ≤ R.frames ∧ 8 + (maxL + 11) + rm.locals ≤ R.locals) : zCalOK l R own nL j (.invokestatic j) (F, n, rk, rm.cells, rm.slots) := by
  intro p e s m args below meth c cc D ca ad A g0 pc Cx hdec
  obtain ⟨hx, hb, hml, hown, hts, hK, hA, hE, hlocks, hex⟩ := Cx
  simp only [Bool.and_eq_true, decide_eq_true_eq] at hw
  obtain ⟨⟨w1, w2⟩, w4⟩ := hw
  intro lc st g b r' r a1 a2 a3 a4 hF hk hxx H locs cells slots ls hP hS hl c1 c2 h5
  dsimp only at a1 a2 a3 a4 hF hk
  have hst : st.map (z_tV ad) = (((st.take n).reverse).map (z_tV ad)).reverse ++ (st.drop n).map (z_tV ad) := by
    conv => lhs; rw [← List.take_append_drop n st]
    simp
  have hM := hCt D ca ad A g _ r' hF
  refine z_behind (g := g) (r' := r') (mc := rm.cells) (ms := rm.slots) (a := (((st.take n).reverse).map (z_tV ad)).toArray) hex hlocks hS hl a2 a3 c1 c2 h5 ?_ hk hxx
  exact vx_runS (As := ((st.take n).reverse).map (z_tV ad)) (n := n) (cc := cc) (nL := nL) (Ts := zWS) (own := own) ⟨hx, hb, hml, hown, hts⟩ hM ⟨callB_of n hts (z_goodV (own := own) (C := own) (j := j) hcode) rfl rfl rfl (hts _ w4) (hts _ w1) hd hR, hts _ w2⟩ ⟨zPc_blind, fun U hU hW => ⟨rfl, va_K.moved hW.alike hK, by rw [hU]; exact hP, fun q hq => hA q (Nat.le_trans hS.1 (by rw [← hU]; exact hq)), by rw [hU]; exact ((hE.kept hS.2.1).warm hW).cong h5⟩⟩ rfl (by simp; omega) hl.1 hst (lv_room (by rw [z_wt_sum]; exact a4)) hdec ⟨by omega, by omega⟩
end
section
/-! ===== what the printed methods use ===== -/
abbrev zrm (d mc ms : Nat) : Room := { frames := d, cells := mc, slots := ms, locals := 40 * d }
/-- kinds of what comes in: 0 an int, 1 a long, 2 that very thing, 3 an object of a kind, 4 the runs with all or the trial runs -/
def z_chk : List (Nat × Nat × Nat × Nat) → List zVV → Bool
  | [], [] => true
  | (0, _) :: r, .inl _ :: vs => z_chk r vs
  | (1, _) :: r, .inr (.inr _) :: vs => z_chk r vs
  | (2, c, i, k) :: r, .inr (.inl (c', i', k')) :: vs => Nat.beq c c' && Nat.beq i i' && Nat.beq k k' && z_chk r vs
  | (3, c, _, k) :: r, .inr (.inl (c', i', k')) :: vs => Nat.beq c c' && Nat.blt i' (z_ni c) && Nat.beq k k' && z_chk r vs
  | (4, _, _, _) :: r, .inr (.inl (c', i', k')) :: vs => Nat.beq c' 0 && Nat.beq i' 0 && (Nat.beq k' 8 || Nat.beq k' 9) && z_chk r vs
  | _, _ => false
def z_wd : List (Nat × Nat × Nat × Nat) → Nat
  | [] => 0
  | q :: r => (bif Nat.beq q.1 1 then 2 else 1) + z_wd r
theorem z_chk_len {ad : zAD} : ∀ (sh : List (Nat × Nat × Nat × Nat)) (vs : List zVV), z_chk sh vs = true → (lg_sl (vs.map (z_tV ad))).length ≤ z_wd sh := by
  intro sh
  induction sh with
  | nil =>
    intro vs h
    cases vs with
    | nil => exact Nat.le_refl 0
    | cons v vs => cases h
  | cons q sh ih =>
    intro vs h
    cases vs with
    | nil => unfold z_chk at h; split at h <;> simp_all
    | cons v vs =>
      obtain ⟨t, c, i, k⟩ := q
      have key : z_chk sh vs = true ∧ (t = 1 ∨ z_isL v = false) := by
        unfold z_chk at h
        split at h <;> simp_all [z_isL]
      have h1 := ih vs key.1
      have e : (lg_sl ((v :: vs).map (z_tV ad))).length = (if z_isL v then 2 else 1) + (lg_sl (vs.map (z_tV ad))).length := by
        rcases v with x | q | x
        · simp [z_tV, lg_sl, z_isL, Value.category]; omega
        · simp [z_tV, lg_sl, z_isL, Value.category]; omega
        · simp [z_tV, lg_sl, z_isL, Value.category]; omega
      rw [e]
      rcases key.2 with rfl | hv
      · show _ ≤ 2 + z_wd sh
        split <;> omega
      · rw [hv]
        have e2 : z_wd ((t, c, i, k) :: sh) = (bif Nat.beq t 1 then 2 else 1) + z_wd sh := rfl
        have : 1 + z_wd sh ≤ z_wd ((t, c, i, k) :: sh) := by
          rw [e2]
          cases Nat.beq t 1
          · exact Nat.le_refl _
          · show 1 + z_wd sh ≤ 2 + z_wd sh
            omega
        simp only [Bool.false_eq_true, if_false]
        omega
theorem z_chk_rec {sh : List (Nat × Nat × Nat × Nat)} {vs : List zVV} {t c i : Nat} (h : z_chk ((t, c, i, 0) :: sh) vs = true) (ht : (t = 2 ∧ i < z_ni c) ∨ t = 3) : ∃ j rv, vs = .inr (.inl (c, j, 0)) :: rv ∧ j < z_ni c := by
  cases vs with
  | nil => unfold z_chk at h; split at h <;> simp_all
  | cons v vs =>
    rcases ht with ⟨rfl, hi⟩ | rfl
    · rcases v with x | ⟨c', i', k'⟩ | x
      · cases h
      · simp only [z_chk, Bool.and_eq_true] at h
        obtain ⟨⟨⟨h1, h2⟩, h3⟩, -⟩ := h
        have e1 := Nat.eq_of_beq_eq_true h1
        have e2 := Nat.eq_of_beq_eq_true h2
        have e3 := Nat.eq_of_beq_eq_true h3
        subst e1; subst e2; subst e3
        exact ⟨_, _, rfl, hi⟩
      · cases h
    · rcases v with x | ⟨c', i', k'⟩ | x
      · cases h
      · simp only [z_chk, Bool.and_eq_true] at h
        obtain ⟨⟨⟨h1, h2⟩, h3⟩, -⟩ := h
        have e1 := Nat.eq_of_beq_eq_true h1
        have e3 := Nat.eq_of_beq_eq_true h3
        subst e1; subst e3
        exact ⟨_, _, rfl, Nat.blt_eq.mp h2⟩
      · cases h
/-- a method's function: the run from its entry -/
def z_fn (sh : List (Nat × Nat × Nat × Nat)) (M : zMI) (cd : zCD) (cut : List (Nat × List Nat)) (b : Nat × Nat) (vs : List zVV) (g : zSG) : Option zRR := bif z_chk sh vs then z_run M cd cut 100000 0 (z_args 0 vs) g b else none
theorem z_fn_chk {sh : List (Nat × Nat × Nat × Nat)} {M : zMI} {cd : zCD} {cut : List (Nat × List Nat)} {b : Nat × Nat} {vs : List zVV} {g : zSG} {r : zRR} (h : z_fn sh M cd cut b vs g = some r) : z_chk sh vs = true ∧ z_run M cd cut 100000 0 (z_args 0 vs) g b = some r := z_cnd h
theorem z_fl_all {own : String} {L : List (Nat × (Nat × Nat))} (h : L.all (fun q => z_flb own q.1 q.2.1 q.2.2) = true) : ∀ j c kf, z_look L j = some (c, kf) → z_flb own j c kf = true := fun j c kf hl => List.all_eq_true.mp h (j, (c, kf)) (z_look_mem hl)
theorem z_cs_all {own : String} {L : List (Nat × zVV)} (h : L.all (fun q => z_csb own q.1 q.2) = true) : ∀ j v, z_look L j = some v → z_csb own j v = true := fun j v hl => List.all_eq_true.mp h (j, v) (z_look_mem hl)
def z_kd (vl : List Nat) (cd : zCD) : Bool := cd.all fun q => match q.2.1 with
  | .invokevirtual j => vl.contains j
  | .invokestatic j => !vl.contains j
  | _ => true
theorem z_hcal {l : Launch} {rm : Room} {own : String} {nL : Nat} {cd : zCD} {L : List (Nat × zCI)} {vl : List Nat} (hv : z_kd vl cd = true) (h : ∀ q ∈ L, zCalOK l rm own nL q.1 (if vl.contains q.1 then .invokevirtual q.1 else .invokestatic q.1) q.2) : ∀ j ci, z_look L j = some ci → ∀ pc i nx tg, z_look cd pc = some (i, nx, tg) → (i = .invokevirtual j ∨ i = .invokestatic j) → zCalOK l rm own nL j i ci := by
  intro j ci hj pc i nx tg hl hi
  have h1 := h (j, ci) (z_look_mem hj)
  unfold z_kd at hv
  have h2 := List.all_eq_true.mp hv (pc, i, nx, tg) (z_look_mem hl)
  rcases hi with rfl | rfl
  · have h3 : vl.contains j = true := h2
    simp only [h3, if_true] at h1
    exact h1
  · have h3 : (!vl.contains j) = true := h2
    have h4 : vl.contains j = false := by simpa using h3
    simp only [h4, Bool.false_eq_true, if_false] at h1
    exact h1
theorem z_nothr {l : Launch} {rm : Room} {own : String} {nL : Nat} {cc : ByteArray} {cd : zCD} : ∀ pc j nx tg x, z_look cd pc = some (.new j, nx, tg) → z_look ([] : List (Nat × Nat)) j = some x → zThrOK l rm own nL cc pc x := fun pc j nx tg x _ h => by cases h
/-- the contract of a printed method -/
theorem z_ct {l : Launch} {y : MethodName} {cc : ByteArray} {nL : Nat} {ret : Option FieldType} {d mc ms : Nat} {own : String} {M : zMI} {cd : zCD} {cut : List (Nat × List Nat)} {sh : List (Nat × Nat × Nat × Nat)} (hy : plainName y.cls = true) (hown : y.cls = own) (hnL : M.2.2.2.2.1 = nL) (hrt : z_rt M.2.2.2.2.2 ret) (hfl : ∀ j c kf, M.1 j = some (c, kf) → z_flb own j c kf = true) (hcs : ∀ j v, M.2.2.1 j = some v → z_csb own j v = true) (hcd : z_okc cc cd = true)
    (hthr : ∀ pc j nx tg x, z_look cd pc = some (.new j, nx, tg) → M.2.2.2.1 j = some x → zThrOK l (zrm d mc ms) own nL cc pc x) (hcal : ∀ j ci, M.2.1 j = some ci → ∀ pc i nx tg, z_look cd pc = some (i, nx, tg) → (i = .invokevirtual j ∨ i = .invokestatic j) → zCalOK l (zrm d mc ms) own nL j i ci)
    (hw : z_wd sh ≤ nL) : zCt l y cc nL ret (zrm d mc ms) (z_fn sh M cd cut (mc, ms)) :=
  z_met hy hown hnL hrt hfl hcs hcd hthr hcal (fun ad vs g r h => Nat.le_trans (z_chk_len sh vs (z_fn_chk h).1) hw) (fun vs g r h => ⟨100000, (z_fn_chk h).2⟩)
theorem z_none {l : Launch} {y : MethodName} {cc : ByteArray} {nL : Nat} {ret : Option FieldType} {rm : Room} {F : List zVV → zSG → Option zRR} (h : ∀ vs g, F vs g = none) : zCt l y cc nL ret rm F := fun D ca ad A g vs r hr => by rw [h] at hr; cases hr
theorem z_room {d d' mc ms mc' ms' L : Nat} (h : d' + 1 ≤ d) (hL : L ≤ 21) : (zrm d' mc' ms').frames + 1 ≤ (zrm d mc ms).frames ∧ 8 + (L + 11) + (zrm d' mc' ms').locals ≤ (zrm d mc ms).locals := ⟨h, by show 8 + (L + 11) + 40 * d' ≤ 40 * d; omega⟩
end
section
def zfl_X5 : List (Nat × (Nat × Nat)) := [(1, (3, 0)), (13, (3, 9)), (17, (3, 10)), (20, (3, 11)), (23, (3, 12)), (26, (3, 13)), (29, (3, 14)), (32, (3, 15)), (35, (3, 17)), (38, (3, 18)), (41, (3, 19)), (44, (3, 20)), (47, (3, 21)), (50, (3, 22)), (53, (3, 23)), (56, (3, 24)), (59, (3, 25)), (62, (3, 26)), (65, (3, 27)), (68, (3, 28)), (71, (3, 29)), (74, (3, 30)), (77, (3, 31)), (80, (3, 32)), (83, (3, 33)), (87, (3, 34)), (90, (3, 39)), (93, (3, 40)), (96, (3, 41)), (99, (3, 42)), (102, (3, 1)), (105, (3, 4)), (108, (3, 3)), (111, (3, 2)), (122, (3, 5)), (151, (3, 8)), (179, (3, 6)), (182, (3, 7)), (197, (3, 16)), (203, (3, 35)), (206, (3, 38)), (212, (3, 36)), (218, (3, 37)), (264, (3, 45)), (267, (3, 46)), (270, (3, 43)), (273, (3, 44))]
def zcs_X5 : List (Nat × zVV) := [(147, .inr (.inr 7348)), (149, .inr (.inr 16832373893)), (166, .inr (.inr 2)), (168, .inr (.inr 292)), (173, .inr (.inr 17076)), (175, .inr (.inr 19513)), (177, .inr (.inr 762030)), (196, .inl 100000), (240, .inl 1000000)]
def zth_X5 : List (Nat × Nat) := []
theorem zfl_X5_ok : zfl_X5.all (fun q => z_flb RX5 q.1 q.2.1 q.2.2) = true := by decide +kernel
theorem zcs_X5_ok : zcs_X5.all (fun q => z_csb RX5 q.1 q.2) = true := by decide +kernel
def zc_X5_thrown : zCD := [(0, .aload_n 0, 1, 0), (1, .getfield 1, 4, 0), (4, .ireturn, 5, 0)]
def zk_X5_thrown : List (Nat × List Nat) := []
def zl_X5_thrown : List (Nat × zCI) := []
def zM_X5_thrown : zMI := (z_look zfl_X5, z_look zl_X5_thrown, z_look zcs_X5, z_look zth_X5, 1, 1)
def zs_X5_thrown : List (Nat × Nat × Nat × Nat) := [(2, 3, 0, 0)]
def zF_X5_thrown : List zVV → zSG → Option zRR := z_fn zs_X5_thrown zM_X5_thrown zc_X5_thrown zk_X5_thrown (0, 0)
theorem zo_X5_thrown : z_okc cX5_thrown zc_X5_thrown = true := by decide +kernel
theorem zv_X5_thrown : z_kd [] zc_X5_thrown = true := by decide +kernel
set_option maxRecDepth 20000 in
theorem zt_X5_thrown (l : Launch) : zCt l yX5_thrown cX5_thrown 1 (some .int) (zrm 0 0 0) zF_X5_thrown := z_ct (own := RX5) (sh := zs_X5_thrown) (M := zM_X5_thrown) (cd := zc_X5_thrown) (cut := zk_X5_thrown) (by decide +kernel) rfl rfl rfl (z_fl_all zfl_X5_ok) (z_cs_all zcs_X5_ok) zo_X5_thrown z_nothr (z_hcal (L := zl_X5_thrown) zv_X5_thrown (fun _ h => nomatch h)) (by decide)
theorem zr_X5_thrown : ∀ vs g r, zF_X5_thrown vs g = some r → ∃ i rv, vs = .inr (.inl (3, i, 0)) :: rv ∧ i < z_ni 3 := fun vs g r h => z_chk_rec (z_fn_chk (sh := zs_X5_thrown) h).1 (Or.inl ⟨rfl, by decide⟩)
def zc_X5_may : zCD := [(0, .iload_n 1, 1, 0), (1, .ifCond .ne 15, 4, 16), (4, .aload_n 0, 5, 0), (5, .getfield 1, 8, 0), (8, .ifCond .ne 8, 11, 16), (11, .aload_n 0, 12, 0), (12, .iload_n 2, 13, 0), (13, .putfield 1, 16, 0), (16, .aload_n 0, 17, 0), (17, .getfield 1, 20, 0), (20, .ifCond .ne 7, 23, 27), (23, .iconst 1, 24, 0), (24, .goto 4, 27, 28), (27, .iconst 0, 28, 0), (28, .ireturn, 29, 0)]
def zk_X5_may : List (Nat × List Nat) := []
def zl_X5_may : List (Nat × zCI) := []
def zM_X5_may : zMI := (z_look zfl_X5, z_look zl_X5_may, z_look zcs_X5, z_look zth_X5, 3, 2)
def zs_X5_may : List (Nat × Nat × Nat × Nat) := [(2, 3, 0, 0), (0, 0, 0, 0), (0, 0, 0, 0)]
def zF_X5_may : List zVV → zSG → Option zRR := z_fn zs_X5_may zM_X5_may zc_X5_may zk_X5_may (0, 0)
theorem zo_X5_may : z_okc cX5_may zc_X5_may = true := by decide +kernel
theorem zv_X5_may : z_kd [] zc_X5_may = true := by decide +kernel
set_option maxRecDepth 20000 in
theorem zt_X5_may (l : Launch) : zCt l yX5_may cX5_may 3 (some .boolean) (zrm 0 0 0) zF_X5_may := z_ct (own := RX5) (sh := zs_X5_may) (M := zM_X5_may) (cd := zc_X5_may) (cut := zk_X5_may) (by decide +kernel) rfl rfl rfl (z_fl_all zfl_X5_ok) (z_cs_all zcs_X5_ok) zo_X5_may z_nothr (z_hcal (L := zl_X5_may) zv_X5_may (fun _ h => nomatch h)) (by decide)
theorem zr_X5_may : ∀ vs g r, zF_X5_may vs g = some r → ∃ i rv, vs = .inr (.inl (3, i, 0)) :: rv ∧ i < z_ni 3 := fun vs g r h => z_chk_rec (z_fn_chk (sh := zs_X5_may) h).1 (Or.inl ⟨rfl, by decide⟩)
def zc_X5_within : zCD := [(0, .iload_n 0, 1, 0), (1, .iload_n 1, 2, 0), (2, .if_icmp .lt 12, 5, 14), (5, .iload_n 0, 6, 0), (6, .iload_n 2, 7, 0), (7, .if_icmp .gt 7, 10, 14), (10, .iconst 1, 11, 0), (11, .goto 4, 14, 15), (14, .iconst 0, 15, 0), (15, .ireturn, 16, 0)]
def zk_X5_within : List (Nat × List Nat) := []
def zl_X5_within : List (Nat × zCI) := []
def zM_X5_within : zMI := (z_look zfl_X5, z_look zl_X5_within, z_look zcs_X5, z_look zth_X5, 3, 2)
def zs_X5_within : List (Nat × Nat × Nat × Nat) := [(0, 0, 0, 0), (0, 0, 0, 0), (0, 0, 0, 0)]
def zF_X5_within : List zVV → zSG → Option zRR := z_fn zs_X5_within zM_X5_within zc_X5_within zk_X5_within (0, 0)
theorem zo_X5_within : z_okc cX5_within zc_X5_within = true := by decide +kernel
theorem zv_X5_within : z_kd [] zc_X5_within = true := by decide +kernel
set_option maxRecDepth 20000 in
theorem zt_X5_within (l : Launch) : zCt l yX5_within cX5_within 3 (some .boolean) (zrm 0 0 0) zF_X5_within := z_ct (own := RX5) (sh := zs_X5_within) (M := zM_X5_within) (cd := zc_X5_within) (cut := zk_X5_within) (by decide +kernel) rfl rfl rfl (z_fl_all zfl_X5_ok) (z_cs_all zcs_X5_ok) zo_X5_within z_nothr (z_hcal (L := zl_X5_within) zv_X5_within (fun _ h => nomatch h)) (by decide)
def zc_X5_feed : zCD := [(0, .aload_n 0, 1, 0), (1, .iconst 0, 2, 0), (2, .putfield 1, 5, 0), (5, .aload_n 0, 6, 0), (6, .getfield 102, 9, 0), (9, .bipush 20, 11, 0), (11, .iadd, 12, 0), (12, .sipush 400, 15, 0), (15, .if_icmp .le 5, 18, 20), (18, .iconst (-1), 19, 0), (19, .ireturn, 20, 0), (20, .iconst 0, 21, 0), (21, .istore 6, 23, 0), (23, .iload 6, 25, 0), (25, .bipush 20, 27, 0), (27, .if_icmp .ge 93, 30, 120), (30, .iload 6, 32, 0), (32, .iconst 4, 33, 0), (33, .if_icmp .ge 7, 36, 40), (36, .iload_n 1, 37, 0), (37, .goto 39, 40, 76), (40, .iload 6, 42, 0), (42, .bipush 8, 44, 0), (44, .if_icmp .ge 7, 47, 51), (47, .iload_n 2, 48, 0), (48, .goto 28, 51, 76), (51, .iload 6, 53, 0), (53, .bipush 12, 55, 0), (55, .if_icmp .ge 7, 58, 62), (58, .iload_n 3, 59, 0), (59, .goto 17, 62, 76), (62, .iload 6, 64, 0), (64, .bipush 16, 66, 0), (66, .if_icmp .ge 8, 69, 74), (69, .iload 4, 71, 0), (71, .goto 5, 74, 76), (74, .iload 5, 76, 0), (76, .istore 7, 78, 0), (78, .aload_n 0, 79, 0), (79, .getfield 13, 82, 0), (82, .aload_n 0, 83, 0), (83, .getfield 102, 86, 0), (86, .iload 7, 88, 0), (88, .bipush 24, 90, 0), (90, .bipush 8, 92, 0), (92, .iload 6, 94, 0), (94, .iconst 4, 95, 0), (95, .irem, 96, 0), (96, .imul, 97, 0), (97, .isub, 98, 0), (98, .ishr, 99, 0), (99, .sipush 255, 102, 0), (102, .iand, 103, 0), (103, .iastore, 104, 0), (104, .aload_n 0, 105, 0), (105, .dup, 106, 0), (106, .getfield 102, 109, 0), (109, .iconst 1, 110, 0), (110, .iadd, 111, 0), (111, .putfield 102, 114, 0), (114, .iinc 6 1, 117, 0), (117, .goto (-94), 120, 23), (120, .aload_n 0, 121, 0), (121, .getfield 102, 124, 0), (124, .ireturn, 125, 0)]
def zk_X5_feed : List (Nat × List Nat) := [(23, [0, 1, 2, 3, 4, 5, 6])]
def zl_X5_feed : List (Nat × zCI) := []
def zM_X5_feed : zMI := (z_look zfl_X5, z_look zl_X5_feed, z_look zcs_X5, z_look zth_X5, 8, 1)
def zs_X5_feed : List (Nat × Nat × Nat × Nat) := [(2, 3, 0, 0), (0, 0, 0, 0), (0, 0, 0, 0), (0, 0, 0, 0), (0, 0, 0, 0), (0, 0, 0, 0)]
def zF_X5_feed : List zVV → zSG → Option zRR := z_fn zs_X5_feed zM_X5_feed zc_X5_feed zk_X5_feed (0, 0)
theorem zo_X5_feed : z_okc cX5_feed zc_X5_feed = true := by decide +kernel
theorem zv_X5_feed : z_kd [] zc_X5_feed = true := by decide +kernel
set_option maxRecDepth 20000 in
theorem zt_X5_feed (l : Launch) : zCt l yX5_feed cX5_feed 8 (some .int) (zrm 0 0 0) zF_X5_feed := z_ct (own := RX5) (sh := zs_X5_feed) (M := zM_X5_feed) (cd := zc_X5_feed) (cut := zk_X5_feed) (by decide +kernel) rfl rfl rfl (z_fl_all zfl_X5_ok) (z_cs_all zcs_X5_ok) zo_X5_feed z_nothr (z_hcal (L := zl_X5_feed) zv_X5_feed (fun _ h => nomatch h)) (by decide)
theorem zr_X5_feed : ∀ vs g r, zF_X5_feed vs g = some r → ∃ i rv, vs = .inr (.inl (3, i, 0)) :: rv ∧ i < z_ni 3 := fun vs g r h => z_chk_rec (z_fn_chk (sh := zs_X5_feed) h).1 (Or.inl ⟨rfl, by decide⟩)
def zc_X5_fine : zCD := [(0, .aload_n 0, 1, 0), (1, .getfield 105, 4, 0), (4, .iconst (-1), 5, 0), (5, .if_icmp .ne 7, 8, 12), (8, .iconst 1, 9, 0), (9, .goto 4, 12, 13), (12, .iconst 0, 13, 0), (13, .ireturn, 14, 0)]
def zk_X5_fine : List (Nat × List Nat) := []
def zl_X5_fine : List (Nat × zCI) := []
def zM_X5_fine : zMI := (z_look zfl_X5, z_look zl_X5_fine, z_look zcs_X5, z_look zth_X5, 1, 2)
def zs_X5_fine : List (Nat × Nat × Nat × Nat) := [(2, 3, 0, 0)]
def zF_X5_fine : List zVV → zSG → Option zRR := z_fn zs_X5_fine zM_X5_fine zc_X5_fine zk_X5_fine (0, 0)
theorem zo_X5_fine : z_okc cX5_fine zc_X5_fine = true := by decide +kernel
theorem zv_X5_fine : z_kd [] zc_X5_fine = true := by decide +kernel
set_option maxRecDepth 20000 in
theorem zt_X5_fine (l : Launch) : zCt l yX5_fine cX5_fine 1 (some .boolean) (zrm 0 0 0) zF_X5_fine := z_ct (own := RX5) (sh := zs_X5_fine) (M := zM_X5_fine) (cd := zc_X5_fine) (cut := zk_X5_fine) (by decide +kernel) rfl rfl rfl (z_fl_all zfl_X5_ok) (z_cs_all zcs_X5_ok) zo_X5_fine z_nothr (z_hcal (L := zl_X5_fine) zv_X5_fine (fun _ h => nomatch h)) (by decide)
theorem zr_X5_fine : ∀ vs g r, zF_X5_fine vs g = some r → ∃ i rv, vs = .inr (.inl (3, i, 0)) :: rv ∧ i < z_ni 3 := fun vs g r h => z_chk_rec (z_fn_chk (sh := zs_X5_fine) h).1 (Or.inl ⟨rfl, by decide⟩)
def zc_X5_wrong : zCD := [(0, .aload_n 0, 1, 0), (1, .getfield 105, 4, 0), (4, .iconst (-1), 5, 0), (5, .if_icmp .ne 8, 8, 13), (8, .aload_n 0, 9, 0), (9, .iload_n 1, 10, 0), (10, .putfield 105, 13, 0), (13, .return_, 14, 0)]
def zk_X5_wrong : List (Nat × List Nat) := []
def zl_X5_wrong : List (Nat × zCI) := []
def zM_X5_wrong : zMI := (z_look zfl_X5, z_look zl_X5_wrong, z_look zcs_X5, z_look zth_X5, 2, 0)
def zs_X5_wrong : List (Nat × Nat × Nat × Nat) := [(2, 3, 0, 0), (0, 0, 0, 0)]
def zF_X5_wrong : List zVV → zSG → Option zRR := z_fn zs_X5_wrong zM_X5_wrong zc_X5_wrong zk_X5_wrong (0, 0)
theorem zo_X5_wrong : z_okc cX5_wrong zc_X5_wrong = true := by decide +kernel
theorem zv_X5_wrong : z_kd [] zc_X5_wrong = true := by decide +kernel
set_option maxRecDepth 20000 in
theorem zt_X5_wrong (l : Launch) : zCt l yX5_wrong cX5_wrong 2 none (zrm 0 0 0) zF_X5_wrong := z_ct (own := RX5) (sh := zs_X5_wrong) (M := zM_X5_wrong) (cd := zc_X5_wrong) (cut := zk_X5_wrong) (by decide +kernel) rfl rfl rfl (z_fl_all zfl_X5_ok) (z_cs_all zcs_X5_ok) zo_X5_wrong z_nothr (z_hcal (L := zl_X5_wrong) zv_X5_wrong (fun _ h => nomatch h)) (by decide)
theorem zr_X5_wrong : ∀ vs g r, zF_X5_wrong vs g = some r → ∃ i rv, vs = .inr (.inl (3, i, 0)) :: rv ∧ i < z_ni 3 := fun vs g r h => z_chk_rec (z_fn_chk (sh := zs_X5_wrong) h).1 (Or.inl ⟨rfl, by decide⟩)
def zc_X5_here : zCD := [(0, .aload_n 0, 1, 0), (1, .getfield 108, 4, 0), (4, .aload_n 0, 5, 0), (5, .getfield 111, 8, 0), (8, .if_icmp .ge 30, 11, 38), (11, .aload_n 0, 12, 0), (12, .getfield 13, 15, 0), (15, .aload_n 0, 16, 0), (16, .getfield 108, 19, 0), (19, .iaload, 20, 0), (20, .bipush 32, 22, 0), (22, .if_icmp .ne 16, 25, 38), (25, .aload_n 0, 26, 0), (26, .dup, 27, 0), (27, .getfield 108, 30, 0), (30, .iconst 1, 31, 0), (31, .iadd, 32, 0), (32, .putfield 108, 35, 0), (35, .goto (-35), 38, 0), (38, .aload_n 0, 39, 0), (39, .getfield 108, 42, 0), (42, .aload_n 0, 43, 0), (43, .getfield 111, 46, 0), (46, .if_icmp .ge 15, 49, 61), (49, .aload_n 0, 50, 0), (50, .getfield 13, 53, 0), (53, .aload_n 0, 54, 0), (54, .getfield 108, 57, 0), (57, .iaload, 58, 0), (58, .goto 4, 61, 62), (61, .iconst 0, 62, 0), (62, .ireturn, 63, 0)]
def zk_X5_here : List (Nat × List Nat) := [(0, [0])]
def zl_X5_here : List (Nat × zCI) := []
def zM_X5_here : zMI := (z_look zfl_X5, z_look zl_X5_here, z_look zcs_X5, z_look zth_X5, 1, 1)
def zs_X5_here : List (Nat × Nat × Nat × Nat) := [(2, 3, 0, 0)]
def zF_X5_here : List zVV → zSG → Option zRR := z_fn zs_X5_here zM_X5_here zc_X5_here zk_X5_here (0, 0)
theorem zo_X5_here : z_okc cX5_here zc_X5_here = true := by decide +kernel
theorem zv_X5_here : z_kd [] zc_X5_here = true := by decide +kernel
set_option maxRecDepth 20000 in
theorem zt_X5_here (l : Launch) : zCt l yX5_here cX5_here 1 (some .int) (zrm 0 0 0) zF_X5_here := z_ct (own := RX5) (sh := zs_X5_here) (M := zM_X5_here) (cd := zc_X5_here) (cut := zk_X5_here) (by decide +kernel) rfl rfl rfl (z_fl_all zfl_X5_ok) (z_cs_all zcs_X5_ok) zo_X5_here z_nothr (z_hcal (L := zl_X5_here) zv_X5_here (fun _ h => nomatch h)) (by decide)
theorem zr_X5_here : ∀ vs g r, zF_X5_here vs g = some r → ∃ i rv, vs = .inr (.inl (3, i, 0)) :: rv ∧ i < z_ni 3 := fun vs g r h => z_chk_rec (z_fn_chk (sh := zs_X5_here) h).1 (Or.inl ⟨rfl, by decide⟩)
def zc_X5_isSmall : zCD := [(0, .iload_n 0, 1, 0), (1, .bipush 97, 3, 0), (3, .if_icmp .lt 13, 6, 16), (6, .iload_n 0, 7, 0), (7, .bipush 122, 9, 0), (9, .if_icmp .gt 7, 12, 16), (12, .iconst 1, 13, 0), (13, .goto 4, 16, 17), (16, .iconst 0, 17, 0), (17, .ireturn, 18, 0)]
def zk_X5_isSmall : List (Nat × List Nat) := []
def zl_X5_isSmall : List (Nat × zCI) := []
def zM_X5_isSmall : zMI := (z_look zfl_X5, z_look zl_X5_isSmall, z_look zcs_X5, z_look zth_X5, 1, 2)
def zs_X5_isSmall : List (Nat × Nat × Nat × Nat) := [(0, 0, 0, 0)]
def zF_X5_isSmall : List zVV → zSG → Option zRR := z_fn zs_X5_isSmall zM_X5_isSmall zc_X5_isSmall zk_X5_isSmall (0, 0)
theorem zo_X5_isSmall : z_okc cX5_isSmall zc_X5_isSmall = true := by decide +kernel
theorem zv_X5_isSmall : z_kd [] zc_X5_isSmall = true := by decide +kernel
set_option maxRecDepth 20000 in
theorem zt_X5_isSmall (l : Launch) : zCt l yX5_isSmall cX5_isSmall 1 (some .boolean) (zrm 0 0 0) zF_X5_isSmall := z_ct (own := RX5) (sh := zs_X5_isSmall) (M := zM_X5_isSmall) (cd := zc_X5_isSmall) (cut := zk_X5_isSmall) (by decide +kernel) rfl rfl rfl (z_fl_all zfl_X5_ok) (z_cs_all zcs_X5_ok) zo_X5_isSmall z_nothr (z_hcal (L := zl_X5_isSmall) zv_X5_isSmall (fun _ h => nomatch h)) (by decide)
def zc_X5_isDigit : zCD := [(0, .iload_n 0, 1, 0), (1, .bipush 48, 3, 0), (3, .if_icmp .lt 13, 6, 16), (6, .iload_n 0, 7, 0), (7, .bipush 57, 9, 0), (9, .if_icmp .gt 7, 12, 16), (12, .iconst 1, 13, 0), (13, .goto 4, 16, 17), (16, .iconst 0, 17, 0), (17, .ireturn, 18, 0)]
def zk_X5_isDigit : List (Nat × List Nat) := []
def zl_X5_isDigit : List (Nat × zCI) := []
def zM_X5_isDigit : zMI := (z_look zfl_X5, z_look zl_X5_isDigit, z_look zcs_X5, z_look zth_X5, 1, 2)
def zs_X5_isDigit : List (Nat × Nat × Nat × Nat) := [(0, 0, 0, 0)]
def zF_X5_isDigit : List zVV → zSG → Option zRR := z_fn zs_X5_isDigit zM_X5_isDigit zc_X5_isDigit zk_X5_isDigit (0, 0)
theorem zo_X5_isDigit : z_okc cX5_isDigit zc_X5_isDigit = true := by decide +kernel
theorem zv_X5_isDigit : z_kd [] zc_X5_isDigit = true := by decide +kernel
set_option maxRecDepth 20000 in
theorem zt_X5_isDigit (l : Launch) : zCt l yX5_isDigit cX5_isDigit 1 (some .boolean) (zrm 0 0 0) zF_X5_isDigit := z_ct (own := RX5) (sh := zs_X5_isDigit) (M := zM_X5_isDigit) (cd := zc_X5_isDigit) (cut := zk_X5_isDigit) (by decide +kernel) rfl rfl rfl (z_fl_all zfl_X5_ok) (z_cs_all zcs_X5_ok) zo_X5_isDigit z_nothr (z_hcal (L := zl_X5_isDigit) zv_X5_isDigit (fun _ h => nomatch h)) (by decide)
def zc_X5_word : zCD := [(0, .aload_n 0, 1, 0), (1, .invokevirtual 114, 4, 0), (4, .pop, 5, 0), (5, .lconst 0, 6, 0), (6, .lstore_n 1, 7, 0), (7, .iconst 0, 8, 0), (8, .istore_n 3, 9, 0), (9, .aload_n 0, 10, 0), (10, .getfield 108, 13, 0), (13, .istore 4, 15, 0), (15, .iload 4, 17, 0), (17, .aload_n 0, 18, 0), (18, .getfield 111, 21, 0), (21, .if_icmp .ge 51, 24, 72), (24, .aload_n 0, 25, 0), (25, .getfield 13, 28, 0), (28, .iload 4, 30, 0), (30, .iaload, 31, 0), (31, .invokestatic 118, 34, 0), (34, .ifCond .eq 38, 37, 72), (37, .iload_n 3, 38, 0), (38, .bipush 7, 40, 0), (40, .if_icmp .ge 21, 43, 61), (43, .lload_n 1, 44, 0), (44, .iconst 5, 45, 0), (45, .lshl, 46, 0), (46, .aload_n 0, 47, 0), (47, .getfield 13, 50, 0), (50, .iload 4, 52, 0), (52, .iaload, 53, 0), (53, .bipush 96, 55, 0), (55, .isub, 56, 0), (56, .i2l, 57, 0), (57, .lor, 58, 0), (58, .goto 4, 61, 62), (61, .lconst 0, 62, 0), (62, .lstore_n 1, 63, 0), (63, .iinc 3 1, 66, 0), (66, .iinc 4 1, 69, 0), (69, .goto (-54), 72, 15), (72, .iload_n 3, 73, 0), (73, .bipush 7, 75, 0), (75, .if_icmp .le 7, 78, 82), (78, .lconst 0, 79, 0), (79, .goto 4, 82, 83), (82, .lload_n 1, 83, 0), (83, .lreturn, 84, 0)]
def zk_X5_word : List (Nat × List Nat) := [(15, [0, 1, 3, 4])]
def zl_X5_word : List (Nat × zCI) := [(114, (zF_X5_here, 1, 1, 0, 0)), (118, (zF_X5_isSmall, 1, 1, 0, 0))]
def zM_X5_word : zMI := (z_look zfl_X5, z_look zl_X5_word, z_look zcs_X5, z_look zth_X5, 5, 3)
def zs_X5_word : List (Nat × Nat × Nat × Nat) := [(2, 3, 0, 0)]
def zF_X5_word : List zVV → zSG → Option zRR := z_fn zs_X5_word zM_X5_word zc_X5_word zk_X5_word (0, 0)
theorem zo_X5_word : z_okc cX5_word zc_X5_word = true := by decide +kernel
theorem zv_X5_word : z_kd [114] zc_X5_word = true := by decide +kernel
set_option maxRecDepth 20000 in
theorem zt_X5_word (l : Launch) : zCt l yX5_word cX5_word 5 (some .long) (zrm 1 0 0) zF_X5_word := z_ct (own := RX5) (sh := zs_X5_word) (M := zM_X5_word) (cd := zc_X5_word) (cut := zk_X5_word) (by decide +kernel) rfl rfl rfl (z_fl_all zfl_X5_ok) (z_cs_all zcs_X5_ok) zo_X5_word z_nothr (z_hcal (L := zl_X5_word) zv_X5_word (List.forall_mem_cons.mpr ⟨z_calV (l := l) (j := 114) (C := RX5) (cn := 3) (T := TX5) (N := 47) (zt_X5_here l) (by decide +kernel) (by decide +kernel) rfl ⟨by decide +kernel, by decide +kernel, by decide +kernel⟩ (z_room (by omega) (by decide)) rfl zr_X5_here, List.forall_mem_cons.mpr ⟨z_calS (l := l) (j := 118) (zt_X5_isSmall l) (by decide +kernel) (by decide +kernel) ⟨by decide +kernel, by decide +kernel, by decide +kernel⟩ (z_room (by omega) (by decide)), fun _ h => nomatch h⟩⟩)) (by decide)
theorem zr_X5_word : ∀ vs g r, zF_X5_word vs g = some r → ∃ i rv, vs = .inr (.inl (3, i, 0)) :: rv ∧ i < z_ni 3 := fun vs g r h => z_chk_rec (z_fn_chk (sh := zs_X5_word) h).1 (Or.inl ⟨rfl, by decide⟩)
def zc_X5_pass : zCD := [(0, .aload_n 0, 1, 0), (1, .getfield 108, 4, 0), (4, .aload_n 0, 5, 0), (5, .getfield 111, 8, 0), (8, .if_icmp .ge 31, 11, 39), (11, .aload_n 0, 12, 0), (12, .getfield 13, 15, 0), (15, .aload_n 0, 16, 0), (16, .getfield 108, 19, 0), (19, .iaload, 20, 0), (20, .invokestatic 118, 23, 0), (23, .ifCond .eq 16, 26, 39), (26, .aload_n 0, 27, 0), (27, .dup, 28, 0), (28, .getfield 108, 31, 0), (31, .iconst 1, 32, 0), (32, .iadd, 33, 0), (33, .putfield 108, 36, 0), (36, .goto (-36), 39, 0), (39, .return_, 40, 0)]
def zk_X5_pass : List (Nat × List Nat) := [(0, [0])]
def zl_X5_pass : List (Nat × zCI) := [(118, (zF_X5_isSmall, 1, 1, 0, 0))]
def zM_X5_pass : zMI := (z_look zfl_X5, z_look zl_X5_pass, z_look zcs_X5, z_look zth_X5, 1, 0)
def zs_X5_pass : List (Nat × Nat × Nat × Nat) := [(2, 3, 0, 0)]
def zF_X5_pass : List zVV → zSG → Option zRR := z_fn zs_X5_pass zM_X5_pass zc_X5_pass zk_X5_pass (0, 0)
theorem zo_X5_pass : z_okc cX5_pass zc_X5_pass = true := by decide +kernel
theorem zv_X5_pass : z_kd [] zc_X5_pass = true := by decide +kernel
set_option maxRecDepth 20000 in
theorem zt_X5_pass (l : Launch) : zCt l yX5_pass cX5_pass 1 none (zrm 1 0 0) zF_X5_pass := z_ct (own := RX5) (sh := zs_X5_pass) (M := zM_X5_pass) (cd := zc_X5_pass) (cut := zk_X5_pass) (by decide +kernel) rfl rfl rfl (z_fl_all zfl_X5_ok) (z_cs_all zcs_X5_ok) zo_X5_pass z_nothr (z_hcal (L := zl_X5_pass) zv_X5_pass (List.forall_mem_cons.mpr ⟨z_calS (l := l) (j := 118) (zt_X5_isSmall l) (by decide +kernel) (by decide +kernel) ⟨by decide +kernel, by decide +kernel, by decide +kernel⟩ (z_room (by omega) (by decide)), fun _ h => nomatch h⟩)) (by decide)
theorem zr_X5_pass : ∀ vs g r, zF_X5_pass vs g = some r → ∃ i rv, vs = .inr (.inl (3, i, 0)) :: rv ∧ i < z_ni 3 := fun vs g r h => z_chk_rec (z_fn_chk (sh := zs_X5_pass) h).1 (Or.inl ⟨rfl, by decide⟩)
def zc_X5_emit : zCD := [(0, .aload_n 0, 1, 0), (1, .getfield 17, 4, 0), (4, .aload_n 0, 5, 0), (5, .getfield 122, 8, 0), (8, .iload_n 1, 9, 0), (9, .iastore, 10, 0), (10, .aload_n 0, 11, 0), (11, .getfield 20, 14, 0), (14, .aload_n 0, 15, 0), (15, .getfield 122, 18, 0), (18, .iload_n 2, 19, 0), (19, .iastore, 20, 0), (20, .aload_n 0, 21, 0), (21, .dup, 22, 0), (22, .getfield 122, 25, 0), (25, .iconst 1, 26, 0), (26, .iadd, 27, 0), (27, .putfield 122, 30, 0), (30, .return_, 31, 0)]
def zk_X5_emit : List (Nat × List Nat) := []
def zl_X5_emit : List (Nat × zCI) := []
def zM_X5_emit : zMI := (z_look zfl_X5, z_look zl_X5_emit, z_look zcs_X5, z_look zth_X5, 3, 0)
def zs_X5_emit : List (Nat × Nat × Nat × Nat) := [(2, 3, 0, 0), (0, 0, 0, 0), (0, 0, 0, 0)]
def zF_X5_emit : List zVV → zSG → Option zRR := z_fn zs_X5_emit zM_X5_emit zc_X5_emit zk_X5_emit (0, 0)
theorem zo_X5_emit : z_okc cX5_emit zc_X5_emit = true := by decide +kernel
theorem zv_X5_emit : z_kd [] zc_X5_emit = true := by decide +kernel
set_option maxRecDepth 20000 in
theorem zt_X5_emit (l : Launch) : zCt l yX5_emit cX5_emit 3 none (zrm 0 0 0) zF_X5_emit := z_ct (own := RX5) (sh := zs_X5_emit) (M := zM_X5_emit) (cd := zc_X5_emit) (cut := zk_X5_emit) (by decide +kernel) rfl rfl rfl (z_fl_all zfl_X5_ok) (z_cs_all zcs_X5_ok) zo_X5_emit z_nothr (z_hcal (L := zl_X5_emit) zv_X5_emit (fun _ h => nomatch h)) (by decide)
theorem zr_X5_emit : ∀ vs g r, zF_X5_emit vs g = some r → ∃ i rv, vs = .inr (.inl (3, i, 0)) :: rv ∧ i < z_ni 3 := fun vs g r h => z_chk_rec (z_fn_chk (sh := zs_X5_emit) h).1 (Or.inl ⟨rfl, by decide⟩)
def zc_X5_need : zCD := [(0, .aload_n 0, 1, 0), (1, .invokevirtual 125, 4, 0), (4, .ifCond .eq 19, 7, 23), (7, .aload_n 0, 8, 0), (8, .invokevirtual 114, 11, 0), (11, .iload_n 1, 12, 0), (12, .if_icmp .eq 11, 15, 23), (15, .aload_n 0, 16, 0), (16, .aload_n 0, 17, 0), (17, .getfield 108, 20, 0), (20, .invokevirtual 129, 23, 0), (23, .aload_n 0, 24, 0), (24, .invokevirtual 125, 27, 0), (27, .ifCond .eq 13, 30, 40), (30, .aload_n 0, 31, 0), (31, .dup, 32, 0), (32, .getfield 108, 35, 0), (35, .iconst 1, 36, 0), (36, .iadd, 37, 0), (37, .putfield 108, 40, 0), (40, .return_, 41, 0)]
def zk_X5_need : List (Nat × List Nat) := []
def zl_X5_need : List (Nat × zCI) := [(125, (zF_X5_fine, 1, 1, 0, 0)), (114, (zF_X5_here, 1, 1, 0, 0)), (129, (zF_X5_wrong, 2, 0, 0, 0))]
def zM_X5_need : zMI := (z_look zfl_X5, z_look zl_X5_need, z_look zcs_X5, z_look zth_X5, 2, 0)
def zs_X5_need : List (Nat × Nat × Nat × Nat) := [(2, 3, 0, 0), (0, 0, 0, 0)]
def zF_X5_need : List zVV → zSG → Option zRR := z_fn zs_X5_need zM_X5_need zc_X5_need zk_X5_need (0, 0)
theorem zo_X5_need : z_okc cX5_need zc_X5_need = true := by decide +kernel
theorem zv_X5_need : z_kd [125, 114, 129] zc_X5_need = true := by decide +kernel
set_option maxRecDepth 20000 in
theorem zt_X5_need (l : Launch) : zCt l yX5_need cX5_need 2 none (zrm 1 0 0) zF_X5_need := z_ct (own := RX5) (sh := zs_X5_need) (M := zM_X5_need) (cd := zc_X5_need) (cut := zk_X5_need) (by decide +kernel) rfl rfl rfl (z_fl_all zfl_X5_ok) (z_cs_all zcs_X5_ok) zo_X5_need z_nothr (z_hcal (L := zl_X5_need) zv_X5_need (List.forall_mem_cons.mpr ⟨z_calV (l := l) (j := 125) (C := RX5) (cn := 3) (T := TX5) (N := 47) (zt_X5_fine l) (by decide +kernel) (by decide +kernel) rfl ⟨by decide +kernel, by decide +kernel, by decide +kernel⟩ (z_room (by omega) (by decide)) rfl zr_X5_fine, List.forall_mem_cons.mpr ⟨z_calV (l := l) (j := 114) (C := RX5) (cn := 3) (T := TX5) (N := 47) (zt_X5_here l) (by decide +kernel) (by decide +kernel) rfl ⟨by decide +kernel, by decide +kernel, by decide +kernel⟩ (z_room (by omega) (by decide)) rfl zr_X5_here, List.forall_mem_cons.mpr ⟨z_calV (l := l) (j := 129) (C := RX5) (cn := 3) (T := TX5) (N := 47) (zt_X5_wrong l) (by decide +kernel) (by decide +kernel) rfl ⟨by decide +kernel, by decide +kernel, by decide +kernel⟩ (z_room (by omega) (by decide)) rfl zr_X5_wrong, fun _ h => nomatch h⟩⟩⟩)) (by decide)
theorem zr_X5_need : ∀ vs g r, zF_X5_need vs g = some r → ∃ i rv, vs = .inr (.inl (3, i, 0)) :: rv ∧ i < z_ni 3 := fun vs g r h => z_chk_rec (z_fn_chk (sh := zs_X5_need) h).1 (Or.inl ⟨rfl, by decide⟩)
def zc_X5_digits : zCD := [(0, .iconst 0, 1, 0), (1, .istore_n 1, 2, 0), (2, .iconst 0, 3, 0), (3, .istore_n 2, 4, 0), (4, .aload_n 0, 5, 0), (5, .invokevirtual 125, 8, 0), (8, .ifCond .eq 80, 11, 88), (11, .aload_n 0, 12, 0), (12, .getfield 108, 15, 0), (15, .aload_n 0, 16, 0), (16, .getfield 111, 19, 0), (19, .if_icmp .ge 69, 22, 88), (22, .aload_n 0, 23, 0), (23, .getfield 13, 26, 0), (26, .aload_n 0, 27, 0), (27, .getfield 108, 30, 0), (30, .iaload, 31, 0), (31, .invokestatic 133, 34, 0), (34, .ifCond .eq 54, 37, 88), (37, .iload_n 2, 38, 0), (38, .bipush 6, 40, 0), (40, .if_icmp .ne 14, 43, 54), (43, .aload_n 0, 44, 0), (44, .aload_n 0, 45, 0), (45, .getfield 108, 48, 0), (48, .invokevirtual 129, 51, 0), (51, .goto (-47), 54, 4), (54, .bipush 10, 56, 0), (56, .iload_n 1, 57, 0), (57, .imul, 58, 0), (58, .aload_n 0, 59, 0), (59, .getfield 13, 62, 0), (62, .aload_n 0, 63, 0), (63, .getfield 108, 66, 0), (66, .iaload, 67, 0), (67, .iadd, 68, 0), (68, .bipush 48, 70, 0), (70, .isub, 71, 0), (71, .istore_n 1, 72, 0), (72, .iinc 2 1, 75, 0), (75, .aload_n 0, 76, 0), (76, .dup, 77, 0), (77, .getfield 108, 80, 0), (80, .iconst 1, 81, 0), (81, .iadd, 82, 0), (82, .putfield 108, 85, 0), (85, .goto (-81), 88, 4), (88, .aload_n 0, 89, 0), (89, .invokevirtual 125, 92, 0), (92, .ifCond .eq 9, 95, 101), (95, .aload_n 0, 96, 0), (96, .iconst 0, 97, 0), (97, .iload_n 1, 98, 0), (98, .invokevirtual 136, 101, 0), (101, .return_, 102, 0)]
def zk_X5_digits : List (Nat × List Nat) := [(4, [0, 1, 2])]
def zl_X5_digits : List (Nat × zCI) := [(125, (zF_X5_fine, 1, 1, 0, 0)), (133, (zF_X5_isDigit, 1, 1, 0, 0)), (129, (zF_X5_wrong, 2, 0, 0, 0)), (136, (zF_X5_emit, 3, 0, 0, 0))]
def zM_X5_digits : zMI := (z_look zfl_X5, z_look zl_X5_digits, z_look zcs_X5, z_look zth_X5, 3, 0)
def zs_X5_digits : List (Nat × Nat × Nat × Nat) := [(2, 3, 0, 0)]
def zF_X5_digits : List zVV → zSG → Option zRR := z_fn zs_X5_digits zM_X5_digits zc_X5_digits zk_X5_digits (0, 0)
theorem zo_X5_digits : z_okc cX5_digits zc_X5_digits = true := by decide +kernel
theorem zv_X5_digits : z_kd [125, 129, 136] zc_X5_digits = true := by decide +kernel
set_option maxRecDepth 20000 in
theorem zt_X5_digits (l : Launch) : zCt l yX5_digits cX5_digits 3 none (zrm 1 0 0) zF_X5_digits := z_ct (own := RX5) (sh := zs_X5_digits) (M := zM_X5_digits) (cd := zc_X5_digits) (cut := zk_X5_digits) (by decide +kernel) rfl rfl rfl (z_fl_all zfl_X5_ok) (z_cs_all zcs_X5_ok) zo_X5_digits z_nothr (z_hcal (L := zl_X5_digits) zv_X5_digits (List.forall_mem_cons.mpr ⟨z_calV (l := l) (j := 125) (C := RX5) (cn := 3) (T := TX5) (N := 47) (zt_X5_fine l) (by decide +kernel) (by decide +kernel) rfl ⟨by decide +kernel, by decide +kernel, by decide +kernel⟩ (z_room (by omega) (by decide)) rfl zr_X5_fine, List.forall_mem_cons.mpr ⟨z_calS (l := l) (j := 133) (zt_X5_isDigit l) (by decide +kernel) (by decide +kernel) ⟨by decide +kernel, by decide +kernel, by decide +kernel⟩ (z_room (by omega) (by decide)), List.forall_mem_cons.mpr ⟨z_calV (l := l) (j := 129) (C := RX5) (cn := 3) (T := TX5) (N := 47) (zt_X5_wrong l) (by decide +kernel) (by decide +kernel) rfl ⟨by decide +kernel, by decide +kernel, by decide +kernel⟩ (z_room (by omega) (by decide)) rfl zr_X5_wrong, List.forall_mem_cons.mpr ⟨z_calV (l := l) (j := 136) (C := RX5) (cn := 3) (T := TX5) (N := 47) (zt_X5_emit l) (by decide +kernel) (by decide +kernel) rfl ⟨by decide +kernel, by decide +kernel, by decide +kernel⟩ (z_room (by omega) (by decide)) rfl zr_X5_emit, fun _ h => nomatch h⟩⟩⟩⟩)) (by decide)
theorem zr_X5_digits : ∀ vs g r, zF_X5_digits vs g = some r → ∃ i rv, vs = .inr (.inl (3, i, 0)) :: rv ∧ i < z_ni 3 := fun vs g r h => z_chk_rec (z_fn_chk (sh := zs_X5_digits) h).1 (Or.inl ⟨rfl, by decide⟩)
end
section
def zc_X5_simple : zCD := [(0, .aload_n 0, 1, 0), (1, .invokevirtual 114, 4, 0), (4, .istore_n 1, 5, 0), (5, .iload_n 1, 6, 0), (6, .invokestatic 133, 9, 0), (9, .ifCond .eq 8, 12, 17), (12, .aload_n 0, 13, 0), (13, .invokevirtual 140, 16, 0), (16, .return_, 17, 0), (17, .aload_n 0, 18, 0), (18, .invokevirtual 143, 21, 0), (21, .lstore_n 2, 22, 0), (22, .iload_n 1, 23, 0), (23, .bipush 40, 25, 0), (25, .if_icmp .eq 19, 28, 44), (28, .lload_n 2, 29, 0), (29, .ldc2_w 147, 32, 0), (32, .lcmp, 33, 0), (33, .ifCond .eq 11, 36, 44), (36, .lload_n 2, 37, 0), (37, .ldc2_w 149, 40, 0), (40, .lcmp, 41, 0), (41, .ifCond .ne 104, 44, 145), (44, .aload_n 0, 45, 0), (45, .getfield 151, 48, 0), (48, .bipush 12, 50, 0), (50, .if_icmp .ne 12, 53, 62), (53, .aload_n 0, 54, 0), (54, .aload_n 0, 55, 0), (55, .getfield 108, 58, 0), (58, .invokevirtual 129, 61, 0), (61, .return_, 62, 0), (62, .aload_n 0, 63, 0), (63, .dup, 64, 0), (64, .getfield 151, 67, 0), (67, .iconst 1, 68, 0), (68, .iadd, 69, 0), (69, .putfield 151, 72, 0), (72, .iload_n 1, 73, 0), (73, .bipush 40, 75, 0), (75, .if_icmp .ne 26, 78, 101), (78, .aload_n 0, 79, 0), (79, .dup, 80, 0), (80, .getfield 108, 83, 0), (83, .iconst 1, 84, 0), (84, .iadd, 85, 0), (85, .putfield 108, 88, 0), (88, .aload_n 0, 89, 0), (89, .invokevirtual 154, 92, 0), (92, .aload_n 0, 93, 0), (93, .bipush 41, 95, 0), (95, .invokevirtual 157, 98, 0), (98, .goto 36, 101, 134), (101, .aload_n 0, 102, 0), (102, .invokevirtual 160, 105, 0), (105, .aload_n 0, 106, 0), (106, .invokevirtual 163, 109, 0), (109, .aload_n 0, 110, 0), (110, .invokevirtual 125, 113, 0), (113, .ifCond .eq 21, 116, 134), (116, .aload_n 0, 117, 0), (117, .lload_n 2, 118, 0), (118, .ldc2_w 147, 121, 0), (121, .lcmp, 122, 0), (122, .ifCond .ne 7, 125, 129), (125, .iconst 4, 126, 0), (126, .goto 4, 129, 130), (129, .iconst 5, 130, 0), (130, .iconst 0, 131, 0), (131, .invokevirtual 136, 134, 0), (134, .aload_n 0, 135, 0), (135, .dup, 136, 0), (136, .getfield 151, 139, 0), (139, .iconst 1, 140, 0), (140, .isub, 141, 0), (141, .putfield 151, 144, 0), (144, .return_, 145, 0), (145, .lload_n 2, 146, 0), (146, .lconst 1, 147, 0), (147, .lcmp, 148, 0), (148, .ifCond .eq 28, 151, 176), (151, .lload_n 2, 152, 0), (152, .ldc2_w 166, 155, 0), (155, .lcmp, 156, 0), (156, .ifCond .eq 20, 159, 176), (159, .lload_n 2, 160, 0), (160, .ldc2_w 168, 163, 0), (163, .lcmp, 164, 0), (164, .ifCond .eq 12, 167, 176), (167, .aload_n 0, 168, 0), (168, .aload_n 0, 169, 0), (169, .getfield 108, 172, 0), (172, .invokevirtual 129, 175, 0), (175, .return_, 176, 0), (176, .aload_n 0, 177, 0), (177, .invokevirtual 160, 180, 0), (180, .aload_n 0, 181, 0), (181, .lload_n 2, 182, 0), (182, .lconst 1, 183, 0), (183, .lcmp, 184, 0), (184, .ifCond .ne 7, 187, 191), (187, .iconst 1, 188, 0), (188, .goto 16, 191, 204), (191, .lload_n 2, 192, 0), (192, .ldc2_w 166, 195, 0), (195, .lcmp, 196, 0), (196, .ifCond .ne 7, 199, 203), (199, .iconst 2, 200, 0), (200, .goto 4, 203, 204), (203, .iconst 3, 204, 0), (204, .iconst 0, 205, 0), (205, .invokevirtual 136, 208, 0), (208, .return_, 209, 0)]
def zk_X5_simple : List (Nat × List Nat) := []
def zl_X5_simple (P : Nat → List zVV → zSG → Option zRR) : List (Nat × zCI) := [(114, (zF_X5_here, 1, 1, 0, 0)), (133, (zF_X5_isDigit, 1, 1, 0, 0)), (140, (zF_X5_digits, 1, 0, 0, 0)), (143, (zF_X5_word, 1, 2, 0, 0)), (129, (zF_X5_wrong, 2, 0, 0, 0)), (154, ((P 2), 1, 0, 0, 0)), (157, (zF_X5_need, 2, 0, 0, 0)), (160, (zF_X5_pass, 1, 0, 0, 0)), (163, ((P 0), 1, 0, 0, 0)), (125, (zF_X5_fine, 1, 1, 0, 0)), (136, (zF_X5_emit, 3, 0, 0, 0))]
def zM_X5_simple (P : Nat → List zVV → zSG → Option zRR) : zMI := (z_look zfl_X5, z_look (zl_X5_simple P), z_look zcs_X5, z_look zth_X5, 4, 0)
def zs_X5_simple : List (Nat × Nat × Nat × Nat) := [(2, 3, 0, 0)]
theorem zo_X5_simple : z_okc cX5_simple zc_X5_simple = true := by decide +kernel
theorem zv_X5_simple : z_kd [114, 140, 143, 129, 154, 157, 160, 163, 125, 136] zc_X5_simple = true := by decide +kernel
def zc_X5_row : zCD := [(0, .aload_n 0, 1, 0), (1, .invokevirtual 163, 4, 0), (4, .aload_n 0, 5, 0), (5, .invokevirtual 125, 8, 0), (8, .ifCond .eq 88, 11, 96), (11, .aload_n 0, 12, 0), (12, .invokevirtual 114, 15, 0), (15, .bipush 43, 17, 0), (17, .if_icmp .eq 21, 20, 38), (20, .aload_n 0, 21, 0), (21, .invokevirtual 114, 24, 0), (24, .bipush 45, 26, 0), (26, .if_icmp .eq 12, 29, 38), (29, .aload_n 0, 30, 0), (30, .invokevirtual 114, 33, 0), (33, .bipush 42, 35, 0), (35, .if_icmp .ne 61, 38, 96), (38, .aload_n 0, 39, 0), (39, .invokevirtual 114, 42, 0), (42, .istore_n 1, 43, 0), (43, .aload_n 0, 44, 0), (44, .dup, 45, 0), (45, .getfield 108, 48, 0), (48, .iconst 1, 49, 0), (49, .iadd, 50, 0), (50, .putfield 108, 53, 0), (53, .aload_n 0, 54, 0), (54, .invokevirtual 163, 57, 0), (57, .aload_n 0, 58, 0), (58, .invokevirtual 125, 61, 0), (61, .ifCond .eq 32, 64, 93), (64, .aload_n 0, 65, 0), (65, .iload_n 1, 66, 0), (66, .bipush 43, 68, 0), (68, .if_icmp .ne 8, 71, 76), (71, .bipush 6, 73, 0), (73, .goto 16, 76, 89), (76, .iload_n 1, 77, 0), (77, .bipush 45, 79, 0), (79, .if_icmp .ne 8, 82, 87), (82, .bipush 7, 84, 0), (84, .goto 5, 87, 89), (87, .bipush 8, 89, 0), (89, .iconst 0, 90, 0), (90, .invokevirtual 136, 93, 0), (93, .goto (-89), 96, 4), (96, .return_, 97, 0)]
def zk_X5_row : List (Nat × List Nat) := [(4, [0])]
def zl_X5_row (P : Nat → List zVV → zSG → Option zRR) : List (Nat × zCI) := [(163, ((P 0), 1, 0, 0, 0)), (125, (zF_X5_fine, 1, 1, 0, 0)), (114, (zF_X5_here, 1, 1, 0, 0)), (136, (zF_X5_emit, 3, 0, 0, 0))]
def zM_X5_row (P : Nat → List zVV → zSG → Option zRR) : zMI := (z_look zfl_X5, z_look (zl_X5_row P), z_look zcs_X5, z_look zth_X5, 2, 0)
def zs_X5_row : List (Nat × Nat × Nat × Nat) := [(2, 3, 0, 0)]
theorem zo_X5_row : z_okc cX5_row zc_X5_row = true := by decide +kernel
theorem zv_X5_row : z_kd [163, 125, 114, 136] zc_X5_row = true := by decide +kernel
def zc_X5_whole : zCD := [(0, .aload_n 0, 1, 0), (1, .invokevirtual 170, 4, 0), (4, .aload_n 0, 5, 0), (5, .invokevirtual 125, 8, 0), (8, .ifCond .eq 10, 11, 18), (11, .aload_n 0, 12, 0), (12, .invokevirtual 114, 15, 0), (15, .goto 4, 18, 19), (18, .iconst 0, 19, 0), (19, .istore_n 1, 20, 0), (20, .iload_n 1, 21, 0), (21, .bipush 60, 23, 0), (23, .if_icmp .eq 10, 26, 33), (26, .iload_n 1, 27, 0), (27, .bipush 61, 29, 0), (29, .if_icmp .eq 4, 32, 33), (32, .return_, 33, 0), (33, .aload_n 0, 34, 0), (34, .dup, 35, 0), (35, .getfield 108, 38, 0), (38, .iconst 1, 39, 0), (39, .iadd, 40, 0), (40, .putfield 108, 43, 0), (43, .aload_n 0, 44, 0), (44, .invokevirtual 170, 47, 0), (47, .aload_n 0, 48, 0), (48, .invokevirtual 125, 51, 0), (51, .ifCond .eq 21, 54, 72), (54, .aload_n 0, 55, 0), (55, .iload_n 1, 56, 0), (56, .bipush 60, 58, 0), (58, .if_icmp .ne 8, 61, 66), (61, .bipush 9, 63, 0), (63, .goto 5, 66, 68), (66, .bipush 10, 68, 0), (68, .iconst 0, 69, 0), (69, .invokevirtual 136, 72, 0), (72, .return_, 73, 0)]
def zk_X5_whole : List (Nat × List Nat) := []
def zl_X5_whole (P : Nat → List zVV → zSG → Option zRR) : List (Nat × zCI) := [(170, ((P 1), 1, 0, 0, 0)), (125, (zF_X5_fine, 1, 1, 0, 0)), (114, (zF_X5_here, 1, 1, 0, 0)), (136, (zF_X5_emit, 3, 0, 0, 0))]
def zM_X5_whole (P : Nat → List zVV → zSG → Option zRR) : zMI := (z_look zfl_X5, z_look (zl_X5_whole P), z_look zcs_X5, z_look zth_X5, 2, 0)
def zs_X5_whole : List (Nat × Nat × Nat × Nat) := [(2, 3, 0, 0)]
theorem zo_X5_whole : z_okc cX5_whole zc_X5_whole = true := by decide +kernel
theorem zv_X5_whole : z_kd [170, 125, 114, 136] zc_X5_whole = true := by decide +kernel
def zP5 : Nat → Nat → List zVV → zSG → Option zRR
  | 0, _, _, _ => none
  | d + 1, w, vs, g => match w with
    | 0 => z_fn zs_X5_simple (zM_X5_simple (fun w vs g => zP5 d w vs g)) zc_X5_simple zk_X5_simple (0, 0) vs g
    | 1 => z_fn zs_X5_row (zM_X5_row (fun w vs g => zP5 d w vs g)) zc_X5_row zk_X5_row (0, 0) vs g
    | _ => z_fn zs_X5_whole (zM_X5_whole (fun w vs g => zP5 d w vs g)) zc_X5_whole zk_X5_whole (0, 0) vs g
theorem zP5_0 (d : Nat) : zP5 (d + 1) 0 = z_fn zs_X5_simple (zM_X5_simple (zP5 d)) zc_X5_simple zk_X5_simple (0, 0) := rfl
theorem zP5_1 (d : Nat) : zP5 (d + 1) 1 = z_fn zs_X5_row (zM_X5_row (zP5 d)) zc_X5_row zk_X5_row (0, 0) := rfl
theorem zP5_2 (d : Nat) : zP5 (d + 1) 2 = z_fn zs_X5_whole (zM_X5_whole (zP5 d)) zc_X5_whole zk_X5_whole (0, 0) := rfl
theorem zr_X5_simple : ∀ d vs g r, zP5 d 0 vs g = some r → ∃ i rv, vs = .inr (.inl (3, i, 0)) :: rv ∧ i < z_ni 3 := by
  intro d vs g r h
  cases d with
  | zero => cases h
  | succ d => rw [zP5_0] at h; exact z_chk_rec (z_fn_chk (sh := zs_X5_simple) h).1 (Or.inl ⟨rfl, by decide⟩)
theorem zr_X5_row : ∀ d vs g r, zP5 d 1 vs g = some r → ∃ i rv, vs = .inr (.inl (3, i, 0)) :: rv ∧ i < z_ni 3 := by
  intro d vs g r h
  cases d with
  | zero => cases h
  | succ d => rw [zP5_1] at h; exact z_chk_rec (z_fn_chk (sh := zs_X5_row) h).1 (Or.inl ⟨rfl, by decide⟩)
theorem zr_X5_whole : ∀ d vs g r, zP5 d 2 vs g = some r → ∃ i rv, vs = .inr (.inl (3, i, 0)) :: rv ∧ i < z_ni 3 := by
  intro d vs g r h
  cases d with
  | zero => cases h
  | succ d => rw [zP5_2] at h; exact z_chk_rec (z_fn_chk (sh := zs_X5_whole) h).1 (Or.inl ⟨rfl, by decide⟩)
set_option maxRecDepth 20000 in
theorem zt_zP5 (l : Launch) : ∀ d : Nat, zCt l yX5_simple cX5_simple 4 none (zrm (4 + d) 0 0) (zP5 d 0) ∧ zCt l yX5_row cX5_row 2 none (zrm (4 + d) 0 0) (zP5 d 1) ∧ zCt l yX5_whole cX5_whole 2 none (zrm (4 + d) 0 0) (zP5 d 2) := by
  intro d
  induction d with
  | zero => exact ⟨z_none (fun _ _ => rfl), z_none (fun _ _ => rfl), z_none (fun _ _ => rfl)⟩
  | succ d ih =>
    obtain ⟨ih0, ih1, ih2⟩ := ih
    refine ⟨?_, ?_, ?_⟩
    · rw [zP5_0]
      exact z_ct (own := RX5) (sh := zs_X5_simple) (M := zM_X5_simple (zP5 d)) (cd := zc_X5_simple) (cut := zk_X5_simple) (by decide +kernel) rfl rfl rfl (z_fl_all zfl_X5_ok) (z_cs_all zcs_X5_ok) zo_X5_simple z_nothr (z_hcal (L := zl_X5_simple (zP5 d)) zv_X5_simple (List.forall_mem_cons.mpr ⟨z_calV (l := l) (j := 114) (C := RX5) (cn := 3) (T := TX5) (N := 47) (zt_X5_here l) (by decide +kernel) (by decide +kernel) rfl ⟨by decide +kernel, by decide +kernel, by decide +kernel⟩ (z_room (by omega) (by decide)) rfl zr_X5_here, List.forall_mem_cons.mpr ⟨z_calS (l := l) (j := 133) (zt_X5_isDigit l) (by decide +kernel) (by decide +kernel) ⟨by decide +kernel, by decide +kernel, by decide +kernel⟩ (z_room (by omega) (by decide)), List.forall_mem_cons.mpr ⟨z_calV (l := l) (j := 140) (C := RX5) (cn := 3) (T := TX5) (N := 47) (zt_X5_digits l) (by decide +kernel) (by decide +kernel) rfl ⟨by decide +kernel, by decide +kernel, by decide +kernel⟩ (z_room (by omega) (by decide)) rfl zr_X5_digits, List.forall_mem_cons.mpr ⟨z_calV (l := l) (j := 143) (C := RX5) (cn := 3) (T := TX5) (N := 47) (zt_X5_word l) (by decide +kernel) (by decide +kernel) rfl ⟨by decide +kernel, by decide +kernel, by decide +kernel⟩ (z_room (by omega) (by decide)) rfl zr_X5_word, List.forall_mem_cons.mpr ⟨z_calV (l := l) (j := 129) (C := RX5) (cn := 3) (T := TX5) (N := 47) (zt_X5_wrong l) (by decide +kernel) (by decide +kernel) rfl ⟨by decide +kernel, by decide +kernel, by decide +kernel⟩ (z_room (by omega) (by decide)) rfl zr_X5_wrong, List.forall_mem_cons.mpr ⟨z_calV (l := l) (j := 154) (C := RX5) (cn := 3) (T := TX5) (N := 47) ih2 (by decide +kernel) (by decide +kernel) rfl ⟨by decide +kernel, by decide +kernel, by decide +kernel⟩ (z_room (by omega) (by decide)) rfl (zr_X5_whole d), List.forall_mem_cons.mpr ⟨z_calV (l := l) (j := 157) (C := RX5) (cn := 3) (T := TX5) (N := 47) (zt_X5_need l) (by decide +kernel) (by decide +kernel) rfl ⟨by decide +kernel, by decide +kernel, by decide +kernel⟩ (z_room (by omega) (by decide)) rfl zr_X5_need, List.forall_mem_cons.mpr ⟨z_calV (l := l) (j := 160) (C := RX5) (cn := 3) (T := TX5) (N := 47) (zt_X5_pass l) (by decide +kernel) (by decide +kernel) rfl ⟨by decide +kernel, by decide +kernel, by decide +kernel⟩ (z_room (by omega) (by decide)) rfl zr_X5_pass, List.forall_mem_cons.mpr ⟨z_calV (l := l) (j := 163) (C := RX5) (cn := 3) (T := TX5) (N := 47) ih0 (by decide +kernel) (by decide +kernel) rfl ⟨by decide +kernel, by decide +kernel, by decide +kernel⟩ (z_room (by omega) (by decide)) rfl (zr_X5_simple d), List.forall_mem_cons.mpr ⟨z_calV (l := l) (j := 125) (C := RX5) (cn := 3) (T := TX5) (N := 47) (zt_X5_fine l) (by decide +kernel) (by decide +kernel) rfl ⟨by decide +kernel, by decide +kernel, by decide +kernel⟩ (z_room (by omega) (by decide)) rfl zr_X5_fine, List.forall_mem_cons.mpr ⟨z_calV (l := l) (j := 136) (C := RX5) (cn := 3) (T := TX5) (N := 47) (zt_X5_emit l) (by decide +kernel) (by decide +kernel) rfl ⟨by decide +kernel, by decide +kernel, by decide +kernel⟩ (z_room (by omega) (by decide)) rfl zr_X5_emit, fun _ h => nomatch h⟩⟩⟩⟩⟩⟩⟩⟩⟩⟩⟩)) (by decide)
    · rw [zP5_1]
      exact z_ct (own := RX5) (sh := zs_X5_row) (M := zM_X5_row (zP5 d)) (cd := zc_X5_row) (cut := zk_X5_row) (by decide +kernel) rfl rfl rfl (z_fl_all zfl_X5_ok) (z_cs_all zcs_X5_ok) zo_X5_row z_nothr (z_hcal (L := zl_X5_row (zP5 d)) zv_X5_row (List.forall_mem_cons.mpr ⟨z_calV (l := l) (j := 163) (C := RX5) (cn := 3) (T := TX5) (N := 47) ih0 (by decide +kernel) (by decide +kernel) rfl ⟨by decide +kernel, by decide +kernel, by decide +kernel⟩ (z_room (by omega) (by decide)) rfl (zr_X5_simple d), List.forall_mem_cons.mpr ⟨z_calV (l := l) (j := 125) (C := RX5) (cn := 3) (T := TX5) (N := 47) (zt_X5_fine l) (by decide +kernel) (by decide +kernel) rfl ⟨by decide +kernel, by decide +kernel, by decide +kernel⟩ (z_room (by omega) (by decide)) rfl zr_X5_fine, List.forall_mem_cons.mpr ⟨z_calV (l := l) (j := 114) (C := RX5) (cn := 3) (T := TX5) (N := 47) (zt_X5_here l) (by decide +kernel) (by decide +kernel) rfl ⟨by decide +kernel, by decide +kernel, by decide +kernel⟩ (z_room (by omega) (by decide)) rfl zr_X5_here, List.forall_mem_cons.mpr ⟨z_calV (l := l) (j := 136) (C := RX5) (cn := 3) (T := TX5) (N := 47) (zt_X5_emit l) (by decide +kernel) (by decide +kernel) rfl ⟨by decide +kernel, by decide +kernel, by decide +kernel⟩ (z_room (by omega) (by decide)) rfl zr_X5_emit, fun _ h => nomatch h⟩⟩⟩⟩)) (by decide)
    · rw [zP5_2]
      exact z_ct (own := RX5) (sh := zs_X5_whole) (M := zM_X5_whole (zP5 d)) (cd := zc_X5_whole) (cut := zk_X5_whole) (by decide +kernel) rfl rfl rfl (z_fl_all zfl_X5_ok) (z_cs_all zcs_X5_ok) zo_X5_whole z_nothr (z_hcal (L := zl_X5_whole (zP5 d)) zv_X5_whole (List.forall_mem_cons.mpr ⟨z_calV (l := l) (j := 170) (C := RX5) (cn := 3) (T := TX5) (N := 47) ih1 (by decide +kernel) (by decide +kernel) rfl ⟨by decide +kernel, by decide +kernel, by decide +kernel⟩ (z_room (by omega) (by decide)) rfl (zr_X5_row d), List.forall_mem_cons.mpr ⟨z_calV (l := l) (j := 125) (C := RX5) (cn := 3) (T := TX5) (N := 47) (zt_X5_fine l) (by decide +kernel) (by decide +kernel) rfl ⟨by decide +kernel, by decide +kernel, by decide +kernel⟩ (z_room (by omega) (by decide)) rfl zr_X5_fine, List.forall_mem_cons.mpr ⟨z_calV (l := l) (j := 114) (C := RX5) (cn := 3) (T := TX5) (N := 47) (zt_X5_here l) (by decide +kernel) (by decide +kernel) rfl ⟨by decide +kernel, by decide +kernel, by decide +kernel⟩ (z_room (by omega) (by decide)) rfl zr_X5_here, List.forall_mem_cons.mpr ⟨z_calV (l := l) (j := 136) (C := RX5) (cn := 3) (T := TX5) (N := 47) (zt_X5_emit l) (by decide +kernel) (by decide +kernel) rfl ⟨by decide +kernel, by decide +kernel, by decide +kernel⟩ (z_room (by omega) (by decide)) rfl zr_X5_emit, fun _ h => nomatch h⟩⟩⟩⟩)) (by decide)
def zc_X5_statement : zCD := [(0, .aload_n 0, 1, 0), (1, .invokevirtual 143, 4, 0), (4, .lstore_n 1, 5, 0), (5, .lload_n 1, 6, 0), (6, .ldc2_w 173, 9, 0), (9, .lcmp, 10, 0), (10, .ifCond .eq 19, 13, 29), (13, .lload_n 1, 14, 0), (14, .ldc2_w 175, 17, 0), (17, .lcmp, 18, 0), (18, .ifCond .eq 11, 21, 29), (21, .lload_n 1, 22, 0), (22, .ldc2_w 177, 25, 0), (25, .lcmp, 26, 0), (26, .ifCond .ne 7, 29, 33), (29, .iconst 1, 30, 0), (30, .goto 4, 33, 34), (33, .iconst 0, 34, 0), (34, .istore_n 3, 35, 0), (35, .iload_n 3, 36, 0), (36, .ifCond .eq 29, 39, 65), (39, .aload_n 0, 40, 0), (40, .getfield 179, 43, 0), (43, .bipush 30, 45, 0), (45, .if_icmp .eq 20, 48, 65), (48, .lload_n 1, 49, 0), (49, .ldc2_w 177, 52, 0), (52, .lcmp, 53, 0), (53, .ifCond .ne 21, 56, 74), (56, .aload_n 0, 57, 0), (57, .getfield 182, 60, 0), (60, .bipush 6, 62, 0), (62, .if_icmp .ne 12, 65, 74), (65, .aload_n 0, 66, 0), (66, .aload_n 0, 67, 0), (67, .getfield 108, 70, 0), (70, .invokevirtual 129, 73, 0), (73, .return_, 74, 0), (74, .aload_n 0, 75, 0), (75, .invokevirtual 160, 78, 0), (78, .aload_n 0, 79, 0), (79, .bipush 14, 81, 0), (81, .aload_n 0, 82, 0), (82, .getfield 179, 85, 0), (85, .invokevirtual 136, 88, 0), (88, .aload_n 0, 89, 0), (89, .dup, 90, 0), (90, .getfield 179, 93, 0), (93, .iconst 1, 94, 0), (94, .iadd, 95, 0), (95, .putfield 179, 98, 0), (98, .lload_n 1, 99, 0), (99, .ldc2_w 177, 102, 0), (102, .lcmp, 103, 0), (103, .ifCond .ne 101, 106, 204), (106, .aload_n 0, 107, 0), (107, .dup, 108, 0), (108, .getfield 182, 111, 0), (111, .iconst 1, 112, 0), (112, .iadd, 113, 0), (113, .putfield 182, 116, 0), (116, .aload_n 0, 117, 0), (117, .invokevirtual 154, 120, 0), (120, .aload_n 0, 121, 0), (121, .bipush 40, 123, 0), (123, .invokevirtual 157, 126, 0), (126, .aload_n 0, 127, 0), (127, .getfield 122, 130, 0), (130, .istore 4, 132, 0), (132, .aload_n 0, 133, 0), (133, .invokevirtual 125, 136, 0), (136, .ifCond .eq 10, 139, 146), (139, .aload_n 0, 140, 0), (140, .bipush 13, 142, 0), (142, .iconst 0, 143, 0), (143, .invokevirtual 136, 146, 0), (146, .aload_n 0, 147, 0), (147, .invokevirtual 125, 150, 0), (150, .ifCond .eq 19, 153, 169), (153, .aload_n 0, 154, 0), (154, .invokevirtual 114, 157, 0), (157, .bipush 41, 159, 0), (159, .if_icmp .eq 10, 162, 169), (162, .aload_n 0, 163, 0), (163, .invokevirtual 185, 166, 0), (166, .goto (-20), 169, 146), (169, .aload_n 0, 170, 0), (170, .bipush 41, 172, 0), (172, .invokevirtual 157, 175, 0), (175, .aload_n 0, 176, 0), (176, .invokevirtual 125, 179, 0), (179, .ifCond .eq 14, 182, 193), (182, .aload_n 0, 183, 0), (183, .getfield 20, 186, 0), (186, .iload 4, 188, 0), (188, .aload_n 0, 189, 0), (189, .getfield 122, 192, 0), (192, .iastore, 193, 0), (193, .aload_n 0, 194, 0), (194, .dup, 195, 0), (195, .getfield 182, 198, 0), (198, .iconst 1, 199, 0), (199, .isub, 200, 0), (200, .putfield 182, 203, 0), (203, .return_, 204, 0), (204, .lload_n 1, 205, 0), (205, .ldc2_w 173, 208, 0), (208, .lcmp, 209, 0), (209, .ifCond .ne 35, 212, 244), (212, .aload_n 0, 213, 0), (213, .invokevirtual 170, 216, 0), (216, .aload_n 0, 217, 0), (217, .invokevirtual 125, 220, 0), (220, .ifCond .eq 7, 223, 227), (223, .aload_n 0, 224, 0), (224, .invokevirtual 170, 227, 0), (227, .aload_n 0, 228, 0), (228, .invokevirtual 125, 231, 0), (231, .ifCond .eq 31, 234, 262), (234, .aload_n 0, 235, 0), (235, .bipush 11, 237, 0), (237, .iconst 0, 238, 0), (238, .invokevirtual 136, 241, 0), (241, .goto 21, 244, 262), (244, .aload_n 0, 245, 0), (245, .invokevirtual 154, 248, 0), (248, .aload_n 0, 249, 0), (249, .invokevirtual 125, 252, 0), (252, .ifCond .eq 10, 255, 262), (255, .aload_n 0, 256, 0), (256, .bipush 12, 258, 0), (258, .iconst 0, 259, 0), (259, .invokevirtual 136, 262, 0), (262, .aload_n 0, 263, 0), (263, .bipush 59, 265, 0), (265, .invokevirtual 157, 268, 0), (268, .return_, 269, 0)]
def zk_X5_statement : List (Nat × List Nat) := [(146, [0, 4])]
def zl_X5_statement (P : Nat → List zVV → zSG → Option zRR) : List (Nat × zCI) := [(143, (zF_X5_word, 1, 2, 0, 0)), (129, (zF_X5_wrong, 2, 0, 0, 0)), (160, (zF_X5_pass, 1, 0, 0, 0)), (136, (zF_X5_emit, 3, 0, 0, 0)), (154, ((zP5 40 2), 1, 0, 0, 0)), (157, (zF_X5_need, 2, 0, 0, 0)), (125, (zF_X5_fine, 1, 1, 0, 0)), (114, (zF_X5_here, 1, 1, 0, 0)), (185, ((P 0), 1, 0, 0, 0)), (170, ((zP5 40 1), 1, 0, 0, 0))]
def zM_X5_statement (P : Nat → List zVV → zSG → Option zRR) : zMI := (z_look zfl_X5, z_look (zl_X5_statement P), z_look zcs_X5, z_look zth_X5, 5, 0)
def zs_X5_statement : List (Nat × Nat × Nat × Nat) := [(2, 3, 0, 0)]
theorem zo_X5_statement : z_okc cX5_statement zc_X5_statement = true := by decide +kernel
theorem zv_X5_statement : z_kd [143, 129, 160, 136, 154, 157, 125, 114, 185, 170] zc_X5_statement = true := by decide +kernel
def zS5 : Nat → Nat → List zVV → zSG → Option zRR
  | 0, _, _, _ => none
  | d + 1, w, vs, g => match w with
    | _ => z_fn zs_X5_statement (zM_X5_statement (fun w vs g => zS5 d w vs g)) zc_X5_statement zk_X5_statement (0, 0) vs g
theorem zS5_0 (d : Nat) : zS5 (d + 1) 0 = z_fn zs_X5_statement (zM_X5_statement (zS5 d)) zc_X5_statement zk_X5_statement (0, 0) := rfl
theorem zr_X5_statement : ∀ d vs g r, zS5 d 0 vs g = some r → ∃ i rv, vs = .inr (.inl (3, i, 0)) :: rv ∧ i < z_ni 3 := by
  intro d vs g r h
  cases d with
  | zero => cases h
  | succ d => rw [zS5_0] at h; exact z_chk_rec (z_fn_chk (sh := zs_X5_statement) h).1 (Or.inl ⟨rfl, by decide⟩)
set_option maxRecDepth 20000 in
theorem zt_zS5 (l : Launch) : ∀ d : Nat, zCt l yX5_statement cX5_statement 5 none (zrm (46 + d) 0 0) (zS5 d 0) := by
  intro d
  induction d with
  | zero => exact z_none (fun _ _ => rfl)
  | succ d ih =>
    have ih0 := ih
    rw [zS5_0]
    exact z_ct (own := RX5) (sh := zs_X5_statement) (M := zM_X5_statement (zS5 d)) (cd := zc_X5_statement) (cut := zk_X5_statement) (by decide +kernel) rfl rfl rfl (z_fl_all zfl_X5_ok) (z_cs_all zcs_X5_ok) zo_X5_statement z_nothr (z_hcal (L := zl_X5_statement (zS5 d)) zv_X5_statement (List.forall_mem_cons.mpr ⟨z_calV (l := l) (j := 143) (C := RX5) (cn := 3) (T := TX5) (N := 47) (zt_X5_word l) (by decide +kernel) (by decide +kernel) rfl ⟨by decide +kernel, by decide +kernel, by decide +kernel⟩ (z_room (by omega) (by decide)) rfl zr_X5_word, List.forall_mem_cons.mpr ⟨z_calV (l := l) (j := 129) (C := RX5) (cn := 3) (T := TX5) (N := 47) (zt_X5_wrong l) (by decide +kernel) (by decide +kernel) rfl ⟨by decide +kernel, by decide +kernel, by decide +kernel⟩ (z_room (by omega) (by decide)) rfl zr_X5_wrong, List.forall_mem_cons.mpr ⟨z_calV (l := l) (j := 160) (C := RX5) (cn := 3) (T := TX5) (N := 47) (zt_X5_pass l) (by decide +kernel) (by decide +kernel) rfl ⟨by decide +kernel, by decide +kernel, by decide +kernel⟩ (z_room (by omega) (by decide)) rfl zr_X5_pass, List.forall_mem_cons.mpr ⟨z_calV (l := l) (j := 136) (C := RX5) (cn := 3) (T := TX5) (N := 47) (zt_X5_emit l) (by decide +kernel) (by decide +kernel) rfl ⟨by decide +kernel, by decide +kernel, by decide +kernel⟩ (z_room (by omega) (by decide)) rfl zr_X5_emit, List.forall_mem_cons.mpr ⟨z_calV (l := l) (j := 154) (C := RX5) (cn := 3) (T := TX5) (N := 47) (zt_zP5 l 40).2.2 (by decide +kernel) (by decide +kernel) rfl ⟨by decide +kernel, by decide +kernel, by decide +kernel⟩ (z_room (by omega) (by decide)) rfl (zr_X5_whole 40), List.forall_mem_cons.mpr ⟨z_calV (l := l) (j := 157) (C := RX5) (cn := 3) (T := TX5) (N := 47) (zt_X5_need l) (by decide +kernel) (by decide +kernel) rfl ⟨by decide +kernel, by decide +kernel, by decide +kernel⟩ (z_room (by omega) (by decide)) rfl zr_X5_need, List.forall_mem_cons.mpr ⟨z_calV (l := l) (j := 125) (C := RX5) (cn := 3) (T := TX5) (N := 47) (zt_X5_fine l) (by decide +kernel) (by decide +kernel) rfl ⟨by decide +kernel, by decide +kernel, by decide +kernel⟩ (z_room (by omega) (by decide)) rfl zr_X5_fine, List.forall_mem_cons.mpr ⟨z_calV (l := l) (j := 114) (C := RX5) (cn := 3) (T := TX5) (N := 47) (zt_X5_here l) (by decide +kernel) (by decide +kernel) rfl ⟨by decide +kernel, by decide +kernel, by decide +kernel⟩ (z_room (by omega) (by decide)) rfl zr_X5_here, List.forall_mem_cons.mpr ⟨z_calV (l := l) (j := 185) (C := RX5) (cn := 3) (T := TX5) (N := 47) ih0 (by decide +kernel) (by decide +kernel) rfl ⟨by decide +kernel, by decide +kernel, by decide +kernel⟩ (z_room (by omega) (by decide)) rfl (zr_X5_statement d), List.forall_mem_cons.mpr ⟨z_calV (l := l) (j := 170) (C := RX5) (cn := 3) (T := TX5) (N := 47) (zt_zP5 l 40).2.1 (by decide +kernel) (by decide +kernel) rfl ⟨by decide +kernel, by decide +kernel, by decide +kernel⟩ (z_room (by omega) (by decide)) rfl (zr_X5_row 40), fun _ h => nomatch h⟩⟩⟩⟩⟩⟩⟩⟩⟩⟩)) (by decide)
def zc_X5_text : zCD := [(0, .aload_n 0, 1, 0), (1, .iconst 0, 2, 0), (2, .putfield 1, 5, 0), (5, .aload_n 0, 6, 0), (6, .iload_n 1, 7, 0), (7, .iconst 0, 8, 0), (8, .iconst 1, 9, 0), (9, .invokestatic 188, 12, 0), (12, .ifCond .eq 28, 15, 40), (15, .iload_n 2, 16, 0), (16, .iconst 0, 17, 0), (17, .iconst 3, 18, 0), (18, .invokestatic 188, 21, 0), (21, .ifCond .eq 19, 24, 40), (24, .iload_n 3, 25, 0), (25, .ifCond .lt 15, 28, 40), (28, .iload_n 3, 29, 0), (29, .aload_n 0, 30, 0), (30, .getfield 102, 33, 0), (33, .if_icmp .gt 7, 36, 40), (36, .iconst 1, 37, 0), (37, .goto 4, 40, 41), (40, .iconst 0, 41, 0), (41, .iconst 1, 42, 0), (42, .invokevirtual 192, 45, 0), (45, .ifCond .ne 5, 48, 50), (48, .iconst 0, 49, 0), (49, .ireturn, 50, 0), (50, .aload_n 0, 51, 0), (51, .iconst 0, 52, 0), (52, .putfield 102, 55, 0), (55, .aload_n 0, 56, 0), (56, .iload_n 3, 57, 0), (57, .putfield 111, 60, 0), (60, .aload_n 0, 61, 0), (61, .iconst 0, 62, 0), (62, .putfield 108, 65, 0), (65, .aload_n 0, 66, 0), (66, .iconst (-1), 67, 0), (67, .putfield 105, 70, 0), (70, .aload_n 0, 71, 0), (71, .iconst 0, 72, 0), (72, .putfield 122, 75, 0), (75, .aload_n 0, 76, 0), (76, .iconst 0, 77, 0), (77, .putfield 179, 80, 0), (80, .aload_n 0, 81, 0), (81, .iconst 0, 82, 0), (82, .putfield 182, 85, 0), (85, .aload_n 0, 86, 0), (86, .iconst 0, 87, 0), (87, .putfield 151, 90, 0), (90, .aload_n 0, 91, 0), (91, .invokevirtual 114, 94, 0), (94, .pop, 95, 0), (95, .aload_n 0, 96, 0), (96, .invokevirtual 125, 99, 0), (99, .ifCond .eq 33, 102, 132), (102, .aload_n 0, 103, 0), (103, .getfield 108, 106, 0), (106, .aload_n 0, 107, 0), (107, .getfield 111, 110, 0), (110, .if_icmp .ge 22, 113, 132), (113, .aload_n 0, 114, 0), (114, .invokevirtual 185, 117, 0), (117, .aload_n 0, 118, 0), (118, .invokevirtual 125, 121, 0), (121, .ifCond .eq (-26), 124, 95), (124, .aload_n 0, 125, 0), (125, .invokevirtual 114, 128, 0), (128, .pop, 129, 0), (129, .goto (-34), 132, 95), (132, .aload_n 0, 133, 0), (133, .invokevirtual 125, 136, 0), (136, .ifCond .ne 11, 139, 147), (139, .bipush (-2), 141, 0), (141, .aload_n 0, 142, 0), (142, .getfield 105, 145, 0), (145, .isub, 146, 0), (146, .ireturn, 147, 0), (147, .iconst 4, 148, 0), (148, .iload_n 1, 149, 0), (149, .imul, 150, 0), (150, .iload_n 2, 151, 0), (151, .iadd, 152, 0), (152, .istore 4, 154, 0), (154, .iconst 0, 155, 0), (155, .istore 5, 157, 0), (157, .iload 5, 159, 0), (159, .aload_n 0, 160, 0), (160, .getfield 122, 163, 0), (163, .if_icmp .ge 51, 166, 214), (166, .aload_n 0, 167, 0), (167, .getfield 23, 170, 0), (170, .sipush 500, 173, 0), (173, .iload 4, 175, 0), (175, .imul, 176, 0), (176, .iload 5, 178, 0), (178, .iadd, 179, 0), (179, .aload_n 0, 180, 0), (180, .getfield 17, 183, 0), (183, .iload 5, 185, 0), (185, .iaload, 186, 0), (186, .iastore, 187, 0), (187, .aload_n 0, 188, 0), (188, .getfield 26, 191, 0), (191, .sipush 500, 194, 0), (194, .iload 4, 196, 0), (196, .imul, 197, 0), (197, .iload 5, 199, 0), (199, .iadd, 200, 0), (200, .aload_n 0, 201, 0), (201, .getfield 20, 204, 0), (204, .iload 5, 206, 0), (206, .iaload, 207, 0), (207, .iastore, 208, 0), (208, .iinc 5 1, 211, 0), (211, .goto (-54), 214, 157), (214, .aload_n 0, 215, 0), (215, .getfield 29, 218, 0), (218, .iload 4, 220, 0), (220, .aload_n 0, 221, 0), (221, .getfield 122, 224, 0), (224, .iastore, 225, 0), (225, .aload_n 0, 226, 0), (226, .getfield 32, 229, 0), (229, .iload 4, 231, 0), (231, .aload_n 0, 232, 0), (232, .getfield 179, 235, 0), (235, .iastore, 236, 0), (236, .aload_n 0, 237, 0), (237, .getfield 179, 240, 0), (240, .ireturn, 241, 0)]
def zk_X5_text : List (Nat × List Nat) := [(95, [0, 1, 2]), (157, [0, 4, 5])]
def zl_X5_text : List (Nat × zCI) := [(188, (zF_X5_within, 3, 1, 0, 0)), (192, (zF_X5_may, 3, 1, 0, 0)), (114, (zF_X5_here, 1, 1, 0, 0)), (125, (zF_X5_fine, 1, 1, 0, 0)), (185, ((zS5 8 0), 1, 0, 0, 0))]
def zM_X5_text : zMI := (z_look zfl_X5, z_look zl_X5_text, z_look zcs_X5, z_look zth_X5, 6, 1)
def zs_X5_text : List (Nat × Nat × Nat × Nat) := [(2, 3, 0, 0), (0, 0, 0, 0), (0, 0, 0, 0), (0, 0, 0, 0)]
def zF_X5_text : List zVV → zSG → Option zRR := z_fn zs_X5_text zM_X5_text zc_X5_text zk_X5_text (0, 0)
theorem zo_X5_text : z_okc cX5_text zc_X5_text = true := by decide +kernel
theorem zv_X5_text : z_kd [192, 114, 125, 185] zc_X5_text = true := by decide +kernel
set_option maxRecDepth 20000 in
theorem zt_X5_text (l : Launch) : zCt l yX5_text cX5_text 6 (some .int) (zrm 55 0 0) zF_X5_text := z_ct (own := RX5) (sh := zs_X5_text) (M := zM_X5_text) (cd := zc_X5_text) (cut := zk_X5_text) (by decide +kernel) rfl rfl rfl (z_fl_all zfl_X5_ok) (z_cs_all zcs_X5_ok) zo_X5_text z_nothr (z_hcal (L := zl_X5_text) zv_X5_text (List.forall_mem_cons.mpr ⟨z_calS (l := l) (j := 188) (zt_X5_within l) (by decide +kernel) (by decide +kernel) ⟨by decide +kernel, by decide +kernel, by decide +kernel⟩ (z_room (by omega) (by decide)), List.forall_mem_cons.mpr ⟨z_calV (l := l) (j := 192) (C := RX5) (cn := 3) (T := TX5) (N := 47) (zt_X5_may l) (by decide +kernel) (by decide +kernel) rfl ⟨by decide +kernel, by decide +kernel, by decide +kernel⟩ (z_room (by omega) (by decide)) rfl zr_X5_may, List.forall_mem_cons.mpr ⟨z_calV (l := l) (j := 114) (C := RX5) (cn := 3) (T := TX5) (N := 47) (zt_X5_here l) (by decide +kernel) (by decide +kernel) rfl ⟨by decide +kernel, by decide +kernel, by decide +kernel⟩ (z_room (by omega) (by decide)) rfl zr_X5_here, List.forall_mem_cons.mpr ⟨z_calV (l := l) (j := 125) (C := RX5) (cn := 3) (T := TX5) (N := 47) (zt_X5_fine l) (by decide +kernel) (by decide +kernel) rfl ⟨by decide +kernel, by decide +kernel, by decide +kernel⟩ (z_room (by omega) (by decide)) rfl zr_X5_fine, List.forall_mem_cons.mpr ⟨z_calV (l := l) (j := 185) (C := RX5) (cn := 3) (T := TX5) (N := 47) (zt_zS5 l 8) (by decide +kernel) (by decide +kernel) rfl ⟨by decide +kernel, by decide +kernel, by decide +kernel⟩ (z_room (by omega) (by decide)) rfl (zr_X5_statement 8), fun _ h => nomatch h⟩⟩⟩⟩⟩)) (by decide)
theorem zr_X5_text : ∀ vs g r, zF_X5_text vs g = some r → ∃ i rv, vs = .inr (.inl (3, i, 0)) :: rv ∧ i < z_ni 3 := fun vs g r h => z_chk_rec (z_fn_chk (sh := zs_X5_text) h).1 (Or.inl ⟨rfl, by decide⟩)
def zc_X5_begin : zCD := [(0, .aload_n 0, 1, 0), (1, .iconst 0, 2, 0), (2, .putfield 1, 5, 0), (5, .aload_n 0, 6, 0), (6, .iload_n 1, 7, 0), (7, .iconst 0, 8, 0), (8, .bipush 7, 10, 0), (10, .invokestatic 188, 13, 0), (13, .iconst 1, 14, 0), (14, .invokevirtual 192, 17, 0), (17, .ifCond .ne 5, 20, 22), (20, .iconst 0, 21, 0), (21, .ireturn, 22, 0), (22, .aload_n 0, 23, 0), (23, .getfield 35, 26, 0), (26, .iload_n 1, 27, 0), (27, .iaload, 28, 0), (28, .istore_n 3, 29, 0), (29, .aload_n 0, 30, 0), (30, .getfield 35, 33, 0), (33, .iload_n 1, 34, 0), (34, .iload_n 2, 35, 0), (35, .iastore, 36, 0), (36, .iload_n 3, 37, 0), (37, .ireturn, 38, 0)]
def zk_X5_begin : List (Nat × List Nat) := []
def zl_X5_begin : List (Nat × zCI) := [(188, (zF_X5_within, 3, 1, 0, 0)), (192, (zF_X5_may, 3, 1, 0, 0))]
def zM_X5_begin : zMI := (z_look zfl_X5, z_look zl_X5_begin, z_look zcs_X5, z_look zth_X5, 4, 1)
def zs_X5_begin : List (Nat × Nat × Nat × Nat) := [(2, 3, 0, 0), (0, 0, 0, 0), (0, 0, 0, 0)]
def zF_X5_begin : List zVV → zSG → Option zRR := z_fn zs_X5_begin zM_X5_begin zc_X5_begin zk_X5_begin (0, 0)
theorem zo_X5_begin : z_okc cX5_begin zc_X5_begin = true := by decide +kernel
theorem zv_X5_begin : z_kd [192] zc_X5_begin = true := by decide +kernel
set_option maxRecDepth 20000 in
theorem zt_X5_begin (l : Launch) : zCt l yX5_begin cX5_begin 4 (some .int) (zrm 1 0 0) zF_X5_begin := z_ct (own := RX5) (sh := zs_X5_begin) (M := zM_X5_begin) (cd := zc_X5_begin) (cut := zk_X5_begin) (by decide +kernel) rfl rfl rfl (z_fl_all zfl_X5_ok) (z_cs_all zcs_X5_ok) zo_X5_begin z_nothr (z_hcal (L := zl_X5_begin) zv_X5_begin (List.forall_mem_cons.mpr ⟨z_calS (l := l) (j := 188) (zt_X5_within l) (by decide +kernel) (by decide +kernel) ⟨by decide +kernel, by decide +kernel, by decide +kernel⟩ (z_room (by omega) (by decide)), List.forall_mem_cons.mpr ⟨z_calV (l := l) (j := 192) (C := RX5) (cn := 3) (T := TX5) (N := 47) (zt_X5_may l) (by decide +kernel) (by decide +kernel) rfl ⟨by decide +kernel, by decide +kernel, by decide +kernel⟩ (z_room (by omega) (by decide)) rfl zr_X5_may, fun _ h => nomatch h⟩⟩)) (by decide)
theorem zr_X5_begin : ∀ vs g r, zF_X5_begin vs g = some r → ∃ i rv, vs = .inr (.inl (3, i, 0)) :: rv ∧ i < z_ni 3 := fun vs g r h => z_chk_rec (z_fn_chk (sh := zs_X5_begin) h).1 (Or.inl ⟨rfl, by decide⟩)
def zc_X5_keep : zCD := [(0, .aload_n 0, 1, 0), (1, .iconst 0, 2, 0), (2, .putfield 1, 5, 0), (5, .aload_n 0, 6, 0), (6, .iload_n 1, 7, 0), (7, .iconst 0, 8, 0), (8, .bipush 15, 10, 0), (10, .invokestatic 188, 13, 0), (13, .iconst 1, 14, 0), (14, .invokevirtual 192, 17, 0), (17, .ifCond .ne 5, 20, 22), (20, .iconst 0, 21, 0), (21, .ireturn, 22, 0), (22, .aload_n 0, 23, 0), (23, .getfield 38, 26, 0), (26, .iload_n 1, 27, 0), (27, .iaload, 28, 0), (28, .istore_n 3, 29, 0), (29, .aload_n 0, 30, 0), (30, .getfield 38, 33, 0), (33, .iload_n 1, 34, 0), (34, .iload_n 2, 35, 0), (35, .iastore, 36, 0), (36, .iload_n 3, 37, 0), (37, .ireturn, 38, 0)]
def zk_X5_keep : List (Nat × List Nat) := []
def zl_X5_keep : List (Nat × zCI) := [(188, (zF_X5_within, 3, 1, 0, 0)), (192, (zF_X5_may, 3, 1, 0, 0))]
def zM_X5_keep : zMI := (z_look zfl_X5, z_look zl_X5_keep, z_look zcs_X5, z_look zth_X5, 4, 1)
def zs_X5_keep : List (Nat × Nat × Nat × Nat) := [(2, 3, 0, 0), (0, 0, 0, 0), (0, 0, 0, 0)]
def zF_X5_keep : List zVV → zSG → Option zRR := z_fn zs_X5_keep zM_X5_keep zc_X5_keep zk_X5_keep (0, 0)
theorem zo_X5_keep : z_okc cX5_keep zc_X5_keep = true := by decide +kernel
theorem zv_X5_keep : z_kd [192] zc_X5_keep = true := by decide +kernel
set_option maxRecDepth 20000 in
theorem zt_X5_keep (l : Launch) : zCt l yX5_keep cX5_keep 4 (some .int) (zrm 1 0 0) zF_X5_keep := z_ct (own := RX5) (sh := zs_X5_keep) (M := zM_X5_keep) (cd := zc_X5_keep) (cut := zk_X5_keep) (by decide +kernel) rfl rfl rfl (z_fl_all zfl_X5_ok) (z_cs_all zcs_X5_ok) zo_X5_keep z_nothr (z_hcal (L := zl_X5_keep) zv_X5_keep (List.forall_mem_cons.mpr ⟨z_calS (l := l) (j := 188) (zt_X5_within l) (by decide +kernel) (by decide +kernel) ⟨by decide +kernel, by decide +kernel, by decide +kernel⟩ (z_room (by omega) (by decide)), List.forall_mem_cons.mpr ⟨z_calV (l := l) (j := 192) (C := RX5) (cn := 3) (T := TX5) (N := 47) (zt_X5_may l) (by decide +kernel) (by decide +kernel) rfl ⟨by decide +kernel, by decide +kernel, by decide +kernel⟩ (z_room (by omega) (by decide)) rfl zr_X5_may, fun _ h => nomatch h⟩⟩)) (by decide)
theorem zr_X5_keep : ∀ vs g r, zF_X5_keep vs g = some r → ∃ i rv, vs = .inr (.inl (3, i, 0)) :: rv ∧ i < z_ni 3 := fun vs g r h => z_chk_rec (z_fn_chk (sh := zs_X5_keep) h).1 (Or.inl ⟨rfl, by decide⟩)
def zc_X5_ask : zCD := [(0, .aload_n 0, 1, 0), (1, .iconst 0, 2, 0), (2, .putfield 1, 5, 0), (5, .aload_n 0, 6, 0), (6, .iload_n 1, 7, 0), (7, .iconst 0, 8, 0), (8, .iconst 3, 9, 0), (9, .invokestatic 188, 12, 0), (12, .ifCond .eq 18, 15, 30), (15, .iload 4, 17, 0), (17, .iconst 0, 18, 0), (18, .ldc 196, 20, 0), (20, .invokestatic 188, 23, 0), (23, .ifCond .eq 7, 26, 30), (26, .iconst 1, 27, 0), (27, .goto 4, 30, 31), (30, .iconst 0, 31, 0), (31, .iconst 1, 32, 0), (32, .invokevirtual 192, 35, 0), (35, .ifCond .ne 5, 38, 40), (38, .iconst 0, 39, 0), (39, .ireturn, 40, 0), (40, .aload_n 0, 41, 0), (41, .getfield 197, 44, 0), (44, .bipush 30, 46, 0), (46, .if_icmp .ne 5, 49, 51), (49, .iconst (-1), 50, 0), (50, .ireturn, 51, 0), (51, .aload_n 0, 52, 0), (52, .getfield 41, 55, 0), (55, .aload_n 0, 56, 0), (56, .getfield 197, 59, 0), (59, .iload_n 1, 60, 0), (60, .iastore, 61, 0), (61, .aload_n 0, 62, 0), (62, .getfield 44, 65, 0), (65, .aload_n 0, 66, 0), (66, .getfield 197, 69, 0), (69, .iload_n 2, 70, 0), (70, .iastore, 71, 0), (71, .aload_n 0, 72, 0), (72, .getfield 47, 75, 0), (75, .aload_n 0, 76, 0), (76, .getfield 197, 79, 0), (79, .iload_n 3, 80, 0), (80, .iastore, 81, 0), (81, .aload_n 0, 82, 0), (82, .getfield 50, 85, 0), (85, .aload_n 0, 86, 0), (86, .getfield 197, 89, 0), (89, .iload 4, 91, 0), (91, .iastore, 92, 0), (92, .aload_n 0, 93, 0), (93, .getfield 53, 96, 0), (96, .aload_n 0, 97, 0), (97, .getfield 197, 100, 0), (100, .iconst (-1), 101, 0), (101, .iastore, 102, 0), (102, .aload_n 0, 103, 0), (103, .dup, 104, 0), (104, .getfield 197, 107, 0), (107, .iconst 1, 108, 0), (108, .iadd, 109, 0), (109, .putfield 197, 112, 0), (112, .aload_n 0, 113, 0), (113, .getfield 197, 116, 0), (116, .iconst 1, 117, 0), (117, .isub, 118, 0), (118, .ireturn, 119, 0)]
def zk_X5_ask : List (Nat × List Nat) := []
def zl_X5_ask : List (Nat × zCI) := [(188, (zF_X5_within, 3, 1, 0, 0)), (192, (zF_X5_may, 3, 1, 0, 0))]
def zM_X5_ask : zMI := (z_look zfl_X5, z_look zl_X5_ask, z_look zcs_X5, z_look zth_X5, 5, 1)
def zs_X5_ask : List (Nat × Nat × Nat × Nat) := [(2, 3, 0, 0), (0, 0, 0, 0), (0, 0, 0, 0), (0, 0, 0, 0), (0, 0, 0, 0)]
def zF_X5_ask : List zVV → zSG → Option zRR := z_fn zs_X5_ask zM_X5_ask zc_X5_ask zk_X5_ask (0, 0)
theorem zo_X5_ask : z_okc cX5_ask zc_X5_ask = true := by decide +kernel
theorem zv_X5_ask : z_kd [192] zc_X5_ask = true := by decide +kernel
set_option maxRecDepth 20000 in
theorem zt_X5_ask (l : Launch) : zCt l yX5_ask cX5_ask 5 (some .int) (zrm 1 0 0) zF_X5_ask := z_ct (own := RX5) (sh := zs_X5_ask) (M := zM_X5_ask) (cd := zc_X5_ask) (cut := zk_X5_ask) (by decide +kernel) rfl rfl rfl (z_fl_all zfl_X5_ok) (z_cs_all zcs_X5_ok) zo_X5_ask z_nothr (z_hcal (L := zl_X5_ask) zv_X5_ask (List.forall_mem_cons.mpr ⟨z_calS (l := l) (j := 188) (zt_X5_within l) (by decide +kernel) (by decide +kernel) ⟨by decide +kernel, by decide +kernel, by decide +kernel⟩ (z_room (by omega) (by decide)), List.forall_mem_cons.mpr ⟨z_calV (l := l) (j := 192) (C := RX5) (cn := 3) (T := TX5) (N := 47) (zt_X5_may l) (by decide +kernel) (by decide +kernel) rfl ⟨by decide +kernel, by decide +kernel, by decide +kernel⟩ (z_room (by omega) (by decide)) rfl zr_X5_may, fun _ h => nomatch h⟩⟩)) (by decide)
theorem zr_X5_ask : ∀ vs g r, zF_X5_ask vs g = some r → ∃ i rv, vs = .inr (.inl (3, i, 0)) :: rv ∧ i < z_ni 3 := fun vs g r h => z_chk_rec (z_fn_chk (sh := zs_X5_ask) h).1 (Or.inl ⟨rfl, by decide⟩)
def zc_X5_isAsk : zCD := [(0, .aload_n 0, 1, 0), (1, .iload_n 1, 2, 0), (2, .iconst 0, 3, 0), (3, .aload_n 0, 4, 0), (4, .getfield 197, 7, 0), (7, .iconst 1, 8, 0), (8, .isub, 9, 0), (9, .invokestatic 188, 12, 0), (12, .iconst 1, 13, 0), (13, .invokevirtual 192, 16, 0), (16, .ireturn, 17, 0)]
def zk_X5_isAsk : List (Nat × List Nat) := []
def zl_X5_isAsk : List (Nat × zCI) := [(188, (zF_X5_within, 3, 1, 0, 0)), (192, (zF_X5_may, 3, 1, 0, 0))]
def zM_X5_isAsk : zMI := (z_look zfl_X5, z_look zl_X5_isAsk, z_look zcs_X5, z_look zth_X5, 2, 2)
def zs_X5_isAsk : List (Nat × Nat × Nat × Nat) := [(2, 3, 0, 0), (0, 0, 0, 0)]
def zF_X5_isAsk : List zVV → zSG → Option zRR := z_fn zs_X5_isAsk zM_X5_isAsk zc_X5_isAsk zk_X5_isAsk (0, 0)
theorem zo_X5_isAsk : z_okc cX5_isAsk zc_X5_isAsk = true := by decide +kernel
theorem zv_X5_isAsk : z_kd [192] zc_X5_isAsk = true := by decide +kernel
set_option maxRecDepth 20000 in
theorem zt_X5_isAsk (l : Launch) : zCt l yX5_isAsk cX5_isAsk 2 (some .boolean) (zrm 1 0 0) zF_X5_isAsk := z_ct (own := RX5) (sh := zs_X5_isAsk) (M := zM_X5_isAsk) (cd := zc_X5_isAsk) (cut := zk_X5_isAsk) (by decide +kernel) rfl rfl rfl (z_fl_all zfl_X5_ok) (z_cs_all zcs_X5_ok) zo_X5_isAsk z_nothr (z_hcal (L := zl_X5_isAsk) zv_X5_isAsk (List.forall_mem_cons.mpr ⟨z_calS (l := l) (j := 188) (zt_X5_within l) (by decide +kernel) (by decide +kernel) ⟨by decide +kernel, by decide +kernel, by decide +kernel⟩ (z_room (by omega) (by decide)), List.forall_mem_cons.mpr ⟨z_calV (l := l) (j := 192) (C := RX5) (cn := 3) (T := TX5) (N := 47) (zt_X5_may l) (by decide +kernel) (by decide +kernel) rfl ⟨by decide +kernel, by decide +kernel, by decide +kernel⟩ (z_room (by omega) (by decide)) rfl zr_X5_may, fun _ h => nomatch h⟩⟩)) (by decide)
theorem zr_X5_isAsk : ∀ vs g r, zF_X5_isAsk vs g = some r → ∃ i rv, vs = .inr (.inl (3, i, 0)) :: rv ∧ i < z_ni 3 := fun vs g r h => z_chk_rec (z_fn_chk (sh := zs_X5_isAsk) h).1 (Or.inl ⟨rfl, by decide⟩)
def zc_X5_isVersion : zCD := [(0, .iload_n 0, 1, 0), (1, .ifCond .eq 8, 4, 9), (4, .iload_n 0, 5, 0), (5, .iconst 1, 6, 0), (6, .if_icmp .ne 7, 9, 13), (9, .iconst 1, 10, 0), (10, .goto 4, 13, 14), (13, .iconst 0, 14, 0), (14, .ireturn, 15, 0)]
def zk_X5_isVersion : List (Nat × List Nat) := []
def zl_X5_isVersion : List (Nat × zCI) := []
def zM_X5_isVersion : zMI := (z_look zfl_X5, z_look zl_X5_isVersion, z_look zcs_X5, z_look zth_X5, 1, 2)
def zs_X5_isVersion : List (Nat × Nat × Nat × Nat) := [(0, 0, 0, 0)]
def zF_X5_isVersion : List zVV → zSG → Option zRR := z_fn zs_X5_isVersion zM_X5_isVersion zc_X5_isVersion zk_X5_isVersion (0, 0)
theorem zo_X5_isVersion : z_okc cX5_isVersion zc_X5_isVersion = true := by decide +kernel
theorem zv_X5_isVersion : z_kd [] zc_X5_isVersion = true := by decide +kernel
set_option maxRecDepth 20000 in
theorem zt_X5_isVersion (l : Launch) : zCt l yX5_isVersion cX5_isVersion 1 (some .boolean) (zrm 0 0 0) zF_X5_isVersion := z_ct (own := RX5) (sh := zs_X5_isVersion) (M := zM_X5_isVersion) (cd := zc_X5_isVersion) (cut := zk_X5_isVersion) (by decide +kernel) rfl rfl rfl (z_fl_all zfl_X5_ok) (z_cs_all zcs_X5_ok) zo_X5_isVersion z_nothr (z_hcal (L := zl_X5_isVersion) zv_X5_isVersion (fun _ h => nomatch h)) (by decide)
def zc_X5_caused : zCD := [(0, .aload_n 0, 1, 0), (1, .iconst 0, 2, 0), (2, .putfield 1, 5, 0), (5, .aload_n 0, 6, 0), (6, .iload_n 1, 7, 0), (7, .invokevirtual 200, 10, 0), (10, .ifCond .eq 44, 13, 54), (13, .iload_n 2, 14, 0), (14, .iconst (-1), 15, 0), (15, .if_icmp .eq 11, 18, 26), (18, .aload_n 0, 19, 0), (19, .iload_n 2, 20, 0), (20, .invokevirtual 200, 23, 0), (23, .ifCond .eq 31, 26, 54), (26, .aload_n 0, 27, 0), (27, .iload_n 2, 28, 0), (28, .iload_n 1, 29, 0), (29, .if_icmp .ge 17, 32, 46), (32, .iload_n 3, 33, 0), (33, .iconst 0, 34, 0), (34, .bipush 7, 36, 0), (36, .invokestatic 188, 39, 0), (39, .ifCond .eq 7, 42, 46), (42, .iconst 1, 43, 0), (43, .goto 4, 46, 47), (46, .iconst 0, 47, 0), (47, .iconst 2, 48, 0), (48, .invokevirtual 192, 51, 0), (51, .ifCond .ne 5, 54, 56), (54, .iconst 0, 55, 0), (55, .ireturn, 56, 0), (56, .aload_n 0, 57, 0), (57, .getfield 53, 60, 0), (60, .iload_n 1, 61, 0), (61, .iload_n 2, 62, 0), (62, .iastore, 63, 0), (63, .aload_n 0, 64, 0), (64, .getfield 56, 67, 0), (67, .iload_n 1, 68, 0), (68, .iload_n 3, 69, 0), (69, .iastore, 70, 0), (70, .iconst 1, 71, 0), (71, .ireturn, 72, 0)]
def zk_X5_caused : List (Nat × List Nat) := []
def zl_X5_caused : List (Nat × zCI) := [(200, (zF_X5_isAsk, 2, 1, 0, 0)), (188, (zF_X5_within, 3, 1, 0, 0)), (192, (zF_X5_may, 3, 1, 0, 0))]
def zM_X5_caused : zMI := (z_look zfl_X5, z_look zl_X5_caused, z_look zcs_X5, z_look zth_X5, 4, 1)
def zs_X5_caused : List (Nat × Nat × Nat × Nat) := [(2, 3, 0, 0), (0, 0, 0, 0), (0, 0, 0, 0), (0, 0, 0, 0)]
def zF_X5_caused : List zVV → zSG → Option zRR := z_fn zs_X5_caused zM_X5_caused zc_X5_caused zk_X5_caused (0, 0)
theorem zo_X5_caused : z_okc cX5_caused zc_X5_caused = true := by decide +kernel
theorem zv_X5_caused : z_kd [200, 192] zc_X5_caused = true := by decide +kernel
set_option maxRecDepth 20000 in
theorem zt_X5_caused (l : Launch) : zCt l yX5_caused cX5_caused 4 (some .int) (zrm 2 0 0) zF_X5_caused := z_ct (own := RX5) (sh := zs_X5_caused) (M := zM_X5_caused) (cd := zc_X5_caused) (cut := zk_X5_caused) (by decide +kernel) rfl rfl rfl (z_fl_all zfl_X5_ok) (z_cs_all zcs_X5_ok) zo_X5_caused z_nothr (z_hcal (L := zl_X5_caused) zv_X5_caused (List.forall_mem_cons.mpr ⟨z_calV (l := l) (j := 200) (C := RX5) (cn := 3) (T := TX5) (N := 47) (zt_X5_isAsk l) (by decide +kernel) (by decide +kernel) rfl ⟨by decide +kernel, by decide +kernel, by decide +kernel⟩ (z_room (by omega) (by decide)) rfl zr_X5_isAsk, List.forall_mem_cons.mpr ⟨z_calS (l := l) (j := 188) (zt_X5_within l) (by decide +kernel) (by decide +kernel) ⟨by decide +kernel, by decide +kernel, by decide +kernel⟩ (z_room (by omega) (by decide)), List.forall_mem_cons.mpr ⟨z_calV (l := l) (j := 192) (C := RX5) (cn := 3) (T := TX5) (N := 47) (zt_X5_may l) (by decide +kernel) (by decide +kernel) rfl ⟨by decide +kernel, by decide +kernel, by decide +kernel⟩ (z_room (by omega) (by decide)) rfl zr_X5_may, fun _ h => nomatch h⟩⟩⟩)) (by decide)
theorem zr_X5_caused : ∀ vs g r, zF_X5_caused vs g = some r → ∃ i rv, vs = .inr (.inl (3, i, 0)) :: rv ∧ i < z_ni 3 := fun vs g r h => z_chk_rec (z_fn_chk (sh := zs_X5_caused) h).1 (Or.inl ⟨rfl, by decide⟩)
end
section
def zc_X5_findLine : zCD := [(0, .aload_n 0, 1, 0), (1, .iconst 0, 2, 0), (2, .putfield 203, 5, 0), (5, .iconst 0, 6, 0), (6, .istore_n 1, 7, 0), (7, .iload_n 1, 8, 0), (8, .aload_n 0, 9, 0), (9, .getfield 197, 12, 0), (12, .if_icmp .ge 77, 15, 89), (15, .aload_n 0, 16, 0), (16, .getfield 203, 19, 0), (19, .istore_n 2, 20, 0), (20, .iload_n 2, 21, 0), (21, .ifCond .le 45, 24, 66), (24, .aload_n 0, 25, 0), (25, .getfield 50, 28, 0), (28, .aload_n 0, 29, 0), (29, .getfield 59, 32, 0), (32, .iload_n 2, 33, 0), (33, .iconst 1, 34, 0), (34, .isub, 35, 0), (35, .iaload, 36, 0), (36, .iaload, 37, 0), (37, .aload_n 0, 38, 0), (38, .getfield 50, 41, 0), (41, .iload_n 1, 42, 0), (42, .iaload, 43, 0), (43, .if_icmp .le 23, 46, 66), (46, .aload_n 0, 47, 0), (47, .getfield 59, 50, 0), (50, .iload_n 2, 51, 0), (51, .aload_n 0, 52, 0), (52, .getfield 59, 55, 0), (55, .iload_n 2, 56, 0), (56, .iconst 1, 57, 0), (57, .isub, 58, 0), (58, .iaload, 59, 0), (59, .iastore, 60, 0), (60, .iinc 2 (-1), 63, 0), (63, .goto (-43), 66, 20), (66, .aload_n 0, 67, 0), (67, .getfield 59, 70, 0), (70, .iload_n 2, 71, 0), (71, .iload_n 1, 72, 0), (72, .iastore, 73, 0), (73, .aload_n 0, 74, 0), (74, .dup, 75, 0), (75, .getfield 203, 78, 0), (78, .iconst 1, 79, 0), (79, .iadd, 80, 0), (80, .putfield 203, 83, 0), (83, .iinc 1 1, 86, 0), (86, .goto (-79), 89, 7), (89, .return_, 90, 0)]
def zk_X5_findLine : List (Nat × List Nat) := [(7, [0, 1]), (20, [0, 1, 2])]
def zl_X5_findLine : List (Nat × zCI) := []
def zM_X5_findLine : zMI := (z_look zfl_X5, z_look zl_X5_findLine, z_look zcs_X5, z_look zth_X5, 3, 0)
def zs_X5_findLine : List (Nat × Nat × Nat × Nat) := [(2, 3, 0, 0)]
def zF_X5_findLine : List zVV → zSG → Option zRR := z_fn zs_X5_findLine zM_X5_findLine zc_X5_findLine zk_X5_findLine (0, 0)
theorem zo_X5_findLine : z_okc cX5_findLine zc_X5_findLine = true := by decide +kernel
theorem zv_X5_findLine : z_kd [] zc_X5_findLine = true := by decide +kernel
set_option maxRecDepth 20000 in
theorem zt_X5_findLine (l : Launch) : zCt l yX5_findLine cX5_findLine 3 none (zrm 0 0 0) zF_X5_findLine := z_ct (own := RX5) (sh := zs_X5_findLine) (M := zM_X5_findLine) (cd := zc_X5_findLine) (cut := zk_X5_findLine) (by decide +kernel) rfl rfl rfl (z_fl_all zfl_X5_ok) (z_cs_all zcs_X5_ok) zo_X5_findLine z_nothr (z_hcal (L := zl_X5_findLine) zv_X5_findLine (fun _ h => nomatch h)) (by decide)
theorem zr_X5_findLine : ∀ vs g r, zF_X5_findLine vs g = some r → ∃ i rv, vs = .inr (.inl (3, i, 0)) :: rv ∧ i < z_ni 3 := fun vs g r h => z_chk_rec (z_fn_chk (sh := zs_X5_findLine) h).1 (Or.inl ⟨rfl, by decide⟩)
def zc_X5_push : zCD := [(0, .aload_n 0, 1, 0), (1, .getfield 80, 4, 0), (4, .aload_n 0, 5, 0), (5, .getfield 206, 8, 0), (8, .iload_n 1, 9, 0), (9, .iastore, 10, 0), (10, .aload_n 0, 11, 0), (11, .dup, 12, 0), (12, .getfield 206, 15, 0), (15, .iconst 1, 16, 0), (16, .iadd, 17, 0), (17, .putfield 206, 20, 0), (20, .return_, 21, 0)]
def zk_X5_push : List (Nat × List Nat) := []
def zl_X5_push : List (Nat × zCI) := []
def zM_X5_push : zMI := (z_look zfl_X5, z_look zl_X5_push, z_look zcs_X5, z_look zth_X5, 2, 0)
def zs_X5_push : List (Nat × Nat × Nat × Nat) := [(2, 3, 0, 0), (0, 0, 0, 0)]
def zF_X5_push : List zVV → zSG → Option zRR := z_fn zs_X5_push zM_X5_push zc_X5_push zk_X5_push (0, 0)
theorem zo_X5_push : z_okc cX5_push zc_X5_push = true := by decide +kernel
theorem zv_X5_push : z_kd [] zc_X5_push = true := by decide +kernel
set_option maxRecDepth 20000 in
theorem zt_X5_push (l : Launch) : zCt l yX5_push cX5_push 2 none (zrm 0 0 0) zF_X5_push := z_ct (own := RX5) (sh := zs_X5_push) (M := zM_X5_push) (cd := zc_X5_push) (cut := zk_X5_push) (by decide +kernel) rfl rfl rfl (z_fl_all zfl_X5_ok) (z_cs_all zcs_X5_ok) zo_X5_push z_nothr (z_hcal (L := zl_X5_push) zv_X5_push (fun _ h => nomatch h)) (by decide)
theorem zr_X5_push : ∀ vs g r, zF_X5_push vs g = some r → ∃ i rv, vs = .inr (.inl (3, i, 0)) :: rv ∧ i < z_ni 3 := fun vs g r h => z_chk_rec (z_fn_chk (sh := zs_X5_push) h).1 (Or.inl ⟨rfl, by decide⟩)
def zc_X5_pop : zCD := [(0, .aload_n 0, 1, 0), (1, .dup, 2, 0), (2, .getfield 206, 5, 0), (5, .iconst 1, 6, 0), (6, .isub, 7, 0), (7, .putfield 206, 10, 0), (10, .aload_n 0, 11, 0), (11, .getfield 80, 14, 0), (14, .aload_n 0, 15, 0), (15, .getfield 206, 18, 0), (18, .iaload, 19, 0), (19, .ireturn, 20, 0)]
def zk_X5_pop : List (Nat × List Nat) := []
def zl_X5_pop : List (Nat × zCI) := []
def zM_X5_pop : zMI := (z_look zfl_X5, z_look zl_X5_pop, z_look zcs_X5, z_look zth_X5, 1, 1)
def zs_X5_pop : List (Nat × Nat × Nat × Nat) := [(2, 3, 0, 0)]
def zF_X5_pop : List zVV → zSG → Option zRR := z_fn zs_X5_pop zM_X5_pop zc_X5_pop zk_X5_pop (0, 0)
theorem zo_X5_pop : z_okc cX5_pop zc_X5_pop = true := by decide +kernel
theorem zv_X5_pop : z_kd [] zc_X5_pop = true := by decide +kernel
set_option maxRecDepth 20000 in
theorem zt_X5_pop (l : Launch) : zCt l yX5_pop cX5_pop 1 (some .int) (zrm 0 0 0) zF_X5_pop := z_ct (own := RX5) (sh := zs_X5_pop) (M := zM_X5_pop) (cd := zc_X5_pop) (cut := zk_X5_pop) (by decide +kernel) rfl rfl rfl (z_fl_all zfl_X5_ok) (z_cs_all zcs_X5_ok) zo_X5_pop z_nothr (z_hcal (L := zl_X5_pop) zv_X5_pop (fun _ h => nomatch h)) (by decide)
theorem zr_X5_pop : ∀ vs g r, zF_X5_pop vs g = some r → ∃ i rv, vs = .inr (.inl (3, i, 0)) :: rv ∧ i < z_ni 3 := fun vs g r h => z_chk_rec (z_fn_chk (sh := zs_X5_pop) h).1 (Or.inl ⟨rfl, by decide⟩)
def zc_X5_does : zCD := [(0, .iconst 4, 1, 0), (1, .iload_n 1, 2, 0), (2, .imul, 3, 0), (3, .aload_n 0, 4, 0), (4, .getfield 41, 7, 0), (7, .iload_n 2, 8, 0), (8, .iaload, 9, 0), (9, .iadd, 10, 0), (10, .istore_n 3, 11, 0), (11, .aload_n 0, 12, 0), (12, .getfield 44, 15, 0), (15, .iload_n 2, 16, 0), (16, .iaload, 17, 0), (17, .istore 4, 19, 0), (19, .aload_n 0, 20, 0), (20, .getfield 53, 23, 0), (23, .iload_n 2, 24, 0), (24, .iaload, 25, 0), (25, .istore 5, 27, 0), (27, .iload 5, 29, 0), (29, .iconst (-1), 30, 0), (30, .if_icmp .eq 48, 33, 78), (33, .aload_n 0, 34, 0), (34, .getfield 87, 37, 0), (37, .iload 5, 39, 0), (39, .baload, 40, 0), (40, .ifCond .eq 38, 43, 78), (43, .aload_n 0, 44, 0), (44, .getfield 56, 47, 0), (47, .iload_n 2, 48, 0), (48, .iaload, 49, 0), (49, .aload_n 0, 50, 0), (50, .getfield 62, 53, 0), (53, .iload 5, 55, 0), (55, .iaload, 56, 0), (56, .if_icmp .ge 22, 59, 78), (59, .aload_n 0, 60, 0), (60, .getfield 65, 63, 0), (63, .bipush 8, 65, 0), (65, .iload 5, 67, 0), (67, .imul, 68, 0), (68, .aload_n 0, 69, 0), (69, .getfield 56, 72, 0), (72, .iload_n 2, 73, 0), (73, .iaload, 74, 0), (74, .iadd, 75, 0), (75, .iaload, 76, 0), (76, .istore 4, 78, 0), (78, .aload_n 0, 79, 0), (79, .getfield 62, 82, 0), (82, .iload_n 2, 83, 0), (83, .iconst 0, 84, 0), (84, .iastore, 85, 0), (85, .aload_n 0, 86, 0), (86, .getfield 68, 89, 0), (89, .iload_n 2, 90, 0), (90, .iconst 0, 91, 0), (91, .iastore, 92, 0), (92, .aload_n 0, 93, 0), (93, .getfield 71, 96, 0), (96, .iload_n 2, 97, 0), (97, .iconst 0, 98, 0), (98, .iastore, 99, 0), (99, .aload_n 0, 100, 0), (100, .getfield 74, 103, 0), (103, .iload_n 2, 104, 0), (104, .iconst 0, 105, 0), (105, .iastore, 106, 0), (106, .aload_n 0, 107, 0), (107, .getfield 87, 110, 0), (110, .iload_n 2, 111, 0), (111, .iconst 1, 112, 0), (112, .bastore, 113, 0), (113, .aload_n 0, 114, 0), (114, .iconst 0, 115, 0), (115, .putfield 206, 118, 0), (118, .iconst 0, 119, 0), (119, .istore 6, 121, 0), (121, .iload 6, 123, 0), (123, .aload_n 0, 124, 0), (124, .getfield 29, 127, 0), (127, .iload_n 3, 128, 0), (128, .iaload, 129, 0), (129, .if_icmp .ge 442, 132, 571), (132, .aload_n 0, 133, 0), (133, .getfield 26, 136, 0), (136, .sipush 500, 139, 0), (139, .iload_n 3, 140, 0), (140, .imul, 141, 0), (141, .iload 6, 143, 0), (143, .iadd, 144, 0), (144, .iaload, 145, 0), (145, .istore 7, 147, 0), (147, .aload_n 0, 148, 0), (148, .getfield 23, 151, 0), (151, .sipush 500, 154, 0), (154, .iload_n 3, 155, 0), (155, .imul, 156, 0), (156, .iload 6, 158, 0), (158, .iadd, 159, 0), (159, .iaload, 160, 0), (160, .istore 8, 162, 0), (162, .iinc 6 1, 165, 0), (165, .iload 8, 167, 0), (167, .ifCond .ne 12, 170, 179), (170, .aload_n 0, 171, 0), (171, .iload 7, 173, 0), (173, .invokevirtual 209, 176, 0), (176, .goto 392, 179, 568), (179, .iload 8, 181, 0), (181, .iconst 1, 182, 0), (182, .if_icmp .ne 12, 185, 194), (185, .aload_n 0, 186, 0), (186, .iload 4, 188, 0), (188, .invokevirtual 209, 191, 0), (191, .goto 377, 194, 568), (194, .iload 8, 196, 0), (196, .iconst 2, 197, 0), (197, .if_icmp .ne 16, 200, 213), (200, .aload_n 0, 201, 0), (201, .aload_n 0, 202, 0), (202, .getfield 47, 205, 0), (205, .iload_n 2, 206, 0), (206, .iaload, 207, 0), (207, .invokevirtual 209, 210, 0), (210, .goto 358, 213, 568), (213, .iload 8, 215, 0), (215, .iconst 3, 216, 0), (216, .if_icmp .ne 24, 219, 240), (219, .aload_n 0, 220, 0), (220, .dup, 221, 0), (221, .getfield 212, 224, 0), (224, .iconst 1, 225, 0), (225, .iadd, 226, 0), (226, .putfield 212, 229, 0), (229, .aload_n 0, 230, 0), (230, .aload_n 0, 231, 0), (231, .getfield 212, 234, 0), (234, .invokevirtual 209, 237, 0), (237, .goto 331, 240, 568), (240, .iload 8, 242, 0), (242, .iconst 4, 243, 0), (243, .if_icmp .ne 39, 246, 282), (246, .aload_n 0, 247, 0), (247, .invokevirtual 215, 250, 0), (250, .bipush 7, 252, 0), (252, .iand, 253, 0), (253, .istore 9, 255, 0), (255, .aload_n 0, 256, 0), (256, .getfield 68, 259, 0), (259, .iload_n 2, 260, 0), (260, .dup2, 261, 0), (261, .iaload, 262, 0), (262, .iconst 1, 263, 0), (263, .iload 9, 265, 0), (265, .ishl, 266, 0), (266, .ior, 267, 0), (267, .iastore, 268, 0), (268, .aload_n 0, 269, 0), (269, .aload_n 0, 270, 0), (270, .getfield 77, 273, 0), (273, .iload 9, 275, 0), (275, .iaload, 276, 0), (276, .invokevirtual 209, 279, 0), (279, .goto 289, 282, 568), (282, .iload 8, 284, 0), (284, .iconst 5, 285, 0), (285, .if_icmp .ne 32, 288, 317), (288, .aload_n 0, 289, 0), (289, .dup, 290, 0), (290, .getfield 218, 293, 0), (293, .iconst 1, 294, 0), (294, .iadd, 295, 0), (295, .putfield 218, 298, 0), (298, .aload_n 0, 299, 0), (299, .aload_n 0, 300, 0), (300, .getfield 38, 303, 0), (303, .aload_n 0, 304, 0), (304, .invokevirtual 215, 307, 0), (307, .bipush 15, 309, 0), (309, .iand, 310, 0), (310, .iaload, 311, 0), (311, .invokevirtual 209, 314, 0), (314, .goto 254, 317, 568), (317, .iload 8, 319, 0), (319, .bipush 11, 321, 0), (321, .if_icmp .ne 43, 324, 364), (324, .aload_n 0, 325, 0), (325, .invokevirtual 215, 328, 0), (328, .istore 9, 330, 0), (330, .aload_n 0, 331, 0), (331, .invokevirtual 215, 334, 0), (334, .bipush 7, 336, 0), (336, .iand, 337, 0), (337, .istore 10, 339, 0), (339, .aload_n 0, 340, 0), (340, .getfield 77, 343, 0), (343, .iload 10, 345, 0), (345, .iload 9, 347, 0), (347, .iastore, 348, 0), (348, .aload_n 0, 349, 0), (349, .getfield 71, 352, 0), (352, .iload_n 2, 353, 0), (353, .dup2, 354, 0), (354, .iaload, 355, 0), (355, .iconst 1, 356, 0), (356, .iload 10, 358, 0), (358, .ishl, 359, 0), (359, .ior, 360, 0), (360, .iastore, 361, 0), (361, .goto 207, 364, 568), (364, .iload 8, 366, 0), (366, .bipush 12, 368, 0), (368, .if_icmp .ne 51, 371, 419), (371, .aload_n 0, 372, 0), (372, .invokevirtual 215, 375, 0), (375, .istore 9, 377, 0), (377, .aload_n 0, 378, 0), (378, .getfield 62, 381, 0), (381, .iload_n 2, 382, 0), (382, .iaload, 383, 0), (383, .bipush 8, 385, 0), (385, .if_icmp .ge 31, 388, 416), (388, .aload_n 0, 389, 0), (389, .getfield 65, 392, 0), (392, .bipush 8, 394, 0), (394, .iload_n 2, 395, 0), (395, .imul, 396, 0), (396, .aload_n 0, 397, 0), (397, .getfield 62, 400, 0), (400, .iload_n 2, 401, 0), (401, .iaload, 402, 0), (402, .iadd, 403, 0), (403, .iload 9, 405, 0), (405, .iastore, 406, 0), (406, .aload_n 0, 407, 0), (407, .getfield 62, 410, 0), (410, .iload_n 2, 411, 0), (411, .dup2, 412, 0), (412, .iaload, 413, 0), (413, .iconst 1, 414, 0), (414, .iadd, 415, 0), (415, .iastore, 416, 0), (416, .goto 152, 419, 568), (419, .iload 8, 421, 0), (421, .bipush 13, 423, 0), (423, .if_icmp .ne 17, 426, 440), (426, .aload_n 0, 427, 0), (427, .invokevirtual 215, 430, 0), (430, .ifCond .ne 138, 433, 568), (433, .iload 7, 435, 0), (435, .istore 6, 437, 0), (437, .goto 131, 440, 568), (440, .iload 8, 442, 0), (442, .bipush 14, 444, 0), (444, .if_icmp .ne 29, 447, 473), (447, .aload_n 0, 448, 0), (448, .getfield 74, 451, 0), (451, .iload_n 2, 452, 0), (452, .dup2, 453, 0), (453, .iaload, 454, 0), (454, .iconst 1, 455, 0), (455, .iadd, 456, 0), (456, .iastore, 457, 0), (457, .aload_n 0, 458, 0), (458, .getfield 83, 461, 0), (461, .bipush 30, 463, 0), (463, .iload_n 3, 464, 0), (464, .imul, 465, 0), (465, .iload 7, 467, 0), (467, .iadd, 468, 0), (468, .iconst 1, 469, 0), (469, .bastore, 470, 0), (470, .goto 98, 473, 568), (473, .aload_n 0, 474, 0), (474, .invokevirtual 215, 477, 0), (477, .istore 9, 479, 0), (479, .aload_n 0, 480, 0), (480, .invokevirtual 215, 483, 0), (483, .istore 10, 485, 0), (485, .aload_n 0, 486, 0), (486, .iload 8, 488, 0), (488, .bipush 6, 490, 0), (490, .if_icmp .ne 11, 493, 501), (493, .iload 10, 495, 0), (495, .iload 9, 497, 0), (497, .iadd, 498, 0), (498, .goto 67, 501, 565), (501, .iload 8, 503, 0), (503, .bipush 7, 505, 0), (505, .if_icmp .ne 11, 508, 516), (508, .iload 10, 510, 0), (510, .iload 9, 512, 0), (512, .isub, 513, 0), (513, .goto 52, 516, 565), (516, .iload 8, 518, 0), (518, .bipush 8, 520, 0), (520, .if_icmp .ne 11, 523, 531), (523, .iload 10, 525, 0), (525, .iload 9, 527, 0), (527, .imul, 528, 0), (528, .goto 37, 531, 565), (531, .iload 8, 533, 0), (533, .bipush 9, 535, 0), (535, .if_icmp .ne 18, 538, 553), (538, .iload 10, 540, 0), (540, .iload 9, 542, 0), (542, .if_icmp .ge 7, 545, 549), (545, .iconst 1, 546, 0), (546, .goto 19, 549, 565), (549, .iconst 0, 550, 0), (550, .goto 15, 553, 565), (553, .iload 10, 555, 0), (555, .iload 9, 557, 0), (557, .if_icmp .ne 7, 560, 564), (560, .iconst 1, 561, 0), (561, .goto 4, 564, 565), (564, .iconst 0, 565, 0), (565, .invokevirtual 209, 568, 0), (568, .goto (-447), 571, 121), (571, .return_, 572, 0)]
def zk_X5_does : List (Nat × List Nat) := [(121, [0, 2, 3, 4, 6])]
def zl_X5_does : List (Nat × zCI) := [(209, (zF_X5_push, 2, 0, 0, 0)), (215, (zF_X5_pop, 1, 1, 0, 0))]
def zM_X5_does : zMI := (z_look zfl_X5, z_look zl_X5_does, z_look zcs_X5, z_look zth_X5, 11, 0)
def zs_X5_does : List (Nat × Nat × Nat × Nat) := [(2, 3, 0, 0), (0, 0, 0, 0), (0, 0, 0, 0)]
def zF_X5_does : List zVV → zSG → Option zRR := z_fn zs_X5_does zM_X5_does zc_X5_does zk_X5_does (0, 0)
theorem zo_X5_does : z_okc cX5_does zc_X5_does = true := by decide +kernel
theorem zv_X5_does : z_kd [209, 215] zc_X5_does = true := by decide +kernel
set_option maxRecDepth 20000 in
theorem zt_X5_does (l : Launch) : zCt l yX5_does cX5_does 11 none (zrm 1 0 0) zF_X5_does := z_ct (own := RX5) (sh := zs_X5_does) (M := zM_X5_does) (cd := zc_X5_does) (cut := zk_X5_does) (by decide +kernel) rfl rfl rfl (z_fl_all zfl_X5_ok) (z_cs_all zcs_X5_ok) zo_X5_does z_nothr (z_hcal (L := zl_X5_does) zv_X5_does (List.forall_mem_cons.mpr ⟨z_calV (l := l) (j := 209) (C := RX5) (cn := 3) (T := TX5) (N := 47) (zt_X5_push l) (by decide +kernel) (by decide +kernel) rfl ⟨by decide +kernel, by decide +kernel, by decide +kernel⟩ (z_room (by omega) (by decide)) rfl zr_X5_push, List.forall_mem_cons.mpr ⟨z_calV (l := l) (j := 215) (C := RX5) (cn := 3) (T := TX5) (N := 47) (zt_X5_pop l) (by decide +kernel) (by decide +kernel) rfl ⟨by decide +kernel, by decide +kernel, by decide +kernel⟩ (z_room (by omega) (by decide)) rfl zr_X5_pop, fun _ h => nomatch h⟩⟩)) (by decide)
theorem zr_X5_does : ∀ vs g r, zF_X5_does vs g = some r → ∃ i rv, vs = .inr (.inl (3, i, 0)) :: rv ∧ i < z_ni 3 := fun vs g r h => z_chk_rec (z_fn_chk (sh := zs_X5_does) h).1 (Or.inl ⟨rfl, by decide⟩)
def zc_X5_run : zCD := [(0, .iconst 0, 1, 0), (1, .istore 4, 3, 0), (3, .iload 4, 5, 0), (5, .bipush 8, 7, 0), (7, .if_icmp .ge 23, 10, 30), (10, .aload_n 0, 11, 0), (11, .getfield 77, 14, 0), (14, .iload 4, 16, 0), (16, .aload_n 0, 17, 0), (17, .getfield 35, 20, 0), (20, .iload 4, 22, 0), (22, .iaload, 23, 0), (23, .iastore, 24, 0), (24, .iinc 4 1, 27, 0), (27, .goto (-24), 30, 3), (30, .iconst 0, 31, 0), (31, .istore 4, 33, 0), (33, .iload 4, 35, 0), (35, .sipush 240, 38, 0), (38, .if_icmp .ge 17, 41, 55), (41, .aload_n 0, 42, 0), (42, .getfield 83, 45, 0), (45, .iload 4, 47, 0), (47, .iconst 0, 48, 0), (48, .bastore, 49, 0), (49, .iinc 4 1, 52, 0), (52, .goto (-19), 55, 33), (55, .iconst 0, 56, 0), (56, .istore 4, 58, 0), (58, .iload 4, 60, 0), (60, .aload_n 0, 61, 0), (61, .getfield 197, 64, 0), (64, .if_icmp .ge 17, 67, 81), (67, .aload_n 0, 68, 0), (68, .getfield 87, 71, 0), (71, .iload 4, 73, 0), (73, .iconst 0, 74, 0), (74, .bastore, 75, 0), (75, .iinc 4 1, 78, 0), (78, .goto (-20), 81, 58), (81, .aload_n 0, 82, 0), (82, .iload_n 3, 83, 0), (83, .putfield 212, 86, 0), (86, .aload_n 0, 87, 0), (87, .iconst 0, 88, 0), (88, .putfield 218, 91, 0), (91, .iconst 0, 92, 0), (92, .istore 4, 94, 0), (94, .iload 4, 96, 0), (96, .aload_n 0, 97, 0), (97, .getfield 203, 100, 0), (100, .if_icmp .ge 36, 103, 136), (103, .iload_n 2, 104, 0), (104, .aload_n 0, 105, 0), (105, .getfield 59, 108, 0), (108, .iload 4, 110, 0), (110, .iaload, 111, 0), (111, .ishr, 112, 0), (112, .iconst 1, 113, 0), (113, .iand, 114, 0), (114, .iconst 1, 115, 0), (115, .if_icmp .ne 15, 118, 130), (118, .aload_n 0, 119, 0), (119, .iload_n 1, 120, 0), (120, .aload_n 0, 121, 0), (121, .getfield 59, 124, 0), (124, .iload 4, 126, 0), (126, .iaload, 127, 0), (127, .invokevirtual 221, 130, 0), (130, .iinc 4 1, 133, 0), (133, .goto (-39), 136, 94), (136, .return_, 137, 0)]
def zk_X5_run : List (Nat × List Nat) := [(3, [0, 1, 2, 3, 4]), (33, [0, 1, 2, 3, 4]), (58, [0, 1, 2, 3, 4]), (94, [0, 1, 2, 4])]
def zl_X5_run : List (Nat × zCI) := [(221, (zF_X5_does, 3, 0, 0, 0))]
def zM_X5_run : zMI := (z_look zfl_X5, z_look zl_X5_run, z_look zcs_X5, z_look zth_X5, 5, 0)
def zs_X5_run : List (Nat × Nat × Nat × Nat) := [(2, 3, 0, 0), (0, 0, 0, 0), (0, 0, 0, 0), (0, 0, 0, 0)]
def zF_X5_run : List zVV → zSG → Option zRR := z_fn zs_X5_run zM_X5_run zc_X5_run zk_X5_run (0, 0)
theorem zo_X5_run : z_okc cX5_run zc_X5_run = true := by decide +kernel
theorem zv_X5_run : z_kd [221] zc_X5_run = true := by decide +kernel
set_option maxRecDepth 20000 in
theorem zt_X5_run (l : Launch) : zCt l yX5_run cX5_run 5 none (zrm 2 0 0) zF_X5_run := z_ct (own := RX5) (sh := zs_X5_run) (M := zM_X5_run) (cd := zc_X5_run) (cut := zk_X5_run) (by decide +kernel) rfl rfl rfl (z_fl_all zfl_X5_ok) (z_cs_all zcs_X5_ok) zo_X5_run z_nothr (z_hcal (L := zl_X5_run) zv_X5_run (List.forall_mem_cons.mpr ⟨z_calV (l := l) (j := 221) (C := RX5) (cn := 3) (T := TX5) (N := 47) (zt_X5_does l) (by decide +kernel) (by decide +kernel) rfl ⟨by decide +kernel, by decide +kernel, by decide +kernel⟩ (z_room (by omega) (by decide)) rfl zr_X5_does, fun _ h => nomatch h⟩)) (by decide)
theorem zr_X5_run : ∀ vs g r, zF_X5_run vs g = some r → ∃ i rv, vs = .inr (.inl (3, i, 0)) :: rv ∧ i < z_ni 3 := fun vs g r h => z_chk_rec (z_fn_chk (sh := zs_X5_run) h).1 (Or.inl ⟨rfl, by decide⟩)
def zc_X5_runAll : zCD := [(0, .aload_n 0, 1, 0), (1, .invokevirtual 224, 4, 0), (4, .aload_n 0, 5, 0), (5, .iload_n 1, 6, 0), (6, .iconst 1, 7, 0), (7, .aload_n 0, 8, 0), (8, .getfield 197, 11, 0), (11, .ishl, 12, 0), (12, .iconst 1, 13, 0), (13, .isub, 14, 0), (14, .iload_n 2, 15, 0), (15, .invokevirtual 227, 18, 0), (18, .return_, 19, 0)]
def zk_X5_runAll : List (Nat × List Nat) := []
def zl_X5_runAll : List (Nat × zCI) := [(224, (zF_X5_findLine, 1, 0, 0, 0)), (227, (zF_X5_run, 4, 0, 0, 0))]
def zM_X5_runAll : zMI := (z_look zfl_X5, z_look zl_X5_runAll, z_look zcs_X5, z_look zth_X5, 3, 0)
def zs_X5_runAll : List (Nat × Nat × Nat × Nat) := [(2, 3, 0, 0), (0, 0, 0, 0), (0, 0, 0, 0)]
def zF_X5_runAll : List zVV → zSG → Option zRR := z_fn zs_X5_runAll zM_X5_runAll zc_X5_runAll zk_X5_runAll (0, 0)
theorem zo_X5_runAll : z_okc cX5_runAll zc_X5_runAll = true := by decide +kernel
theorem zv_X5_runAll : z_kd [224, 227] zc_X5_runAll = true := by decide +kernel
set_option maxRecDepth 20000 in
theorem zt_X5_runAll (l : Launch) : zCt l yX5_runAll cX5_runAll 3 none (zrm 3 0 0) zF_X5_runAll := z_ct (own := RX5) (sh := zs_X5_runAll) (M := zM_X5_runAll) (cd := zc_X5_runAll) (cut := zk_X5_runAll) (by decide +kernel) rfl rfl rfl (z_fl_all zfl_X5_ok) (z_cs_all zcs_X5_ok) zo_X5_runAll z_nothr (z_hcal (L := zl_X5_runAll) zv_X5_runAll (List.forall_mem_cons.mpr ⟨z_calV (l := l) (j := 224) (C := RX5) (cn := 3) (T := TX5) (N := 47) (zt_X5_findLine l) (by decide +kernel) (by decide +kernel) rfl ⟨by decide +kernel, by decide +kernel, by decide +kernel⟩ (z_room (by omega) (by decide)) rfl zr_X5_findLine, List.forall_mem_cons.mpr ⟨z_calV (l := l) (j := 227) (C := RX5) (cn := 3) (T := TX5) (N := 47) (zt_X5_run l) (by decide +kernel) (by decide +kernel) rfl ⟨by decide +kernel, by decide +kernel, by decide +kernel⟩ (z_room (by omega) (by decide)) rfl zr_X5_run, fun _ h => nomatch h⟩⟩)) (by decide)
theorem zr_X5_runAll : ∀ vs g r, zF_X5_runAll vs g = some r → ∃ i rv, vs = .inr (.inl (3, i, 0)) :: rv ∧ i < z_ni 3 := fun vs g r h => z_chk_rec (z_fn_chk (sh := zs_X5_runAll) h).1 (Or.inl ⟨rfl, by decide⟩)
def zc_X5_fields : zCD := [(0, .aload_n 0, 1, 0), (1, .iconst 0, 2, 0), (2, .putfield 1, 5, 0), (5, .aload_n 0, 6, 0), (6, .iload_n 2, 7, 0), (7, .invokevirtual 200, 10, 0), (10, .ifCond .eq 15, 13, 25), (13, .aload_n 0, 14, 0), (14, .iload_n 1, 15, 0), (15, .invokestatic 231, 18, 0), (18, .iconst 2, 19, 0), (19, .invokevirtual 192, 22, 0), (22, .ifCond .ne 5, 25, 27), (25, .iconst 0, 26, 0), (26, .ireturn, 27, 0), (27, .aload_n 0, 28, 0), (28, .iload_n 1, 29, 0), (29, .iconst 0, 30, 0), (30, .invokevirtual 234, 33, 0), (33, .aload_n 0, 34, 0), (34, .getfield 62, 37, 0), (37, .iload_n 2, 38, 0), (38, .iaload, 39, 0), (39, .ireturn, 40, 0)]
def zk_X5_fields : List (Nat × List Nat) := []
def zl_X5_fields : List (Nat × zCI) := [(200, (zF_X5_isAsk, 2, 1, 0, 0)), (231, (zF_X5_isVersion, 1, 1, 0, 0)), (192, (zF_X5_may, 3, 1, 0, 0)), (234, (zF_X5_runAll, 3, 0, 0, 0))]
def zM_X5_fields : zMI := (z_look zfl_X5, z_look zl_X5_fields, z_look zcs_X5, z_look zth_X5, 3, 1)
def zs_X5_fields : List (Nat × Nat × Nat × Nat) := [(2, 3, 0, 0), (0, 0, 0, 0), (0, 0, 0, 0)]
def zF_X5_fields : List zVV → zSG → Option zRR := z_fn zs_X5_fields zM_X5_fields zc_X5_fields zk_X5_fields (0, 0)
theorem zo_X5_fields : z_okc cX5_fields zc_X5_fields = true := by decide +kernel
theorem zv_X5_fields : z_kd [200, 192, 234] zc_X5_fields = true := by decide +kernel
set_option maxRecDepth 20000 in
theorem zt_X5_fields (l : Launch) : zCt l yX5_fields cX5_fields 3 (some .int) (zrm 4 0 0) zF_X5_fields := z_ct (own := RX5) (sh := zs_X5_fields) (M := zM_X5_fields) (cd := zc_X5_fields) (cut := zk_X5_fields) (by decide +kernel) rfl rfl rfl (z_fl_all zfl_X5_ok) (z_cs_all zcs_X5_ok) zo_X5_fields z_nothr (z_hcal (L := zl_X5_fields) zv_X5_fields (List.forall_mem_cons.mpr ⟨z_calV (l := l) (j := 200) (C := RX5) (cn := 3) (T := TX5) (N := 47) (zt_X5_isAsk l) (by decide +kernel) (by decide +kernel) rfl ⟨by decide +kernel, by decide +kernel, by decide +kernel⟩ (z_room (by omega) (by decide)) rfl zr_X5_isAsk, List.forall_mem_cons.mpr ⟨z_calS (l := l) (j := 231) (zt_X5_isVersion l) (by decide +kernel) (by decide +kernel) ⟨by decide +kernel, by decide +kernel, by decide +kernel⟩ (z_room (by omega) (by decide)), List.forall_mem_cons.mpr ⟨z_calV (l := l) (j := 192) (C := RX5) (cn := 3) (T := TX5) (N := 47) (zt_X5_may l) (by decide +kernel) (by decide +kernel) rfl ⟨by decide +kernel, by decide +kernel, by decide +kernel⟩ (z_room (by omega) (by decide)) rfl zr_X5_may, List.forall_mem_cons.mpr ⟨z_calV (l := l) (j := 234) (C := RX5) (cn := 3) (T := TX5) (N := 47) (zt_X5_runAll l) (by decide +kernel) (by decide +kernel) rfl ⟨by decide +kernel, by decide +kernel, by decide +kernel⟩ (z_room (by omega) (by decide)) rfl zr_X5_runAll, fun _ h => nomatch h⟩⟩⟩⟩)) (by decide)
theorem zr_X5_fields : ∀ vs g r, zF_X5_fields vs g = some r → ∃ i rv, vs = .inr (.inl (3, i, 0)) :: rv ∧ i < z_ni 3 := fun vs g r h => z_chk_rec (z_fn_chk (sh := zs_X5_fields) h).1 (Or.inl ⟨rfl, by decide⟩)
def zc_X5_field : zCD := [(0, .aload_n 0, 1, 0), (1, .iconst 0, 2, 0), (2, .putfield 1, 5, 0), (5, .aload_n 0, 6, 0), (6, .iload_n 2, 7, 0), (7, .invokevirtual 200, 10, 0), (10, .ifCond .eq 15, 13, 25), (13, .aload_n 0, 14, 0), (14, .iload_n 1, 15, 0), (15, .invokestatic 231, 18, 0), (18, .iconst 2, 19, 0), (19, .invokevirtual 192, 22, 0), (22, .ifCond .ne 5, 25, 27), (25, .iconst 0, 26, 0), (26, .ireturn, 27, 0), (27, .aload_n 0, 28, 0), (28, .iload_n 1, 29, 0), (29, .iconst 0, 30, 0), (30, .invokevirtual 234, 33, 0), (33, .iload_n 3, 34, 0), (34, .iconst 0, 35, 0), (35, .aload_n 0, 36, 0), (36, .getfield 62, 39, 0), (39, .iload_n 2, 40, 0), (40, .iaload, 41, 0), (41, .iconst 1, 42, 0), (42, .isub, 43, 0), (43, .invokestatic 188, 46, 0), (46, .ifCond .eq 17, 49, 63), (49, .aload_n 0, 50, 0), (50, .getfield 65, 53, 0), (53, .bipush 8, 55, 0), (55, .iload_n 2, 56, 0), (56, .imul, 57, 0), (57, .iload_n 3, 58, 0), (58, .iadd, 59, 0), (59, .iaload, 60, 0), (60, .goto 4, 63, 64), (63, .iconst 0, 64, 0), (64, .ireturn, 65, 0)]
def zk_X5_field : List (Nat × List Nat) := []
def zl_X5_field : List (Nat × zCI) := [(200, (zF_X5_isAsk, 2, 1, 0, 0)), (231, (zF_X5_isVersion, 1, 1, 0, 0)), (192, (zF_X5_may, 3, 1, 0, 0)), (234, (zF_X5_runAll, 3, 0, 0, 0)), (188, (zF_X5_within, 3, 1, 0, 0))]
def zM_X5_field : zMI := (z_look zfl_X5, z_look zl_X5_field, z_look zcs_X5, z_look zth_X5, 4, 1)
def zs_X5_field : List (Nat × Nat × Nat × Nat) := [(2, 3, 0, 0), (0, 0, 0, 0), (0, 0, 0, 0), (0, 0, 0, 0)]
def zF_X5_field : List zVV → zSG → Option zRR := z_fn zs_X5_field zM_X5_field zc_X5_field zk_X5_field (0, 0)
theorem zo_X5_field : z_okc cX5_field zc_X5_field = true := by decide +kernel
theorem zv_X5_field : z_kd [200, 192, 234] zc_X5_field = true := by decide +kernel
set_option maxRecDepth 20000 in
theorem zt_X5_field (l : Launch) : zCt l yX5_field cX5_field 4 (some .int) (zrm 4 0 0) zF_X5_field := z_ct (own := RX5) (sh := zs_X5_field) (M := zM_X5_field) (cd := zc_X5_field) (cut := zk_X5_field) (by decide +kernel) rfl rfl rfl (z_fl_all zfl_X5_ok) (z_cs_all zcs_X5_ok) zo_X5_field z_nothr (z_hcal (L := zl_X5_field) zv_X5_field (List.forall_mem_cons.mpr ⟨z_calV (l := l) (j := 200) (C := RX5) (cn := 3) (T := TX5) (N := 47) (zt_X5_isAsk l) (by decide +kernel) (by decide +kernel) rfl ⟨by decide +kernel, by decide +kernel, by decide +kernel⟩ (z_room (by omega) (by decide)) rfl zr_X5_isAsk, List.forall_mem_cons.mpr ⟨z_calS (l := l) (j := 231) (zt_X5_isVersion l) (by decide +kernel) (by decide +kernel) ⟨by decide +kernel, by decide +kernel, by decide +kernel⟩ (z_room (by omega) (by decide)), List.forall_mem_cons.mpr ⟨z_calV (l := l) (j := 192) (C := RX5) (cn := 3) (T := TX5) (N := 47) (zt_X5_may l) (by decide +kernel) (by decide +kernel) rfl ⟨by decide +kernel, by decide +kernel, by decide +kernel⟩ (z_room (by omega) (by decide)) rfl zr_X5_may, List.forall_mem_cons.mpr ⟨z_calV (l := l) (j := 234) (C := RX5) (cn := 3) (T := TX5) (N := 47) (zt_X5_runAll l) (by decide +kernel) (by decide +kernel) rfl ⟨by decide +kernel, by decide +kernel, by decide +kernel⟩ (z_room (by omega) (by decide)) rfl zr_X5_runAll, List.forall_mem_cons.mpr ⟨z_calS (l := l) (j := 188) (zt_X5_within l) (by decide +kernel) (by decide +kernel) ⟨by decide +kernel, by decide +kernel, by decide +kernel⟩ (z_room (by omega) (by decide)), fun _ h => nomatch h⟩⟩⟩⟩⟩)) (by decide)
theorem zr_X5_field : ∀ vs g r, zF_X5_field vs g = some r → ∃ i rv, vs = .inr (.inl (3, i, 0)) :: rv ∧ i < z_ni 3 := fun vs g r h => z_chk_rec (z_fn_chk (sh := zs_X5_field) h).1 (Or.inl ⟨rfl, by decide⟩)
def zc_X5_end : zCD := [(0, .aload_n 0, 1, 0), (1, .iconst 0, 2, 0), (2, .putfield 1, 5, 0), (5, .aload_n 0, 6, 0), (6, .iload_n 2, 7, 0), (7, .iconst 0, 8, 0), (8, .bipush 7, 10, 0), (10, .invokestatic 188, 13, 0), (13, .iconst 1, 14, 0), (14, .invokevirtual 192, 17, 0), (17, .ifCond .eq 15, 20, 32), (20, .aload_n 0, 21, 0), (21, .iload_n 1, 22, 0), (22, .invokestatic 231, 25, 0), (25, .iconst 2, 26, 0), (26, .invokevirtual 192, 29, 0), (29, .ifCond .ne 5, 32, 34), (32, .iconst 0, 33, 0), (33, .ireturn, 34, 0), (34, .aload_n 0, 35, 0), (35, .iload_n 1, 36, 0), (36, .iconst 0, 37, 0), (37, .invokevirtual 234, 40, 0), (40, .aload_n 0, 41, 0), (41, .getfield 77, 44, 0), (44, .iload_n 2, 45, 0), (45, .iaload, 46, 0), (46, .ireturn, 47, 0)]
def zk_X5_end : List (Nat × List Nat) := []
def zl_X5_end : List (Nat × zCI) := [(188, (zF_X5_within, 3, 1, 0, 0)), (192, (zF_X5_may, 3, 1, 0, 0)), (231, (zF_X5_isVersion, 1, 1, 0, 0)), (234, (zF_X5_runAll, 3, 0, 0, 0))]
def zM_X5_end : zMI := (z_look zfl_X5, z_look zl_X5_end, z_look zcs_X5, z_look zth_X5, 3, 1)
def zs_X5_end : List (Nat × Nat × Nat × Nat) := [(2, 3, 0, 0), (0, 0, 0, 0), (0, 0, 0, 0)]
def zF_X5_end : List zVV → zSG → Option zRR := z_fn zs_X5_end zM_X5_end zc_X5_end zk_X5_end (0, 0)
theorem zo_X5_end : z_okc cX5_end zc_X5_end = true := by decide +kernel
theorem zv_X5_end : z_kd [192, 234] zc_X5_end = true := by decide +kernel
set_option maxRecDepth 20000 in
theorem zt_X5_end (l : Launch) : zCt l yX5_end cX5_end 3 (some .int) (zrm 4 0 0) zF_X5_end := z_ct (own := RX5) (sh := zs_X5_end) (M := zM_X5_end) (cd := zc_X5_end) (cut := zk_X5_end) (by decide +kernel) rfl rfl rfl (z_fl_all zfl_X5_ok) (z_cs_all zcs_X5_ok) zo_X5_end z_nothr (z_hcal (L := zl_X5_end) zv_X5_end (List.forall_mem_cons.mpr ⟨z_calS (l := l) (j := 188) (zt_X5_within l) (by decide +kernel) (by decide +kernel) ⟨by decide +kernel, by decide +kernel, by decide +kernel⟩ (z_room (by omega) (by decide)), List.forall_mem_cons.mpr ⟨z_calV (l := l) (j := 192) (C := RX5) (cn := 3) (T := TX5) (N := 47) (zt_X5_may l) (by decide +kernel) (by decide +kernel) rfl ⟨by decide +kernel, by decide +kernel, by decide +kernel⟩ (z_room (by omega) (by decide)) rfl zr_X5_may, List.forall_mem_cons.mpr ⟨z_calS (l := l) (j := 231) (zt_X5_isVersion l) (by decide +kernel) (by decide +kernel) ⟨by decide +kernel, by decide +kernel, by decide +kernel⟩ (z_room (by omega) (by decide)), List.forall_mem_cons.mpr ⟨z_calV (l := l) (j := 234) (C := RX5) (cn := 3) (T := TX5) (N := 47) (zt_X5_runAll l) (by decide +kernel) (by decide +kernel) rfl ⟨by decide +kernel, by decide +kernel, by decide +kernel⟩ (z_room (by omega) (by decide)) rfl zr_X5_runAll, fun _ h => nomatch h⟩⟩⟩⟩)) (by decide)
theorem zr_X5_end : ∀ vs g r, zF_X5_end vs g = some r → ∃ i rv, vs = .inr (.inl (3, i, 0)) :: rv ∧ i < z_ni 3 := fun vs g r h => z_chk_rec (z_fn_chk (sh := zs_X5_end) h).1 (Or.inl ⟨rfl, by decide⟩)
def zc_X5_touched : zCD := [(0, .aload_n 0, 1, 0), (1, .iconst 0, 2, 0), (2, .putfield 1, 5, 0), (5, .aload_n 0, 6, 0), (6, .iload_n 2, 7, 0), (7, .invokevirtual 200, 10, 0), (10, .ifCond .eq 32, 13, 42), (13, .aload_n 0, 14, 0), (14, .iload_n 1, 15, 0), (15, .invokestatic 231, 18, 0), (18, .ifCond .eq 16, 21, 34), (21, .iload_n 3, 22, 0), (22, .iconst 0, 23, 0), (23, .iconst 2, 24, 0), (24, .invokestatic 188, 27, 0), (27, .ifCond .eq 7, 30, 34), (30, .iconst 1, 31, 0), (31, .goto 4, 34, 35), (34, .iconst 0, 35, 0), (35, .iconst 2, 36, 0), (36, .invokevirtual 192, 39, 0), (39, .ifCond .ne 5, 42, 44), (42, .iconst 0, 43, 0), (43, .ireturn, 44, 0), (44, .aload_n 0, 45, 0), (45, .iload_n 1, 46, 0), (46, .iconst 0, 47, 0), (47, .invokevirtual 234, 50, 0), (50, .iload_n 3, 51, 0), (51, .ifCond .ne 12, 54, 63), (54, .aload_n 0, 55, 0), (55, .getfield 68, 58, 0), (58, .iload_n 2, 59, 0), (59, .iaload, 60, 0), (60, .goto 23, 63, 83), (63, .iload_n 3, 64, 0), (64, .iconst 1, 65, 0), (65, .if_icmp .ne 12, 68, 77), (68, .aload_n 0, 69, 0), (69, .getfield 71, 72, 0), (72, .iload_n 2, 73, 0), (73, .iaload, 74, 0), (74, .goto 9, 77, 83), (77, .aload_n 0, 78, 0), (78, .getfield 74, 81, 0), (81, .iload_n 2, 82, 0), (82, .iaload, 83, 0), (83, .ireturn, 84, 0)]
def zk_X5_touched : List (Nat × List Nat) := []
def zl_X5_touched : List (Nat × zCI) := [(200, (zF_X5_isAsk, 2, 1, 0, 0)), (231, (zF_X5_isVersion, 1, 1, 0, 0)), (188, (zF_X5_within, 3, 1, 0, 0)), (192, (zF_X5_may, 3, 1, 0, 0)), (234, (zF_X5_runAll, 3, 0, 0, 0))]
def zM_X5_touched : zMI := (z_look zfl_X5, z_look zl_X5_touched, z_look zcs_X5, z_look zth_X5, 4, 1)
def zs_X5_touched : List (Nat × Nat × Nat × Nat) := [(2, 3, 0, 0), (0, 0, 0, 0), (0, 0, 0, 0), (0, 0, 0, 0)]
def zF_X5_touched : List zVV → zSG → Option zRR := z_fn zs_X5_touched zM_X5_touched zc_X5_touched zk_X5_touched (0, 0)
theorem zo_X5_touched : z_okc cX5_touched zc_X5_touched = true := by decide +kernel
theorem zv_X5_touched : z_kd [200, 192, 234] zc_X5_touched = true := by decide +kernel
set_option maxRecDepth 20000 in
theorem zt_X5_touched (l : Launch) : zCt l yX5_touched cX5_touched 4 (some .int) (zrm 4 0 0) zF_X5_touched := z_ct (own := RX5) (sh := zs_X5_touched) (M := zM_X5_touched) (cd := zc_X5_touched) (cut := zk_X5_touched) (by decide +kernel) rfl rfl rfl (z_fl_all zfl_X5_ok) (z_cs_all zcs_X5_ok) zo_X5_touched z_nothr (z_hcal (L := zl_X5_touched) zv_X5_touched (List.forall_mem_cons.mpr ⟨z_calV (l := l) (j := 200) (C := RX5) (cn := 3) (T := TX5) (N := 47) (zt_X5_isAsk l) (by decide +kernel) (by decide +kernel) rfl ⟨by decide +kernel, by decide +kernel, by decide +kernel⟩ (z_room (by omega) (by decide)) rfl zr_X5_isAsk, List.forall_mem_cons.mpr ⟨z_calS (l := l) (j := 231) (zt_X5_isVersion l) (by decide +kernel) (by decide +kernel) ⟨by decide +kernel, by decide +kernel, by decide +kernel⟩ (z_room (by omega) (by decide)), List.forall_mem_cons.mpr ⟨z_calS (l := l) (j := 188) (zt_X5_within l) (by decide +kernel) (by decide +kernel) ⟨by decide +kernel, by decide +kernel, by decide +kernel⟩ (z_room (by omega) (by decide)), List.forall_mem_cons.mpr ⟨z_calV (l := l) (j := 192) (C := RX5) (cn := 3) (T := TX5) (N := 47) (zt_X5_may l) (by decide +kernel) (by decide +kernel) rfl ⟨by decide +kernel, by decide +kernel, by decide +kernel⟩ (z_room (by omega) (by decide)) rfl zr_X5_may, List.forall_mem_cons.mpr ⟨z_calV (l := l) (j := 234) (C := RX5) (cn := 3) (T := TX5) (N := 47) (zt_X5_runAll l) (by decide +kernel) (by decide +kernel) rfl ⟨by decide +kernel, by decide +kernel, by decide +kernel⟩ (z_room (by omega) (by decide)) rfl zr_X5_runAll, fun _ h => nomatch h⟩⟩⟩⟩⟩)) (by decide)
theorem zr_X5_touched : ∀ vs g r, zF_X5_touched vs g = some r → ∃ i rv, vs = .inr (.inl (3, i, 0)) :: rv ∧ i < z_ni 3 := fun vs g r h => z_chk_rec (z_fn_chk (sh := zs_X5_touched) h).1 (Or.inl ⟨rfl, by decide⟩)
def zc_X5_calls : zCD := [(0, .aload_n 0, 1, 0), (1, .iconst 0, 2, 0), (2, .putfield 1, 5, 0), (5, .aload_n 0, 6, 0), (6, .iload_n 1, 7, 0), (7, .invokestatic 231, 10, 0), (10, .iconst 1, 11, 0), (11, .invokevirtual 192, 14, 0), (14, .ifCond .ne 5, 17, 19), (17, .iconst 0, 18, 0), (18, .ireturn, 19, 0), (19, .aload_n 0, 20, 0), (20, .iload_n 1, 21, 0), (21, .iconst 0, 22, 0), (22, .invokevirtual 234, 25, 0), (25, .aload_n 0, 26, 0), (26, .getfield 218, 29, 0), (29, .ireturn, 30, 0)]
def zk_X5_calls : List (Nat × List Nat) := []
def zl_X5_calls : List (Nat × zCI) := [(231, (zF_X5_isVersion, 1, 1, 0, 0)), (192, (zF_X5_may, 3, 1, 0, 0)), (234, (zF_X5_runAll, 3, 0, 0, 0))]
def zM_X5_calls : zMI := (z_look zfl_X5, z_look zl_X5_calls, z_look zcs_X5, z_look zth_X5, 2, 1)
def zs_X5_calls : List (Nat × Nat × Nat × Nat) := [(2, 3, 0, 0), (0, 0, 0, 0)]
def zF_X5_calls : List zVV → zSG → Option zRR := z_fn zs_X5_calls zM_X5_calls zc_X5_calls zk_X5_calls (0, 0)
theorem zo_X5_calls : z_okc cX5_calls zc_X5_calls = true := by decide +kernel
theorem zv_X5_calls : z_kd [192, 234] zc_X5_calls = true := by decide +kernel
set_option maxRecDepth 20000 in
theorem zt_X5_calls (l : Launch) : zCt l yX5_calls cX5_calls 2 (some .int) (zrm 4 0 0) zF_X5_calls := z_ct (own := RX5) (sh := zs_X5_calls) (M := zM_X5_calls) (cd := zc_X5_calls) (cut := zk_X5_calls) (by decide +kernel) rfl rfl rfl (z_fl_all zfl_X5_ok) (z_cs_all zcs_X5_ok) zo_X5_calls z_nothr (z_hcal (L := zl_X5_calls) zv_X5_calls (List.forall_mem_cons.mpr ⟨z_calS (l := l) (j := 231) (zt_X5_isVersion l) (by decide +kernel) (by decide +kernel) ⟨by decide +kernel, by decide +kernel, by decide +kernel⟩ (z_room (by omega) (by decide)), List.forall_mem_cons.mpr ⟨z_calV (l := l) (j := 192) (C := RX5) (cn := 3) (T := TX5) (N := 47) (zt_X5_may l) (by decide +kernel) (by decide +kernel) rfl ⟨by decide +kernel, by decide +kernel, by decide +kernel⟩ (z_room (by omega) (by decide)) rfl zr_X5_may, List.forall_mem_cons.mpr ⟨z_calV (l := l) (j := 234) (C := RX5) (cn := 3) (T := TX5) (N := 47) (zt_X5_runAll l) (by decide +kernel) (by decide +kernel) rfl ⟨by decide +kernel, by decide +kernel, by decide +kernel⟩ (z_room (by omega) (by decide)) rfl zr_X5_runAll, fun _ h => nomatch h⟩⟩⟩)) (by decide)
theorem zr_X5_calls : ∀ vs g r, zF_X5_calls vs g = some r → ∃ i rv, vs = .inr (.inl (3, i, 0)) :: rv ∧ i < z_ni 3 := fun vs g r h => z_chk_rec (z_fn_chk (sh := zs_X5_calls) h).1 (Or.inl ⟨rfl, by decide⟩)
def zc_X5_never : zCD := [(0, .aload_n 0, 1, 0), (1, .iconst 0, 2, 0), (2, .putfield 1, 5, 0), (5, .aload_n 0, 6, 0), (6, .iload_n 1, 7, 0), (7, .invokestatic 231, 10, 0), (10, .ifCond .eq 16, 13, 26), (13, .iload_n 2, 14, 0), (14, .iconst 0, 15, 0), (15, .iconst 3, 16, 0), (16, .invokestatic 188, 19, 0), (19, .ifCond .eq 7, 22, 26), (22, .iconst 1, 23, 0), (23, .goto 4, 26, 27), (26, .iconst 0, 27, 0), (27, .iconst 1, 28, 0), (28, .invokevirtual 192, 31, 0), (31, .ifCond .ne 5, 34, 36), (34, .iconst 0, 35, 0), (35, .ireturn, 36, 0), (36, .aload_n 0, 37, 0), (37, .iload_n 1, 38, 0), (38, .iconst 0, 39, 0), (39, .invokevirtual 234, 42, 0), (42, .iconst 4, 43, 0), (43, .iload_n 1, 44, 0), (44, .imul, 45, 0), (45, .iload_n 2, 46, 0), (46, .iadd, 47, 0), (47, .istore_n 3, 48, 0), (48, .iconst 0, 49, 0), (49, .istore 4, 51, 0), (51, .iconst 0, 52, 0), (52, .istore 5, 54, 0), (54, .iload 5, 56, 0), (56, .aload_n 0, 57, 0), (57, .getfield 32, 60, 0), (60, .iload_n 3, 61, 0), (61, .iaload, 62, 0), (62, .if_icmp .ge 34, 65, 96), (65, .iload 4, 67, 0), (67, .aload_n 0, 68, 0), (68, .getfield 83, 71, 0), (71, .bipush 30, 73, 0), (73, .iload_n 3, 74, 0), (74, .imul, 75, 0), (75, .iload 5, 77, 0), (77, .iadd, 78, 0), (78, .baload, 79, 0), (79, .ifCond .eq 7, 82, 86), (82, .iconst 0, 83, 0), (83, .goto 4, 86, 87), (86, .iconst 1, 87, 0), (87, .iadd, 88, 0), (88, .istore 4, 90, 0), (90, .iinc 5 1, 93, 0), (93, .goto (-39), 96, 54), (96, .iload 4, 98, 0), (98, .ireturn, 99, 0)]
def zk_X5_never : List (Nat × List Nat) := [(54, [0, 3, 4, 5])]
def zl_X5_never : List (Nat × zCI) := [(231, (zF_X5_isVersion, 1, 1, 0, 0)), (188, (zF_X5_within, 3, 1, 0, 0)), (192, (zF_X5_may, 3, 1, 0, 0)), (234, (zF_X5_runAll, 3, 0, 0, 0))]
def zM_X5_never : zMI := (z_look zfl_X5, z_look zl_X5_never, z_look zcs_X5, z_look zth_X5, 6, 1)
def zs_X5_never : List (Nat × Nat × Nat × Nat) := [(2, 3, 0, 0), (0, 0, 0, 0), (0, 0, 0, 0)]
def zF_X5_never : List zVV → zSG → Option zRR := z_fn zs_X5_never zM_X5_never zc_X5_never zk_X5_never (0, 0)
theorem zo_X5_never : z_okc cX5_never zc_X5_never = true := by decide +kernel
theorem zv_X5_never : z_kd [192, 234] zc_X5_never = true := by decide +kernel
set_option maxRecDepth 20000 in
theorem zt_X5_never (l : Launch) : zCt l yX5_never cX5_never 6 (some .int) (zrm 4 0 0) zF_X5_never := z_ct (own := RX5) (sh := zs_X5_never) (M := zM_X5_never) (cd := zc_X5_never) (cut := zk_X5_never) (by decide +kernel) rfl rfl rfl (z_fl_all zfl_X5_ok) (z_cs_all zcs_X5_ok) zo_X5_never z_nothr (z_hcal (L := zl_X5_never) zv_X5_never (List.forall_mem_cons.mpr ⟨z_calS (l := l) (j := 231) (zt_X5_isVersion l) (by decide +kernel) (by decide +kernel) ⟨by decide +kernel, by decide +kernel, by decide +kernel⟩ (z_room (by omega) (by decide)), List.forall_mem_cons.mpr ⟨z_calS (l := l) (j := 188) (zt_X5_within l) (by decide +kernel) (by decide +kernel) ⟨by decide +kernel, by decide +kernel, by decide +kernel⟩ (z_room (by omega) (by decide)), List.forall_mem_cons.mpr ⟨z_calV (l := l) (j := 192) (C := RX5) (cn := 3) (T := TX5) (N := 47) (zt_X5_may l) (by decide +kernel) (by decide +kernel) rfl ⟨by decide +kernel, by decide +kernel, by decide +kernel⟩ (z_room (by omega) (by decide)) rfl zr_X5_may, List.forall_mem_cons.mpr ⟨z_calV (l := l) (j := 234) (C := RX5) (cn := 3) (T := TX5) (N := 47) (zt_X5_runAll l) (by decide +kernel) (by decide +kernel) rfl ⟨by decide +kernel, by decide +kernel, by decide +kernel⟩ (z_room (by omega) (by decide)) rfl zr_X5_runAll, fun _ h => nomatch h⟩⟩⟩⟩)) (by decide)
theorem zr_X5_never : ∀ vs g r, zF_X5_never vs g = some r → ∃ i rv, vs = .inr (.inl (3, i, 0)) :: rv ∧ i < z_ni 3 := fun vs g r h => z_chk_rec (z_fn_chk (sh := zs_X5_never) h).1 (Or.inl ⟨rfl, by decide⟩)
def zc_X5_noise : zCD := [(0, .aload_n 0, 1, 0), (1, .iconst 0, 2, 0), (2, .putfield 1, 5, 0), (5, .aload_n 0, 6, 0), (6, .iload_n 1, 7, 0), (7, .iconst 0, 8, 0), (8, .iconst 3, 9, 0), (9, .invokestatic 188, 12, 0), (12, .ifCond .eq 17, 15, 29), (15, .iload_n 2, 16, 0), (16, .iconst 0, 17, 0), (17, .bipush 7, 19, 0), (19, .invokestatic 188, 22, 0), (22, .ifCond .eq 7, 25, 29), (25, .iconst 1, 26, 0), (26, .goto 4, 29, 30), (29, .iconst 0, 30, 0), (30, .iconst 1, 31, 0), (31, .invokevirtual 192, 34, 0), (34, .ifCond .ne 5, 37, 39), (37, .iconst 0, 38, 0), (38, .ireturn, 39, 0), (39, .aload_n 0, 40, 0), (40, .getfield 90, 43, 0), (43, .bipush 8, 45, 0), (45, .iload_n 1, 46, 0), (46, .imul, 47, 0), (47, .iload_n 2, 48, 0), (48, .iadd, 49, 0), (49, .baload, 50, 0), (50, .istore 4, 52, 0), (52, .aload_n 0, 53, 0), (53, .getfield 90, 56, 0), (56, .bipush 8, 58, 0), (58, .iload_n 1, 59, 0), (59, .imul, 60, 0), (60, .iload_n 2, 61, 0), (61, .iadd, 62, 0), (62, .iload_n 3, 63, 0), (63, .bastore, 64, 0), (64, .iload 4, 66, 0), (66, .ireturn, 67, 0)]
def zk_X5_noise : List (Nat × List Nat) := []
def zl_X5_noise : List (Nat × zCI) := [(188, (zF_X5_within, 3, 1, 0, 0)), (192, (zF_X5_may, 3, 1, 0, 0))]
def zM_X5_noise : zMI := (z_look zfl_X5, z_look zl_X5_noise, z_look zcs_X5, z_look zth_X5, 5, 2)
def zs_X5_noise : List (Nat × Nat × Nat × Nat) := [(2, 3, 0, 0), (0, 0, 0, 0), (0, 0, 0, 0), (0, 0, 0, 0)]
def zF_X5_noise : List zVV → zSG → Option zRR := z_fn zs_X5_noise zM_X5_noise zc_X5_noise zk_X5_noise (0, 0)
theorem zo_X5_noise : z_okc cX5_noise zc_X5_noise = true := by decide +kernel
theorem zv_X5_noise : z_kd [192] zc_X5_noise = true := by decide +kernel
set_option maxRecDepth 20000 in
theorem zt_X5_noise (l : Launch) : zCt l yX5_noise cX5_noise 5 (some .boolean) (zrm 1 0 0) zF_X5_noise := z_ct (own := RX5) (sh := zs_X5_noise) (M := zM_X5_noise) (cd := zc_X5_noise) (cut := zk_X5_noise) (by decide +kernel) rfl rfl rfl (z_fl_all zfl_X5_ok) (z_cs_all zcs_X5_ok) zo_X5_noise z_nothr (z_hcal (L := zl_X5_noise) zv_X5_noise (List.forall_mem_cons.mpr ⟨z_calS (l := l) (j := 188) (zt_X5_within l) (by decide +kernel) (by decide +kernel) ⟨by decide +kernel, by decide +kernel, by decide +kernel⟩ (z_room (by omega) (by decide)), List.forall_mem_cons.mpr ⟨z_calV (l := l) (j := 192) (C := RX5) (cn := 3) (T := TX5) (N := 47) (zt_X5_may l) (by decide +kernel) (by decide +kernel) rfl ⟨by decide +kernel, by decide +kernel, by decide +kernel⟩ (z_room (by omega) (by decide)) rfl zr_X5_may, fun _ h => nomatch h⟩⟩)) (by decide)
theorem zr_X5_noise : ∀ vs g r, zF_X5_noise vs g = some r → ∃ i rv, vs = .inr (.inl (3, i, 0)) :: rv ∧ i < z_ni 3 := fun vs g r h => z_chk_rec (z_fn_chk (sh := zs_X5_noise) h).1 (Or.inl ⟨rfl, by decide⟩)
def zc_X5_keepAnswers : zCD := [(0, .iconst 0, 1, 0), (1, .istore_n 1, 2, 0), (2, .iload_n 1, 3, 0), (3, .aload_n 0, 4, 0), (4, .getfield 197, 7, 0), (7, .if_icmp .ge 57, 10, 64), (10, .aload_n 0, 11, 0), (11, .getfield 93, 14, 0), (14, .iload_n 1, 15, 0), (15, .aload_n 0, 16, 0), (16, .getfield 62, 19, 0), (19, .iload_n 1, 20, 0), (20, .iaload, 21, 0), (21, .iastore, 22, 0), (22, .iconst 0, 23, 0), (23, .istore_n 2, 24, 0), (24, .iload_n 2, 25, 0), (25, .bipush 8, 27, 0), (27, .if_icmp .ge 31, 30, 58), (30, .aload_n 0, 31, 0), (31, .getfield 96, 34, 0), (34, .bipush 8, 36, 0), (36, .iload_n 1, 37, 0), (37, .imul, 38, 0), (38, .iload_n 2, 39, 0), (39, .iadd, 40, 0), (40, .aload_n 0, 41, 0), (41, .getfield 65, 44, 0), (44, .bipush 8, 46, 0), (46, .iload_n 1, 47, 0), (47, .imul, 48, 0), (48, .iload_n 2, 49, 0), (49, .iadd, 50, 0), (50, .iaload, 51, 0), (51, .iastore, 52, 0), (52, .iinc 2 1, 55, 0), (55, .goto (-31), 58, 24), (58, .iinc 1 1, 61, 0), (61, .goto (-59), 64, 2), (64, .return_, 65, 0)]
def zk_X5_keepAnswers : List (Nat × List Nat) := [(2, [0, 1]), (24, [0, 1, 2])]
def zl_X5_keepAnswers : List (Nat × zCI) := []
def zM_X5_keepAnswers : zMI := (z_look zfl_X5, z_look zl_X5_keepAnswers, z_look zcs_X5, z_look zth_X5, 3, 0)
def zs_X5_keepAnswers : List (Nat × Nat × Nat × Nat) := [(2, 3, 0, 0)]
def zF_X5_keepAnswers : List zVV → zSG → Option zRR := z_fn zs_X5_keepAnswers zM_X5_keepAnswers zc_X5_keepAnswers zk_X5_keepAnswers (0, 0)
theorem zo_X5_keepAnswers : z_okc cX5_keepAnswers zc_X5_keepAnswers = true := by decide +kernel
theorem zv_X5_keepAnswers : z_kd [] zc_X5_keepAnswers = true := by decide +kernel
set_option maxRecDepth 20000 in
theorem zt_X5_keepAnswers (l : Launch) : zCt l yX5_keepAnswers cX5_keepAnswers 3 none (zrm 0 0 0) zF_X5_keepAnswers := z_ct (own := RX5) (sh := zs_X5_keepAnswers) (M := zM_X5_keepAnswers) (cd := zc_X5_keepAnswers) (cut := zk_X5_keepAnswers) (by decide +kernel) rfl rfl rfl (z_fl_all zfl_X5_ok) (z_cs_all zcs_X5_ok) zo_X5_keepAnswers z_nothr (z_hcal (L := zl_X5_keepAnswers) zv_X5_keepAnswers (fun _ h => nomatch h)) (by decide)
theorem zr_X5_keepAnswers : ∀ vs g r, zF_X5_keepAnswers vs g = some r → ∃ i rv, vs = .inr (.inl (3, i, 0)) :: rv ∧ i < z_ni 3 := fun vs g r h => z_chk_rec (z_fn_chk (sh := zs_X5_keepAnswers) h).1 (Or.inl ⟨rfl, by decide⟩)
def zc_X5_learn : zCD := [(0, .aload_n 0, 1, 0), (1, .iconst 0, 2, 0), (2, .putfield 1, 5, 0), (5, .aload_n 0, 6, 0), (6, .iconst 0, 7, 0), (7, .iconst 0, 8, 0), (8, .invokevirtual 234, 11, 0), (11, .aload_n 0, 12, 0), (12, .invokevirtual 237, 15, 0), (15, .aload_n 0, 16, 0), (16, .iconst 0, 17, 0), (17, .ldc 240, 19, 0), (19, .invokevirtual 234, 22, 0), (22, .iconst 0, 23, 0), (23, .istore_n 1, 24, 0), (24, .iconst 0, 25, 0), (25, .istore_n 2, 26, 0), (26, .iload_n 2, 27, 0), (27, .aload_n 0, 28, 0), (28, .getfield 197, 31, 0), (31, .if_icmp .ge 104, 34, 135), (34, .iconst 0, 35, 0), (35, .istore_n 3, 36, 0), (36, .iload_n 3, 37, 0), (37, .aload_n 0, 38, 0), (38, .getfield 62, 41, 0), (41, .iload_n 2, 42, 0), (42, .iaload, 43, 0), (43, .if_icmp .ge 86, 46, 129), (46, .iload_n 3, 47, 0), (47, .aload_n 0, 48, 0), (48, .getfield 93, 51, 0), (51, .iload_n 2, 52, 0), (52, .iaload, 53, 0), (53, .if_icmp .ge 76, 56, 129), (56, .aload_n 0, 57, 0), (57, .getfield 65, 60, 0), (60, .bipush 8, 62, 0), (62, .iload_n 2, 63, 0), (63, .imul, 64, 0), (64, .iload_n 3, 65, 0), (65, .iadd, 66, 0), (66, .iaload, 67, 0), (67, .aload_n 0, 68, 0), (68, .getfield 96, 71, 0), (71, .bipush 8, 73, 0), (73, .iload_n 2, 74, 0), (74, .imul, 75, 0), (75, .iload_n 3, 76, 0), (76, .iadd, 77, 0), (77, .iaload, 78, 0), (78, .if_icmp .eq 45, 81, 123), (81, .aload_n 0, 82, 0), (82, .getfield 90, 85, 0), (85, .bipush 8, 87, 0), (87, .aload_n 0, 88, 0), (88, .getfield 41, 91, 0), (91, .iload_n 2, 92, 0), (92, .iaload, 93, 0), (93, .imul, 94, 0), (94, .iload_n 3, 95, 0), (95, .iadd, 96, 0), (96, .baload, 97, 0), (97, .ifCond .eq 6, 100, 103), (100, .goto 23, 103, 123), (103, .aload_n 0, 104, 0), (104, .getfield 90, 107, 0), (107, .bipush 8, 109, 0), (109, .aload_n 0, 110, 0), (110, .getfield 41, 113, 0), (113, .iload_n 2, 114, 0), (114, .iaload, 115, 0), (115, .imul, 116, 0), (116, .iload_n 3, 117, 0), (117, .iadd, 118, 0), (118, .iconst 1, 119, 0), (119, .bastore, 120, 0), (120, .iinc 1 1, 123, 0), (123, .iinc 3 1, 126, 0), (126, .goto (-90), 129, 36), (129, .iinc 2 1, 132, 0), (132, .goto (-106), 135, 26), (135, .iload_n 1, 136, 0), (136, .ireturn, 137, 0)]
def zk_X5_learn : List (Nat × List Nat) := [(26, [0, 1, 2]), (36, [0, 1, 2, 3])]
def zl_X5_learn : List (Nat × zCI) := [(234, (zF_X5_runAll, 3, 0, 0, 0)), (237, (zF_X5_keepAnswers, 1, 0, 0, 0))]
def zM_X5_learn : zMI := (z_look zfl_X5, z_look zl_X5_learn, z_look zcs_X5, z_look zth_X5, 4, 1)
def zs_X5_learn : List (Nat × Nat × Nat × Nat) := [(2, 3, 0, 0)]
def zF_X5_learn : List zVV → zSG → Option zRR := z_fn zs_X5_learn zM_X5_learn zc_X5_learn zk_X5_learn (0, 0)
theorem zo_X5_learn : z_okc cX5_learn zc_X5_learn = true := by decide +kernel
theorem zv_X5_learn : z_kd [234, 237] zc_X5_learn = true := by decide +kernel
set_option maxRecDepth 20000 in
theorem zt_X5_learn (l : Launch) : zCt l yX5_learn cX5_learn 4 (some .int) (zrm 4 0 0) zF_X5_learn := z_ct (own := RX5) (sh := zs_X5_learn) (M := zM_X5_learn) (cd := zc_X5_learn) (cut := zk_X5_learn) (by decide +kernel) rfl rfl rfl (z_fl_all zfl_X5_ok) (z_cs_all zcs_X5_ok) zo_X5_learn z_nothr (z_hcal (L := zl_X5_learn) zv_X5_learn (List.forall_mem_cons.mpr ⟨z_calV (l := l) (j := 234) (C := RX5) (cn := 3) (T := TX5) (N := 47) (zt_X5_runAll l) (by decide +kernel) (by decide +kernel) rfl ⟨by decide +kernel, by decide +kernel, by decide +kernel⟩ (z_room (by omega) (by decide)) rfl zr_X5_runAll, List.forall_mem_cons.mpr ⟨z_calV (l := l) (j := 237) (C := RX5) (cn := 3) (T := TX5) (N := 47) (zt_X5_keepAnswers l) (by decide +kernel) (by decide +kernel) rfl ⟨by decide +kernel, by decide +kernel, by decide +kernel⟩ (z_room (by omega) (by decide)) rfl zr_X5_keepAnswers, fun _ h => nomatch h⟩⟩)) (by decide)
theorem zr_X5_learn : ∀ vs g r, zF_X5_learn vs g = some r → ∃ i rv, vs = .inr (.inl (3, i, 0)) :: rv ∧ i < z_ni 3 := fun vs g r h => z_chk_rec (z_fn_chk (sh := zs_X5_learn) h).1 (Or.inl ⟨rfl, by decide⟩)
end
section
def zc_X5_unlike : zCD := [(0, .iconst 0, 1, 0), (1, .istore_n 2, 2, 0), (2, .iload_n 2, 3, 0), (3, .aload_n 0, 4, 0), (4, .getfield 62, 7, 0), (7, .iload_n 1, 8, 0), (8, .iaload, 9, 0), (9, .if_icmp .ge 65, 12, 74), (12, .iload_n 2, 13, 0), (13, .aload_n 0, 14, 0), (14, .getfield 93, 17, 0), (17, .iload_n 1, 18, 0), (18, .iaload, 19, 0), (19, .if_icmp .ge 55, 22, 74), (22, .aload_n 0, 23, 0), (23, .getfield 90, 26, 0), (26, .bipush 8, 28, 0), (28, .aload_n 0, 29, 0), (29, .getfield 41, 32, 0), (32, .iload_n 1, 33, 0), (33, .iaload, 34, 0), (34, .imul, 35, 0), (35, .iload_n 2, 36, 0), (36, .iadd, 37, 0), (37, .baload, 38, 0), (38, .ifCond .ne 30, 41, 68), (41, .aload_n 0, 42, 0), (42, .getfield 65, 45, 0), (45, .bipush 8, 47, 0), (47, .iload_n 1, 48, 0), (48, .imul, 49, 0), (49, .iload_n 2, 50, 0), (50, .iadd, 51, 0), (51, .iaload, 52, 0), (52, .aload_n 0, 53, 0), (53, .getfield 96, 56, 0), (56, .bipush 8, 58, 0), (58, .iload_n 1, 59, 0), (59, .imul, 60, 0), (60, .iload_n 2, 61, 0), (61, .iadd, 62, 0), (62, .iaload, 63, 0), (63, .if_icmp .eq 5, 66, 68), (66, .iload_n 2, 67, 0), (67, .ireturn, 68, 0), (68, .iinc 2 1, 71, 0), (71, .goto (-69), 74, 2), (74, .aload_n 0, 75, 0), (75, .getfield 62, 78, 0), (78, .iload_n 1, 79, 0), (79, .iaload, 80, 0), (80, .aload_n 0, 81, 0), (81, .getfield 93, 84, 0), (84, .iload_n 1, 85, 0), (85, .iaload, 86, 0), (86, .if_icmp .ne 7, 89, 93), (89, .iconst (-1), 90, 0), (90, .goto 4, 93, 94), (93, .iload_n 2, 94, 0), (94, .ireturn, 95, 0)]
def zk_X5_unlike : List (Nat × List Nat) := [(2, [0, 1, 2])]
def zl_X5_unlike : List (Nat × zCI) := []
def zM_X5_unlike : zMI := (z_look zfl_X5, z_look zl_X5_unlike, z_look zcs_X5, z_look zth_X5, 3, 1)
def zs_X5_unlike : List (Nat × Nat × Nat × Nat) := [(2, 3, 0, 0), (0, 0, 0, 0)]
def zF_X5_unlike : List zVV → zSG → Option zRR := z_fn zs_X5_unlike zM_X5_unlike zc_X5_unlike zk_X5_unlike (0, 0)
theorem zo_X5_unlike : z_okc cX5_unlike zc_X5_unlike = true := by decide +kernel
theorem zv_X5_unlike : z_kd [] zc_X5_unlike = true := by decide +kernel
set_option maxRecDepth 20000 in
theorem zt_X5_unlike (l : Launch) : zCt l yX5_unlike cX5_unlike 3 (some .int) (zrm 0 0 0) zF_X5_unlike := z_ct (own := RX5) (sh := zs_X5_unlike) (M := zM_X5_unlike) (cd := zc_X5_unlike) (cut := zk_X5_unlike) (by decide +kernel) rfl rfl rfl (z_fl_all zfl_X5_ok) (z_cs_all zcs_X5_ok) zo_X5_unlike z_nothr (z_hcal (L := zl_X5_unlike) zv_X5_unlike (fun _ h => nomatch h)) (by decide)
theorem zr_X5_unlike : ∀ vs g r, zF_X5_unlike vs g = some r → ∃ i rv, vs = .inr (.inl (3, i, 0)) :: rv ∧ i < z_ni 3 := fun vs g r h => z_chk_rec (z_fn_chk (sh := zs_X5_unlike) h).1 (Or.inl ⟨rfl, by decide⟩)
def zc_X5_runBoth : zCD := [(0, .aload_n 0, 1, 0), (1, .iconst 0, 2, 0), (2, .iload_n 1, 3, 0), (3, .iconst 0, 4, 0), (4, .invokevirtual 227, 7, 0), (7, .aload_n 0, 8, 0), (8, .invokevirtual 237, 11, 0), (11, .aload_n 0, 12, 0), (12, .iconst 1, 13, 0), (13, .iload_n 1, 14, 0), (14, .iconst 0, 15, 0), (15, .invokevirtual 227, 18, 0), (18, .return_, 19, 0)]
def zk_X5_runBoth : List (Nat × List Nat) := []
def zl_X5_runBoth : List (Nat × zCI) := [(227, (zF_X5_run, 4, 0, 0, 0)), (237, (zF_X5_keepAnswers, 1, 0, 0, 0))]
def zM_X5_runBoth : zMI := (z_look zfl_X5, z_look zl_X5_runBoth, z_look zcs_X5, z_look zth_X5, 2, 0)
def zs_X5_runBoth : List (Nat × Nat × Nat × Nat) := [(2, 3, 0, 0), (0, 0, 0, 0)]
def zF_X5_runBoth : List zVV → zSG → Option zRR := z_fn zs_X5_runBoth zM_X5_runBoth zc_X5_runBoth zk_X5_runBoth (0, 0)
theorem zo_X5_runBoth : z_okc cX5_runBoth zc_X5_runBoth = true := by decide +kernel
theorem zv_X5_runBoth : z_kd [227, 237] zc_X5_runBoth = true := by decide +kernel
set_option maxRecDepth 20000 in
theorem zt_X5_runBoth (l : Launch) : zCt l yX5_runBoth cX5_runBoth 2 none (zrm 3 0 0) zF_X5_runBoth := z_ct (own := RX5) (sh := zs_X5_runBoth) (M := zM_X5_runBoth) (cd := zc_X5_runBoth) (cut := zk_X5_runBoth) (by decide +kernel) rfl rfl rfl (z_fl_all zfl_X5_ok) (z_cs_all zcs_X5_ok) zo_X5_runBoth z_nothr (z_hcal (L := zl_X5_runBoth) zv_X5_runBoth (List.forall_mem_cons.mpr ⟨z_calV (l := l) (j := 227) (C := RX5) (cn := 3) (T := TX5) (N := 47) (zt_X5_run l) (by decide +kernel) (by decide +kernel) rfl ⟨by decide +kernel, by decide +kernel, by decide +kernel⟩ (z_room (by omega) (by decide)) rfl zr_X5_run, List.forall_mem_cons.mpr ⟨z_calV (l := l) (j := 237) (C := RX5) (cn := 3) (T := TX5) (N := 47) (zt_X5_keepAnswers l) (by decide +kernel) (by decide +kernel) rfl ⟨by decide +kernel, by decide +kernel, by decide +kernel⟩ (z_room (by omega) (by decide)) rfl zr_X5_keepAnswers, fun _ h => nomatch h⟩⟩)) (by decide)
theorem zr_X5_runBoth : ∀ vs g r, zF_X5_runBoth vs g = some r → ∃ i rv, vs = .inr (.inl (3, i, 0)) :: rv ∧ i < z_ni 3 := fun vs g r h => z_chk_rec (z_fn_chk (sh := zs_X5_runBoth) h).1 (Or.inl ⟨rfl, by decide⟩)
def zc_X5_runBothAll : zCD := [(0, .aload_n 0, 1, 0), (1, .invokevirtual 224, 4, 0), (4, .aload_n 0, 5, 0), (5, .iconst 1, 6, 0), (6, .aload_n 0, 7, 0), (7, .getfield 197, 10, 0), (10, .ishl, 11, 0), (11, .iconst 1, 12, 0), (12, .isub, 13, 0), (13, .invokevirtual 241, 16, 0), (16, .return_, 17, 0)]
def zk_X5_runBothAll : List (Nat × List Nat) := []
def zl_X5_runBothAll : List (Nat × zCI) := [(224, (zF_X5_findLine, 1, 0, 0, 0)), (241, (zF_X5_runBoth, 2, 0, 0, 0))]
def zM_X5_runBothAll : zMI := (z_look zfl_X5, z_look zl_X5_runBothAll, z_look zcs_X5, z_look zth_X5, 1, 0)
def zs_X5_runBothAll : List (Nat × Nat × Nat × Nat) := [(2, 3, 0, 0)]
def zF_X5_runBothAll : List zVV → zSG → Option zRR := z_fn zs_X5_runBothAll zM_X5_runBothAll zc_X5_runBothAll zk_X5_runBothAll (0, 0)
theorem zo_X5_runBothAll : z_okc cX5_runBothAll zc_X5_runBothAll = true := by decide +kernel
theorem zv_X5_runBothAll : z_kd [224, 241] zc_X5_runBothAll = true := by decide +kernel
set_option maxRecDepth 20000 in
theorem zt_X5_runBothAll (l : Launch) : zCt l yX5_runBothAll cX5_runBothAll 1 none (zrm 4 0 0) zF_X5_runBothAll := z_ct (own := RX5) (sh := zs_X5_runBothAll) (M := zM_X5_runBothAll) (cd := zc_X5_runBothAll) (cut := zk_X5_runBothAll) (by decide +kernel) rfl rfl rfl (z_fl_all zfl_X5_ok) (z_cs_all zcs_X5_ok) zo_X5_runBothAll z_nothr (z_hcal (L := zl_X5_runBothAll) zv_X5_runBothAll (List.forall_mem_cons.mpr ⟨z_calV (l := l) (j := 224) (C := RX5) (cn := 3) (T := TX5) (N := 47) (zt_X5_findLine l) (by decide +kernel) (by decide +kernel) rfl ⟨by decide +kernel, by decide +kernel, by decide +kernel⟩ (z_room (by omega) (by decide)) rfl zr_X5_findLine, List.forall_mem_cons.mpr ⟨z_calV (l := l) (j := 241) (C := RX5) (cn := 3) (T := TX5) (N := 47) (zt_X5_runBoth l) (by decide +kernel) (by decide +kernel) rfl ⟨by decide +kernel, by decide +kernel, by decide +kernel⟩ (z_room (by omega) (by decide)) rfl zr_X5_runBoth, fun _ h => nomatch h⟩⟩)) (by decide)
theorem zr_X5_runBothAll : ∀ vs g r, zF_X5_runBothAll vs g = some r → ∃ i rv, vs = .inr (.inl (3, i, 0)) :: rv ∧ i < z_ni 3 := fun vs g r h => z_chk_rec (z_fn_chk (sh := zs_X5_runBothAll) h).1 (Or.inl ⟨rfl, by decide⟩)
def zc_X5_differs : zCD := [(0, .aload_n 0, 1, 0), (1, .iconst 0, 2, 0), (2, .putfield 1, 5, 0), (5, .aload_n 0, 6, 0), (6, .iload_n 1, 7, 0), (7, .invokevirtual 200, 10, 0), (10, .ifCond .ne 5, 13, 15), (13, .iconst 0, 14, 0), (14, .ireturn, 15, 0), (15, .aload_n 0, 16, 0), (16, .invokevirtual 244, 19, 0), (19, .aload_n 0, 20, 0), (20, .iload_n 1, 21, 0), (21, .invokevirtual 247, 24, 0), (24, .ireturn, 25, 0)]
def zk_X5_differs : List (Nat × List Nat) := []
def zl_X5_differs : List (Nat × zCI) := [(200, (zF_X5_isAsk, 2, 1, 0, 0)), (244, (zF_X5_runBothAll, 1, 0, 0, 0)), (247, (zF_X5_unlike, 2, 1, 0, 0))]
def zM_X5_differs : zMI := (z_look zfl_X5, z_look zl_X5_differs, z_look zcs_X5, z_look zth_X5, 2, 1)
def zs_X5_differs : List (Nat × Nat × Nat × Nat) := [(2, 3, 0, 0), (0, 0, 0, 0)]
def zF_X5_differs : List zVV → zSG → Option zRR := z_fn zs_X5_differs zM_X5_differs zc_X5_differs zk_X5_differs (0, 0)
theorem zo_X5_differs : z_okc cX5_differs zc_X5_differs = true := by decide +kernel
theorem zv_X5_differs : z_kd [200, 244, 247] zc_X5_differs = true := by decide +kernel
set_option maxRecDepth 20000 in
theorem zt_X5_differs (l : Launch) : zCt l yX5_differs cX5_differs 2 (some .int) (zrm 5 0 0) zF_X5_differs := z_ct (own := RX5) (sh := zs_X5_differs) (M := zM_X5_differs) (cd := zc_X5_differs) (cut := zk_X5_differs) (by decide +kernel) rfl rfl rfl (z_fl_all zfl_X5_ok) (z_cs_all zcs_X5_ok) zo_X5_differs z_nothr (z_hcal (L := zl_X5_differs) zv_X5_differs (List.forall_mem_cons.mpr ⟨z_calV (l := l) (j := 200) (C := RX5) (cn := 3) (T := TX5) (N := 47) (zt_X5_isAsk l) (by decide +kernel) (by decide +kernel) rfl ⟨by decide +kernel, by decide +kernel, by decide +kernel⟩ (z_room (by omega) (by decide)) rfl zr_X5_isAsk, List.forall_mem_cons.mpr ⟨z_calV (l := l) (j := 244) (C := RX5) (cn := 3) (T := TX5) (N := 47) (zt_X5_runBothAll l) (by decide +kernel) (by decide +kernel) rfl ⟨by decide +kernel, by decide +kernel, by decide +kernel⟩ (z_room (by omega) (by decide)) rfl zr_X5_runBothAll, List.forall_mem_cons.mpr ⟨z_calV (l := l) (j := 247) (C := RX5) (cn := 3) (T := TX5) (N := 47) (zt_X5_unlike l) (by decide +kernel) (by decide +kernel) rfl ⟨by decide +kernel, by decide +kernel, by decide +kernel⟩ (z_room (by omega) (by decide)) rfl zr_X5_unlike, fun _ h => nomatch h⟩⟩⟩)) (by decide)
theorem zr_X5_differs : ∀ vs g r, zF_X5_differs vs g = some r → ∃ i rv, vs = .inr (.inl (3, i, 0)) :: rv ∧ i < z_ni 3 := fun vs g r h => z_chk_rec (z_fn_chk (sh := zs_X5_differs) h).1 (Or.inl ⟨rfl, by decide⟩)
def zc_X5_findWheres : zCD := [(0, .aload_n 0, 1, 0), (1, .invokevirtual 244, 4, 0), (4, .iconst 0, 5, 0), (5, .istore_n 1, 6, 0), (6, .iload_n 1, 7, 0), (7, .aload_n 0, 8, 0), (8, .getfield 197, 11, 0), (11, .if_icmp .ge 20, 14, 31), (14, .aload_n 0, 15, 0), (15, .getfield 99, 18, 0), (18, .iload_n 1, 19, 0), (19, .aload_n 0, 20, 0), (20, .iload_n 1, 21, 0), (21, .invokevirtual 247, 24, 0), (24, .iastore, 25, 0), (25, .iinc 1 1, 28, 0), (28, .goto (-22), 31, 6), (31, .return_, 32, 0)]
def zk_X5_findWheres : List (Nat × List Nat) := [(6, [0, 1])]
def zl_X5_findWheres : List (Nat × zCI) := [(244, (zF_X5_runBothAll, 1, 0, 0, 0)), (247, (zF_X5_unlike, 2, 1, 0, 0))]
def zM_X5_findWheres : zMI := (z_look zfl_X5, z_look zl_X5_findWheres, z_look zcs_X5, z_look zth_X5, 2, 0)
def zs_X5_findWheres : List (Nat × Nat × Nat × Nat) := [(2, 3, 0, 0)]
def zF_X5_findWheres : List zVV → zSG → Option zRR := z_fn zs_X5_findWheres zM_X5_findWheres zc_X5_findWheres zk_X5_findWheres (0, 0)
theorem zo_X5_findWheres : z_okc cX5_findWheres zc_X5_findWheres = true := by decide +kernel
theorem zv_X5_findWheres : z_kd [244, 247] zc_X5_findWheres = true := by decide +kernel
set_option maxRecDepth 20000 in
theorem zt_X5_findWheres (l : Launch) : zCt l yX5_findWheres cX5_findWheres 2 none (zrm 5 0 0) zF_X5_findWheres := z_ct (own := RX5) (sh := zs_X5_findWheres) (M := zM_X5_findWheres) (cd := zc_X5_findWheres) (cut := zk_X5_findWheres) (by decide +kernel) rfl rfl rfl (z_fl_all zfl_X5_ok) (z_cs_all zcs_X5_ok) zo_X5_findWheres z_nothr (z_hcal (L := zl_X5_findWheres) zv_X5_findWheres (List.forall_mem_cons.mpr ⟨z_calV (l := l) (j := 244) (C := RX5) (cn := 3) (T := TX5) (N := 47) (zt_X5_runBothAll l) (by decide +kernel) (by decide +kernel) rfl ⟨by decide +kernel, by decide +kernel, by decide +kernel⟩ (z_room (by omega) (by decide)) rfl zr_X5_runBothAll, List.forall_mem_cons.mpr ⟨z_calV (l := l) (j := 247) (C := RX5) (cn := 3) (T := TX5) (N := 47) (zt_X5_unlike l) (by decide +kernel) (by decide +kernel) rfl ⟨by decide +kernel, by decide +kernel, by decide +kernel⟩ (z_room (by omega) (by decide)) rfl zr_X5_unlike, fun _ h => nomatch h⟩⟩)) (by decide)
theorem zr_X5_findWheres : ∀ vs g r, zF_X5_findWheres vs g = some r → ∃ i rv, vs = .inr (.inl (3, i, 0)) :: rv ∧ i < z_ni 3 := fun vs g r h => z_chk_rec (z_fn_chk (sh := zs_X5_findWheres) h).1 (Or.inl ⟨rfl, by decide⟩)
def zc_X5_isLike : zCD := [(0, .aload_n 0, 1, 0), (1, .getfield 99, 4, 0), (4, .iload_n 1, 5, 0), (5, .iaload, 6, 0), (6, .iconst (-1), 7, 0), (7, .if_icmp .eq 37, 10, 44), (10, .aload_n 0, 11, 0), (11, .getfield 41, 14, 0), (14, .iload_n 1, 15, 0), (15, .iaload, 16, 0), (16, .aload_n 0, 17, 0), (17, .getfield 41, 20, 0), (20, .iload_n 2, 21, 0), (21, .iaload, 22, 0), (22, .if_icmp .ne 22, 25, 44), (25, .aload_n 0, 26, 0), (26, .getfield 99, 29, 0), (29, .iload_n 1, 30, 0), (30, .iaload, 31, 0), (31, .aload_n 0, 32, 0), (32, .getfield 99, 35, 0), (35, .iload_n 2, 36, 0), (36, .iaload, 37, 0), (37, .if_icmp .ne 7, 40, 44), (40, .iconst 1, 41, 0), (41, .goto 4, 44, 45), (44, .iconst 0, 45, 0), (45, .ireturn, 46, 0)]
def zk_X5_isLike : List (Nat × List Nat) := []
def zl_X5_isLike : List (Nat × zCI) := []
def zM_X5_isLike : zMI := (z_look zfl_X5, z_look zl_X5_isLike, z_look zcs_X5, z_look zth_X5, 3, 2)
def zs_X5_isLike : List (Nat × Nat × Nat × Nat) := [(2, 3, 0, 0), (0, 0, 0, 0), (0, 0, 0, 0)]
def zF_X5_isLike : List zVV → zSG → Option zRR := z_fn zs_X5_isLike zM_X5_isLike zc_X5_isLike zk_X5_isLike (0, 0)
theorem zo_X5_isLike : z_okc cX5_isLike zc_X5_isLike = true := by decide +kernel
theorem zv_X5_isLike : z_kd [] zc_X5_isLike = true := by decide +kernel
set_option maxRecDepth 20000 in
theorem zt_X5_isLike (l : Launch) : zCt l yX5_isLike cX5_isLike 3 (some .boolean) (zrm 0 0 0) zF_X5_isLike := z_ct (own := RX5) (sh := zs_X5_isLike) (M := zM_X5_isLike) (cd := zc_X5_isLike) (cut := zk_X5_isLike) (by decide +kernel) rfl rfl rfl (z_fl_all zfl_X5_ok) (z_cs_all zcs_X5_ok) zo_X5_isLike z_nothr (z_hcal (L := zl_X5_isLike) zv_X5_isLike (fun _ h => nomatch h)) (by decide)
theorem zr_X5_isLike : ∀ vs g r, zF_X5_isLike vs g = some r → ∃ i rv, vs = .inr (.inl (3, i, 0)) :: rv ∧ i < z_ni 3 := fun vs g r h => z_chk_rec (z_fn_chk (sh := zs_X5_isLike) h).1 (Or.inl ⟨rfl, by decide⟩)
def zc_X5_isLowest : zCD := [(0, .aload_n 0, 1, 0), (1, .getfield 99, 4, 0), (4, .iload_n 1, 5, 0), (5, .iaload, 6, 0), (6, .iconst (-1), 7, 0), (7, .if_icmp .ne 5, 10, 12), (10, .iconst 0, 11, 0), (11, .ireturn, 12, 0), (12, .iconst 0, 13, 0), (13, .istore_n 2, 14, 0), (14, .iload_n 2, 15, 0), (15, .iload_n 1, 16, 0), (16, .if_icmp .ge 20, 19, 36), (19, .aload_n 0, 20, 0), (20, .iload_n 2, 21, 0), (21, .iload_n 1, 22, 0), (22, .invokevirtual 251, 25, 0), (25, .ifCond .eq 5, 28, 30), (28, .iconst 0, 29, 0), (29, .ireturn, 30, 0), (30, .iinc 2 1, 33, 0), (33, .goto (-19), 36, 14), (36, .iconst 1, 37, 0), (37, .ireturn, 38, 0)]
def zk_X5_isLowest : List (Nat × List Nat) := [(14, [0, 1, 2])]
def zl_X5_isLowest : List (Nat × zCI) := [(251, (zF_X5_isLike, 3, 1, 0, 0))]
def zM_X5_isLowest : zMI := (z_look zfl_X5, z_look zl_X5_isLowest, z_look zcs_X5, z_look zth_X5, 3, 2)
def zs_X5_isLowest : List (Nat × Nat × Nat × Nat) := [(2, 3, 0, 0), (0, 0, 0, 0)]
def zF_X5_isLowest : List zVV → zSG → Option zRR := z_fn zs_X5_isLowest zM_X5_isLowest zc_X5_isLowest zk_X5_isLowest (0, 0)
theorem zo_X5_isLowest : z_okc cX5_isLowest zc_X5_isLowest = true := by decide +kernel
theorem zv_X5_isLowest : z_kd [251] zc_X5_isLowest = true := by decide +kernel
set_option maxRecDepth 20000 in
theorem zt_X5_isLowest (l : Launch) : zCt l yX5_isLowest cX5_isLowest 3 (some .boolean) (zrm 1 0 0) zF_X5_isLowest := z_ct (own := RX5) (sh := zs_X5_isLowest) (M := zM_X5_isLowest) (cd := zc_X5_isLowest) (cut := zk_X5_isLowest) (by decide +kernel) rfl rfl rfl (z_fl_all zfl_X5_ok) (z_cs_all zcs_X5_ok) zo_X5_isLowest z_nothr (z_hcal (L := zl_X5_isLowest) zv_X5_isLowest (List.forall_mem_cons.mpr ⟨z_calV (l := l) (j := 251) (C := RX5) (cn := 3) (T := TX5) (N := 47) (zt_X5_isLike l) (by decide +kernel) (by decide +kernel) rfl ⟨by decide +kernel, by decide +kernel, by decide +kernel⟩ (z_room (by omega) (by decide)) rfl zr_X5_isLike, fun _ h => nomatch h⟩)) (by decide)
theorem zr_X5_isLowest : ∀ vs g r, zF_X5_isLowest vs g = some r → ∃ i rv, vs = .inr (.inl (3, i, 0)) :: rv ∧ i < z_ni 3 := fun vs g r h => z_chk_rec (z_fn_chk (sh := zs_X5_isLowest) h).1 (Or.inl ⟨rfl, by decide⟩)
def zc_X5_shapes : zCD := [(0, .aload_n 0, 1, 0), (1, .iconst 0, 2, 0), (2, .putfield 1, 5, 0), (5, .aload_n 0, 6, 0), (6, .invokevirtual 255, 9, 0), (9, .iconst 0, 10, 0), (10, .istore_n 1, 11, 0), (11, .iconst 0, 12, 0), (12, .istore_n 2, 13, 0), (13, .iload_n 2, 14, 0), (14, .aload_n 0, 15, 0), (15, .getfield 197, 18, 0), (18, .if_icmp .ge 25, 21, 43), (21, .iload_n 1, 22, 0), (22, .aload_n 0, 23, 0), (23, .iload_n 2, 24, 0), (24, .invokevirtual 258, 27, 0), (27, .ifCond .eq 7, 30, 34), (30, .iconst 1, 31, 0), (31, .goto 4, 34, 35), (34, .iconst 0, 35, 0), (35, .iadd, 36, 0), (36, .istore_n 1, 37, 0), (37, .iinc 2 1, 40, 0), (40, .goto (-27), 43, 13), (43, .iload_n 1, 44, 0), (44, .ireturn, 45, 0)]
def zk_X5_shapes : List (Nat × List Nat) := [(13, [0, 1, 2])]
def zl_X5_shapes : List (Nat × zCI) := [(255, (zF_X5_findWheres, 1, 0, 0, 0)), (258, (zF_X5_isLowest, 2, 1, 0, 0))]
def zM_X5_shapes : zMI := (z_look zfl_X5, z_look zl_X5_shapes, z_look zcs_X5, z_look zth_X5, 3, 1)
def zs_X5_shapes : List (Nat × Nat × Nat × Nat) := [(2, 3, 0, 0)]
def zF_X5_shapes : List zVV → zSG → Option zRR := z_fn zs_X5_shapes zM_X5_shapes zc_X5_shapes zk_X5_shapes (0, 0)
theorem zo_X5_shapes : z_okc cX5_shapes zc_X5_shapes = true := by decide +kernel
theorem zv_X5_shapes : z_kd [255, 258] zc_X5_shapes = true := by decide +kernel
set_option maxRecDepth 20000 in
theorem zt_X5_shapes (l : Launch) : zCt l yX5_shapes cX5_shapes 3 (some .int) (zrm 6 0 0) zF_X5_shapes := z_ct (own := RX5) (sh := zs_X5_shapes) (M := zM_X5_shapes) (cd := zc_X5_shapes) (cut := zk_X5_shapes) (by decide +kernel) rfl rfl rfl (z_fl_all zfl_X5_ok) (z_cs_all zcs_X5_ok) zo_X5_shapes z_nothr (z_hcal (L := zl_X5_shapes) zv_X5_shapes (List.forall_mem_cons.mpr ⟨z_calV (l := l) (j := 255) (C := RX5) (cn := 3) (T := TX5) (N := 47) (zt_X5_findWheres l) (by decide +kernel) (by decide +kernel) rfl ⟨by decide +kernel, by decide +kernel, by decide +kernel⟩ (z_room (by omega) (by decide)) rfl zr_X5_findWheres, List.forall_mem_cons.mpr ⟨z_calV (l := l) (j := 258) (C := RX5) (cn := 3) (T := TX5) (N := 47) (zt_X5_isLowest l) (by decide +kernel) (by decide +kernel) rfl ⟨by decide +kernel, by decide +kernel, by decide +kernel⟩ (z_room (by omega) (by decide)) rfl zr_X5_isLowest, fun _ h => nomatch h⟩⟩)) (by decide)
theorem zr_X5_shapes : ∀ vs g r, zF_X5_shapes vs g = some r → ∃ i rv, vs = .inr (.inl (3, i, 0)) :: rv ∧ i < z_ni 3 := fun vs g r h => z_chk_rec (z_fn_chk (sh := zs_X5_shapes) h).1 (Or.inl ⟨rfl, by decide⟩)
def zc_X5_shape : zCD := [(0, .aload_n 0, 1, 0), (1, .iconst 0, 2, 0), (2, .putfield 1, 5, 0), (5, .aload_n 0, 6, 0), (6, .iload_n 2, 7, 0), (7, .iconst 0, 8, 0), (8, .iconst 3, 9, 0), (9, .invokestatic 188, 12, 0), (12, .iconst 1, 13, 0), (13, .invokevirtual 192, 16, 0), (16, .ifCond .ne 5, 19, 21), (19, .iconst 0, 20, 0), (20, .ireturn, 21, 0), (21, .aload_n 0, 22, 0), (22, .invokevirtual 255, 25, 0), (25, .iconst 0, 26, 0), (26, .istore_n 3, 27, 0), (27, .iconst 0, 28, 0), (28, .istore 4, 30, 0), (30, .iload 4, 32, 0), (32, .aload_n 0, 33, 0), (33, .getfield 197, 36, 0), (36, .if_icmp .ge 113, 39, 149), (39, .aload_n 0, 40, 0), (40, .iload 4, 42, 0), (42, .invokevirtual 258, 45, 0), (45, .ifCond .ne 6, 48, 51), (48, .goto 95, 51, 143), (51, .iload_n 3, 52, 0), (52, .iload_n 1, 53, 0), (53, .if_icmp .ne 87, 56, 140), (56, .iconst 0, 57, 0), (57, .istore 5, 59, 0), (59, .iconst 0, 60, 0), (60, .istore 6, 62, 0), (62, .iload 6, 64, 0), (64, .aload_n 0, 65, 0), (65, .getfield 197, 68, 0), (68, .if_icmp .ge 30, 71, 98), (71, .iload 5, 73, 0), (73, .aload_n 0, 74, 0), (74, .iload 4, 76, 0), (76, .iload 6, 78, 0), (78, .invokevirtual 251, 81, 0), (81, .ifCond .eq 7, 84, 88), (84, .iconst 1, 85, 0), (85, .goto 4, 88, 89), (88, .iconst 0, 89, 0), (89, .iadd, 90, 0), (90, .istore 5, 92, 0), (92, .iinc 6 1, 95, 0), (95, .goto (-33), 98, 62), (98, .iload_n 2, 99, 0), (99, .ifCond .ne 13, 102, 112), (102, .aload_n 0, 103, 0), (103, .getfield 41, 106, 0), (106, .iload 4, 108, 0), (108, .iaload, 109, 0), (109, .goto 30, 112, 139), (112, .iload_n 2, 113, 0), (113, .iconst 1, 114, 0), (114, .if_icmp .ne 13, 117, 127), (117, .aload_n 0, 118, 0), (118, .getfield 99, 121, 0), (121, .iload 4, 123, 0), (123, .iaload, 124, 0), (124, .goto 15, 127, 139), (127, .iload_n 2, 128, 0), (128, .iconst 2, 129, 0), (129, .if_icmp .ne 8, 132, 137), (132, .iload 5, 134, 0), (134, .goto 5, 137, 139), (137, .iload 4, 139, 0), (139, .ireturn, 140, 0), (140, .iinc 3 1, 143, 0), (143, .iinc 4 1, 146, 0), (146, .goto (-116), 149, 30), (149, .iconst (-1), 150, 0), (150, .ireturn, 151, 0)]
def zk_X5_shape : List (Nat × List Nat) := [(30, [0, 1, 2, 3, 4]), (62, [0, 2, 4, 5, 6])]
def zl_X5_shape : List (Nat × zCI) := [(188, (zF_X5_within, 3, 1, 0, 0)), (192, (zF_X5_may, 3, 1, 0, 0)), (255, (zF_X5_findWheres, 1, 0, 0, 0)), (258, (zF_X5_isLowest, 2, 1, 0, 0)), (251, (zF_X5_isLike, 3, 1, 0, 0))]
def zM_X5_shape : zMI := (z_look zfl_X5, z_look zl_X5_shape, z_look zcs_X5, z_look zth_X5, 7, 1)
def zs_X5_shape : List (Nat × Nat × Nat × Nat) := [(2, 3, 0, 0), (0, 0, 0, 0), (0, 0, 0, 0)]
def zF_X5_shape : List zVV → zSG → Option zRR := z_fn zs_X5_shape zM_X5_shape zc_X5_shape zk_X5_shape (0, 0)
theorem zo_X5_shape : z_okc cX5_shape zc_X5_shape = true := by decide +kernel
theorem zv_X5_shape : z_kd [192, 255, 258, 251] zc_X5_shape = true := by decide +kernel
set_option maxRecDepth 20000 in
theorem zt_X5_shape (l : Launch) : zCt l yX5_shape cX5_shape 7 (some .int) (zrm 6 0 0) zF_X5_shape := z_ct (own := RX5) (sh := zs_X5_shape) (M := zM_X5_shape) (cd := zc_X5_shape) (cut := zk_X5_shape) (by decide +kernel) rfl rfl rfl (z_fl_all zfl_X5_ok) (z_cs_all zcs_X5_ok) zo_X5_shape z_nothr (z_hcal (L := zl_X5_shape) zv_X5_shape (List.forall_mem_cons.mpr ⟨z_calS (l := l) (j := 188) (zt_X5_within l) (by decide +kernel) (by decide +kernel) ⟨by decide +kernel, by decide +kernel, by decide +kernel⟩ (z_room (by omega) (by decide)), List.forall_mem_cons.mpr ⟨z_calV (l := l) (j := 192) (C := RX5) (cn := 3) (T := TX5) (N := 47) (zt_X5_may l) (by decide +kernel) (by decide +kernel) rfl ⟨by decide +kernel, by decide +kernel, by decide +kernel⟩ (z_room (by omega) (by decide)) rfl zr_X5_may, List.forall_mem_cons.mpr ⟨z_calV (l := l) (j := 255) (C := RX5) (cn := 3) (T := TX5) (N := 47) (zt_X5_findWheres l) (by decide +kernel) (by decide +kernel) rfl ⟨by decide +kernel, by decide +kernel, by decide +kernel⟩ (z_room (by omega) (by decide)) rfl zr_X5_findWheres, List.forall_mem_cons.mpr ⟨z_calV (l := l) (j := 258) (C := RX5) (cn := 3) (T := TX5) (N := 47) (zt_X5_isLowest l) (by decide +kernel) (by decide +kernel) rfl ⟨by decide +kernel, by decide +kernel, by decide +kernel⟩ (z_room (by omega) (by decide)) rfl zr_X5_isLowest, List.forall_mem_cons.mpr ⟨z_calV (l := l) (j := 251) (C := RX5) (cn := 3) (T := TX5) (N := 47) (zt_X5_isLike l) (by decide +kernel) (by decide +kernel) rfl ⟨by decide +kernel, by decide +kernel, by decide +kernel⟩ (z_room (by omega) (by decide)) rfl zr_X5_isLike, fun _ h => nomatch h⟩⟩⟩⟩⟩)) (by decide)
theorem zr_X5_shape : ∀ vs g r, zF_X5_shape vs g = some r → ∃ i rv, vs = .inr (.inl (3, i, 0)) :: rv ∧ i < z_ni 3 := fun vs g r h => z_chk_rec (z_fn_chk (sh := zs_X5_shape) h).1 (Or.inl ⟨rfl, by decide⟩)
def zc_X5_areTouching : zCD := [(0, .iload_n 1, 1, 0), (1, .iload_n 2, 2, 0), (2, .if_icmp .ne 5, 5, 7), (5, .iconst 0, 6, 0), (6, .ireturn, 7, 0), (7, .aload_n 0, 8, 0), (8, .getfield 71, 11, 0), (11, .iload_n 1, 12, 0), (12, .iaload, 13, 0), (13, .aload_n 0, 14, 0), (14, .getfield 68, 17, 0), (17, .iload_n 2, 18, 0), (18, .iaload, 19, 0), (19, .aload_n 0, 20, 0), (20, .getfield 71, 23, 0), (23, .iload_n 2, 24, 0), (24, .iaload, 25, 0), (25, .ior, 26, 0), (26, .iand, 27, 0), (27, .ifCond .ne 26, 30, 53), (30, .aload_n 0, 31, 0), (31, .getfield 71, 34, 0), (34, .iload_n 2, 35, 0), (35, .iaload, 36, 0), (36, .aload_n 0, 37, 0), (37, .getfield 68, 40, 0), (40, .iload_n 1, 41, 0), (41, .iaload, 42, 0), (42, .aload_n 0, 43, 0), (43, .getfield 71, 46, 0), (46, .iload_n 1, 47, 0), (47, .iaload, 48, 0), (48, .ior, 49, 0), (49, .iand, 50, 0), (50, .ifCond .eq 7, 53, 57), (53, .iconst 1, 54, 0), (54, .goto 4, 57, 58), (57, .iconst 0, 58, 0), (58, .istore_n 3, 59, 0), (59, .iload_n 3, 60, 0), (60, .ifCond .ne 23, 63, 83), (63, .aload_n 0, 64, 0), (64, .getfield 53, 67, 0), (67, .iload_n 1, 68, 0), (68, .iaload, 69, 0), (69, .iload_n 2, 70, 0), (70, .if_icmp .eq 13, 73, 83), (73, .aload_n 0, 74, 0), (74, .getfield 53, 77, 0), (77, .iload_n 2, 78, 0), (78, .iaload, 79, 0), (79, .iload_n 1, 80, 0), (80, .if_icmp .ne 7, 83, 87), (83, .iconst 1, 84, 0), (84, .goto 4, 87, 88), (87, .iconst 0, 88, 0), (88, .ireturn, 89, 0)]
def zk_X5_areTouching : List (Nat × List Nat) := []
def zl_X5_areTouching : List (Nat × zCI) := []
def zM_X5_areTouching : zMI := (z_look zfl_X5, z_look zl_X5_areTouching, z_look zcs_X5, z_look zth_X5, 4, 2)
def zs_X5_areTouching : List (Nat × Nat × Nat × Nat) := [(2, 3, 0, 0), (0, 0, 0, 0), (0, 0, 0, 0)]
def zF_X5_areTouching : List zVV → zSG → Option zRR := z_fn zs_X5_areTouching zM_X5_areTouching zc_X5_areTouching zk_X5_areTouching (0, 0)
theorem zo_X5_areTouching : z_okc cX5_areTouching zc_X5_areTouching = true := by decide +kernel
theorem zv_X5_areTouching : z_kd [] zc_X5_areTouching = true := by decide +kernel
set_option maxRecDepth 20000 in
theorem zt_X5_areTouching (l : Launch) : zCt l yX5_areTouching cX5_areTouching 4 (some .boolean) (zrm 0 0 0) zF_X5_areTouching := z_ct (own := RX5) (sh := zs_X5_areTouching) (M := zM_X5_areTouching) (cd := zc_X5_areTouching) (cut := zk_X5_areTouching) (by decide +kernel) rfl rfl rfl (z_fl_all zfl_X5_ok) (z_cs_all zcs_X5_ok) zo_X5_areTouching z_nothr (z_hcal (L := zl_X5_areTouching) zv_X5_areTouching (fun _ h => nomatch h)) (by decide)
theorem zr_X5_areTouching : ∀ vs g r, zF_X5_areTouching vs g = some r → ∃ i rv, vs = .inr (.inl (3, i, 0)) :: rv ∧ i < z_ni 3 := fun vs g r h => z_chk_rec (z_fn_chk (sh := zs_X5_areTouching) h).1 (Or.inl ⟨rfl, by decide⟩)
def zc_X5_touch : zCD := [(0, .aload_n 0, 1, 0), (1, .iconst 0, 2, 0), (2, .putfield 1, 5, 0), (5, .aload_n 0, 6, 0), (6, .iload_n 1, 7, 0), (7, .invokevirtual 200, 10, 0), (10, .ifCond .eq 11, 13, 21), (13, .aload_n 0, 14, 0), (14, .iload_n 2, 15, 0), (15, .invokevirtual 200, 18, 0), (18, .ifCond .ne 5, 21, 23), (21, .iconst 0, 22, 0), (22, .ireturn, 23, 0), (23, .aload_n 0, 24, 0), (24, .iconst 0, 25, 0), (25, .iconst 0, 26, 0), (26, .invokevirtual 234, 29, 0), (29, .aload_n 0, 30, 0), (30, .iload_n 1, 31, 0), (31, .iload_n 2, 32, 0), (32, .invokevirtual 261, 35, 0), (35, .ireturn, 36, 0)]
def zk_X5_touch : List (Nat × List Nat) := []
def zl_X5_touch : List (Nat × zCI) := [(200, (zF_X5_isAsk, 2, 1, 0, 0)), (234, (zF_X5_runAll, 3, 0, 0, 0)), (261, (zF_X5_areTouching, 3, 1, 0, 0))]
def zM_X5_touch : zMI := (z_look zfl_X5, z_look zl_X5_touch, z_look zcs_X5, z_look zth_X5, 3, 2)
def zs_X5_touch : List (Nat × Nat × Nat × Nat) := [(2, 3, 0, 0), (0, 0, 0, 0), (0, 0, 0, 0)]
def zF_X5_touch : List zVV → zSG → Option zRR := z_fn zs_X5_touch zM_X5_touch zc_X5_touch zk_X5_touch (0, 0)
theorem zo_X5_touch : z_okc cX5_touch zc_X5_touch = true := by decide +kernel
theorem zv_X5_touch : z_kd [200, 234, 261] zc_X5_touch = true := by decide +kernel
set_option maxRecDepth 20000 in
theorem zt_X5_touch (l : Launch) : zCt l yX5_touch cX5_touch 3 (some .boolean) (zrm 4 0 0) zF_X5_touch := z_ct (own := RX5) (sh := zs_X5_touch) (M := zM_X5_touch) (cd := zc_X5_touch) (cut := zk_X5_touch) (by decide +kernel) rfl rfl rfl (z_fl_all zfl_X5_ok) (z_cs_all zcs_X5_ok) zo_X5_touch z_nothr (z_hcal (L := zl_X5_touch) zv_X5_touch (List.forall_mem_cons.mpr ⟨z_calV (l := l) (j := 200) (C := RX5) (cn := 3) (T := TX5) (N := 47) (zt_X5_isAsk l) (by decide +kernel) (by decide +kernel) rfl ⟨by decide +kernel, by decide +kernel, by decide +kernel⟩ (z_room (by omega) (by decide)) rfl zr_X5_isAsk, List.forall_mem_cons.mpr ⟨z_calV (l := l) (j := 234) (C := RX5) (cn := 3) (T := TX5) (N := 47) (zt_X5_runAll l) (by decide +kernel) (by decide +kernel) rfl ⟨by decide +kernel, by decide +kernel, by decide +kernel⟩ (z_room (by omega) (by decide)) rfl zr_X5_runAll, List.forall_mem_cons.mpr ⟨z_calV (l := l) (j := 261) (C := RX5) (cn := 3) (T := TX5) (N := 47) (zt_X5_areTouching l) (by decide +kernel) (by decide +kernel) rfl ⟨by decide +kernel, by decide +kernel, by decide +kernel⟩ (z_room (by omega) (by decide)) rfl zr_X5_areTouching, fun _ h => nomatch h⟩⟩⟩)) (by decide)
theorem zr_X5_touch : ∀ vs g r, zF_X5_touch vs g = some r → ∃ i rv, vs = .inr (.inl (3, i, 0)) :: rv ∧ i < z_ni 3 := fun vs g r h => z_chk_rec (z_fn_chk (sh := zs_X5_touch) h).1 (Or.inl ⟨rfl, by decide⟩)
def zc_X5_free : zCD := [(0, .aload_n 0, 1, 0), (1, .iconst 0, 2, 0), (2, .putfield 1, 5, 0), (5, .aload_n 0, 6, 0), (6, .iload_n 1, 7, 0), (7, .invokevirtual 200, 10, 0), (10, .ifCond .ne 5, 13, 15), (13, .iconst 0, 14, 0), (14, .ireturn, 15, 0), (15, .aload_n 0, 16, 0), (16, .iconst 0, 17, 0), (17, .iconst 0, 18, 0), (18, .invokevirtual 234, 21, 0), (21, .iconst 0, 22, 0), (22, .istore_n 2, 23, 0), (23, .iconst 0, 24, 0), (24, .istore_n 3, 25, 0), (25, .iload_n 3, 26, 0), (26, .aload_n 0, 27, 0), (27, .getfield 197, 30, 0), (30, .if_icmp .ge 31, 33, 61), (33, .iload_n 2, 34, 0), (34, .iload_n 3, 35, 0), (35, .iload_n 1, 36, 0), (36, .if_icmp .eq 16, 39, 52), (39, .aload_n 0, 40, 0), (40, .iload_n 1, 41, 0), (41, .iload_n 3, 42, 0), (42, .invokevirtual 261, 45, 0), (45, .ifCond .ne 7, 48, 52), (48, .iconst 1, 49, 0), (49, .goto 4, 52, 53), (52, .iconst 0, 53, 0), (53, .iadd, 54, 0), (54, .istore_n 2, 55, 0), (55, .iinc 3 1, 58, 0), (58, .goto (-33), 61, 25), (61, .iload_n 2, 62, 0), (62, .ireturn, 63, 0)]
def zk_X5_free : List (Nat × List Nat) := [(25, [0, 1, 2, 3])]
def zl_X5_free : List (Nat × zCI) := [(200, (zF_X5_isAsk, 2, 1, 0, 0)), (234, (zF_X5_runAll, 3, 0, 0, 0)), (261, (zF_X5_areTouching, 3, 1, 0, 0))]
def zM_X5_free : zMI := (z_look zfl_X5, z_look zl_X5_free, z_look zcs_X5, z_look zth_X5, 4, 1)
def zs_X5_free : List (Nat × Nat × Nat × Nat) := [(2, 3, 0, 0), (0, 0, 0, 0)]
def zF_X5_free : List zVV → zSG → Option zRR := z_fn zs_X5_free zM_X5_free zc_X5_free zk_X5_free (0, 0)
theorem zo_X5_free : z_okc cX5_free zc_X5_free = true := by decide +kernel
theorem zv_X5_free : z_kd [200, 234, 261] zc_X5_free = true := by decide +kernel
set_option maxRecDepth 20000 in
theorem zt_X5_free (l : Launch) : zCt l yX5_free cX5_free 4 (some .int) (zrm 4 0 0) zF_X5_free := z_ct (own := RX5) (sh := zs_X5_free) (M := zM_X5_free) (cd := zc_X5_free) (cut := zk_X5_free) (by decide +kernel) rfl rfl rfl (z_fl_all zfl_X5_ok) (z_cs_all zcs_X5_ok) zo_X5_free z_nothr (z_hcal (L := zl_X5_free) zv_X5_free (List.forall_mem_cons.mpr ⟨z_calV (l := l) (j := 200) (C := RX5) (cn := 3) (T := TX5) (N := 47) (zt_X5_isAsk l) (by decide +kernel) (by decide +kernel) rfl ⟨by decide +kernel, by decide +kernel, by decide +kernel⟩ (z_room (by omega) (by decide)) rfl zr_X5_isAsk, List.forall_mem_cons.mpr ⟨z_calV (l := l) (j := 234) (C := RX5) (cn := 3) (T := TX5) (N := 47) (zt_X5_runAll l) (by decide +kernel) (by decide +kernel) rfl ⟨by decide +kernel, by decide +kernel, by decide +kernel⟩ (z_room (by omega) (by decide)) rfl zr_X5_runAll, List.forall_mem_cons.mpr ⟨z_calV (l := l) (j := 261) (C := RX5) (cn := 3) (T := TX5) (N := 47) (zt_X5_areTouching l) (by decide +kernel) (by decide +kernel) rfl ⟨by decide +kernel, by decide +kernel, by decide +kernel⟩ (z_room (by omega) (by decide)) rfl zr_X5_areTouching, fun _ h => nomatch h⟩⟩⟩)) (by decide)
theorem zr_X5_free : ∀ vs g r, zF_X5_free vs g = some r → ∃ i rv, vs = .inr (.inl (3, i, 0)) :: rv ∧ i < z_ni 3 := fun vs g r h => z_chk_rec (z_fn_chk (sh := zs_X5_free) h).1 (Or.inl ⟨rfl, by decide⟩)
def zc_X5_findSmall : zCD := [(0, .aload_n 0, 1, 0), (1, .invokevirtual 244, 4, 0), (4, .aload_n 0, 5, 0), (5, .iload_n 1, 6, 0), (6, .invokevirtual 247, 9, 0), (9, .iconst (-1), 10, 0), (10, .if_icmp .ne 5, 13, 15), (13, .iconst 0, 14, 0), (14, .ireturn, 15, 0), (15, .iconst 0, 16, 0), (16, .istore_n 2, 17, 0), (17, .aload_n 0, 18, 0), (18, .getfield 59, 21, 0), (21, .iload_n 2, 22, 0), (22, .iaload, 23, 0), (23, .iload_n 1, 24, 0), (24, .if_icmp .eq 9, 27, 33), (27, .iinc 2 1, 30, 0), (30, .goto (-13), 33, 17), (33, .aload_n 0, 34, 0), (34, .iload_n 2, 35, 0), (35, .bipush 10, 37, 0), (37, .if_icmp .le 10, 40, 47), (40, .iload_n 2, 41, 0), (41, .bipush 10, 43, 0), (43, .isub, 44, 0), (44, .goto 4, 47, 48), (47, .iconst 0, 48, 0), (48, .putfield 264, 51, 0), (51, .aload_n 0, 52, 0), (52, .iload_n 2, 53, 0), (53, .aload_n 0, 54, 0), (54, .getfield 264, 57, 0), (57, .isub, 58, 0), (58, .putfield 267, 61, 0), (61, .iconst 1, 62, 0), (62, .iload_n 1, 63, 0), (63, .ishl, 64, 0), (64, .istore_n 3, 65, 0), (65, .iconst 0, 66, 0), (66, .istore 4, 68, 0), (68, .iload 4, 70, 0), (70, .aload_n 0, 71, 0), (71, .getfield 264, 74, 0), (74, .if_icmp .ge 21, 77, 95), (77, .iload_n 3, 78, 0), (78, .iconst 1, 79, 0), (79, .aload_n 0, 80, 0), (80, .getfield 59, 83, 0), (83, .iload 4, 85, 0), (85, .iaload, 86, 0), (86, .ishl, 87, 0), (87, .ior, 88, 0), (88, .istore_n 3, 89, 0), (89, .iinc 4 1, 92, 0), (92, .goto (-24), 95, 68), (95, .aload_n 0, 96, 0), (96, .bipush 11, 98, 0), (98, .putfield 270, 101, 0), (101, .aload_n 0, 102, 0), (102, .iconst 0, 103, 0), (103, .putfield 273, 106, 0), (106, .iconst 1, 107, 0), (107, .aload_n 0, 108, 0), (108, .getfield 267, 111, 0), (111, .ishl, 112, 0), (112, .iconst 1, 113, 0), (113, .isub, 114, 0), (114, .istore 4, 116, 0), (116, .iload 4, 118, 0), (118, .ifCond .lt 117, 121, 235), (121, .iload_n 3, 122, 0), (122, .istore 5, 124, 0), (124, .iconst 0, 125, 0), (125, .istore 6, 127, 0), (127, .iconst 0, 128, 0), (128, .istore 7, 130, 0), (130, .iload 7, 132, 0), (132, .aload_n 0, 133, 0), (133, .getfield 267, 136, 0), (136, .if_icmp .ge 51, 139, 187), (139, .iload 4, 141, 0), (141, .aload_n 0, 142, 0), (142, .getfield 267, 145, 0), (145, .iconst 1, 146, 0), (146, .isub, 147, 0), (147, .iload 7, 149, 0), (149, .isub, 150, 0), (150, .ishr, 151, 0), (151, .iconst 1, 152, 0), (152, .iand, 153, 0), (153, .ifCond .ne 6, 156, 159), (156, .goto 25, 159, 181), (159, .iload 5, 161, 0), (161, .iconst 1, 162, 0), (162, .aload_n 0, 163, 0), (163, .getfield 59, 166, 0), (166, .aload_n 0, 167, 0), (167, .getfield 264, 170, 0), (170, .iload 7, 172, 0), (172, .iadd, 173, 0), (173, .iaload, 174, 0), (174, .ishl, 175, 0), (175, .ior, 176, 0), (176, .istore 5, 178, 0), (178, .iinc 6 1, 181, 0), (181, .iinc 7 1, 184, 0), (184, .goto (-54), 187, 130), (187, .iload 6, 189, 0), (189, .aload_n 0, 190, 0), (190, .getfield 270, 193, 0), (193, .if_icmp .lt 6, 196, 199), (196, .goto 33, 199, 229), (199, .aload_n 0, 200, 0), (200, .iload 5, 202, 0), (202, .invokevirtual 241, 205, 0), (205, .aload_n 0, 206, 0), (206, .iload_n 1, 207, 0), (207, .invokevirtual 247, 210, 0), (210, .iconst (-1), 211, 0), (211, .if_icmp .ne 6, 214, 217), (214, .goto 15, 217, 229), (217, .aload_n 0, 218, 0), (218, .iload 6, 220, 0), (220, .putfield 270, 223, 0), (223, .aload_n 0, 224, 0), (224, .iload 4, 226, 0), (226, .putfield 273, 229, 0), (229, .iinc 4 (-1), 232, 0), (232, .goto (-116), 235, 116), (235, .iconst 1, 236, 0), (236, .ireturn, 237, 0)]
def zk_X5_findSmall : List (Nat × List Nat) := [(17, [0, 1, 2]), (68, [0, 1, 3, 4]), (116, [0, 1, 3, 4]), (130, [0, 1, 3, 4, 5, 6, 7])]
def zl_X5_findSmall : List (Nat × zCI) := [(244, (zF_X5_runBothAll, 1, 0, 0, 0)), (247, (zF_X5_unlike, 2, 1, 0, 0)), (241, (zF_X5_runBoth, 2, 0, 0, 0))]
def zM_X5_findSmall : zMI := (z_look zfl_X5, z_look zl_X5_findSmall, z_look zcs_X5, z_look zth_X5, 8, 2)
def zs_X5_findSmall : List (Nat × Nat × Nat × Nat) := [(2, 3, 0, 0), (0, 0, 0, 0)]
def zF_X5_findSmall : List zVV → zSG → Option zRR := z_fn zs_X5_findSmall zM_X5_findSmall zc_X5_findSmall zk_X5_findSmall (0, 0)
theorem zo_X5_findSmall : z_okc cX5_findSmall zc_X5_findSmall = true := by decide +kernel
theorem zv_X5_findSmall : z_kd [244, 247, 241] zc_X5_findSmall = true := by decide +kernel
set_option maxRecDepth 20000 in
theorem zt_X5_findSmall (l : Launch) : zCt l yX5_findSmall cX5_findSmall 8 (some .boolean) (zrm 5 0 0) zF_X5_findSmall := z_ct (own := RX5) (sh := zs_X5_findSmall) (M := zM_X5_findSmall) (cd := zc_X5_findSmall) (cut := zk_X5_findSmall) (by decide +kernel) rfl rfl rfl (z_fl_all zfl_X5_ok) (z_cs_all zcs_X5_ok) zo_X5_findSmall z_nothr (z_hcal (L := zl_X5_findSmall) zv_X5_findSmall (List.forall_mem_cons.mpr ⟨z_calV (l := l) (j := 244) (C := RX5) (cn := 3) (T := TX5) (N := 47) (zt_X5_runBothAll l) (by decide +kernel) (by decide +kernel) rfl ⟨by decide +kernel, by decide +kernel, by decide +kernel⟩ (z_room (by omega) (by decide)) rfl zr_X5_runBothAll, List.forall_mem_cons.mpr ⟨z_calV (l := l) (j := 247) (C := RX5) (cn := 3) (T := TX5) (N := 47) (zt_X5_unlike l) (by decide +kernel) (by decide +kernel) rfl ⟨by decide +kernel, by decide +kernel, by decide +kernel⟩ (z_room (by omega) (by decide)) rfl zr_X5_unlike, List.forall_mem_cons.mpr ⟨z_calV (l := l) (j := 241) (C := RX5) (cn := 3) (T := TX5) (N := 47) (zt_X5_runBoth l) (by decide +kernel) (by decide +kernel) rfl ⟨by decide +kernel, by decide +kernel, by decide +kernel⟩ (z_room (by omega) (by decide)) rfl zr_X5_runBoth, fun _ h => nomatch h⟩⟩⟩)) (by decide)
theorem zr_X5_findSmall : ∀ vs g r, zF_X5_findSmall vs g = some r → ∃ i rv, vs = .inr (.inl (3, i, 0)) :: rv ∧ i < z_ni 3 := fun vs g r h => z_chk_rec (z_fn_chk (sh := zs_X5_findSmall) h).1 (Or.inl ⟨rfl, by decide⟩)
def zc_X5_small : zCD := [(0, .aload_n 0, 1, 0), (1, .iconst 0, 2, 0), (2, .putfield 1, 5, 0), (5, .aload_n 0, 6, 0), (6, .iload_n 1, 7, 0), (7, .invokevirtual 200, 10, 0), (10, .ifCond .ne 5, 13, 15), (13, .iconst 0, 14, 0), (14, .ireturn, 15, 0), (15, .aload_n 0, 16, 0), (16, .iload_n 1, 17, 0), (17, .invokevirtual 276, 20, 0), (20, .ifCond .eq 10, 23, 30), (23, .aload_n 0, 24, 0), (24, .getfield 270, 27, 0), (27, .goto 4, 30, 31), (30, .iconst (-1), 31, 0), (31, .ireturn, 32, 0)]
def zk_X5_small : List (Nat × List Nat) := []
def zl_X5_small : List (Nat × zCI) := [(200, (zF_X5_isAsk, 2, 1, 0, 0)), (276, (zF_X5_findSmall, 2, 1, 0, 0))]
def zM_X5_small : zMI := (z_look zfl_X5, z_look zl_X5_small, z_look zcs_X5, z_look zth_X5, 2, 1)
def zs_X5_small : List (Nat × Nat × Nat × Nat) := [(2, 3, 0, 0), (0, 0, 0, 0)]
def zF_X5_small : List zVV → zSG → Option zRR := z_fn zs_X5_small zM_X5_small zc_X5_small zk_X5_small (0, 0)
theorem zo_X5_small : z_okc cX5_small zc_X5_small = true := by decide +kernel
theorem zv_X5_small : z_kd [200, 276] zc_X5_small = true := by decide +kernel
set_option maxRecDepth 20000 in
theorem zt_X5_small (l : Launch) : zCt l yX5_small cX5_small 2 (some .int) (zrm 6 0 0) zF_X5_small := z_ct (own := RX5) (sh := zs_X5_small) (M := zM_X5_small) (cd := zc_X5_small) (cut := zk_X5_small) (by decide +kernel) rfl rfl rfl (z_fl_all zfl_X5_ok) (z_cs_all zcs_X5_ok) zo_X5_small z_nothr (z_hcal (L := zl_X5_small) zv_X5_small (List.forall_mem_cons.mpr ⟨z_calV (l := l) (j := 200) (C := RX5) (cn := 3) (T := TX5) (N := 47) (zt_X5_isAsk l) (by decide +kernel) (by decide +kernel) rfl ⟨by decide +kernel, by decide +kernel, by decide +kernel⟩ (z_room (by omega) (by decide)) rfl zr_X5_isAsk, List.forall_mem_cons.mpr ⟨z_calV (l := l) (j := 276) (C := RX5) (cn := 3) (T := TX5) (N := 47) (zt_X5_findSmall l) (by decide +kernel) (by decide +kernel) rfl ⟨by decide +kernel, by decide +kernel, by decide +kernel⟩ (z_room (by omega) (by decide)) rfl zr_X5_findSmall, fun _ h => nomatch h⟩⟩)) (by decide)
theorem zr_X5_small : ∀ vs g r, zF_X5_small vs g = some r → ∃ i rv, vs = .inr (.inl (3, i, 0)) :: rv ∧ i < z_ni 3 := fun vs g r h => z_chk_rec (z_fn_chk (sh := zs_X5_small) h).1 (Or.inl ⟨rfl, by decide⟩)
def zc_X5_smallest : zCD := [(0, .aload_n 0, 1, 0), (1, .iconst 0, 2, 0), (2, .putfield 1, 5, 0), (5, .aload_n 0, 6, 0), (6, .iload_n 1, 7, 0), (7, .invokevirtual 200, 10, 0), (10, .ifCond .eq 11, 13, 21), (13, .aload_n 0, 14, 0), (14, .iload_n 1, 15, 0), (15, .invokevirtual 276, 18, 0), (18, .ifCond .ne 16, 21, 34), (21, .aload_n 0, 22, 0), (22, .getfield 1, 25, 0), (25, .ifCond .ne 7, 28, 32), (28, .iconst (-1), 29, 0), (29, .goto 4, 32, 33), (32, .iconst 0, 33, 0), (33, .ireturn, 34, 0), (34, .iconst 0, 35, 0), (35, .istore_n 3, 36, 0), (36, .iconst 0, 37, 0), (37, .istore 4, 39, 0), (39, .iload 4, 41, 0), (41, .aload_n 0, 42, 0), (42, .getfield 267, 45, 0), (45, .if_icmp .ge 52, 48, 97), (48, .aload_n 0, 49, 0), (49, .getfield 273, 52, 0), (52, .aload_n 0, 53, 0), (53, .getfield 267, 56, 0), (56, .iconst 1, 57, 0), (57, .isub, 58, 0), (58, .iload 4, 60, 0), (60, .isub, 61, 0), (61, .ishr, 62, 0), (62, .iconst 1, 63, 0), (63, .iand, 64, 0), (64, .ifCond .ne 6, 67, 70), (67, .goto 24, 70, 91), (70, .iload_n 3, 71, 0), (71, .iload_n 2, 72, 0), (72, .if_icmp .ne 16, 75, 88), (75, .aload_n 0, 76, 0), (76, .getfield 59, 79, 0), (79, .aload_n 0, 80, 0), (80, .getfield 264, 83, 0), (83, .iload 4, 85, 0), (85, .iadd, 86, 0), (86, .iaload, 87, 0), (87, .ireturn, 88, 0), (88, .iinc 3 1, 91, 0), (91, .iinc 4 1, 94, 0), (94, .goto (-55), 97, 39), (97, .iconst (-1), 98, 0), (98, .ireturn, 99, 0)]
def zk_X5_smallest : List (Nat × List Nat) := [(39, [0, 2, 3, 4])]
def zl_X5_smallest : List (Nat × zCI) := [(200, (zF_X5_isAsk, 2, 1, 0, 0)), (276, (zF_X5_findSmall, 2, 1, 0, 0))]
def zM_X5_smallest : zMI := (z_look zfl_X5, z_look zl_X5_smallest, z_look zcs_X5, z_look zth_X5, 5, 1)
def zs_X5_smallest : List (Nat × Nat × Nat × Nat) := [(2, 3, 0, 0), (0, 0, 0, 0), (0, 0, 0, 0)]
def zF_X5_smallest : List zVV → zSG → Option zRR := z_fn zs_X5_smallest zM_X5_smallest zc_X5_smallest zk_X5_smallest (0, 0)
theorem zo_X5_smallest : z_okc cX5_smallest zc_X5_smallest = true := by decide +kernel
theorem zv_X5_smallest : z_kd [200, 276] zc_X5_smallest = true := by decide +kernel
set_option maxRecDepth 20000 in
theorem zt_X5_smallest (l : Launch) : zCt l yX5_smallest cX5_smallest 5 (some .int) (zrm 6 0 0) zF_X5_smallest := z_ct (own := RX5) (sh := zs_X5_smallest) (M := zM_X5_smallest) (cd := zc_X5_smallest) (cut := zk_X5_smallest) (by decide +kernel) rfl rfl rfl (z_fl_all zfl_X5_ok) (z_cs_all zcs_X5_ok) zo_X5_smallest z_nothr (z_hcal (L := zl_X5_smallest) zv_X5_smallest (List.forall_mem_cons.mpr ⟨z_calV (l := l) (j := 200) (C := RX5) (cn := 3) (T := TX5) (N := 47) (zt_X5_isAsk l) (by decide +kernel) (by decide +kernel) rfl ⟨by decide +kernel, by decide +kernel, by decide +kernel⟩ (z_room (by omega) (by decide)) rfl zr_X5_isAsk, List.forall_mem_cons.mpr ⟨z_calV (l := l) (j := 276) (C := RX5) (cn := 3) (T := TX5) (N := 47) (zt_X5_findSmall l) (by decide +kernel) (by decide +kernel) rfl ⟨by decide +kernel, by decide +kernel, by decide +kernel⟩ (z_room (by omega) (by decide)) rfl zr_X5_findSmall, fun _ h => nomatch h⟩⟩)) (by decide)
theorem zr_X5_smallest : ∀ vs g r, zF_X5_smallest vs g = some r → ∃ i rv, vs = .inr (.inl (3, i, 0)) :: rv ∧ i < z_ni 3 := fun vs g r h => z_chk_rec (z_fn_chk (sh := zs_X5_smallest) h).1 (Or.inl ⟨rfl, by decide⟩)
def zc_X5_lag : zCD := [(0, .aload_n 0, 1, 0), (1, .iconst 0, 2, 0), (2, .putfield 1, 5, 0), (5, .aload_n 0, 6, 0), (6, .iload_n 1, 7, 0), (7, .invokestatic 231, 10, 0), (10, .ifCond .eq 29, 13, 39), (13, .iload_n 2, 14, 0), (14, .iconst 1, 15, 0), (15, .sipush 1000, 18, 0), (18, .invokestatic 188, 21, 0), (21, .ifCond .eq 18, 24, 39), (24, .iload_n 3, 25, 0), (25, .iconst 1, 26, 0), (26, .sipush 1000, 29, 0), (29, .invokestatic 188, 32, 0), (32, .ifCond .eq 7, 35, 39), (35, .iconst 1, 36, 0), (36, .goto 4, 39, 40), (39, .iconst 0, 40, 0), (40, .iconst 1, 41, 0), (41, .invokevirtual 192, 44, 0), (44, .ifCond .ne 5, 47, 49), (47, .iconst 0, 48, 0), (48, .ireturn, 49, 0), (49, .aload_n 0, 50, 0), (50, .iload_n 1, 51, 0), (51, .iconst 0, 52, 0), (52, .invokevirtual 234, 55, 0), (55, .iconst 0, 56, 0), (56, .istore 4, 58, 0), (58, .iconst 0, 59, 0), (59, .istore 5, 61, 0), (61, .iconst 0, 62, 0), (62, .istore 6, 64, 0), (64, .iload 6, 66, 0), (66, .aload_n 0, 67, 0), (67, .getfield 203, 70, 0), (70, .if_icmp .ge 102, 73, 172), (73, .aload_n 0, 74, 0), (74, .getfield 50, 77, 0), (77, .aload_n 0, 78, 0), (78, .getfield 59, 81, 0), (81, .iload 6, 83, 0), (83, .iaload, 84, 0), (84, .iaload, 85, 0), (85, .iload_n 2, 86, 0), (86, .imul, 87, 0), (87, .iload_n 3, 88, 0), (88, .idiv, 89, 0), (89, .istore 7, 91, 0), (91, .iload 7, 93, 0), (93, .iload 4, 95, 0), (95, .if_icmp .le 8, 98, 103), (98, .iload 7, 100, 0), (100, .goto 5, 103, 105), (103, .iload 4, 105, 0), (105, .istore 8, 107, 0), (107, .iload 8, 109, 0), (109, .iload 7, 111, 0), (111, .isub, 112, 0), (112, .iload 5, 114, 0), (114, .if_icmp .le 11, 117, 125), (117, .iload 8, 119, 0), (119, .iload 7, 121, 0), (121, .isub, 122, 0), (122, .goto 5, 125, 127), (125, .iload 5, 127, 0), (127, .istore 5, 129, 0), (129, .iload 8, 131, 0), (131, .aload_n 0, 132, 0), (132, .getfield 74, 135, 0), (135, .aload_n 0, 136, 0), (136, .getfield 59, 139, 0), (139, .iload 6, 141, 0), (141, .iaload, 142, 0), (142, .iaload, 143, 0), (143, .iconst 1, 144, 0), (144, .if_icmp .le 18, 147, 162), (147, .aload_n 0, 148, 0), (148, .getfield 74, 151, 0), (151, .aload_n 0, 152, 0), (152, .getfield 59, 155, 0), (155, .iload 6, 157, 0), (157, .iaload, 158, 0), (158, .iaload, 159, 0), (159, .goto 4, 162, 163), (162, .iconst 1, 163, 0), (163, .iadd, 164, 0), (164, .istore 4, 166, 0), (166, .iinc 6 1, 169, 0), (169, .goto (-105), 172, 64), (172, .iload 5, 174, 0), (174, .ireturn, 175, 0)]
def zk_X5_lag : List (Nat × List Nat) := [(64, [0, 2, 3, 4, 5, 6])]
def zl_X5_lag : List (Nat × zCI) := [(231, (zF_X5_isVersion, 1, 1, 0, 0)), (188, (zF_X5_within, 3, 1, 0, 0)), (192, (zF_X5_may, 3, 1, 0, 0)), (234, (zF_X5_runAll, 3, 0, 0, 0))]
def zM_X5_lag : zMI := (z_look zfl_X5, z_look zl_X5_lag, z_look zcs_X5, z_look zth_X5, 9, 1)
def zs_X5_lag : List (Nat × Nat × Nat × Nat) := [(2, 3, 0, 0), (0, 0, 0, 0), (0, 0, 0, 0), (0, 0, 0, 0)]
def zF_X5_lag : List zVV → zSG → Option zRR := z_fn zs_X5_lag zM_X5_lag zc_X5_lag zk_X5_lag (0, 0)
theorem zo_X5_lag : z_okc cX5_lag zc_X5_lag = true := by decide +kernel
theorem zv_X5_lag : z_kd [192, 234] zc_X5_lag = true := by decide +kernel
set_option maxRecDepth 20000 in
theorem zt_X5_lag (l : Launch) : zCt l yX5_lag cX5_lag 9 (some .int) (zrm 4 0 0) zF_X5_lag := z_ct (own := RX5) (sh := zs_X5_lag) (M := zM_X5_lag) (cd := zc_X5_lag) (cut := zk_X5_lag) (by decide +kernel) rfl rfl rfl (z_fl_all zfl_X5_ok) (z_cs_all zcs_X5_ok) zo_X5_lag z_nothr (z_hcal (L := zl_X5_lag) zv_X5_lag (List.forall_mem_cons.mpr ⟨z_calS (l := l) (j := 231) (zt_X5_isVersion l) (by decide +kernel) (by decide +kernel) ⟨by decide +kernel, by decide +kernel, by decide +kernel⟩ (z_room (by omega) (by decide)), List.forall_mem_cons.mpr ⟨z_calS (l := l) (j := 188) (zt_X5_within l) (by decide +kernel) (by decide +kernel) ⟨by decide +kernel, by decide +kernel, by decide +kernel⟩ (z_room (by omega) (by decide)), List.forall_mem_cons.mpr ⟨z_calV (l := l) (j := 192) (C := RX5) (cn := 3) (T := TX5) (N := 47) (zt_X5_may l) (by decide +kernel) (by decide +kernel) rfl ⟨by decide +kernel, by decide +kernel, by decide +kernel⟩ (z_room (by omega) (by decide)) rfl zr_X5_may, List.forall_mem_cons.mpr ⟨z_calV (l := l) (j := 234) (C := RX5) (cn := 3) (T := TX5) (N := 47) (zt_X5_runAll l) (by decide +kernel) (by decide +kernel) rfl ⟨by decide +kernel, by decide +kernel, by decide +kernel⟩ (z_room (by omega) (by decide)) rfl zr_X5_runAll, fun _ h => nomatch h⟩⟩⟩⟩)) (by decide)
theorem zr_X5_lag : ∀ vs g r, zF_X5_lag vs g = some r → ∃ i rv, vs = .inr (.inl (3, i, 0)) :: rv ∧ i < z_ni 3 := fun vs g r h => z_chk_rec (z_fn_chk (sh := zs_X5_lag) h).1 (Or.inl ⟨rfl, by decide⟩)
def zc_X5_count : zCD := [(0, .aload_n 0, 1, 0), (1, .iconst 0, 2, 0), (2, .putfield 1, 5, 0), (5, .iload_n 1, 6, 0), (6, .tableswitch 102 0 3 #[30, 35, 70, 75], 36, 0), (36, .aload_n 0, 37, 0), (37, .getfield 197, 40, 0), (40, .ireturn, 41, 0), (41, .iconst 0, 42, 0), (42, .istore_n 2, 43, 0), (43, .iconst 0, 44, 0), (44, .istore_n 3, 45, 0), (45, .iload_n 3, 46, 0), (46, .bipush 32, 48, 0), (48, .if_icmp .ge 26, 51, 74), (51, .iload_n 2, 52, 0), (52, .aload_n 0, 53, 0), (53, .getfield 90, 56, 0), (56, .iload_n 3, 57, 0), (57, .baload, 58, 0), (58, .ifCond .eq 7, 61, 65), (61, .iconst 1, 62, 0), (62, .goto 4, 65, 66), (65, .iconst 0, 66, 0), (66, .iadd, 67, 0), (67, .istore_n 2, 68, 0), (68, .iinc 3 1, 71, 0), (71, .goto (-26), 74, 45), (74, .iload_n 2, 75, 0), (75, .ireturn, 76, 0), (76, .aload_n 0, 77, 0), (77, .getfield 102, 80, 0), (80, .ireturn, 81, 0), (81, .iconst 0, 82, 0), (82, .istore_n 2, 83, 0), (83, .iconst 0, 84, 0), (84, .istore_n 3, 85, 0), (85, .iload_n 3, 86, 0), (86, .bipush 8, 88, 0), (88, .if_icmp .ge 18, 91, 106), (91, .iload_n 2, 92, 0), (92, .aload_n 0, 93, 0), (93, .getfield 32, 96, 0), (96, .iload_n 3, 97, 0), (97, .iaload, 98, 0), (98, .iadd, 99, 0), (99, .istore_n 2, 100, 0), (100, .iinc 3 1, 103, 0), (103, .goto (-18), 106, 85), (106, .iload_n 2, 107, 0), (107, .ireturn, 108, 0), (108, .iconst (-1), 109, 0), (109, .ireturn, 110, 0)]
def zk_X5_count : List (Nat × List Nat) := [(45, [0, 2, 3]), (85, [0, 2, 3])]
def zl_X5_count : List (Nat × zCI) := []
def zM_X5_count : zMI := (z_look zfl_X5, z_look zl_X5_count, z_look zcs_X5, z_look zth_X5, 4, 1)
def zs_X5_count : List (Nat × Nat × Nat × Nat) := [(2, 3, 0, 0), (0, 0, 0, 0)]
def zF_X5_count : List zVV → zSG → Option zRR := z_fn zs_X5_count zM_X5_count zc_X5_count zk_X5_count (0, 0)
theorem zo_X5_count : z_okc cX5_count zc_X5_count = true := by decide +kernel
theorem zv_X5_count : z_kd [] zc_X5_count = true := by decide +kernel
set_option maxRecDepth 20000 in
theorem zt_X5_count (l : Launch) : zCt l yX5_count cX5_count 4 (some .int) (zrm 0 0 0) zF_X5_count := z_ct (own := RX5) (sh := zs_X5_count) (M := zM_X5_count) (cd := zc_X5_count) (cut := zk_X5_count) (by decide +kernel) rfl rfl rfl (z_fl_all zfl_X5_ok) (z_cs_all zcs_X5_ok) zo_X5_count z_nothr (z_hcal (L := zl_X5_count) zv_X5_count (fun _ h => nomatch h)) (by decide)
theorem zr_X5_count : ∀ vs g r, zF_X5_count vs g = some r → ∃ i rv, vs = .inr (.inl (3, i, 0)) :: rv ∧ i < z_ni 3 := fun vs g r h => z_chk_rec (z_fn_chk (sh := zs_X5_count) h).1 (Or.inl ⟨rfl, by decide⟩)
end
section
/-! ===== calls of the JDK's own ===== -/
def zF_max : List zVV → zSG → Option zRR
  | [.inl x, .inl y], g => some (.inl (some (.inl (if x < y then y else x))), g)
  | _, _ => none
def zF_min : List zVV → zSG → Option zRR
  | [.inl x, .inl y], g => some (.inl (some (.inl (if y < x then y else x))), g)
  | _, _ => none
theorem z_calMax {l : Launch} {R : Room} {own : String} {nL j : Nat} (hw : (decide (Cond.methodLink own j Lib.Math.max.name ∈ zWS) && decide (Cond.static Lib.Math.max.name ∈ zWS) && decide (Cond.initialized "java/lang/Math" ∈ zWS) && decide (Cond.code Lib.Math.max.name Lib.Math.max.code 2 (some .int) ∈ zWS)) = true) (hf : 1 ≤ R.frames) (hlo : 21 ≤ R.locals) : zCalOK l R own nL j (.invokestatic j) (zF_max, 2, 1, 0, 0) := by
  intro p e s m args below meth c cc D ca ad A g0 pc Cx hdec
  obtain ⟨hx, hb, hml, hown, hts, hK, hA, hE, hlocks, hex⟩ := Cx
  simp only [Bool.and_eq_true, decide_eq_true_eq] at hw
  obtain ⟨⟨⟨w1, w2⟩, w3⟩, w4⟩ := hw
  intro lc st g b r' r a1 a2 a3 a4 hF hk hxx H locs cells slots ls hP hS hl c1 c2 h5
  dsimp only at a1 a2 a3 a4 hF hk
  rcases st with _ | ⟨v, _ | ⟨w, st⟩⟩
  · simp at a1
  · simp at a1
  · rcases v with y | q | y
    · rcases w with x | q | x
      · have er : r' = (.inl (some (.inl (if x < y then y else x))), g) := (Option.some.inj hF).symm
        subst er
        have a4' : z_wt st ≤ 8 := a4
        refine va_mmax hx hb (by rw [hml, hl.1]) hown (hts _ w1) (hts _ w2) (hts _ w3) (hts _ w4) hf (by rw [z_wt_sum]; omega) (by omega) (by omega) hdec ?_
        exact hk _ rfl H locs cells slots ls hP hS hl (by dsimp only; omega) (by dsimp only; omega) h5
      · cases hF
      · cases hF
    · rcases w with x | q | x <;> cases hF
    · rcases w with x | q | x <;> cases hF
theorem z_calMin {l : Launch} {R : Room} {own : String} {nL j : Nat} (hw : (decide (Cond.methodLink own j Lib.Math.min.name ∈ zWS) && decide (Cond.static Lib.Math.min.name ∈ zWS) && decide (Cond.initialized "java/lang/Math" ∈ zWS) && decide (Cond.code Lib.Math.min.name Lib.Math.min.code 2 (some .int) ∈ zWS)) = true) (hf : 1 ≤ R.frames) (hlo : 21 ≤ R.locals) : zCalOK l R own nL j (.invokestatic j) (zF_min, 2, 1, 0, 0) := by
  intro p e s m args below meth c cc D ca ad A g0 pc Cx hdec
  obtain ⟨hx, hb, hml, hown, hts, hK, hA, hE, hlocks, hex⟩ := Cx
  simp only [Bool.and_eq_true, decide_eq_true_eq] at hw
  obtain ⟨⟨⟨w1, w2⟩, w3⟩, w4⟩ := hw
  intro lc st g b r' r a1 a2 a3 a4 hF hk hxx H locs cells slots ls hP hS hl c1 c2 h5
  dsimp only at a1 a2 a3 a4 hF hk
  rcases st with _ | ⟨v, _ | ⟨w, st⟩⟩
  · simp at a1
  · simp at a1
  · rcases v with y | q | y
    · rcases w with x | q | x
      · have er : r' = (.inl (some (.inl (if y < x then y else x))), g) := (Option.some.inj hF).symm
        subst er
        have a4' : z_wt st ≤ 8 := a4
        refine va_mmin hx hb (by rw [hml, hl.1]) hown (hts _ w1) (hts _ w2) (hts _ w3) (hts _ w4) hf (by rw [z_wt_sum]; omega) (by omega) (by omega) hdec ?_
        exact hk _ rfl H locs cells slots ls hP hS hl (by dsimp only; omega) (by dsimp only; omega) h5
      · cases hF
      · cases hF
    · rcases w with x | q | x <;> cases hF
    · rcases w with x | q | x <;> cases hF
/-- System.arraycopy of ints -/
def zF_acp (vs : List zVV) (g : zSG) : Option zRR := match vs with
  | [.inr (.inl (c1, i1, f1)), .inl sp, .inr (.inl (c2, i2, f2)), .inl dp, .inl n] =>
    bif Nat.blt c1 5 && Nat.blt c2 5 && Nat.blt 0 f1 && Nat.blt 0 f2 && Nat.beq (z_ak c1 (f1 - 1)).1 0 && Nat.beq (z_ak c2 (f2 - 1)).1 0 then
      (if i1 < z_ni c1 ∧ i2 < z_ni c2 ∧ ¬ sp < 0 ∧ ¬ dp < 0 ∧ ¬ n < 0 ∧ sp.toNatClampNeg + n.toNatClampNeg ≤ z_alen g c1 i1 (f1 - 1) ∧ dp.toNatClampNeg + n.toNatClampNeg ≤ z_alen g c2 i2 (f2 - 1) then
        some (.inl none, z_gA g c2 i2 (f2 - 1) (va_cpy ((g c1 i1).2 (f1 - 1)) ((g c2 i2).2 (f2 - 1)) sp.toNatClampNeg dp.toNatClampNeg n.toNatClampNeg))
      else none)
    else none
  | _ => none
theorem z_take5 {st : List zVV} {a b c d e : zVV} (h : (st.take 5).reverse = [a, b, c, d, e]) : st = e :: d :: c :: b :: a :: st.drop 5 := by
  have h1 := congrArg List.reverse h
  rw [List.reverse_reverse] at h1
  conv => lhs; rw [← List.take_append_drop 5 st, h1]
  rfl
theorem z_calAcp {l : Launch} {R : Room} {own : String} {nL j : Nat} (hw : (decide (Cond.methodLink own j arraycopyName ∈ zWS) && decide (Cond.native arraycopyName ∈ zWS) && decide (Cond.static arraycopyName ∈ zWS) && decide (Cond.initialized "java/lang/System" ∈ zWS)) = true) (hf : 1 ≤ R.frames) (hlo : 8 + (nativeFrameWords "java/lang/System" "arraycopy" 5 + 11) ≤ R.locals) : zCalOK l R own nL j (.invokestatic j) (zF_acp, 5, 0, 0, 0) := by
  intro p e s m args below meth c cc D ca ad A g0 pc Cx hdec
  obtain ⟨hx, hb, hml, hown, hts, hK, hA, hE, hlocks, hex⟩ := Cx
  simp only [Bool.and_eq_true, decide_eq_true_eq] at hw
  obtain ⟨⟨⟨w1, w2⟩, w3⟩, w4⟩ := hw
  intro lc st g b r' r a1 a2 a3 a4 hF hk hxx H locs cells slots ls hP hS hl c1 c2 h5
  dsimp only at a1 a2 a3 a4 hF hk
  unfold zF_acp at hF
  split at hF
  · rename_i k1 i1 f1 sp k2 i2 f2 dp n hv
    obtain ⟨h0, hF⟩ := z_cnd hF
    obtain ⟨h7, hF⟩ := z_ift hF
    simp only [Bool.and_eq_true] at h0
    obtain ⟨⟨⟨⟨⟨b1, b2⟩, b3⟩, b4⟩, b5⟩, b6⟩ := h0
    have b1 := Nat.blt_eq.mp b1
    have b2 := Nat.blt_eq.mp b2
    have b3 := Nat.blt_eq.mp b3
    have b4 := Nat.blt_eq.mp b4
    have b5 := Nat.eq_of_beq_eq_true b5
    have b6 := Nat.eq_of_beq_eq_true b6
    obtain ⟨m1, m2, m3, m4, m5, m6, m7⟩ := h7
    obtain ⟨f1, rfl⟩ : ∃ z, f1 = z + 1 := ⟨f1 - 1, by omega⟩
    obtain ⟨f2, rfl⟩ : ∃ z, f2 = z + 1 := ⟨f2 - 1, by omega⟩
    rw [Nat.add_sub_cancel] at b5 b6 m6 m7
    rw [Nat.add_sub_cancel] at hF
    rw [Nat.add_sub_cancel] at hF
    have er := (Option.some.inj hF).symm
    subst er
    have hst := z_take5 hv
    obtain ⟨q0, e1, e2⟩ := z_wlget (ad := ad) (ca := ca) (g := g) (zWI_arr k1 b1 i1 m1 f1 (z_ak_lt (by omega) (by rw [b5]; decide)) (by rw [b5]; decide))
    obtain ⟨q1, e3, e4⟩ := z_wlget (ad := ad) (ca := ca) (g := g) (zWI_arr k2 b2 i2 m2 f2 (z_ak_lt (by omega) (by rw [b6]; decide)) (by rw [b6]; decide))
    rw [z_cell_int b5] at e2
    rw [z_cell_int b6] at e4
    have a4' : z_wt (st.drop 5) ≤ 8 := a4
    rw [hst]
    refine va_copyi hx hb (by rw [hml, hl.1]) hown (hts _ w1) (hts _ w2) (hts _ w3) (hts _ w4) hK hP.1 hP.2 hS q0 q1 0 0 e2 e4 rfl rfl rfl m3 m4 m5 m6 m7 (fun i _ => rfl) hf (by rw [z_wt_sum]; omega) hdec (fun H1 locs1 hP1 hD1 hS1 => ?_)
    have hset : (z_wl ad ca g).set q1 (z_aq ad (k2, i2, f2 + 1), .inl (ca 0, z_alen g k2 i2 f2, .inl (va_cpy ((g k1 i1).2 f1) ((g k2 i2).2 f2) sp.toNatClampNeg dp.toNatClampNeg n.toNatClampNeg))) = z_wl ad ca (z_gA g k2 i2 f2 (va_cpy ((g k1 i1).2 f1) ((g k2 i2).2 f2) sp.toNatClampNeg dp.toNatClampNeg n.toNatClampNeg)) := by
      refine z_wlset e3 ?_ (fun q' hq' => z_cell_gA b2 hq')
      rw [z_cell_int b6, z_alen_eq (z_gA_5 b2), z_gA_self]
    rw [hset] at hP1 hD1
    exact hk _ rfl H1 locs1 cells slots ls ⟨hP1, hD1⟩ hS1 hl (by dsimp only; omega) (by dsimp only; omega) ((z_gA_5 b2).trans h5)
  · cases hF
end
section
/-! ===== throws ===== -/
def zUp : List String := ["java/lang/RuntimeException", "java/lang/Exception"]
def zBad : List Cond := zDecl.map Cond.declares ++ zCast.map (fun q => Cond.castable q.1 q.2)
theorem zBad_ok {D : va_G} {ca : Nat → ClassId} {ad : zAD} {A : Nat → Prop} {g : zSG} {args : Array Value} {s : State} {H : Heap} (hE : zEv D ca ad A g s H) : ∀ w ∈ zBad, w.before args s = true := by
  obtain ⟨-, -, -, -, -, -, -, -, -, h10, h11⟩ := hE
  intro w hw
  unfold zBad at hw
  rcases List.mem_append.mp hw with h | h
  · obtain ⟨x, hx, rfl⟩ := List.mem_map.mp h
    exact (h10 x hx).use rfl
  · obtain ⟨q, hq, rfl⟩ := List.mem_map.mp h
    exact (h11 q hq).use rfl
def z_thb (cls : String) (ik ic : Nat) : Bool :=
  decide (Cond.classLink RX4 ik cls ∈ zWS) && decide (Cond.initialized cls ∈ zWS) && ((vx_atS RX4 ic cls zUp).filter goodWord).all (fun w => decide (w ∈ zWS)) && ((vx_atS RX4 ic cls zUp).filter (fun w => !goodWord w)).all (fun w => decide (w ∈ zBad)) &&
  (Cond.classLink RX4 ik cls :: Cond.initialized cls :: vx_atS RX4 ic cls zUp).all vx_ot && Bundle.fit cls && zUp.all Bundle.fit
theorem z_thb0 : z_thb "java/lang/IllegalArgumentException" 73 77 = true := by decide +kernel
theorem z_thb1 : z_thb "java/lang/IndexOutOfBoundsException" 101 105 = true := by decide +kernel
def z_thd (cc : ByteArray) (pc ik is ic : Nat) : Bool := decide (decode cc pc = .ok (.new ik, 3)) && decide (decode cc (pc + 3) = .ok (.dup, 1)) && decide (decode cc (pc + 4) = .ok (.ldc is, 2)) && decide (decode cc (pc + 6) = .ok (.invokespecial ic, 3)) && decide (decode cc (pc + 9) = .ok (.athrow, 1))
theorem z_throw {l : Launch} (hl : l.stackTraces = false) {R : Room} {nL pc x ik is ic : Nat} {cc : ByteArray} {text : String} (hb0 : z_thb (zEx x) ik ic = true) (hd : z_thd cc pc ik is ic = true) (hm : (is, text) ∈ zMsg) (hf : 6 ≤ R.frames) (hlo : 100 ≤ R.locals) : zThrOK l R RX4 nL cc pc x := by
  intro p e s m args below meth c D ca ad A g0 Cx
  obtain ⟨hx, hb, hml, hown, hts, hK, hA, hE, hlocks, hex⟩ := Cx
  intro lc st g b h1 h6 hwt H locs cells slots ls hP hS hls c1 c2 h5
  simp only [z_thb, Bool.and_eq_true, decide_eq_true_eq] at hb0
  obtain ⟨⟨⟨⟨⟨⟨w1, w2⟩, w3⟩, w4⟩, w5⟩, w6⟩, w7⟩ := hb0
  simp only [z_thd, Bool.and_eq_true, decide_eq_true_eq] at hd
  obtain ⟨⟨⟨⟨d0, d3⟩, d4⟩, d6⟩, d9⟩ := hd
  have hE' := hE
  obtain ⟨-, -, eU, eN, eM, -⟩ := hE
  obtain ⟨sa, hsa⟩ := eM _ hm
  have hat : ∀ w ∈ vx_atS RX4 ic (zEx x) zUp, w.before args s = true := vx_hat (fun w hw => hts w (of_decide_eq_true (List.all_eq_true.mp w3 w hw))) (fun w hw => of_decide_eq_true (List.all_eq_true.mp w4 w hw)) (zBad_ok hE')
  refine vx_throwS hx hb hl (own := RX4) (cls := zEx x) (names := zUp) hown w6 (fun n hn => List.all_eq_true.mp w7 n hn) (hts _ w1) (hts _ w2) hsa hat (fun w hw => List.all_eq_true.mp w5 w hw) eU eN hS (by rw [hls.1, hml]) d0 d3 d4 d6 d9 (fun y hy => absurd (hex y hy) id) (by show 2 + 3 < R.frames; omega) (by show _ + (13 * 3 + 43) ≤ R.locals; rw [z_wt_sum]; omega) (by omega) (by omega) hlocks (fun t hal hz hq => ⟨⟨x, rfl, rfl, ⟨hP.1.kept (fun k q hk => hq _ ((hP.1 k q hk).lt)), hP.2⟩, h5⟩, ⟨Nat.le_trans hS.1 hz, fun q h1 h2 => ?_⟩⟩) hS.2.2 (by omega) (by omega)
  rw [hq q (Nat.lt_of_lt_of_le h1 hS.1)]
  exact hS.2.1 q h1 h2
/-- the places of a method where it throws -/
def z_ns (sites : List (Nat × Nat)) (cd : zCD) : Bool := cd.all fun q => match q.2.1 with
  | .new j => sites.contains (q.1, j)
  | _ => true
theorem z_hthr {l : Launch} {R : Room} {own : String} {nL : Nat} {cc : ByteArray} {cd : zCD} {th : List (Nat × Nat)} {sites : List (Nat × Nat)} (hs : z_ns sites cd = true) (h : ∀ q ∈ sites, ∀ x, z_look th q.2 = some x → zThrOK l R own nL cc q.1 x) : ∀ pc j nx tg x, z_look cd pc = some (.new j, nx, tg) → z_look th j = some x → zThrOK l R own nL cc pc x := by
  intro pc j nx tg x hl hj
  unfold z_ns at hs
  have h1 := List.all_eq_true.mp hs (pc, .new j, nx, tg) (z_look_mem hl)
  have h2 : sites.contains (pc, j) = true := h1
  exact h (pc, j) (List.contains_iff_mem.mp h2) x hj
end
section
/-! ===== throw new NoSuchElementException("..") : its constructor passes on by another place of the pool than the library's chain has ===== -/
section Nse
def zx_atoms (own : String) (ic : Nat) (X Y : String) (ix : Nat) (bs : ByteArray) (names : List String) : List Cond :=
  Bundle.throwableAtoms ++ Bundle.throwableSAtoms ++ (Bundle.passSAtoms X Y ix bs ++ Bundle.chainSAtoms Y names) ++
  [.methodLink own ic (Bundle.initS X), .instantiable X 6, .castable X X, .selects X Bundle.tFill0 Bundle.tFill0, .selects X Bundle.tFill Bundle.tFill,
   .lays X Bundle.tN "cause" "Ljava/lang/Throwable;", .lays X Bundle.tN "stackTrace" Bundle.steD, .lays X Bundle.tN "suppressedExceptions" Bundle.listD, .lays X Bundle.tN "detailMessage" "Ljava/lang/String;",
   .isRef (.static Bundle.tN "UNASSIGNED_STACK" Bundle.steD), .isRef (.static Bundle.tN "SUPPRESSED_SENTINEL" Bundle.listD),
   .fieldLink Bundle.tN 198 Bundle.tN "backtrace" "Ljava/lang/Object;", .lays Bundle.tN Bundle.tN "backtrace" "Ljava/lang/Object;", .lays X Bundle.tN "backtrace" "Ljava/lang/Object;"]
variable {p : Program} {l : Launch} {e : Env} {R : Room} {s : State} {m₀ : MethodId} {args : Array Value} {below : List Frame} {meth : Method} {c : Code} {W9 : State} {locs : List Loc} {cells slots : Nat}
set_option maxHeartbeats 4000000 in
theorem zx_ctor (X : Stand p l e R s m₀ args below meth c W9 locs cells slots) (hexec : p.tables.exec = Jvm.exec) (htr : e.platform.stackTraces = false) {own cls Y : String} {names : List String} {ic ix : Nat} {bs : ByteArray}
    (hown : s.vm.findClass own = some m₀.cls) (hcls : Bundle.fit cls = true) (hY : Bundle.fit Y = true) (hnames : ∀ n ∈ names, Bundle.fit n = true)
    (b0 : decode bs 0 = .ok (.aload_n 0, 1)) (b1 : decode bs 1 = .ok (.aload_n 1, 1)) (b2 : decode bs 2 = .ok (.invokespecial ix, 3)) (b5 : decode bs 5 = .ok (.return_, 1))
    (h : ∀ a ∈ zx_atoms own ic cls Y ix bs names, a.before args s = true)
    (hlocs : ∀ x ∈ locs, ∀ cell, s.heap[x.base]? = some cell → cell.vm.isStatics = false)
    {a : Addr} {cX : ClassId} {kX : Class} (hfoundX : s.vm.findClass cls = some cX) (hkX : s.vm.classes[cX]? = some kX) (hcell : W9.heap[a]? = some (freshCell cX kX)) (hnew : s.heap.size ≤ a)
    {msg : Value} (hmsg : msg.isRef = true)
    {g : JFrame} (hg : g.method = m₀) (hsize : g.locals.size = c.maxLocals) (hlocked : g.locked = none) (hentered : g.entered = []) {rest : List Value} (hstack : g.stack = msg :: .ref a :: .ref a :: rest)
    (hd6 : decode c.code g.pc = .ok (.invokespecial ic, 3)) (hd9 : decode c.code (g.pc + 3) = .ok (.athrow, 1)) (hout : ∀ x ∈ c.exceptionTable.toList, covers x (g.pc + 3) = false)
    (hRframes : names.length + 4 < R.frames) (hRlocals : 2 * g.monitorRoom + ((Value.ref a :: rest).map fun v => v.category).sum + (13 * (names.length + 2) + 42) ≤ R.locals) (hlocks : meth.locks = false) :
    ∃ U : State, Steps p.tables e below (W9.setTop g) U ∧ U.status = .running ∧ Ended U below (.threw a) ∧ s.WarmedH U.vm ∧ s.sameButNew ({ U with vm := s.vm } : State) locs cells slots ∧
      ∃ ce, U.heap[a]? = some ce ∧ ce.vm = .none ∧ s.vm.findClass cls = some ce.cls := by
  have howns : e.platform.frameOwnsMonitors = true := by rw [X.admits.platform]
  have hfin : e.platform.finalization = false := by rw [X.admits.platform]
  have hpl : e.platform.magicAccessors = ({} : Platform).magicAccessors := by rw [X.admits.platform]
  have a' : ∀ x, x ∈ zx_atoms own ic cls Y ix bs names → x.holds args s none s [] = true := fun x hx => h x hx
  obtain ⟨T, Z0, L, -, Yt⟩ := ThrowableC.of_atoms (args := args) howns hfin hpl (fun x hx => h x (by simp [zx_atoms, hx]))
  obtain ⟨Z, M, LZ, LM, hnZ⟩ := Init0T.ofS_atoms (args := args) hpl L Yt (fun x hx => h x (by simp [zx_atoms, hx]))
  obtain ⟨P1, L1, hP1m, hP1s⟩ := PassC.ofS_atoms (args := args) (s := s) hpl (X := cls) (Y := Y) (Bundle.fit_spec hcls).1 (Bundle.fit_spec hY).2 b0 b1 b2 b5 (fun x hx => h x (by simp [zx_atoms, hx]))
  obtain ⟨P2, Ps, hlen, L2, hL, hP2m, hlink2, hlink⟩ := Bundle.chainS (args := args) hpl hnZ names Y hY hnames (fun x hx => h x (by simp [zx_atoms, hx]))
  have hlink1 : P1.sup = P2.m := Option.some.inj (hP1s.symm.trans hP2m)
  have hfound : s.vm.findClass cls = some P1.m.cls := findClass_of_methodNamed hP1m
  cases Option.some.inj (hfoundX.symm.trans hfound)
  obtain ⟨c1, kX', hc1, hk, hord, -, -, hn6⟩ := Cond.instantiable_spec (a' (.instantiable cls 6) (by simp [zx_atoms]))
  cases Option.some.inj (hc1.symm.trans hfound)
  cases Option.some.inj (hkX.symm.trans hk)
  have hsel0 : selectMethod e.platform s.vm P1.m.cls T.fill0 = .method T.fill0 := by
    obtain ⟨c2, r2, m2, q1, q2, q3, q4, -⟩ := Cond.selects_spec (a' (.selects cls Bundle.tFill0 Bundle.tFill0) (by simp [zx_atoms]))
    cases Option.some.inj (q1.symm.trans hfound)
    cases Option.some.inj (q2.symm.trans (State.methodFound?_of_named Yt.fill0 (by decide)))
    cases Option.some.inj (q3.symm.trans Yt.fill0)
    rw [Launch.admits_selectMethod X.admits]; exact q4
  have hselF : selectMethod e.platform s.vm P1.m.cls T.fill = .method T.fill := by
    obtain ⟨c2, r2, m2, q1, q2, q3, q4, -⟩ := Cond.selects_spec (a' (.selects cls Bundle.tFill Bundle.tFill) (by simp [zx_atoms]))
    cases Option.some.inj (q1.symm.trans hfound)
    cases Option.some.inj (q2.symm.trans (State.methodFound?_of_named Yt.fill (by decide)))
    cases Option.some.inj (q3.symm.trans Yt.fill)
    rw [Launch.admits_selectMethod X.admits]; exact q4
  obtain ⟨cellS0, hcS0, hiss⟩ := Yt.statics
  obtain ⟨u0, hu0⟩ := Cond.staticRefV Yt.unassigned L.unassignedStatic L.statics hcS0 hiss (a' (.isRef (.static Bundle.tN "UNASSIGNED_STACK" Bundle.steD)) (by simp [zx_atoms]))
  obtain ⟨sen, hsen⟩ := Cond.staticRefV Yt.sentinel L.sentinelStatic L.statics hcS0 hiss (a' (.isRef (.static Bundle.tN "SUPPRESSED_SENTINEL" Bundle.listD)) (by simp [zx_atoms]))
  obtain ⟨ci198, i198, fB, hk198, hg198, ha198, hsB, -, hnB, htB, hffB⟩ := Cond.ownField (t := .object "java/lang/Object") Yt.found L.cls (by decide +kernel) (a' (.fieldLink Bundle.tN 198 Bundle.tN "backtrace" "Ljava/lang/Object;") (by simp [zx_atoms])) (a' (.lays Bundle.tN Bundle.tN "backtrace" "Ljava/lang/Object;") (by simp [zx_atoms])) e.platform hpl
  obtain ⟨cellS, hcS', heS, -, hkeep⟩ := X.same.2.2.2.2.2 T.aS cellS0 hcS0
  have hcellS : W9.heap[T.aS]? = some cellS := hcS'
  have hout' : ∀ i, (⟨T.aS, i⟩ : Loc) ∉ locs := fun i hmem => by
    have := hlocs _ hmem cellS0 hcS0
    rw [hiss] at this; cases this
  have hknownS : cellS.vm ≠ .unknown := by
    rw [heS]; intro hu
    rw [show cellS0.vm = .unknown from hu] at hiss
    cases hiss
  have hneS : T.aS ≠ a := Nat.ne_of_lt (Nat.lt_of_lt_of_le (Array.getElem?_eq_some_iff.mp hcS0).1 hnew)
  obtain ⟨iM, hffM⟩ := Yt.msg
  obtain ⟨tyC, dC, hdC, hdnC⟩ := Cond.laysAt hfound hk Yt.cause (a' (.lays cls Bundle.tN "cause" "Ljava/lang/Throwable;") (by simp [zx_atoms]))
  obtain ⟨tyS, dS, hdS, hdnS⟩ := Cond.laysAt hfound hk Yt.stack (a' (.lays cls Bundle.tN "stackTrace" Bundle.steD) (by simp [zx_atoms]))
  obtain ⟨tyP, dP, hdP, hdnP⟩ := Cond.laysAt hfound hk Yt.supp (a' (.lays cls Bundle.tN "suppressedExceptions" Bundle.listD) (by simp [zx_atoms]))
  obtain ⟨tyM, dM, hdM, hdnM⟩ := Cond.laysAt hfound hk hffM (a' (.lays cls Bundle.tN "detailMessage" "Ljava/lang/String;") (by simp [zx_atoms]))
  obtain ⟨tyB, dB, hdB, hdnB⟩ := Cond.laysAt hfound hk hffB (a' (.lays cls Bundle.tN "backtrace" "Ljava/lang/Object;") (by simp [zx_atoms]))
  have bC := Cond.laysApart hdB hdC hdnB hdnC (by rw [hnB, Yt.causeName]; decide)
  have bS := Cond.laysApart hdB hdS hdnB hdnS (by rw [hnB, Yt.stackName]; decide)
  have bP := Cond.laysApart hdB hdP hdnB hdnP (by rw [hnB, Yt.suppName]; decide)
  have hskip : SkipFacts T e.platform s (fun u => u) u0 ((preparedCellV T.toThrowableT (freshCell P1.m.cls kX) a u0 sen).withEntry W9.cur) :=
    ⟨{ ci198 := ci198, i198 := i198, fBack := fB }, ⟨hk198, hg198, ha198, hsB⟩, by
      have := fresh_default (c := P1.m.cls) tyB
      rw [htB] at this
      simpa [preparedCellV, Cell.setSlot, Cell.withEntry, Array.getElem?_setIfInBounds, bC, bS, bP, bC.symm, bS.symm, bP.symm, defaultValue] using this, fun _ _ => rfl⟩
  obtain ⟨tm, methC, cdC, kC, vm₁, hnC, -, -, -, -, -, -, -, hW₁, st1⟩ := Steps.initColdS (tb := p.tables) (e := e) (below := below) (s := s) (U := W9) X.here hexec X.warmed hpl hown (t := Bundle.initS cls) rfl rfl (Bundle.fit_spec hcls).2
    (a' (.methodLink own ic (Bundle.initS cls)) (by simp [zx_atoms])) (h (.instanceMethod (Bundle.initS cls)) (by simp [zx_atoms, Bundle.passSAtoms])) (bytes := bs) (maxL := 2) (h (.code (Bundle.initS cls) bs 2 none) (by simp [zx_atoms, Bundle.passSAtoms]))
    (f := g) hg (a := a) (msg := msg) (rest := .ref a :: rest) hstack hd6
  cases Option.some.inj (hnC.symm.trans hP1m)
  have X₁ := X.noted hW₁
  obtain ⟨vm₂, X₂, st2⟩ := X₁.ctorMessageOffV hexec (g := { g with stack := .ref a :: rest }) hg hsize T L Z LZ M LM (P1 :: P2 :: Ps)
    (fun P hP => by
      rcases List.mem_cons.mp hP with rfl | hP
      · exact L1
      · rcases List.mem_cons.mp hP with rfl | hP
        · exact L2
        · exact hL P hP) ⟨hlink1, hlink2, hlink⟩ (u0 := u0) (sen := sen) (self := a) hmsg (cell := freshCell P1.m.cls kX) (cellS := cellS)
    hcell (fun _ => by simp) (by simp) rfl rfl hsel0 hselF hcellS hneS hknownS (by rw [hkeep _ (hout' _)]; exact hu0) (by rw [hkeep _ (hout' _)]; exact hsen)
    (Takes.of_laid hk hord tyC (by rw [Yt.causeType]; rfl)) (Takes.of_laid hk hord tyS (by rw [Yt.stackType]; exact fits_refV_array _ u0)) (Takes.of_laid hk hord tyP (by rw [Yt.suppType]; exact fits_refV_object _ sen))
    (Takes.of_laid hk hord tyM (by rw [Yt.msgType]; exact fits_refV_object _ ⟨msg, hmsg⟩)) Yt.objLocals hskip htr [] hd6
    (by simp only [List.length_cons, hlen]; omega) (by simp only [List.length_cons, hlen]; exact hRlocals)
  obtain ⟨hwalk, hrun, hended, hWU, hsame⟩ := X₂.athrowLeaves hexec (g := { g with stack := .ref a :: rest, pc := g.pc + 3 }) hg hlocked hentered hout (a := a) (rest := rest) rfl hd9 hlocks
  have hlt : a < ((W9.setVm vm₁).setVm vm₂).heap.size := (Array.getElem?_eq_some_iff.mp hcell).1
  have hU := heapAt_setCell_self (s := (W9.setVm vm₁).setVm vm₂) (plainBareV T.toThrowableT (freshCell P1.m.cls kX) a u0 sen msg) hlt
  refine ⟨_, st1 _ (fun acts => ?_), hrun, hended, hWU, hsame.weaken (fun y hy hlt' => ?_) (Nat.le_refl _) (Nat.le_refl _), _, hU, rfl, hfound⟩
  · rw [doInvoke_state]
    exact st2 _ hwalk
  · rcases List.mem_append.mp hy with h1 | h1
    · exact h1
    · exfalso
      have hb : y.base = a := by
        simp only [List.mem_cons, List.not_mem_nil, or_false] at h1
        rcases h1 with rfl | rfl | rfl | rfl | rfl <;> rfl
      rw [hb] at hlt'
      exact Nat.not_lt.mpr hnew hlt'
end Nse
def zNse : ByteArray := prog_21_method_4_code
def zx_at (own : String) (ic : Nat) : List Cond := (zx_atoms own ic "java/util/NoSuchElementException" "java/lang/RuntimeException" 13 zNse ["java/lang/Exception"]).filter vx_no
def zx_b : Bool :=
  decide (Cond.classLink RX4 237 "java/util/NoSuchElementException" ∈ zWS) && decide (Cond.initialized "java/util/NoSuchElementException" ∈ zWS) && ((zx_at RX4 241).filter goodWord).all (fun w => decide (w ∈ zWS)) && ((zx_at RX4 241).filter (fun w => !goodWord w)).all (fun w => decide (w ∈ zBad)) &&
  (Cond.classLink RX4 237 "java/util/NoSuchElementException" :: Cond.initialized "java/util/NoSuchElementException" :: zx_at RX4 241).all vx_ot
theorem zx_b_ok : zx_b = true := by decide +kernel
end
section
section Nse2
variable {p : Program} {l : Launch} {e : Env} {R : Room} {s : State} {m : MethodId} {args : Array Value} {below : List Frame} {meth : Method} {c : Code} {H : Heap} {locs : List Loc} {cells slots : Nat} {Qc : Array Value → State → Outcome → State → Prop} {XC : String → State → State → Prop} {free : Addr → Prop} {ls : Array Slot} {rest : List Value}
/-- the row of that throw: as vx_throwS, by zx_ctor -/
theorem zx_throw {cc : ByteArray} {pc : Nat} (hexec : p.tables.exec = Jvm.exec) (hb : c.code = cc) (hl : l.stackTraces = false) {text : String} {is mc ms sa : Nat} {A : Nat → Prop}
    (hown : s.vm.findClass RX4 = some m.cls) (hk : (Cond.classLink RX4 237 "java/util/NoSuchElementException").before args s = true) (hini : (Cond.initialized "java/util/NoSuchElementException").before args s = true) (hstr : vk_R RX4 is text sa s) (hat : ∀ w ∈ zx_at RX4 241, w.before args s = true)
    (hgood : ∀ w ∈ Cond.classLink RX4 237 "java/util/NoSuchElementException" :: Cond.initialized "java/util/NoSuchElementException" :: zx_at RX4 241, vx_ot w = true)
    (hU : vx_Zq Bundle.tN "UNASSIGNED_STACK" Bundle.steD A s s.heap) (hN : vx_Zq Bundle.tN "SUPPRESSED_SENTINEL" Bundle.listD A s s.heap) (hS : va_S A s.heap H locs) (hsize : ls.size = c.maxLocals)
    (d0 : decode cc pc = .ok (.new 237, 3)) (d3 : decode cc (pc + 3) = .ok (.dup, 1)) (d4 : decode cc (pc + 4) = .ok (.ldc is, 2)) (d6 : decode cc (pc + 6) = .ok (.invokespecial 241, 3)) (d9 : decode cc (pc + 9) = .ok (.athrow, 1))
    (hout : ∀ x ∈ c.exceptionTable.toList, covers x (pc + 9) = false)
    (hRframes : 5 < R.frames) (hRlocals : (rest.map fun v => v.category).sum + 82 ≤ R.locals) (hRcells : cells + 1 ≤ R.cells) (hRslots : slots + 6 ≤ R.slots) (hlocks : meth.locks = false)
    (hx : ∀ t : State, s.vm.Alike t.vm → H.size ≤ t.heap.size → (∀ q : Nat, q < H.size → t.heap[q]? = H[q]?) → XC "java/util/NoSuchElementException" s t)
    (hf : ∀ z ∈ locs, free z.base) (hc : cells + 1 ≤ mc) (hs : slots + 6 ≤ ms) :
    W p l e R s m args below meth c H locs cells slots (vx_MQ below Qc XC args s mc ms free) (F0 m pc ls rest) := by
  intro T hT X
  have htr : e.platform.stackTraces = false := (show e.platform.stackTraces = l.stackTraces by rw [X.admits.platform]).trans hl
  have Y := vx_rebase X (R' := { frames := R.frames, locals := R.locals, cells := 1, slots := 6 }) (Nat.le_refl _) (Nat.le_refl _) hRcells hRslots
  obtain ⟨s', hA⟩ : ∃ z, z = (T.setVm s.vm).setFrames (.invoking m args :: below) := ⟨_, rfl⟩
  rw [← hA] at Y
  have hvm : s'.vm = s.vm := by rw [hA]; rfl
  have hhp : s'.heap = H := by rw [hA]; exact hT
  have hW0 : s.WarmedH s'.vm := by rw [hvm]; exact State.WarmedH.refl s
  have hat' : ∀ w ∈ zx_at RX4 241, w.before args s' = true := fun w hw => vx_ot_at hW0 hvm.symm (hgood w (List.mem_cons_of_mem _ (List.mem_cons_of_mem _ hw))) (hat w hw)
  have hk' : (Cond.classLink RX4 237 "java/util/NoSuchElementException").before args s' = true := vx_ot_at hW0 hvm.symm (hgood _ List.mem_cons_self) hk
  have hini' : (Cond.initialized "java/util/NoSuchElementException").before args s' = true := vx_ot_at hW0 hvm.symm (hgood _ (List.mem_cons_of_mem _ List.mem_cons_self)) hini
  have hU' : vx_Zq Bundle.tN "UNASSIGNED_STACK" Bundle.steD A s' s'.heap := by rw [hhp]; exact vx_Zq.moved hW0.alike (hU.kept hS.2.1)
  have hN' : vx_Zq Bundle.tN "SUPPRESSED_SENTINEL" Bundle.listD A s' s'.heap := by rw [hhp]; exact vx_Zq.moved hW0.alike (hN.kept hS.2.1)
  have h : ∀ w ∈ zx_atoms RX4 241 "java/util/NoSuchElementException" "java/lang/RuntimeException" 13 zNse ["java/lang/Exception"], w.before args s' = true := vx_own hat' (vx_isRefq hU'.1) (vx_isRefq hN'.1) hU'.2.word hN'.2.word
  have hown' : s'.vm.findClass RX4 = some m.cls := by rw [hvm]; exact hown
  have hins : (Cond.instantiable "java/util/NoSuchElementException" 6).before args s' = true := h _ (by simp [zx_atoms])
  obtain ⟨vm₁, cX, kX, hfX, hkX, -, -, X₁, st1⟩ := Y.newCold hexec (own := RX4) (C := "java/util/NoSuchElementException") (index := 237) (n := 6) hown' hk' hins hini'
    (g := F0 m pc ls rest) rfl (by rw [hb]; exact d0) (Nat.le_refl _) (Nat.le_refl _)
  generalize hT1 : (T.setVm vm₁).pushCell { cls := cX, slots := kX.instanceTypes.map defaultValue, vm := .none } = T1 at X₁ st1
  have hcat : (Value.ref T.heap.size).category = 1 := rfl
  have hcellA : T1.heap[T.heap.size]? = some (freshCell cX kX) := by rw [← hT1]; exact State.heap_pushCell_size _ _
  have d3' : decode c.code (pc + 3) = .ok (.dup, 1) := by rw [hb]; exact d3
  have d4' : decode c.code (pc + 4) = .ok (.ldc is, 2) := by rw [hb]; exact d4
  have hstr' : vk_R RX4 is text sa s' := vk_R.warm hW0 hstr
  obtain ⟨U, hsteps, hrun, hend, hW, hsame, ce, hce, hcv, hcl0⟩ := zx_ctor X₁ hexec htr (own := RX4) (cls := "java/util/NoSuchElementException") (Y := "java/lang/RuntimeException") (names := ["java/lang/Exception"]) (ic := 241) (ix := 13) (bs := zNse) hown' (by decide +kernel) (by decide +kernel) (by decide +kernel) (by decide +kernel) (by decide +kernel) (by decide +kernel) (by decide +kernel) h (fun x hx => nomatch hx) hfX hkX hcellA (by rw [hhp, hT]; exact Nat.le_refl _) (msg := .ref sa) rfl
    (g := { method := m, pc := pc + 6, locals := ls, stack := .ref sa :: .ref T.heap.size :: .ref T.heap.size :: rest, locked := none }) rfl hsize rfl rfl (rest := rest) rfl
    (by rw [hb]; exact d6) (by rw [hb]; exact d9) hout hRframes (by simp only [List.map_cons, List.sum_cons, hcat, List.length_cons, List.length_nil]; show 2 * 0 + _ + _ ≤ _; omega) hlocks
  obtain ⟨f1, f2⟩ := vx_frame hsame
  rw [hhp] at f1 f2
  have hWs : s.WarmedH U.vm := State.WarmedH.trans hW0 hW
  have hcl : s.vm.findClass "java/util/NoSuchElementException" = some ce.cls := by
    rw [hvm] at hcl0
    exact hcl0
  have hall : s.sameButNew ({ U with vm := s.vm } : State) locs mc ms := by
    subst hA
    obtain ⟨e1, e2⟩ := hsame
    rw [State.setFrames_setFrames] at e1
    have h2 : (T.setVm s.vm).sameButNew ({ U with vm := s.vm } : State) [] (0 + 1) (0 + 6) := ⟨e1, e2⟩
    have h3 := X.same.trans h2
    rw [List.append_nil] at h3
    exact h3.mono hc hs
  refine ⟨U, ?_, .threw T.heap.size, hrun, hend, Or.inr ⟨T.heap.size, rfl, "java/util/NoSuchElementException", ce, locs, hx U hWs.alike f1 (fun q hq => f2 q hq (fun z hz => nomatch hz)), hce, hcv, hcl, hWs, hall, hf⟩⟩
  refine st1 _ ?_
  show Steps p.tables e below (T1.setTop { method := m, pc := pc + 3, locals := ls, stack := .ref T.heap.size :: rest, locked := none }) _
  jvm_step X₁.here [X₁.here.top, hexec, d3', Value.category]
  exact X₁.ldcString hexec (own := RX4) (text := text) (index := is) (a := sa) hown' hstr'.1 hstr'.2
    (g := { method := m, pc := pc + 4, locals := ls, stack := .ref T.heap.size :: .ref T.heap.size :: rest, locked := none }) rfl d4' _ hsteps
end Nse2
theorem z_throwN {l : Launch} (hl : l.stackTraces = false) {R : Room} {nL pc is : Nat} {cc : ByteArray} {text : String} (hd : z_thd cc pc 237 is 241 = true) (hm : (is, text) ∈ zMsg) (hf : 6 ≤ R.frames) (hlo : 100 ≤ R.locals) : zThrOK l R RX4 nL cc pc 2 := by
  intro p e s m args below meth c D ca ad A g0 Cx
  obtain ⟨hx, hb, hml, hown, hts, hK, hA, hE, hlocks, hex⟩ := Cx
  intro lc st g b h1 h6 hwt H locs cells slots ls hP hS hls c1 c2 h5
  have hb0 := zx_b_ok
  simp only [zx_b, Bool.and_eq_true, decide_eq_true_eq] at hb0
  obtain ⟨⟨⟨⟨w1, w2⟩, w3⟩, w4⟩, w5⟩ := hb0
  simp only [z_thd, Bool.and_eq_true, decide_eq_true_eq] at hd
  obtain ⟨⟨⟨⟨d0, d3⟩, d4⟩, d6⟩, d9⟩ := hd
  have hE' := hE
  obtain ⟨-, -, eU, eN, eM, -⟩ := hE
  obtain ⟨sa, hsa⟩ := eM _ hm
  have hat : ∀ w ∈ zx_at RX4 241, w.before args s = true := vx_hat (fun w hw => hts w (of_decide_eq_true (List.all_eq_true.mp w3 w hw))) (fun w hw => of_decide_eq_true (List.all_eq_true.mp w4 w hw)) (zBad_ok hE')
  refine zx_throw hx hb hl hown (hts _ w1) (hts _ w2) hsa hat (fun w hw => List.all_eq_true.mp w5 w hw) eU eN hS (by rw [hls.1, hml]) d0 d3 d4 d6 d9 (fun y hy => absurd (hex y hy) id) (by omega) (by rw [z_wt_sum]; omega) (by omega) (by omega) hlocks (fun t hal hz hq => ⟨⟨2, rfl, rfl, ⟨hP.1.kept (fun k q hk => hq _ ((hP.1 k q hk).lt)), hP.2⟩, h5⟩, ⟨Nat.le_trans hS.1 hz, fun q h1 h2 => ?_⟩⟩) hS.2.2 (by omega) (by omega)
  rw [hq q (Nat.lt_of_lt_of_le h1 hS.1)]
  exact hS.2.1 q h1 h2
end
section
def zfl_J6 : List (Nat × (Nat × Nat)) := []
def zcs_J6 : List (Nat × zVV) := [(265, .inl 1431655765), (266, .inl 858993459), (267, .inl 252645135)]
def zth_J6 : List (Nat × Nat) := []
theorem zfl_J6_ok : zfl_J6.all (fun q => z_flb RJ6 q.1 q.2.1 q.2.2) = true := by decide +kernel
theorem zcs_J6_ok : zcs_J6.all (fun q => z_csb RJ6 q.1 q.2) = true := by decide +kernel
def zfl_J7 : List (Nat × (Nat × Nat)) := []
def zcs_J7 : List (Nat × zVV) := []
def zth_J7 : List (Nat × Nat) := []
theorem zfl_J7_ok : zfl_J7.all (fun q => z_flb RJ7 q.1 q.2.1 q.2.2) = true := by decide +kernel
theorem zcs_J7_ok : zcs_J7.all (fun q => z_csb RJ7 q.1 q.2) = true := by decide +kernel
def zc_J6_bitCount_0f7a4 : zCD := [(0, .iload_n 0, 1, 0), (1, .iload_n 0, 2, 0), (2, .iconst 1, 3, 0), (3, .iushr, 4, 0), (4, .ldc_w 265, 7, 0), (7, .iand, 8, 0), (8, .isub, 9, 0), (9, .istore_n 0, 10, 0), (10, .iload_n 0, 11, 0), (11, .ldc_w 266, 14, 0), (14, .iand, 15, 0), (15, .iload_n 0, 16, 0), (16, .iconst 2, 17, 0), (17, .iushr, 18, 0), (18, .ldc_w 266, 21, 0), (21, .iand, 22, 0), (22, .iadd, 23, 0), (23, .istore_n 0, 24, 0), (24, .iload_n 0, 25, 0), (25, .iload_n 0, 26, 0), (26, .iconst 4, 27, 0), (27, .iushr, 28, 0), (28, .iadd, 29, 0), (29, .ldc_w 267, 32, 0), (32, .iand, 33, 0), (33, .istore_n 0, 34, 0), (34, .iload_n 0, 35, 0), (35, .iload_n 0, 36, 0), (36, .bipush 8, 38, 0), (38, .iushr, 39, 0), (39, .iadd, 40, 0), (40, .istore_n 0, 41, 0), (41, .iload_n 0, 42, 0), (42, .iload_n 0, 43, 0), (43, .bipush 16, 45, 0), (45, .iushr, 46, 0), (46, .iadd, 47, 0), (47, .istore_n 0, 48, 0), (48, .iload_n 0, 49, 0), (49, .bipush 63, 51, 0), (51, .iand, 52, 0), (52, .ireturn, 53, 0)]
def zk_J6_bitCount_0f7a4 : List (Nat × List Nat) := []
def zl_J6_bitCount_0f7a4 : List (Nat × zCI) := []
def zM_J6_bitCount_0f7a4 : zMI := (z_look zfl_J6, z_look zl_J6_bitCount_0f7a4, z_look zcs_J6, z_look zth_J6, 1, 1)
def zs_J6_bitCount_0f7a4 : List (Nat × Nat × Nat × Nat) := [(0, 0, 0, 0)]
def zF_J6_bitCount_0f7a4 : List zVV → zSG → Option zRR := z_fn zs_J6_bitCount_0f7a4 zM_J6_bitCount_0f7a4 zc_J6_bitCount_0f7a4 zk_J6_bitCount_0f7a4 (0, 0)
theorem zo_J6_bitCount_0f7a4 : z_okc cJ6_bitCount_0f7a4 zc_J6_bitCount_0f7a4 = true := by decide +kernel
theorem zv_J6_bitCount_0f7a4 : z_kd [] zc_J6_bitCount_0f7a4 = true := by decide +kernel
set_option maxRecDepth 20000 in
theorem zt_J6_bitCount_0f7a4 (l : Launch) : zCt l yJ6_bitCount_0f7a4 cJ6_bitCount_0f7a4 1 (some .int) (zrm 0 0 0) zF_J6_bitCount_0f7a4 := z_ct (own := RJ6) (sh := zs_J6_bitCount_0f7a4) (M := zM_J6_bitCount_0f7a4) (cd := zc_J6_bitCount_0f7a4) (cut := zk_J6_bitCount_0f7a4) (by decide +kernel) rfl rfl rfl (z_fl_all zfl_J6_ok) (z_cs_all zcs_J6_ok) zo_J6_bitCount_0f7a4 z_nothr (z_hcal (L := zl_J6_bitCount_0f7a4) zv_J6_bitCount_0f7a4 (fun _ h => nomatch h)) (by decide)
def zc_J7_fill_53178 : zCD := [(0, .iconst 0, 1, 0), (1, .istore_n 2, 2, 0), (2, .aload_n 0, 3, 0), (3, .arraylength, 4, 0), (4, .istore_n 3, 5, 0), (5, .iload_n 2, 6, 0), (6, .iload_n 3, 7, 0), (7, .if_icmp .ge 13, 10, 20), (10, .aload_n 0, 11, 0), (11, .iload_n 2, 12, 0), (12, .iload_n 1, 13, 0), (13, .iastore, 14, 0), (14, .iinc 2 1, 17, 0), (17, .goto (-12), 20, 5), (20, .return_, 21, 0)]
def zk_J7_fill_53178 : List (Nat × List Nat) := [(5, [0, 1, 2, 3])]
def zl_J7_fill_53178 : List (Nat × zCI) := []
def zM_J7_fill_53178 : zMI := (z_look zfl_J7, z_look zl_J7_fill_53178, z_look zcs_J7, z_look zth_J7, 4, 0)
def zs_J7_fill_53178 : List (Nat × Nat × Nat × Nat) := [(3, 4, 0, 8), (0, 0, 0, 0)]
def zF_J7_fill_53178 : List zVV → zSG → Option zRR := z_fn zs_J7_fill_53178 zM_J7_fill_53178 zc_J7_fill_53178 zk_J7_fill_53178 (0, 0)
theorem zo_J7_fill_53178 : z_okc cJ7_fill_53178 zc_J7_fill_53178 = true := by decide +kernel
theorem zv_J7_fill_53178 : z_kd [] zc_J7_fill_53178 = true := by decide +kernel
set_option maxRecDepth 20000 in
theorem zt_J7_fill_53178 (l : Launch) : zCt l yJ7_fill_53178 cJ7_fill_53178 4 none (zrm 0 0 0) zF_J7_fill_53178 := z_ct (own := RJ7) (sh := zs_J7_fill_53178) (M := zM_J7_fill_53178) (cd := zc_J7_fill_53178) (cut := zk_J7_fill_53178) (by decide +kernel) rfl rfl rfl (z_fl_all zfl_J7_ok) (z_cs_all zcs_J7_ok) zo_J7_fill_53178 z_nothr (z_hcal (L := zl_J7_fill_53178) zv_J7_fill_53178 (fun _ h => nomatch h)) (by decide)
def zfl_X2 : List (Nat × (Nat × Nat)) := [(9, (4, 0)), (15, (4, 1)), (18, (4, 2)), (21, (4, 3)), (24, (4, 4)), (27, (4, 5)), (30, (4, 6)), (34, (4, 7)), (37, (4, 9)), (40, (4, 10)), (43, (4, 11)), (58, (4, 13)), (62, (4, 8)), (65, (4, 12)), (68, (4, 15)), (71, (4, 16)), (74, (4, 17)), (77, (4, 14)), (80, (5, 0))]
def zcs_X2 : List (Nat × zVV) := []
def zth_X2 : List (Nat × Nat) := []
theorem zfl_X2_ok : zfl_X2.all (fun q => z_flb RX2 q.1 q.2.1 q.2.2) = true := by decide +kernel
theorem zcs_X2_ok : zcs_X2.all (fun q => z_csb RX2 q.1 q.2) = true := by decide +kernel
def zfl_X0 : List (Nat × (Nat × Nat)) := [(9, (2, 0)), (15, (2, 1)), (18, (2, 2)), (21, (2, 3)), (24, (2, 4)), (27, (2, 5)), (30, (2, 6)), (33, (2, 7))]
def zcs_X0 : List (Nat × zVV) := []
def zth_X0 : List (Nat × Nat) := []
theorem zfl_X0_ok : zfl_X0.all (fun q => z_flb RX0 q.1 q.2.1 q.2.2) = true := by decide +kernel
theorem zcs_X0_ok : zcs_X0.all (fun q => z_csb RX0 q.1 q.2) = true := by decide +kernel
def zc_X2_mark : zCD := [(0, .aload_n 0, 1, 0), (1, .getfield 9, 4, 0), (4, .iconst 0, 5, 0), (5, .aload_n 0, 6, 0), (6, .getfield 40, 9, 0), (9, .iconst 0, 10, 0), (10, .bipush 8, 12, 0), (12, .invokestatic 46, 15, 0), (15, .aload_n 0, 16, 0), (16, .aload_n 0, 17, 0), (17, .getfield 58, 20, 0), (20, .putfield 65, 23, 0), (23, .return_, 24, 0)]
def zk_X2_mark : List (Nat × List Nat) := []
def zl_X2_mark : List (Nat × zCI) := [(46, (zF_acp, 5, 0, 0, 0))]
def zM_X2_mark : zMI := (z_look zfl_X2, z_look zl_X2_mark, z_look zcs_X2, z_look zth_X2, 1, 0)
def zs_X2_mark : List (Nat × Nat × Nat × Nat) := [(3, 4, 0, 0)]
def zF_X2_mark : List zVV → zSG → Option zRR := z_fn zs_X2_mark zM_X2_mark zc_X2_mark zk_X2_mark (0, 0)
theorem zo_X2_mark : z_okc cX2_mark zc_X2_mark = true := by decide +kernel
theorem zv_X2_mark : z_kd [] zc_X2_mark = true := by decide +kernel
set_option maxRecDepth 20000 in
theorem zt_X2_mark (l : Launch) : zCt l yX2_mark cX2_mark 1 none (zrm 1 0 0) zF_X2_mark := z_ct (own := RX2) (sh := zs_X2_mark) (M := zM_X2_mark) (cd := zc_X2_mark) (cut := zk_X2_mark) (by decide +kernel) rfl rfl rfl (z_fl_all zfl_X2_ok) (z_cs_all zcs_X2_ok) zo_X2_mark z_nothr (z_hcal (L := zl_X2_mark) zv_X2_mark (List.forall_mem_cons.mpr ⟨z_calAcp (l := l) (j := 46) (by decide +kernel) (by decide) (by decide +kernel), fun _ h => nomatch h⟩)) (by decide)
theorem zr_X2_mark : ∀ vs g r, zF_X2_mark vs g = some r → ∃ i rv, vs = .inr (.inl (4, i, 0)) :: rv ∧ i < z_ni 4 := fun vs g r h => z_chk_rec (z_fn_chk (sh := zs_X2_mark) h).1 (Or.inr rfl)
def zc_X2_backToMark : zCD := [(0, .aload_n 0, 1, 0), (1, .getfield 40, 4, 0), (4, .iconst 0, 5, 0), (5, .aload_n 0, 6, 0), (6, .getfield 9, 9, 0), (9, .iconst 0, 10, 0), (10, .bipush 8, 12, 0), (12, .invokestatic 46, 15, 0), (15, .aload_n 0, 16, 0), (16, .aload_n 0, 17, 0), (17, .getfield 65, 20, 0), (20, .putfield 58, 23, 0), (23, .return_, 24, 0)]
def zk_X2_backToMark : List (Nat × List Nat) := []
def zl_X2_backToMark : List (Nat × zCI) := [(46, (zF_acp, 5, 0, 0, 0))]
def zM_X2_backToMark : zMI := (z_look zfl_X2, z_look zl_X2_backToMark, z_look zcs_X2, z_look zth_X2, 1, 0)
def zs_X2_backToMark : List (Nat × Nat × Nat × Nat) := [(3, 4, 0, 0)]
def zF_X2_backToMark : List zVV → zSG → Option zRR := z_fn zs_X2_backToMark zM_X2_backToMark zc_X2_backToMark zk_X2_backToMark (0, 0)
theorem zo_X2_backToMark : z_okc cX2_backToMark zc_X2_backToMark = true := by decide +kernel
theorem zv_X2_backToMark : z_kd [] zc_X2_backToMark = true := by decide +kernel
set_option maxRecDepth 20000 in
theorem zt_X2_backToMark (l : Launch) : zCt l yX2_backToMark cX2_backToMark 1 none (zrm 1 0 0) zF_X2_backToMark := z_ct (own := RX2) (sh := zs_X2_backToMark) (M := zM_X2_backToMark) (cd := zc_X2_backToMark) (cut := zk_X2_backToMark) (by decide +kernel) rfl rfl rfl (z_fl_all zfl_X2_ok) (z_cs_all zcs_X2_ok) zo_X2_backToMark z_nothr (z_hcal (L := zl_X2_backToMark) zv_X2_backToMark (List.forall_mem_cons.mpr ⟨z_calAcp (l := l) (j := 46) (by decide +kernel) (by decide) (by decide +kernel), fun _ h => nomatch h⟩)) (by decide)
theorem zr_X2_backToMark : ∀ vs g r, zF_X2_backToMark vs g = some r → ∃ i rv, vs = .inr (.inl (4, i, 0)) :: rv ∧ i < z_ni 4 := fun vs g r h => z_chk_rec (z_fn_chk (sh := zs_X2_backToMark) h).1 (Or.inr rfl)
def zc_X2_has : zCD := [(0, .aload_n 0, 1, 0), (1, .getfield 30, 4, 0), (4, .iload_n 1, 5, 0), (5, .baload, 6, 0), (6, .ifCond .eq 21, 9, 27), (9, .iload_n 2, 10, 0), (10, .ifCond .lt 17, 13, 27), (13, .iload_n 2, 14, 0), (14, .aload_n 0, 15, 0), (15, .getfield 18, 18, 0), (18, .iload_n 1, 19, 0), (19, .iaload, 20, 0), (20, .if_icmp .ge 7, 23, 27), (23, .iconst 1, 24, 0), (24, .goto 4, 27, 28), (27, .iconst 0, 28, 0), (28, .ireturn, 29, 0)]
def zk_X2_has : List (Nat × List Nat) := []
def zl_X2_has : List (Nat × zCI) := []
def zM_X2_has : zMI := (z_look zfl_X2, z_look zl_X2_has, z_look zcs_X2, z_look zth_X2, 3, 2)
def zs_X2_has : List (Nat × Nat × Nat × Nat) := [(3, 4, 0, 0), (0, 0, 0, 0), (0, 0, 0, 0)]
def zF_X2_has : List zVV → zSG → Option zRR := z_fn zs_X2_has zM_X2_has zc_X2_has zk_X2_has (0, 0)
theorem zo_X2_has : z_okc cX2_has zc_X2_has = true := by decide +kernel
theorem zv_X2_has : z_kd [] zc_X2_has = true := by decide +kernel
set_option maxRecDepth 20000 in
theorem zt_X2_has (l : Launch) : zCt l yX2_has cX2_has 3 (some .boolean) (zrm 0 0 0) zF_X2_has := z_ct (own := RX2) (sh := zs_X2_has) (M := zM_X2_has) (cd := zc_X2_has) (cut := zk_X2_has) (by decide +kernel) rfl rfl rfl (z_fl_all zfl_X2_ok) (z_cs_all zcs_X2_ok) zo_X2_has z_nothr (z_hcal (L := zl_X2_has) zv_X2_has (fun _ h => nomatch h)) (by decide)
theorem zr_X2_has : ∀ vs g r, zF_X2_has vs g = some r → ∃ i rv, vs = .inr (.inl (4, i, 0)) :: rv ∧ i < z_ni 4 := fun vs g r h => z_chk_rec (z_fn_chk (sh := zs_X2_has) h).1 (Or.inr rfl)
def zc_X2_join : zCD := [(0, .iload_n 0, 1, 0), (1, .tableswitch 54 6 9 #[31, 35, 39, 43], 32, 0), (32, .iload_n 1, 33, 0), (33, .iload_n 2, 34, 0), (34, .iadd, 35, 0), (35, .ireturn, 36, 0), (36, .iload_n 1, 37, 0), (37, .iload_n 2, 38, 0), (38, .isub, 39, 0), (39, .ireturn, 40, 0), (40, .iload_n 1, 41, 0), (41, .iload_n 2, 42, 0), (42, .imul, 43, 0), (43, .ireturn, 44, 0), (44, .iload_n 1, 45, 0), (45, .iload_n 2, 46, 0), (46, .if_icmp .ge 7, 49, 53), (49, .iconst 1, 50, 0), (50, .goto 4, 53, 54), (53, .iconst 0, 54, 0), (54, .ireturn, 55, 0), (55, .iload_n 1, 56, 0), (56, .iload_n 2, 57, 0), (57, .if_icmp .ne 7, 60, 64), (60, .iconst 1, 61, 0), (61, .goto 4, 64, 65), (64, .iconst 0, 65, 0), (65, .ireturn, 66, 0)]
def zk_X2_join : List (Nat × List Nat) := []
def zl_X2_join : List (Nat × zCI) := []
def zM_X2_join : zMI := (z_look zfl_X2, z_look zl_X2_join, z_look zcs_X2, z_look zth_X2, 3, 1)
def zs_X2_join : List (Nat × Nat × Nat × Nat) := [(0, 0, 0, 0), (0, 0, 0, 0), (0, 0, 0, 0)]
def zF_X2_join : List zVV → zSG → Option zRR := z_fn zs_X2_join zM_X2_join zc_X2_join zk_X2_join (0, 0)
theorem zo_X2_join : z_okc cX2_join zc_X2_join = true := by decide +kernel
theorem zv_X2_join : z_kd [] zc_X2_join = true := by decide +kernel
set_option maxRecDepth 20000 in
theorem zt_X2_join (l : Launch) : zCt l yX2_join cX2_join 3 (some .int) (zrm 0 0 0) zF_X2_join := z_ct (own := RX2) (sh := zs_X2_join) (M := zM_X2_join) (cd := zc_X2_join) (cut := zk_X2_join) (by decide +kernel) rfl rfl rfl (z_fl_all zfl_X2_ok) (z_cs_all zcs_X2_ok) zo_X2_join z_nothr (z_hcal (L := zl_X2_join) zv_X2_join (fun _ h => nomatch h)) (by decide)
def zc_X2_read : zCD := [(0, .iload_n 1, 1, 0), (1, .bipush 7, 3, 0), (3, .iand, 4, 0), (4, .istore_n 2, 5, 0), (5, .aload_n 0, 6, 0), (6, .getfield 21, 9, 0), (9, .aload_n 0, 10, 0), (10, .getfield 68, 13, 0), (13, .dup2, 14, 0), (14, .iaload, 15, 0), (15, .iconst 1, 16, 0), (16, .iload_n 2, 17, 0), (17, .ishl, 18, 0), (18, .ior, 19, 0), (19, .iastore, 20, 0), (20, .aload_n 0, 21, 0), (21, .getfield 9, 24, 0), (24, .iload_n 2, 25, 0), (25, .iaload, 26, 0), (26, .ireturn, 27, 0)]
def zk_X2_read : List (Nat × List Nat) := []
def zl_X2_read : List (Nat × zCI) := []
def zM_X2_read : zMI := (z_look zfl_X2, z_look zl_X2_read, z_look zcs_X2, z_look zth_X2, 3, 1)
def zs_X2_read : List (Nat × Nat × Nat × Nat) := [(3, 4, 0, 0), (0, 0, 0, 0)]
def zF_X2_read : List zVV → zSG → Option zRR := z_fn zs_X2_read zM_X2_read zc_X2_read zk_X2_read (0, 0)
theorem zo_X2_read : z_okc cX2_read zc_X2_read = true := by decide +kernel
theorem zv_X2_read : z_kd [] zc_X2_read = true := by decide +kernel
set_option maxRecDepth 20000 in
theorem zt_X2_read (l : Launch) : zCt l yX2_read cX2_read 3 (some .int) (zrm 0 0 0) zF_X2_read := z_ct (own := RX2) (sh := zs_X2_read) (M := zM_X2_read) (cd := zc_X2_read) (cut := zk_X2_read) (by decide +kernel) rfl rfl rfl (z_fl_all zfl_X2_ok) (z_cs_all zcs_X2_ok) zo_X2_read z_nothr (z_hcal (L := zl_X2_read) zv_X2_read (fun _ h => nomatch h)) (by decide)
theorem zr_X2_read : ∀ vs g r, zF_X2_read vs g = some r → ∃ i rv, vs = .inr (.inl (4, i, 0)) :: rv ∧ i < z_ni 4 := fun vs g r h => z_chk_rec (z_fn_chk (sh := zs_X2_read) h).1 (Or.inr rfl)
def zc_X2_write : zCD := [(0, .iload_n 1, 1, 0), (1, .bipush 7, 3, 0), (3, .iand, 4, 0), (4, .istore_n 3, 5, 0), (5, .aload_n 0, 6, 0), (6, .getfield 24, 9, 0), (9, .aload_n 0, 10, 0), (10, .getfield 68, 13, 0), (13, .dup2, 14, 0), (14, .iaload, 15, 0), (15, .iconst 1, 16, 0), (16, .iload_n 3, 17, 0), (17, .ishl, 18, 0), (18, .ior, 19, 0), (19, .iastore, 20, 0), (20, .aload_n 0, 21, 0), (21, .getfield 9, 24, 0), (24, .iload_n 3, 25, 0), (25, .iload_n 2, 26, 0), (26, .iastore, 27, 0), (27, .return_, 28, 0)]
def zk_X2_write : List (Nat × List Nat) := []
def zl_X2_write : List (Nat × zCI) := []
def zM_X2_write : zMI := (z_look zfl_X2, z_look zl_X2_write, z_look zcs_X2, z_look zth_X2, 4, 0)
def zs_X2_write : List (Nat × Nat × Nat × Nat) := [(3, 4, 0, 0), (0, 0, 0, 0), (0, 0, 0, 0)]
def zF_X2_write : List zVV → zSG → Option zRR := z_fn zs_X2_write zM_X2_write zc_X2_write zk_X2_write (0, 0)
theorem zo_X2_write : z_okc cX2_write zc_X2_write = true := by decide +kernel
theorem zv_X2_write : z_kd [] zc_X2_write = true := by decide +kernel
set_option maxRecDepth 20000 in
theorem zt_X2_write (l : Launch) : zCt l yX2_write cX2_write 4 none (zrm 0 0 0) zF_X2_write := z_ct (own := RX2) (sh := zs_X2_write) (M := zM_X2_write) (cd := zc_X2_write) (cut := zk_X2_write) (by decide +kernel) rfl rfl rfl (z_fl_all zfl_X2_ok) (z_cs_all zcs_X2_ok) zo_X2_write z_nothr (z_hcal (L := zl_X2_write) zv_X2_write (fun _ h => nomatch h)) (by decide)
theorem zr_X2_write : ∀ vs g r, zF_X2_write vs g = some r → ∃ i rv, vs = .inr (.inl (4, i, 0)) :: rv ∧ i < z_ni 4 := fun vs g r h => z_chk_rec (z_fn_chk (sh := zs_X2_write) h).1 (Or.inr rfl)
def zc_X2_answer : zCD := [(0, .aload_n 0, 1, 0), (1, .getfield 18, 4, 0), (4, .aload_n 0, 5, 0), (5, .getfield 68, 8, 0), (8, .iaload, 9, 0), (9, .bipush 8, 11, 0), (11, .if_icmp .ge 39, 14, 50), (14, .aload_n 0, 15, 0), (15, .getfield 15, 18, 0), (18, .aload_n 0, 19, 0), (19, .getfield 68, 22, 0), (22, .bipush 8, 24, 0), (24, .imul, 25, 0), (25, .aload_n 0, 26, 0), (26, .getfield 18, 29, 0), (29, .aload_n 0, 30, 0), (30, .getfield 68, 33, 0), (33, .iaload, 34, 0), (34, .iadd, 35, 0), (35, .iload_n 1, 36, 0), (36, .iastore, 37, 0), (37, .aload_n 0, 38, 0), (38, .getfield 18, 41, 0), (41, .aload_n 0, 42, 0), (42, .getfield 68, 45, 0), (45, .dup2, 46, 0), (46, .iaload, 47, 0), (47, .iconst 1, 48, 0), (48, .iadd, 49, 0), (49, .iastore, 50, 0), (50, .return_, 51, 0)]
def zk_X2_answer : List (Nat × List Nat) := []
def zl_X2_answer : List (Nat × zCI) := []
def zM_X2_answer : zMI := (z_look zfl_X2, z_look zl_X2_answer, z_look zcs_X2, z_look zth_X2, 2, 0)
def zs_X2_answer : List (Nat × Nat × Nat × Nat) := [(3, 4, 0, 0), (0, 0, 0, 0)]
def zF_X2_answer : List zVV → zSG → Option zRR := z_fn zs_X2_answer zM_X2_answer zc_X2_answer zk_X2_answer (0, 0)
theorem zo_X2_answer : z_okc cX2_answer zc_X2_answer = true := by decide +kernel
theorem zv_X2_answer : z_kd [] zc_X2_answer = true := by decide +kernel
set_option maxRecDepth 20000 in
theorem zt_X2_answer (l : Launch) : zCt l yX2_answer cX2_answer 2 none (zrm 0 0 0) zF_X2_answer := z_ct (own := RX2) (sh := zs_X2_answer) (M := zM_X2_answer) (cd := zc_X2_answer) (cut := zk_X2_answer) (by decide +kernel) rfl rfl rfl (z_fl_all zfl_X2_ok) (z_cs_all zcs_X2_ok) zo_X2_answer z_nothr (z_hcal (L := zl_X2_answer) zv_X2_answer (fun _ h => nomatch h)) (by decide)
theorem zr_X2_answer : ∀ vs g r, zF_X2_answer vs g = some r → ∃ i rv, vs = .inr (.inl (4, i, 0)) :: rv ∧ i < z_ni 4 := fun vs g r h => z_chk_rec (z_fn_chk (sh := zs_X2_answer) h).1 (Or.inr rfl)
def zc_X2_push : zCD := [(0, .aload_n 0, 1, 0), (1, .getfield 77, 4, 0), (4, .aload_n 0, 5, 0), (5, .getfield 43, 8, 0), (8, .arraylength, 9, 0), (9, .if_icmp .ge 23, 12, 32), (12, .aload_n 0, 13, 0), (13, .getfield 43, 16, 0), (16, .aload_n 0, 17, 0), (17, .getfield 77, 20, 0), (20, .iload_n 1, 21, 0), (21, .iastore, 22, 0), (22, .aload_n 0, 23, 0), (23, .dup, 24, 0), (24, .getfield 77, 27, 0), (27, .iconst 1, 28, 0), (28, .iadd, 29, 0), (29, .putfield 77, 32, 0), (32, .return_, 33, 0)]
def zk_X2_push : List (Nat × List Nat) := []
def zl_X2_push : List (Nat × zCI) := []
def zM_X2_push : zMI := (z_look zfl_X2, z_look zl_X2_push, z_look zcs_X2, z_look zth_X2, 2, 0)
def zs_X2_push : List (Nat × Nat × Nat × Nat) := [(3, 4, 0, 0), (0, 0, 0, 0)]
def zF_X2_push : List zVV → zSG → Option zRR := z_fn zs_X2_push zM_X2_push zc_X2_push zk_X2_push (0, 0)
theorem zo_X2_push : z_okc cX2_push zc_X2_push = true := by decide +kernel
theorem zv_X2_push : z_kd [] zc_X2_push = true := by decide +kernel
set_option maxRecDepth 20000 in
theorem zt_X2_push (l : Launch) : zCt l yX2_push cX2_push 2 none (zrm 0 0 0) zF_X2_push := z_ct (own := RX2) (sh := zs_X2_push) (M := zM_X2_push) (cd := zc_X2_push) (cut := zk_X2_push) (by decide +kernel) rfl rfl rfl (z_fl_all zfl_X2_ok) (z_cs_all zcs_X2_ok) zo_X2_push z_nothr (z_hcal (L := zl_X2_push) zv_X2_push (fun _ h => nomatch h)) (by decide)
theorem zr_X2_push : ∀ vs g r, zF_X2_push vs g = some r → ∃ i rv, vs = .inr (.inl (4, i, 0)) :: rv ∧ i < z_ni 4 := fun vs g r h => z_chk_rec (z_fn_chk (sh := zs_X2_push) h).1 (Or.inr rfl)
def zc_X2_pop : zCD := [(0, .aload_n 0, 1, 0), (1, .getfield 77, 4, 0), (4, .ifCond .gt 5, 7, 9), (7, .iconst 0, 8, 0), (8, .ireturn, 9, 0), (9, .aload_n 0, 10, 0), (10, .dup, 11, 0), (11, .getfield 77, 14, 0), (14, .iconst 1, 15, 0), (15, .isub, 16, 0), (16, .putfield 77, 19, 0), (19, .aload_n 0, 20, 0), (20, .getfield 43, 23, 0), (23, .aload_n 0, 24, 0), (24, .getfield 77, 27, 0), (27, .iaload, 28, 0), (28, .ireturn, 29, 0)]
def zk_X2_pop : List (Nat × List Nat) := []
def zl_X2_pop : List (Nat × zCI) := []
def zM_X2_pop : zMI := (z_look zfl_X2, z_look zl_X2_pop, z_look zcs_X2, z_look zth_X2, 1, 1)
def zs_X2_pop : List (Nat × Nat × Nat × Nat) := [(3, 4, 0, 0)]
def zF_X2_pop : List zVV → zSG → Option zRR := z_fn zs_X2_pop zM_X2_pop zc_X2_pop zk_X2_pop (0, 0)
theorem zo_X2_pop : z_okc cX2_pop zc_X2_pop = true := by decide +kernel
theorem zv_X2_pop : z_kd [] zc_X2_pop = true := by decide +kernel
set_option maxRecDepth 20000 in
theorem zt_X2_pop (l : Launch) : zCt l yX2_pop cX2_pop 1 (some .int) (zrm 0 0 0) zF_X2_pop := z_ct (own := RX2) (sh := zs_X2_pop) (M := zM_X2_pop) (cd := zc_X2_pop) (cut := zk_X2_pop) (by decide +kernel) rfl rfl rfl (z_fl_all zfl_X2_ok) (z_cs_all zcs_X2_ok) zo_X2_pop z_nothr (z_hcal (L := zl_X2_pop) zv_X2_pop (fun _ h => nomatch h)) (by decide)
theorem zr_X2_pop : ∀ vs g r, zF_X2_pop vs g = some r → ∃ i rv, vs = .inr (.inl (4, i, 0)) :: rv ∧ i < z_ni 4 := fun vs g r h => z_chk_rec (z_fn_chk (sh := zs_X2_pop) h).1 (Or.inr rfl)
def zc_X2_work : zCD := [(0, .iload_n 1, 1, 0), (1, .tableswitch 134 0 5 #[39, 47, 58, 69, 90, 105], 40, 0), (40, .aload_n 0, 41, 0), (41, .iload_n 2, 42, 0), (42, .invokevirtual 106, 45, 0), (45, .goto 108, 48, 153), (48, .aload_n 0, 49, 0), (49, .aload_n 0, 50, 0), (50, .getfield 71, 53, 0), (53, .invokevirtual 106, 56, 0), (56, .goto 97, 59, 153), (59, .aload_n 0, 60, 0), (60, .aload_n 0, 61, 0), (61, .getfield 74, 64, 0), (64, .invokevirtual 106, 67, 0), (67, .goto 86, 70, 153), (70, .aload_n 0, 71, 0), (71, .dup, 72, 0), (72, .getfield 58, 75, 0), (75, .iconst 1, 76, 0), (76, .iadd, 77, 0), (77, .putfield 58, 80, 0), (80, .aload_n 0, 81, 0), (81, .aload_n 0, 82, 0), (82, .getfield 58, 85, 0), (85, .invokevirtual 106, 88, 0), (88, .goto 65, 91, 153), (91, .aload_n 0, 92, 0), (92, .aload_n 0, 93, 0), (93, .aload_n 0, 94, 0), (94, .invokevirtual 89, 97, 0), (97, .invokevirtual 109, 100, 0), (100, .invokevirtual 106, 103, 0), (103, .goto 50, 106, 153), (106, .aload_n 0, 107, 0), (107, .dup, 108, 0), (108, .getfield 62, 111, 0), (111, .iconst 1, 112, 0), (112, .iadd, 113, 0), (113, .putfield 62, 116, 0), (116, .aload_n 0, 117, 0), (117, .aload_n 0, 118, 0), (118, .getfield 37, 121, 0), (121, .aload_n 0, 122, 0), (122, .invokevirtual 89, 125, 0), (125, .bipush 15, 127, 0), (127, .iand, 128, 0), (128, .iaload, 129, 0), (129, .invokevirtual 106, 132, 0), (132, .goto 21, 135, 153), (135, .aload_n 0, 136, 0), (136, .invokevirtual 89, 139, 0), (139, .istore_n 3, 140, 0), (140, .aload_n 0, 141, 0), (141, .iload_n 1, 142, 0), (142, .aload_n 0, 143, 0), (143, .invokevirtual 89, 146, 0), (146, .iload_n 3, 147, 0), (147, .invokestatic 113, 150, 0), (150, .invokevirtual 106, 153, 0), (153, .return_, 154, 0)]
def zk_X2_work : List (Nat × List Nat) := []
def zl_X2_work : List (Nat × zCI) := [(106, (zF_X2_push, 2, 0, 0, 0)), (89, (zF_X2_pop, 1, 1, 0, 0)), (109, (zF_X2_read, 2, 1, 0, 0)), (113, (zF_X2_join, 3, 1, 0, 0))]
def zM_X2_work : zMI := (z_look zfl_X2, z_look zl_X2_work, z_look zcs_X2, z_look zth_X2, 4, 0)
def zs_X2_work : List (Nat × Nat × Nat × Nat) := [(3, 4, 0, 0), (0, 0, 0, 0), (0, 0, 0, 0)]
def zF_X2_work : List zVV → zSG → Option zRR := z_fn zs_X2_work zM_X2_work zc_X2_work zk_X2_work (0, 0)
theorem zo_X2_work : z_okc cX2_work zc_X2_work = true := by decide +kernel
theorem zv_X2_work : z_kd [106, 89, 109] zc_X2_work = true := by decide +kernel
set_option maxRecDepth 20000 in
theorem zt_X2_work (l : Launch) : zCt l yX2_work cX2_work 4 none (zrm 1 0 0) zF_X2_work := z_ct (own := RX2) (sh := zs_X2_work) (M := zM_X2_work) (cd := zc_X2_work) (cut := zk_X2_work) (by decide +kernel) rfl rfl rfl (z_fl_all zfl_X2_ok) (z_cs_all zcs_X2_ok) zo_X2_work z_nothr (z_hcal (L := zl_X2_work) zv_X2_work (List.forall_mem_cons.mpr ⟨z_calV (l := l) (j := 106) (C := RX2) (cn := 4) (T := TX2) (N := 18) (zt_X2_push l) (by decide +kernel) (by decide +kernel) rfl ⟨by decide +kernel, by decide +kernel, by decide +kernel⟩ (z_room (by omega) (by decide)) rfl zr_X2_push, List.forall_mem_cons.mpr ⟨z_calV (l := l) (j := 89) (C := RX2) (cn := 4) (T := TX2) (N := 18) (zt_X2_pop l) (by decide +kernel) (by decide +kernel) rfl ⟨by decide +kernel, by decide +kernel, by decide +kernel⟩ (z_room (by omega) (by decide)) rfl zr_X2_pop, List.forall_mem_cons.mpr ⟨z_calV (l := l) (j := 109) (C := RX2) (cn := 4) (T := TX2) (N := 18) (zt_X2_read l) (by decide +kernel) (by decide +kernel) rfl ⟨by decide +kernel, by decide +kernel, by decide +kernel⟩ (z_room (by omega) (by decide)) rfl zr_X2_read, List.forall_mem_cons.mpr ⟨z_calS (l := l) (j := 113) (zt_X2_join l) (by decide +kernel) (by decide +kernel) ⟨by decide +kernel, by decide +kernel, by decide +kernel⟩ (z_room (by omega) (by decide)), fun _ h => nomatch h⟩⟩⟩⟩)) (by decide)
theorem zr_X2_work : ∀ vs g r, zF_X2_work vs g = some r → ∃ i rv, vs = .inr (.inl (4, i, 0)) :: rv ∧ i < z_ni 4 := fun vs g r h => z_chk_rec (z_fn_chk (sh := zs_X2_work) h).1 (Or.inr rfl)
def zc_X2_start : zCD := [(0, .aload_n 1, 1, 0), (1, .iconst 0, 2, 0), (2, .aload_n 0, 3, 0), (3, .getfield 9, 6, 0), (6, .iconst 0, 7, 0), (7, .bipush 8, 9, 0), (9, .invokestatic 46, 12, 0), (12, .aload_n 2, 13, 0), (13, .iconst 0, 14, 0), (14, .aload_n 0, 15, 0), (15, .getfield 37, 18, 0), (18, .iconst 0, 19, 0), (19, .bipush 16, 21, 0), (21, .invokestatic 46, 24, 0), (24, .aload_n 0, 25, 0), (25, .getfield 34, 28, 0), (28, .iconst 0, 29, 0), (29, .invokestatic 52, 32, 0), (32, .iconst 0, 33, 0), (33, .istore 4, 35, 0), (35, .iload 4, 37, 0), (37, .bipush 30, 39, 0), (39, .if_icmp .ge 17, 42, 56), (42, .aload_n 0, 43, 0), (43, .getfield 30, 46, 0), (46, .iload 4, 48, 0), (48, .iconst 0, 49, 0), (49, .bastore, 50, 0), (50, .iinc 4 1, 53, 0), (53, .goto (-18), 56, 35), (56, .aload_n 0, 57, 0), (57, .iload_n 3, 58, 0), (58, .putfield 58, 61, 0), (61, .aload_n 0, 62, 0), (62, .iconst 0, 63, 0), (63, .putfield 62, 66, 0), (66, .return_, 67, 0)]
def zk_X2_start : List (Nat × List Nat) := [(35, [0, 3, 4])]
def zl_X2_start : List (Nat × zCI) := [(46, (zF_acp, 5, 0, 0, 0)), (52, (zF_J7_fill_53178, 2, 0, 0, 0))]
def zM_X2_start : zMI := (z_look zfl_X2, z_look zl_X2_start, z_look zcs_X2, z_look zth_X2, 5, 0)
def zs_X2_start : List (Nat × Nat × Nat × Nat) := [(3, 4, 0, 0), (2, 0, 0, 2), (2, 0, 0, 3), (0, 0, 0, 0)]
def zF_X2_start : List zVV → zSG → Option zRR := z_fn zs_X2_start zM_X2_start zc_X2_start zk_X2_start (0, 0)
theorem zo_X2_start : z_okc cX2_start zc_X2_start = true := by decide +kernel
theorem zv_X2_start : z_kd [] zc_X2_start = true := by decide +kernel
set_option maxRecDepth 20000 in
theorem zt_X2_start (l : Launch) : zCt l yX2_start cX2_start 5 none (zrm 1 0 0) zF_X2_start := z_ct (own := RX2) (sh := zs_X2_start) (M := zM_X2_start) (cd := zc_X2_start) (cut := zk_X2_start) (by decide +kernel) rfl rfl rfl (z_fl_all zfl_X2_ok) (z_cs_all zcs_X2_ok) zo_X2_start z_nothr (z_hcal (L := zl_X2_start) zv_X2_start (List.forall_mem_cons.mpr ⟨z_calAcp (l := l) (j := 46) (by decide +kernel) (by decide) (by decide +kernel), List.forall_mem_cons.mpr ⟨z_calS (l := l) (j := 52) (zt_J7_fill_53178 l) (by decide +kernel) (by decide +kernel) ⟨by decide +kernel, by decide +kernel, by decide +kernel⟩ (z_room (by omega) (by decide)), fun _ h => nomatch h⟩⟩)) (by decide)
theorem zr_X2_start : ∀ vs g r, zF_X2_start vs g = some r → ∃ i rv, vs = .inr (.inl (4, i, 0)) :: rv ∧ i < z_ni 4 := fun vs g r h => z_chk_rec (z_fn_chk (sh := zs_X2_start) h).1 (Or.inr rfl)
def zc_X2_obey : zCD := [(0, .aload_n 0, 1, 0), (1, .iload_n 2, 2, 0), (2, .putfield 68, 5, 0), (5, .aload_n 0, 6, 0), (6, .iload 4, 8, 0), (8, .putfield 71, 11, 0), (11, .aload_n 0, 12, 0), (12, .iload 5, 14, 0), (14, .putfield 74, 17, 0), (17, .aload_n 0, 18, 0), (18, .getfield 18, 21, 0), (21, .iload_n 2, 22, 0), (22, .iconst 0, 23, 0), (23, .iastore, 24, 0), (24, .aload_n 0, 25, 0), (25, .getfield 21, 28, 0), (28, .iload_n 2, 29, 0), (29, .iconst 0, 30, 0), (30, .iastore, 31, 0), (31, .aload_n 0, 32, 0), (32, .getfield 24, 35, 0), (35, .iload_n 2, 36, 0), (36, .iconst 0, 37, 0), (37, .iastore, 38, 0), (38, .aload_n 0, 39, 0), (39, .getfield 27, 42, 0), (42, .iload_n 2, 43, 0), (43, .iconst 0, 44, 0), (44, .iastore, 45, 0), (45, .aload_n 0, 46, 0), (46, .iconst 0, 47, 0), (47, .putfield 77, 50, 0), (50, .iconst 0, 51, 0), (51, .istore 6, 53, 0), (53, .iload 6, 55, 0), (55, .aload_n 1, 56, 0), (56, .getfield 80, 59, 0), (59, .arraylength, 60, 0), (60, .if_icmp .ge 139, 63, 199), (63, .aload_n 1, 64, 0), (64, .getfield 80, 67, 0), (67, .iload 6, 69, 0), (69, .iaload, 70, 0), (70, .bipush 15, 72, 0), (72, .iand, 73, 0), (73, .istore 7, 75, 0), (75, .aload_n 1, 76, 0), (76, .getfield 80, 79, 0), (79, .iload 6, 81, 0), (81, .iaload, 82, 0), (82, .iconst 4, 83, 0), (83, .iushr, 84, 0), (84, .istore 8, 86, 0), (86, .iinc 6 1, 89, 0), (89, .iload 7, 91, 0), (91, .bipush 11, 93, 0), (93, .if_icmp .ge 14, 96, 107), (96, .aload_n 0, 97, 0), (97, .iload 7, 99, 0), (99, .iload 8, 101, 0), (101, .invokevirtual 85, 104, 0), (104, .goto 92, 107, 196), (107, .aload_n 0, 108, 0), (108, .getfield 34, 111, 0), (111, .iload_n 3, 112, 0), (112, .dup2, 113, 0), (113, .iaload, 114, 0), (114, .iconst 1, 115, 0), (115, .iload 8, 117, 0), (117, .bipush 31, 119, 0), (119, .iand, 120, 0), (120, .ishl, 121, 0), (121, .ior, 122, 0), (122, .iastore, 123, 0), (123, .aload_n 0, 124, 0), (124, .getfield 27, 127, 0), (127, .iload_n 2, 128, 0), (128, .dup2, 129, 0), (129, .iaload, 130, 0), (130, .iconst 1, 131, 0), (131, .iadd, 132, 0), (132, .iastore, 133, 0), (133, .aload_n 0, 134, 0), (134, .invokevirtual 89, 137, 0), (137, .istore 9, 139, 0), (139, .iload 7, 141, 0), (141, .bipush 13, 143, 0), (143, .if_icmp .ne 27, 146, 170), (146, .iload 9, 148, 0), (148, .ifCond .eq 8, 151, 156), (151, .iload 6, 153, 0), (153, .goto 12, 156, 165), (156, .iload 6, 158, 0), (158, .iload 8, 160, 0), (160, .iconst 5, 161, 0), (161, .iushr, 162, 0), (162, .invokestatic 93, 165, 0), (165, .istore 6, 167, 0), (167, .goto 29, 170, 196), (170, .iload 7, 172, 0), (172, .bipush 11, 174, 0), (174, .if_icmp .ne 16, 177, 190), (177, .aload_n 0, 178, 0), (178, .aload_n 0, 179, 0), (179, .invokevirtual 89, 182, 0), (182, .iload 9, 184, 0), (184, .invokevirtual 99, 187, 0), (187, .goto 9, 190, 196), (190, .aload_n 0, 191, 0), (191, .iload 9, 193, 0), (193, .invokevirtual 102, 196, 0), (196, .goto (-143), 199, 53), (199, .aload_n 0, 200, 0), (200, .getfield 30, 203, 0), (203, .iload_n 2, 204, 0), (204, .iconst 1, 205, 0), (205, .bastore, 206, 0), (206, .return_, 207, 0)]
def zk_X2_obey : List (Nat × List Nat) := [(53, [0, 1, 2, 3, 6])]
def zl_X2_obey : List (Nat × zCI) := [(85, (zF_X2_work, 3, 0, 0, 0)), (89, (zF_X2_pop, 1, 1, 0, 0)), (93, (zF_max, 2, 1, 0, 0)), (99, (zF_X2_write, 3, 0, 0, 0)), (102, (zF_X2_answer, 2, 0, 0, 0))]
def zM_X2_obey : zMI := (z_look zfl_X2, z_look zl_X2_obey, z_look zcs_X2, z_look zth_X2, 10, 0)
def zs_X2_obey : List (Nat × Nat × Nat × Nat) := [(3, 4, 0, 0), (3, 5, 0, 0), (0, 0, 0, 0), (0, 0, 0, 0), (0, 0, 0, 0), (0, 0, 0, 0)]
def zF_X2_obey : List zVV → zSG → Option zRR := z_fn zs_X2_obey zM_X2_obey zc_X2_obey zk_X2_obey (0, 0)
theorem zo_X2_obey : z_okc cX2_obey zc_X2_obey = true := by decide +kernel
theorem zv_X2_obey : z_kd [85, 89, 99, 102] zc_X2_obey = true := by decide +kernel
set_option maxRecDepth 20000 in
theorem zt_X2_obey (l : Launch) : zCt l yX2_obey cX2_obey 10 none (zrm 2 0 0) zF_X2_obey := z_ct (own := RX2) (sh := zs_X2_obey) (M := zM_X2_obey) (cd := zc_X2_obey) (cut := zk_X2_obey) (by decide +kernel) rfl rfl rfl (z_fl_all zfl_X2_ok) (z_cs_all zcs_X2_ok) zo_X2_obey z_nothr (z_hcal (L := zl_X2_obey) zv_X2_obey (List.forall_mem_cons.mpr ⟨z_calV (l := l) (j := 85) (C := RX2) (cn := 4) (T := TX2) (N := 18) (zt_X2_work l) (by decide +kernel) (by decide +kernel) rfl ⟨by decide +kernel, by decide +kernel, by decide +kernel⟩ (z_room (by omega) (by decide)) rfl zr_X2_work, List.forall_mem_cons.mpr ⟨z_calV (l := l) (j := 89) (C := RX2) (cn := 4) (T := TX2) (N := 18) (zt_X2_pop l) (by decide +kernel) (by decide +kernel) rfl ⟨by decide +kernel, by decide +kernel, by decide +kernel⟩ (z_room (by omega) (by decide)) rfl zr_X2_pop, List.forall_mem_cons.mpr ⟨z_calMax (l := l) (j := 93) (by decide +kernel) (by decide) (by decide), List.forall_mem_cons.mpr ⟨z_calV (l := l) (j := 99) (C := RX2) (cn := 4) (T := TX2) (N := 18) (zt_X2_write l) (by decide +kernel) (by decide +kernel) rfl ⟨by decide +kernel, by decide +kernel, by decide +kernel⟩ (z_room (by omega) (by decide)) rfl zr_X2_write, List.forall_mem_cons.mpr ⟨z_calV (l := l) (j := 102) (C := RX2) (cn := 4) (T := TX2) (N := 18) (zt_X2_answer l) (by decide +kernel) (by decide +kernel) rfl ⟨by decide +kernel, by decide +kernel, by decide +kernel⟩ (z_room (by omega) (by decide)) rfl zr_X2_answer, fun _ h => nomatch h⟩⟩⟩⟩⟩)) (by decide)
theorem zr_X2_obey : ∀ vs g r, zF_X2_obey vs g = some r → ∃ i rv, vs = .inr (.inl (4, i, 0)) :: rv ∧ i < z_ni 4 := fun vs g r h => z_chk_rec (z_fn_chk (sh := zs_X2_obey) h).1 (Or.inr rfl)
def zc_X0_write : zCD := [(0, .aload_n 0, 1, 0), (1, .getfield 33, 4, 0), (4, .bipush 30, 6, 0), (6, .if_icmp .lt 5, 9, 11), (9, .iconst (-1), 10, 0), (10, .ireturn, 11, 0), (11, .aload_n 0, 12, 0), (12, .getfield 33, 15, 0), (15, .istore 5, 17, 0), (17, .aload_n 0, 18, 0), (18, .getfield 9, 21, 0), (21, .iload 5, 23, 0), (23, .iload_n 1, 24, 0), (24, .iastore, 25, 0), (25, .aload_n 0, 26, 0), (26, .getfield 15, 29, 0), (29, .iload 5, 31, 0), (31, .iload_n 2, 32, 0), (32, .iastore, 33, 0), (33, .aload_n 0, 34, 0), (34, .getfield 18, 37, 0), (37, .iload 5, 39, 0), (39, .iload_n 3, 40, 0), (40, .iastore, 41, 0), (41, .aload_n 0, 42, 0), (42, .getfield 21, 45, 0), (45, .iload 5, 47, 0), (47, .iload 4, 49, 0), (49, .iastore, 50, 0), (50, .aload_n 0, 51, 0), (51, .getfield 24, 54, 0), (54, .iload 5, 56, 0), (56, .iconst (-1), 57, 0), (57, .iastore, 58, 0), (58, .iload 5, 60, 0), (60, .istore 6, 62, 0), (62, .iload 6, 64, 0), (64, .ifCond .le 44, 67, 108), (67, .aload_n 0, 68, 0), (68, .getfield 21, 71, 0), (71, .aload_n 0, 72, 0), (72, .getfield 30, 75, 0), (75, .iload 6, 77, 0), (77, .iconst 1, 78, 0), (78, .isub, 79, 0), (79, .iaload, 80, 0), (80, .iaload, 81, 0), (81, .iload 4, 83, 0), (83, .if_icmp .le 25, 86, 108), (86, .aload_n 0, 87, 0), (87, .getfield 30, 90, 0), (90, .iload 6, 92, 0), (92, .aload_n 0, 93, 0), (93, .getfield 30, 96, 0), (96, .iload 6, 98, 0), (98, .iconst 1, 99, 0), (99, .isub, 100, 0), (100, .iaload, 101, 0), (101, .iastore, 102, 0), (102, .iinc 6 (-1), 105, 0), (105, .goto (-43), 108, 62), (108, .aload_n 0, 109, 0), (109, .getfield 30, 112, 0), (112, .iload 6, 114, 0), (114, .iload 5, 116, 0), (116, .iastore, 117, 0), (117, .aload_n 0, 118, 0), (118, .dup, 119, 0), (119, .getfield 33, 122, 0), (122, .iconst 1, 123, 0), (123, .iadd, 124, 0), (124, .putfield 33, 127, 0), (127, .iload 5, 129, 0), (129, .ireturn, 130, 0)]
def zk_X0_write : List (Nat × List Nat) := [(62, [0, 4, 5, 6])]
def zl_X0_write : List (Nat × zCI) := []
def zM_X0_write : zMI := (z_look zfl_X0, z_look zl_X0_write, z_look zcs_X0, z_look zth_X0, 7, 1)
def zs_X0_write : List (Nat × Nat × Nat × Nat) := [(2, 2, 0, 0), (0, 0, 0, 0), (0, 0, 0, 0), (0, 0, 0, 0), (0, 0, 0, 0)]
def zF_X0_write : List zVV → zSG → Option zRR := z_fn zs_X0_write zM_X0_write zc_X0_write zk_X0_write (0, 0)
theorem zo_X0_write : z_okc cX0_write zc_X0_write = true := by decide +kernel
theorem zv_X0_write : z_kd [] zc_X0_write = true := by decide +kernel
set_option maxRecDepth 20000 in
theorem zt_X0_write (l : Launch) : zCt l yX0_write cX0_write 7 (some .int) (zrm 0 0 0) zF_X0_write := z_ct (own := RX0) (sh := zs_X0_write) (M := zM_X0_write) (cd := zc_X0_write) (cut := zk_X0_write) (by decide +kernel) rfl rfl rfl (z_fl_all zfl_X0_ok) (z_cs_all zcs_X0_ok) zo_X0_write z_nothr (z_hcal (L := zl_X0_write) zv_X0_write (fun _ h => nomatch h)) (by decide)
theorem zr_X0_write : ∀ vs g r, zF_X0_write vs g = some r → ∃ i rv, vs = .inr (.inl (2, i, 0)) :: rv ∧ i < z_ni 2 := fun vs g r h => z_chk_rec (z_fn_chk (sh := zs_X0_write) h).1 (Or.inl ⟨rfl, by decide⟩)
def zc_X0_placeOf : zCD := [(0, .iconst 0, 1, 0), (1, .istore_n 2, 2, 0), (2, .iload_n 2, 3, 0), (3, .aload_n 0, 4, 0), (4, .getfield 33, 7, 0), (7, .if_icmp .ge 21, 10, 28), (10, .aload_n 0, 11, 0), (11, .getfield 30, 14, 0), (14, .iload_n 2, 15, 0), (15, .iaload, 16, 0), (16, .iload_n 1, 17, 0), (17, .if_icmp .ne 5, 20, 22), (20, .iload_n 2, 21, 0), (21, .ireturn, 22, 0), (22, .iinc 2 1, 25, 0), (25, .goto (-23), 28, 2), (28, .iconst 0, 29, 0), (29, .ireturn, 30, 0)]
def zk_X0_placeOf : List (Nat × List Nat) := [(2, [0, 1, 2])]
def zl_X0_placeOf : List (Nat × zCI) := []
def zM_X0_placeOf : zMI := (z_look zfl_X0, z_look zl_X0_placeOf, z_look zcs_X0, z_look zth_X0, 3, 1)
def zs_X0_placeOf : List (Nat × Nat × Nat × Nat) := [(2, 2, 0, 0), (0, 0, 0, 0)]
def zF_X0_placeOf : List zVV → zSG → Option zRR := z_fn zs_X0_placeOf zM_X0_placeOf zc_X0_placeOf zk_X0_placeOf (0, 0)
theorem zo_X0_placeOf : z_okc cX0_placeOf zc_X0_placeOf = true := by decide +kernel
theorem zv_X0_placeOf : z_kd [] zc_X0_placeOf = true := by decide +kernel
set_option maxRecDepth 20000 in
theorem zt_X0_placeOf (l : Launch) : zCt l yX0_placeOf cX0_placeOf 3 (some .int) (zrm 0 0 0) zF_X0_placeOf := z_ct (own := RX0) (sh := zs_X0_placeOf) (M := zM_X0_placeOf) (cd := zc_X0_placeOf) (cut := zk_X0_placeOf) (by decide +kernel) rfl rfl rfl (z_fl_all zfl_X0_ok) (z_cs_all zcs_X0_ok) zo_X0_placeOf z_nothr (z_hcal (L := zl_X0_placeOf) zv_X0_placeOf (fun _ h => nomatch h)) (by decide)
theorem zr_X0_placeOf : ∀ vs g r, zF_X0_placeOf vs g = some r → ∃ i rv, vs = .inr (.inl (2, i, 0)) :: rv ∧ i < z_ni 2 := fun vs g r h => z_chk_rec (z_fn_chk (sh := zs_X0_placeOf) h).1 (Or.inl ⟨rfl, by decide⟩)
end
section
def zfl_X4 : List (Nat × (Nat × Nat)) := [(9, (0, 0)), (13, (0, 1)), (16, (0, 2)), (19, (0, 3)), (26, (0, 5)), (33, (0, 6)), (42, (0, 4)), (48, (0, 7)), (52, (0, 8)), (56, (0, 9)), (59, (0, 12)), (95, (5, 1)), (109, (2, 7)), (124, (2, 4)), (127, (2, 5)), (133, (4, 2)), (140, (4, 1)), (143, (4, 0)), (148, (4, 3)), (151, (4, 4)), (154, (4, 5)), (156, (4, 8)), (159, (4, 7)), (168, (0, 10)), (190, (2, 0)), (215, (2, 6)), (220, (2, 3)), (242, (0, 11)), (253, (2, 1)), (256, (2, 2)), (278, (4, 6))]
def zcs_X4 : List (Nat × zVV) := [(106, .inl 100000), (171, .inl 1000000)]
def zth_X4 : List (Nat × Nat) := [(73, 0), (101, 1), (237, 2)]
theorem zfl_X4_ok : zfl_X4.all (fun q => z_flb RX4 q.1 q.2.1 q.2.2) = true := by decide +kernel
theorem zcs_X4_ok : zcs_X4.all (fun q => z_csb RX4 q.1 q.2) = true := by decide +kernel
def zc_X4_checkVersion : zCD := [(0, .iload_n 0, 1, 0), (1, .ifCond .lt 8, 4, 9), (4, .iload_n 0, 5, 0), (5, .iconst 2, 6, 0), (6, .if_icmp .lt 13, 9, 19), (9, .new 73, 12, 0), (19, .return_, 20, 0)]
def zk_X4_checkVersion : List (Nat × List Nat) := []
def zl_X4_checkVersion : List (Nat × zCI) := []
def zM_X4_checkVersion : zMI := (z_look zfl_X4, z_look zl_X4_checkVersion, z_look zcs_X4, z_look zth_X4, 1, 0)
def zs_X4_checkVersion : List (Nat × Nat × Nat × Nat) := [(0, 0, 0, 0)]
def zF_X4_checkVersion : List zVV → zSG → Option zRR := z_fn zs_X4_checkVersion zM_X4_checkVersion zc_X4_checkVersion zk_X4_checkVersion (1, 6)
theorem zo_X4_checkVersion : z_okc cX4_checkVersion zc_X4_checkVersion = true := by decide +kernel
theorem zv_X4_checkVersion : z_kd [] zc_X4_checkVersion = true := by decide +kernel
set_option maxRecDepth 20000 in
theorem zt_X4_checkVersion (l : Launch) (hl : l.stackTraces = false) : zCt l yX4_checkVersion cX4_checkVersion 1 none (zrm 6 1 6) zF_X4_checkVersion := z_ct (own := RX4) (sh := zs_X4_checkVersion) (M := zM_X4_checkVersion) (cd := zc_X4_checkVersion) (cut := zk_X4_checkVersion) (by decide +kernel) rfl rfl rfl (z_fl_all zfl_X4_ok) (z_cs_all zcs_X4_ok) zo_X4_checkVersion (z_hthr (sites := [(9, 73)]) (by decide +kernel) (List.forall_mem_cons.mpr ⟨fun x hx => by have e := Option.some.inj (show some 0 = some x from hx); subst e; exact z_throw hl (x := 0) (ik := 73) (is := 229) (ic := 77) (text := "no such version") z_thb0 (by decide +kernel) (by decide) (by decide) (by decide), fun _ h => nomatch h⟩)) (z_hcal (L := zl_X4_checkVersion) zv_X4_checkVersion (fun _ h => nomatch h)) (by decide)
def zc_X4_checkKind : zCD := [(0, .iload_n 0, 1, 0), (1, .ifCond .lt 8, 4, 9), (4, .iload_n 0, 5, 0), (5, .iconst 4, 6, 0), (6, .if_icmp .lt 13, 9, 19), (9, .new 73, 12, 0), (19, .return_, 20, 0)]
def zk_X4_checkKind : List (Nat × List Nat) := []
def zl_X4_checkKind : List (Nat × zCI) := []
def zM_X4_checkKind : zMI := (z_look zfl_X4, z_look zl_X4_checkKind, z_look zcs_X4, z_look zth_X4, 1, 0)
def zs_X4_checkKind : List (Nat × Nat × Nat × Nat) := [(0, 0, 0, 0)]
def zF_X4_checkKind : List zVV → zSG → Option zRR := z_fn zs_X4_checkKind zM_X4_checkKind zc_X4_checkKind zk_X4_checkKind (1, 6)
theorem zo_X4_checkKind : z_okc cX4_checkKind zc_X4_checkKind = true := by decide +kernel
theorem zv_X4_checkKind : z_kd [] zc_X4_checkKind = true := by decide +kernel
set_option maxRecDepth 20000 in
theorem zt_X4_checkKind (l : Launch) (hl : l.stackTraces = false) : zCt l yX4_checkKind cX4_checkKind 1 none (zrm 6 1 6) zF_X4_checkKind := z_ct (own := RX4) (sh := zs_X4_checkKind) (M := zM_X4_checkKind) (cd := zc_X4_checkKind) (cut := zk_X4_checkKind) (by decide +kernel) rfl rfl rfl (z_fl_all zfl_X4_ok) (z_cs_all zcs_X4_ok) zo_X4_checkKind (z_hthr (sites := [(9, 73)]) (by decide +kernel) (List.forall_mem_cons.mpr ⟨fun x hx => by have e := Option.some.inj (show some 0 = some x from hx); subst e; exact z_throw hl (x := 0) (ik := 73) (is := 231) (ic := 77) (text := "no such kind") z_thb0 (by decide +kernel) (by decide) (by decide) (by decide), fun _ h => nomatch h⟩)) (z_hcal (L := zl_X4_checkKind) zv_X4_checkKind (fun _ h => nomatch h)) (by decide)
def zc_X4_checkField : zCD := [(0, .iload_n 0, 1, 0), (1, .ifCond .lt 9, 4, 10), (4, .iload_n 0, 5, 0), (5, .bipush 8, 7, 0), (7, .if_icmp .lt 13, 10, 20), (10, .new 73, 13, 0), (20, .return_, 21, 0)]
def zk_X4_checkField : List (Nat × List Nat) := []
def zl_X4_checkField : List (Nat × zCI) := []
def zM_X4_checkField : zMI := (z_look zfl_X4, z_look zl_X4_checkField, z_look zcs_X4, z_look zth_X4, 1, 0)
def zs_X4_checkField : List (Nat × Nat × Nat × Nat) := [(0, 0, 0, 0)]
def zF_X4_checkField : List zVV → zSG → Option zRR := z_fn zs_X4_checkField zM_X4_checkField zc_X4_checkField zk_X4_checkField (1, 6)
theorem zo_X4_checkField : z_okc cX4_checkField zc_X4_checkField = true := by decide +kernel
theorem zv_X4_checkField : z_kd [] zc_X4_checkField = true := by decide +kernel
set_option maxRecDepth 20000 in
theorem zt_X4_checkField (l : Launch) (hl : l.stackTraces = false) : zCt l yX4_checkField cX4_checkField 1 none (zrm 6 1 6) zF_X4_checkField := z_ct (own := RX4) (sh := zs_X4_checkField) (M := zM_X4_checkField) (cd := zc_X4_checkField) (cut := zk_X4_checkField) (by decide +kernel) rfl rfl rfl (z_fl_all zfl_X4_ok) (z_cs_all zcs_X4_ok) zo_X4_checkField (z_hthr (sites := [(10, 73)]) (by decide +kernel) (List.forall_mem_cons.mpr ⟨fun x hx => by have e := Option.some.inj (show some 0 = some x from hx); subst e; exact z_throw hl (x := 0) (ik := 73) (is := 233) (ic := 77) (text := "no such field") z_thb0 (by decide +kernel) (by decide) (by decide) (by decide), fun _ h => nomatch h⟩)) (z_hcal (L := zl_X4_checkField) zv_X4_checkField (fun _ h => nomatch h)) (by decide)
def zc_X4_checkKey : zCD := [(0, .iload_n 0, 1, 0), (1, .ifCond .lt 9, 4, 10), (4, .iload_n 0, 5, 0), (5, .bipush 8, 7, 0), (7, .if_icmp .lt 13, 10, 20), (10, .new 101, 13, 0), (20, .return_, 21, 0)]
def zk_X4_checkKey : List (Nat × List Nat) := []
def zl_X4_checkKey : List (Nat × zCI) := []
def zM_X4_checkKey : zMI := (z_look zfl_X4, z_look zl_X4_checkKey, z_look zcs_X4, z_look zth_X4, 1, 0)
def zs_X4_checkKey : List (Nat × Nat × Nat × Nat) := [(0, 0, 0, 0)]
def zF_X4_checkKey : List zVV → zSG → Option zRR := z_fn zs_X4_checkKey zM_X4_checkKey zc_X4_checkKey zk_X4_checkKey (1, 6)
theorem zo_X4_checkKey : z_okc cX4_checkKey zc_X4_checkKey = true := by decide +kernel
theorem zv_X4_checkKey : z_kd [] zc_X4_checkKey = true := by decide +kernel
set_option maxRecDepth 20000 in
theorem zt_X4_checkKey (l : Launch) (hl : l.stackTraces = false) : zCt l yX4_checkKey cX4_checkKey 1 none (zrm 6 1 6) zF_X4_checkKey := z_ct (own := RX4) (sh := zs_X4_checkKey) (M := zM_X4_checkKey) (cd := zc_X4_checkKey) (cut := zk_X4_checkKey) (by decide +kernel) rfl rfl rfl (z_fl_all zfl_X4_ok) (z_cs_all zcs_X4_ok) zo_X4_checkKey (z_hthr (sites := [(10, 101)]) (by decide +kernel) (List.forall_mem_cons.mpr ⟨fun x hx => by have e := Option.some.inj (show some 1 = some x from hx); subst e; exact z_throw hl (x := 1) (ik := 101) (is := 235) (ic := 105) (text := "no such key") z_thb1 (by decide +kernel) (by decide) (by decide) (by decide), fun _ h => nomatch h⟩)) (z_hcal (L := zl_X4_checkKey) zv_X4_checkKey (fun _ h => nomatch h)) (by decide)
def zc_X4_checkAsk : zCD := [(0, .iload_n 1, 1, 0), (1, .ifCond .lt 14, 4, 15), (4, .iload_n 1, 5, 0), (5, .aload_n 0, 6, 0), (6, .getfield 33, 9, 0), (9, .getfield 109, 12, 0), (12, .if_icmp .lt 13, 15, 25), (15, .new 237, 18, 0), (25, .return_, 26, 0)]
def zk_X4_checkAsk : List (Nat × List Nat) := []
def zl_X4_checkAsk : List (Nat × zCI) := []
def zM_X4_checkAsk : zMI := (z_look zfl_X4, z_look zl_X4_checkAsk, z_look zcs_X4, z_look zth_X4, 2, 0)
def zs_X4_checkAsk : List (Nat × Nat × Nat × Nat) := [(2, 0, 0, 0), (0, 0, 0, 0)]
def zF_X4_checkAsk : List zVV → zSG → Option zRR := z_fn zs_X4_checkAsk zM_X4_checkAsk zc_X4_checkAsk zk_X4_checkAsk (1, 6)
theorem zo_X4_checkAsk : z_okc cX4_checkAsk zc_X4_checkAsk = true := by decide +kernel
theorem zv_X4_checkAsk : z_kd [] zc_X4_checkAsk = true := by decide +kernel
set_option maxRecDepth 20000 in
theorem zt_X4_checkAsk (l : Launch) (hl : l.stackTraces = false) : zCt l yX4_checkAsk cX4_checkAsk 2 none (zrm 6 1 6) zF_X4_checkAsk := z_ct (own := RX4) (sh := zs_X4_checkAsk) (M := zM_X4_checkAsk) (cd := zc_X4_checkAsk) (cut := zk_X4_checkAsk) (by decide +kernel) rfl rfl rfl (z_fl_all zfl_X4_ok) (z_cs_all zcs_X4_ok) zo_X4_checkAsk (z_hthr (sites := [(15, 237)]) (by decide +kernel) (List.forall_mem_cons.mpr ⟨fun x hx => by have e := Option.some.inj (show some 2 = some x from hx); subst e; exact z_throwN hl (is := 239) (text := "no such ask") (by decide +kernel) (by decide) (by decide) (by decide), fun _ h => nomatch h⟩)) (z_hcal (L := zl_X4_checkAsk) zv_X4_checkAsk (fun _ h => nomatch h)) (by decide)
theorem zr_X4_checkAsk : ∀ vs g r, zF_X4_checkAsk vs g = some r → ∃ i rv, vs = .inr (.inl (0, i, 0)) :: rv ∧ i < z_ni 0 := fun vs g r h => z_chk_rec (z_fn_chk (sh := zs_X4_checkAsk) h).1 (Or.inl ⟨rfl, by decide⟩)
def zc_X4_layNumber : zCD := [(0, .bipush 24, 2, 0), (2, .istore_n 2, 3, 0), (3, .iload_n 2, 4, 0), (4, .ifCond .lt 47, 7, 51), (7, .aload_n 0, 8, 0), (8, .getfield 59, 11, 0), (11, .aload_n 0, 12, 0), (12, .getfield 9, 15, 0), (15, .arraylength, 16, 0), (16, .if_icmp .ge 29, 19, 45), (19, .aload_n 0, 20, 0), (20, .getfield 9, 23, 0), (23, .aload_n 0, 24, 0), (24, .getfield 59, 27, 0), (27, .iload_n 1, 28, 0), (28, .iload_n 2, 29, 0), (29, .iushr, 30, 0), (30, .sipush 255, 33, 0), (33, .iand, 34, 0), (34, .iastore, 35, 0), (35, .aload_n 0, 36, 0), (36, .dup, 37, 0), (37, .getfield 59, 40, 0), (40, .iconst 1, 41, 0), (41, .iadd, 42, 0), (42, .putfield 59, 45, 0), (45, .iinc 2 (-8), 48, 0), (48, .goto (-45), 51, 3), (51, .return_, 52, 0)]
def zk_X4_layNumber : List (Nat × List Nat) := [(3, [0, 1, 2])]
def zl_X4_layNumber : List (Nat × zCI) := []
def zM_X4_layNumber : zMI := (z_look zfl_X4, z_look zl_X4_layNumber, z_look zcs_X4, z_look zth_X4, 3, 0)
def zs_X4_layNumber : List (Nat × Nat × Nat × Nat) := [(2, 0, 0, 0), (0, 0, 0, 0)]
def zF_X4_layNumber : List zVV → zSG → Option zRR := z_fn zs_X4_layNumber zM_X4_layNumber zc_X4_layNumber zk_X4_layNumber (0, 0)
theorem zo_X4_layNumber : z_okc cX4_layNumber zc_X4_layNumber = true := by decide +kernel
theorem zv_X4_layNumber : z_kd [] zc_X4_layNumber = true := by decide +kernel
set_option maxRecDepth 20000 in
theorem zt_X4_layNumber (l : Launch) (hl : l.stackTraces = false) : zCt l yX4_layNumber cX4_layNumber 3 none (zrm 0 0 0) zF_X4_layNumber := z_ct (own := RX4) (sh := zs_X4_layNumber) (M := zM_X4_layNumber) (cd := zc_X4_layNumber) (cut := zk_X4_layNumber) (by decide +kernel) rfl rfl rfl (z_fl_all zfl_X4_ok) (z_cs_all zcs_X4_ok) zo_X4_layNumber (z_hthr (sites := []) (by decide +kernel) (fun _ h => nomatch h)) (z_hcal (L := zl_X4_layNumber) zv_X4_layNumber (fun _ h => nomatch h)) (by decide)
theorem zr_X4_layNumber : ∀ vs g r, zF_X4_layNumber vs g = some r → ∃ i rv, vs = .inr (.inl (0, i, 0)) :: rv ∧ i < z_ni 0 := fun vs g r h => z_chk_rec (z_fn_chk (sh := zs_X4_layNumber) h).1 (Or.inl ⟨rfl, by decide⟩)
def zc_X4_noisyFields : zCD := [(0, .iconst 0, 1, 0), (1, .istore_n 1, 2, 0), (2, .iconst 0, 3, 0), (3, .istore_n 2, 4, 0), (4, .iload_n 2, 5, 0), (5, .aload_n 0, 6, 0), (6, .getfield 19, 9, 0), (9, .arraylength, 10, 0), (10, .if_icmp .ge 21, 13, 31), (13, .aload_n 0, 14, 0), (14, .getfield 19, 17, 0), (17, .iload_n 2, 18, 0), (18, .baload, 19, 0), (19, .ifCond .eq 6, 22, 25), (22, .iinc 1 1, 25, 0), (25, .iinc 2 1, 28, 0), (28, .goto (-24), 31, 4), (31, .iload_n 1, 32, 0), (32, .ireturn, 33, 0)]
def zk_X4_noisyFields : List (Nat × List Nat) := [(4, [0, 1, 2])]
def zl_X4_noisyFields : List (Nat × zCI) := []
def zM_X4_noisyFields : zMI := (z_look zfl_X4, z_look zl_X4_noisyFields, z_look zcs_X4, z_look zth_X4, 3, 1)
def zs_X4_noisyFields : List (Nat × Nat × Nat × Nat) := [(2, 0, 0, 0)]
def zF_X4_noisyFields : List zVV → zSG → Option zRR := z_fn zs_X4_noisyFields zM_X4_noisyFields zc_X4_noisyFields zk_X4_noisyFields (0, 0)
theorem zo_X4_noisyFields : z_okc cX4_noisyFields zc_X4_noisyFields = true := by decide +kernel
theorem zv_X4_noisyFields : z_kd [] zc_X4_noisyFields = true := by decide +kernel
set_option maxRecDepth 20000 in
theorem zt_X4_noisyFields (l : Launch) (hl : l.stackTraces = false) : zCt l yX4_noisyFields cX4_noisyFields 3 (some .int) (zrm 0 0 0) zF_X4_noisyFields := z_ct (own := RX4) (sh := zs_X4_noisyFields) (M := zM_X4_noisyFields) (cd := zc_X4_noisyFields) (cut := zk_X4_noisyFields) (by decide +kernel) rfl rfl rfl (z_fl_all zfl_X4_ok) (z_cs_all zcs_X4_ok) zo_X4_noisyFields (z_hthr (sites := []) (by decide +kernel) (fun _ h => nomatch h)) (z_hcal (L := zl_X4_noisyFields) zv_X4_noisyFields (fun _ h => nomatch h)) (by decide)
theorem zr_X4_noisyFields : ∀ vs g r, zF_X4_noisyFields vs g = some r → ∃ i rv, vs = .inr (.inl (0, i, 0)) :: rv ∧ i < z_ni 0 := fun vs g r h => z_chk_rec (z_fn_chk (sh := zs_X4_noisyFields) h).1 (Or.inl ⟨rfl, by decide⟩)
def zc_X4_stepsOfTexts : zCD := [(0, .iconst 0, 1, 0), (1, .istore_n 1, 2, 0), (2, .iconst 0, 3, 0), (3, .istore_n 2, 4, 0), (4, .iload_n 2, 5, 0), (5, .aload_n 0, 6, 0), (6, .getfield 42, 9, 0), (9, .arraylength, 10, 0), (10, .if_icmp .ge 21, 13, 31), (13, .iload_n 1, 14, 0), (14, .aload_n 0, 15, 0), (15, .getfield 42, 18, 0), (18, .iload_n 2, 19, 0), (19, .aaload, 20, 0), (20, .getfield 95, 23, 0), (23, .iadd, 24, 0), (24, .istore_n 1, 25, 0), (25, .iinc 2 1, 28, 0), (28, .goto (-24), 31, 4), (31, .iload_n 1, 32, 0), (32, .ireturn, 33, 0)]
def zk_X4_stepsOfTexts : List (Nat × List Nat) := [(4, [0, 1, 2])]
def zl_X4_stepsOfTexts : List (Nat × zCI) := []
def zM_X4_stepsOfTexts : zMI := (z_look zfl_X4, z_look zl_X4_stepsOfTexts, z_look zcs_X4, z_look zth_X4, 3, 1)
def zs_X4_stepsOfTexts : List (Nat × Nat × Nat × Nat) := [(2, 0, 0, 0)]
def zF_X4_stepsOfTexts : List zVV → zSG → Option zRR := z_fn zs_X4_stepsOfTexts zM_X4_stepsOfTexts zc_X4_stepsOfTexts zk_X4_stepsOfTexts (0, 0)
theorem zo_X4_stepsOfTexts : z_okc cX4_stepsOfTexts zc_X4_stepsOfTexts = true := by decide +kernel
theorem zv_X4_stepsOfTexts : z_kd [] zc_X4_stepsOfTexts = true := by decide +kernel
set_option maxRecDepth 20000 in
theorem zt_X4_stepsOfTexts (l : Launch) (hl : l.stackTraces = false) : zCt l yX4_stepsOfTexts cX4_stepsOfTexts 3 (some .int) (zrm 0 0 0) zF_X4_stepsOfTexts := z_ct (own := RX4) (sh := zs_X4_stepsOfTexts) (M := zM_X4_stepsOfTexts) (cd := zc_X4_stepsOfTexts) (cut := zk_X4_stepsOfTexts) (by decide +kernel) rfl rfl rfl (z_fl_all zfl_X4_ok) (z_cs_all zcs_X4_ok) zo_X4_stepsOfTexts (z_hthr (sites := []) (by decide +kernel) (fun _ h => nomatch h)) (z_hcal (L := zl_X4_stepsOfTexts) zv_X4_stepsOfTexts (fun _ h => nomatch h)) (by decide)
theorem zr_X4_stepsOfTexts : ∀ vs g r, zF_X4_stepsOfTexts vs g = some r → ∃ i rv, vs = .inr (.inl (0, i, 0)) :: rv ∧ i < z_ni 0 := fun vs g r h => z_chk_rec (z_fn_chk (sh := zs_X4_stepsOfTexts) h).1 (Or.inl ⟨rfl, by decide⟩)
def zc_X4_forgetRuns : zCD := [(0, .aload_n 0, 1, 0), (1, .iconst 0, 2, 0), (2, .putfield 242, 5, 0), (5, .aload_n 0, 6, 0), (6, .iconst 0, 7, 0), (7, .putfield 168, 10, 0), (10, .return_, 11, 0)]
def zk_X4_forgetRuns : List (Nat × List Nat) := []
def zl_X4_forgetRuns : List (Nat × zCI) := []
def zM_X4_forgetRuns : zMI := (z_look zfl_X4, z_look zl_X4_forgetRuns, z_look zcs_X4, z_look zth_X4, 1, 0)
def zs_X4_forgetRuns : List (Nat × Nat × Nat × Nat) := [(2, 0, 0, 0)]
def zF_X4_forgetRuns : List zVV → zSG → Option zRR := z_fn zs_X4_forgetRuns zM_X4_forgetRuns zc_X4_forgetRuns zk_X4_forgetRuns (0, 0)
theorem zo_X4_forgetRuns : z_okc cX4_forgetRuns zc_X4_forgetRuns = true := by decide +kernel
theorem zv_X4_forgetRuns : z_kd [] zc_X4_forgetRuns = true := by decide +kernel
set_option maxRecDepth 20000 in
theorem zt_X4_forgetRuns (l : Launch) (hl : l.stackTraces = false) : zCt l yX4_forgetRuns cX4_forgetRuns 1 none (zrm 0 0 0) zF_X4_forgetRuns := z_ct (own := RX4) (sh := zs_X4_forgetRuns) (M := zM_X4_forgetRuns) (cd := zc_X4_forgetRuns) (cut := zk_X4_forgetRuns) (by decide +kernel) rfl rfl rfl (z_fl_all zfl_X4_ok) (z_cs_all zcs_X4_ok) zo_X4_forgetRuns (z_hthr (sites := []) (by decide +kernel) (fun _ h => nomatch h)) (z_hcal (L := zl_X4_forgetRuns) zv_X4_forgetRuns (fun _ h => nomatch h)) (by decide)
theorem zr_X4_forgetRuns : ∀ vs g r, zF_X4_forgetRuns vs g = some r → ∃ i rv, vs = .inr (.inl (0, i, 0)) :: rv ∧ i < z_ni 0 := fun vs g r h => z_chk_rec (z_fn_chk (sh := zs_X4_forgetRuns) h).1 (Or.inl ⟨rfl, by decide⟩)
def zc_X4_doAsk : zCD := [(0, .aload_n 0, 1, 0), (1, .getfield 33, 4, 0), (4, .getfield 190, 7, 0), (7, .iload_n 3, 8, 0), (8, .iaload, 9, 0), (9, .istore 4, 11, 0), (11, .aload_n 0, 12, 0), (12, .getfield 33, 15, 0), (15, .getfield 124, 18, 0), (18, .iload_n 3, 19, 0), (19, .iaload, 20, 0), (20, .istore 5, 22, 0), (22, .aload_n 0, 23, 0), (23, .getfield 33, 26, 0), (26, .getfield 127, 29, 0), (29, .iload_n 3, 30, 0), (30, .iaload, 31, 0), (31, .istore 6, 33, 0), (33, .aload_n 0, 34, 0), (34, .getfield 33, 37, 0), (37, .getfield 253, 40, 0), (40, .iload_n 3, 41, 0), (41, .iaload, 42, 0), (42, .istore 7, 44, 0), (44, .iload 5, 46, 0), (46, .iconst (-1), 47, 0), (47, .if_icmp .eq 29, 50, 76), (50, .aload_n 1, 51, 0), (51, .iload 5, 53, 0), (53, .iload 6, 55, 0), (55, .invokevirtual 136, 58, 0), (58, .ifCond .eq 18, 61, 76), (61, .aload_n 1, 62, 0), (62, .getfield 140, 65, 0), (65, .iload 5, 67, 0), (67, .bipush 8, 69, 0), (69, .imul, 70, 0), (70, .iload 6, 72, 0), (72, .iadd, 73, 0), (73, .iaload, 74, 0), (74, .istore 7, 76, 0), (76, .aload_n 1, 77, 0), (77, .aload_n 0, 78, 0), (78, .getfield 42, 81, 0), (81, .iload_n 2, 82, 0), (82, .iconst 4, 83, 0), (83, .imul, 84, 0), (84, .iload 4, 86, 0), (86, .iadd, 87, 0), (87, .aaload, 88, 0), (88, .iload_n 3, 89, 0), (89, .iload 4, 91, 0), (91, .iload 7, 93, 0), (93, .aload_n 0, 94, 0), (94, .getfield 33, 97, 0), (97, .getfield 256, 100, 0), (100, .iload_n 3, 101, 0), (101, .iaload, 102, 0), (102, .invokevirtual 259, 105, 0), (105, .return_, 106, 0)]
def zk_X4_doAsk : List (Nat × List Nat) := []
def zl_X4_doAsk : List (Nat × zCI) := [(136, (zF_X2_has, 3, 1, 0, 0)), (259, (zF_X2_obey, 6, 0, 0, 0))]
def zM_X4_doAsk : zMI := (z_look zfl_X4, z_look zl_X4_doAsk, z_look zcs_X4, z_look zth_X4, 8, 0)
def zs_X4_doAsk : List (Nat × Nat × Nat × Nat) := [(2, 0, 0, 0), (3, 4, 0, 0), (0, 0, 0, 0), (0, 0, 0, 0)]
def zF_X4_doAsk : List zVV → zSG → Option zRR := z_fn zs_X4_doAsk zM_X4_doAsk zc_X4_doAsk zk_X4_doAsk (0, 0)
theorem zo_X4_doAsk : z_okc cX4_doAsk zc_X4_doAsk = true := by decide +kernel
theorem zv_X4_doAsk : z_kd [136, 259] zc_X4_doAsk = true := by decide +kernel
set_option maxRecDepth 20000 in
theorem zt_X4_doAsk (l : Launch) (hl : l.stackTraces = false) : zCt l yX4_doAsk cX4_doAsk 8 none (zrm 3 0 0) zF_X4_doAsk := z_ct (own := RX4) (sh := zs_X4_doAsk) (M := zM_X4_doAsk) (cd := zc_X4_doAsk) (cut := zk_X4_doAsk) (by decide +kernel) rfl rfl rfl (z_fl_all zfl_X4_ok) (z_cs_all zcs_X4_ok) zo_X4_doAsk (z_hthr (sites := []) (by decide +kernel) (fun _ h => nomatch h)) (z_hcal (L := zl_X4_doAsk) zv_X4_doAsk (List.forall_mem_cons.mpr ⟨z_calV (l := l) (j := 136) (C := RX2) (cn := 4) (T := TX2) (N := 18) (zt_X2_has l) (by decide +kernel) (by decide +kernel) rfl ⟨by decide +kernel, by decide +kernel, by decide +kernel⟩ (z_room (by omega) (by decide)) rfl zr_X2_has, List.forall_mem_cons.mpr ⟨z_calV (l := l) (j := 259) (C := RX2) (cn := 4) (T := TX2) (N := 18) (zt_X2_obey l) (by decide +kernel) (by decide +kernel) rfl ⟨by decide +kernel, by decide +kernel, by decide +kernel⟩ (z_room (by omega) (by decide)) rfl zr_X2_obey, fun _ h => nomatch h⟩⟩)) (by decide)
theorem zr_X4_doAsk : ∀ vs g r, zF_X4_doAsk vs g = some r → ∃ i rv, vs = .inr (.inl (0, i, 0)) :: rv ∧ i < z_ni 0 := fun vs g r h => z_chk_rec (z_fn_chk (sh := zs_X4_doAsk) h).1 (Or.inl ⟨rfl, by decide⟩)
def zc_X4_doAll : zCD := [(0, .aload_n 1, 1, 0), (1, .aload_n 0, 2, 0), (2, .getfield 13, 5, 0), (5, .aload_n 0, 6, 0), (6, .getfield 16, 9, 0), (9, .iload_n 3, 10, 0), (10, .invokevirtual 246, 13, 0), (13, .iconst 0, 14, 0), (14, .istore 4, 16, 0), (16, .iload 4, 18, 0), (18, .aload_n 0, 19, 0), (19, .getfield 33, 22, 0), (22, .getfield 109, 25, 0), (25, .if_icmp .ge 25, 28, 50), (28, .aload_n 0, 29, 0), (29, .aload_n 1, 30, 0), (30, .iload_n 2, 31, 0), (31, .aload_n 0, 32, 0), (32, .getfield 33, 35, 0), (35, .getfield 215, 38, 0), (38, .iload 4, 40, 0), (40, .iaload, 41, 0), (41, .invokevirtual 250, 44, 0), (44, .iinc 4 1, 47, 0), (47, .goto (-31), 50, 16), (50, .return_, 51, 0)]
def zk_X4_doAll : List (Nat × List Nat) := [(16, [0, 1, 2, 4])]
def zl_X4_doAll : List (Nat × zCI) := [(246, (zF_X2_start, 4, 0, 0, 0)), (250, (zF_X4_doAsk, 4, 0, 0, 0))]
def zM_X4_doAll : zMI := (z_look zfl_X4, z_look zl_X4_doAll, z_look zcs_X4, z_look zth_X4, 5, 0)
def zs_X4_doAll : List (Nat × Nat × Nat × Nat) := [(2, 0, 0, 0), (3, 4, 0, 0), (0, 0, 0, 0), (0, 0, 0, 0)]
def zF_X4_doAll : List zVV → zSG → Option zRR := z_fn zs_X4_doAll zM_X4_doAll zc_X4_doAll zk_X4_doAll (0, 0)
theorem zo_X4_doAll : z_okc cX4_doAll zc_X4_doAll = true := by decide +kernel
theorem zv_X4_doAll : z_kd [246, 250] zc_X4_doAll = true := by decide +kernel
set_option maxRecDepth 20000 in
theorem zt_X4_doAll (l : Launch) (hl : l.stackTraces = false) : zCt l yX4_doAll cX4_doAll 5 none (zrm 4 0 0) zF_X4_doAll := z_ct (own := RX4) (sh := zs_X4_doAll) (M := zM_X4_doAll) (cd := zc_X4_doAll) (cut := zk_X4_doAll) (by decide +kernel) rfl rfl rfl (z_fl_all zfl_X4_ok) (z_cs_all zcs_X4_ok) zo_X4_doAll (z_hthr (sites := []) (by decide +kernel) (fun _ h => nomatch h)) (z_hcal (L := zl_X4_doAll) zv_X4_doAll (List.forall_mem_cons.mpr ⟨z_calV (l := l) (j := 246) (C := RX2) (cn := 4) (T := TX2) (N := 18) (zt_X2_start l) (by decide +kernel) (by decide +kernel) rfl ⟨by decide +kernel, by decide +kernel, by decide +kernel⟩ (z_room (by omega) (by decide)) rfl zr_X2_start, List.forall_mem_cons.mpr ⟨z_calV (l := l) (j := 250) (C := RX4) (cn := 0) (T := TX4) (N := 13) (zt_X4_doAsk l hl) (by decide +kernel) (by decide +kernel) rfl ⟨by decide +kernel, by decide +kernel, by decide +kernel⟩ (z_room (by omega) (by decide)) rfl zr_X4_doAsk, fun _ h => nomatch h⟩⟩)) (by decide)
theorem zr_X4_doAll : ∀ vs g r, zF_X4_doAll vs g = some r → ∃ i rv, vs = .inr (.inl (0, i, 0)) :: rv ∧ i < z_ni 0 := fun vs g r h => z_chk_rec (z_fn_chk (sh := zs_X4_doAll) h).1 (Or.inl ⟨rfl, by decide⟩)
def zc_X4_bringRuns : zCD := [(0, .aload_n 0, 1, 0), (1, .getfield 242, 4, 0), (4, .ifCond .eq 4, 7, 8), (7, .return_, 8, 0), (8, .iconst 0, 9, 0), (9, .istore_n 1, 10, 0), (10, .iload_n 1, 11, 0), (11, .iconst 2, 12, 0), (12, .if_icmp .ge 21, 15, 33), (15, .aload_n 0, 16, 0), (16, .aload_n 0, 17, 0), (17, .getfield 48, 20, 0), (20, .iload_n 1, 21, 0), (21, .aaload, 22, 0), (22, .iload_n 1, 23, 0), (23, .iconst 0, 24, 0), (24, .invokevirtual 172, 27, 0), (27, .iinc 1 1, 30, 0), (30, .goto (-20), 33, 10), (33, .aload_n 0, 34, 0), (34, .iconst 1, 35, 0), (35, .putfield 242, 38, 0), (38, .return_, 39, 0)]
def zk_X4_bringRuns : List (Nat × List Nat) := [(10, [0, 1])]
def zl_X4_bringRuns : List (Nat × zCI) := [(172, (zF_X4_doAll, 4, 0, 0, 0))]
def zM_X4_bringRuns : zMI := (z_look zfl_X4, z_look zl_X4_bringRuns, z_look zcs_X4, z_look zth_X4, 2, 0)
def zs_X4_bringRuns : List (Nat × Nat × Nat × Nat) := [(2, 0, 0, 0)]
def zF_X4_bringRuns : List zVV → zSG → Option zRR := z_fn zs_X4_bringRuns zM_X4_bringRuns zc_X4_bringRuns zk_X4_bringRuns (0, 0)
theorem zo_X4_bringRuns : z_okc cX4_bringRuns zc_X4_bringRuns = true := by decide +kernel
theorem zv_X4_bringRuns : z_kd [172] zc_X4_bringRuns = true := by decide +kernel
set_option maxRecDepth 20000 in
theorem zt_X4_bringRuns (l : Launch) (hl : l.stackTraces = false) : zCt l yX4_bringRuns cX4_bringRuns 2 none (zrm 5 0 0) zF_X4_bringRuns := z_ct (own := RX4) (sh := zs_X4_bringRuns) (M := zM_X4_bringRuns) (cd := zc_X4_bringRuns) (cut := zk_X4_bringRuns) (by decide +kernel) rfl rfl rfl (z_fl_all zfl_X4_ok) (z_cs_all zcs_X4_ok) zo_X4_bringRuns (z_hthr (sites := []) (by decide +kernel) (fun _ h => nomatch h)) (z_hcal (L := zl_X4_bringRuns) zv_X4_bringRuns (List.forall_mem_cons.mpr ⟨z_calV (l := l) (j := 172) (C := RX4) (cn := 0) (T := TX4) (N := 13) (zt_X4_doAll l hl) (by decide +kernel) (by decide +kernel) rfl ⟨by decide +kernel, by decide +kernel, by decide +kernel⟩ (z_room (by omega) (by decide)) rfl zr_X4_doAll, fun _ h => nomatch h⟩)) (by decide)
theorem zr_X4_bringRuns : ∀ vs g r, zF_X4_bringRuns vs g = some r → ∃ i rv, vs = .inr (.inl (0, i, 0)) :: rv ∧ i < z_ni 0 := fun vs g r h => z_chk_rec (z_fn_chk (sh := zs_X4_bringRuns) h).1 (Or.inl ⟨rfl, by decide⟩)
def zc_X4_learnFrom : zCD := [(0, .aload_n 2, 1, 0), (1, .getfield 133, 4, 0), (4, .iload_n 1, 5, 0), (5, .iaload, 6, 0), (6, .aload_n 3, 7, 0), (7, .getfield 133, 10, 0), (10, .iload_n 1, 11, 0), (11, .iaload, 12, 0), (12, .invokestatic 263, 15, 0), (15, .istore 4, 17, 0), (17, .iconst 0, 18, 0), (18, .istore 5, 20, 0), (20, .iconst 0, 21, 0), (21, .istore 6, 23, 0), (23, .iload 6, 25, 0), (25, .iload 4, 27, 0), (27, .if_icmp .ge 73, 30, 100), (30, .iload_n 1, 31, 0), (31, .bipush 8, 33, 0), (33, .imul, 34, 0), (34, .iload 6, 36, 0), (36, .iadd, 37, 0), (37, .istore 7, 39, 0), (39, .aload_n 0, 40, 0), (40, .getfield 33, 43, 0), (43, .getfield 190, 46, 0), (46, .iload_n 1, 47, 0), (47, .iaload, 48, 0), (48, .bipush 8, 50, 0), (50, .imul, 51, 0), (51, .iload 6, 53, 0), (53, .iadd, 54, 0), (54, .istore 8, 56, 0), (56, .aload_n 2, 57, 0), (57, .getfield 140, 60, 0), (60, .iload 7, 62, 0), (62, .iaload, 63, 0), (63, .aload_n 3, 64, 0), (64, .getfield 140, 67, 0), (67, .iload 7, 69, 0), (69, .iaload, 70, 0), (70, .if_icmp .eq 24, 73, 94), (73, .aload_n 0, 74, 0), (74, .getfield 19, 77, 0), (77, .iload 8, 79, 0), (79, .baload, 80, 0), (80, .ifCond .ne 14, 83, 94), (83, .aload_n 0, 84, 0), (84, .getfield 19, 87, 0), (87, .iload 8, 89, 0), (89, .iconst 1, 90, 0), (90, .bastore, 91, 0), (91, .iinc 5 1, 94, 0), (94, .iinc 6 1, 97, 0), (97, .goto (-74), 100, 23), (100, .iload 5, 102, 0), (102, .ireturn, 103, 0)]
def zk_X4_learnFrom : List (Nat × List Nat) := [(23, [0, 1, 2, 3, 4, 5, 6])]
def zl_X4_learnFrom : List (Nat × zCI) := [(263, (zF_min, 2, 1, 0, 0))]
def zM_X4_learnFrom : zMI := (z_look zfl_X4, z_look zl_X4_learnFrom, z_look zcs_X4, z_look zth_X4, 9, 1)
def zs_X4_learnFrom : List (Nat × Nat × Nat × Nat) := [(2, 0, 0, 0), (0, 0, 0, 0), (3, 4, 0, 0), (3, 4, 0, 0)]
def zF_X4_learnFrom : List zVV → zSG → Option zRR := z_fn zs_X4_learnFrom zM_X4_learnFrom zc_X4_learnFrom zk_X4_learnFrom (0, 0)
theorem zo_X4_learnFrom : z_okc cX4_learnFrom zc_X4_learnFrom = true := by decide +kernel
theorem zv_X4_learnFrom : z_kd [] zc_X4_learnFrom = true := by decide +kernel
set_option maxRecDepth 20000 in
theorem zt_X4_learnFrom (l : Launch) (hl : l.stackTraces = false) : zCt l yX4_learnFrom cX4_learnFrom 9 (some .int) (zrm 1 0 0) zF_X4_learnFrom := z_ct (own := RX4) (sh := zs_X4_learnFrom) (M := zM_X4_learnFrom) (cd := zc_X4_learnFrom) (cut := zk_X4_learnFrom) (by decide +kernel) rfl rfl rfl (z_fl_all zfl_X4_ok) (z_cs_all zcs_X4_ok) zo_X4_learnFrom (z_hthr (sites := []) (by decide +kernel) (fun _ h => nomatch h)) (z_hcal (L := zl_X4_learnFrom) zv_X4_learnFrom (List.forall_mem_cons.mpr ⟨z_calMin (l := l) (j := 263) (by decide +kernel) (by decide) (by decide), fun _ h => nomatch h⟩)) (by decide)
theorem zr_X4_learnFrom : ∀ vs g r, zF_X4_learnFrom vs g = some r → ∃ i rv, vs = .inr (.inl (0, i, 0)) :: rv ∧ i < z_ni 0 := fun vs g r h => z_chk_rec (z_fn_chk (sh := zs_X4_learnFrom) h).1 (Or.inl ⟨rfl, by decide⟩)
def zc_X4_whereDifferent : zCD := [(0, .aload_n 2, 1, 0), (1, .iconst 0, 2, 0), (2, .aaload, 3, 0), (3, .astore_n 3, 4, 0), (4, .aload_n 2, 5, 0), (5, .iconst 1, 6, 0), (6, .aaload, 7, 0), (7, .astore 4, 9, 0), (9, .aload_n 3, 10, 0), (10, .getfield 133, 13, 0), (13, .iload_n 1, 14, 0), (14, .iaload, 15, 0), (15, .aload 4, 17, 0), (17, .getfield 133, 20, 0), (20, .iload_n 1, 21, 0), (21, .iaload, 22, 0), (22, .invokestatic 263, 25, 0), (25, .istore 5, 27, 0), (27, .iconst 0, 28, 0), (28, .istore 6, 30, 0), (30, .iload 6, 32, 0), (32, .iload 5, 34, 0), (34, .if_icmp .ge 62, 37, 96), (37, .iload_n 1, 38, 0), (38, .bipush 8, 40, 0), (40, .imul, 41, 0), (41, .iload 6, 43, 0), (43, .iadd, 44, 0), (44, .istore 7, 46, 0), (46, .aload_n 3, 47, 0), (47, .getfield 140, 50, 0), (50, .iload 7, 52, 0), (52, .iaload, 53, 0), (53, .aload 4, 55, 0), (55, .getfield 140, 58, 0), (58, .iload 7, 60, 0), (60, .iaload, 61, 0), (61, .if_icmp .eq 29, 64, 90), (64, .aload_n 0, 65, 0), (65, .getfield 19, 68, 0), (68, .aload_n 0, 69, 0), (69, .getfield 33, 72, 0), (72, .getfield 190, 75, 0), (75, .iload_n 1, 76, 0), (76, .iaload, 77, 0), (77, .bipush 8, 79, 0), (79, .imul, 80, 0), (80, .iload 6, 82, 0), (82, .iadd, 83, 0), (83, .baload, 84, 0), (84, .ifCond .ne 6, 87, 90), (87, .iload 6, 89, 0), (89, .ireturn, 90, 0), (90, .iinc 6 1, 93, 0), (93, .goto (-63), 96, 30), (96, .aload_n 3, 97, 0), (97, .getfield 133, 100, 0), (100, .iload_n 1, 101, 0), (101, .iaload, 102, 0), (102, .aload 4, 104, 0), (104, .getfield 133, 107, 0), (107, .iload_n 1, 108, 0), (108, .iaload, 109, 0), (109, .if_icmp .ne 7, 112, 116), (112, .iconst (-1), 113, 0), (113, .goto 5, 116, 118), (116, .iload 5, 118, 0), (118, .ireturn, 119, 0)]
def zk_X4_whereDifferent : List (Nat × List Nat) := [(30, [0, 1, 3, 4, 5, 6])]
def zl_X4_whereDifferent : List (Nat × zCI) := [(263, (zF_min, 2, 1, 0, 0))]
def zM_X4_whereDifferent : zMI := (z_look zfl_X4, z_look zl_X4_whereDifferent, z_look zcs_X4, z_look zth_X4, 8, 1)
def zs_X4_whereDifferent : List (Nat × Nat × Nat × Nat) := [(2, 0, 0, 0), (0, 0, 0, 0), (4, 0, 0, 0)]
def zF_X4_whereDifferent : List zVV → zSG → Option zRR := z_fn zs_X4_whereDifferent zM_X4_whereDifferent zc_X4_whereDifferent zk_X4_whereDifferent (0, 0)
theorem zo_X4_whereDifferent : z_okc cX4_whereDifferent zc_X4_whereDifferent = true := by decide +kernel
theorem zv_X4_whereDifferent : z_kd [] zc_X4_whereDifferent = true := by decide +kernel
set_option maxRecDepth 20000 in
theorem zt_X4_whereDifferent (l : Launch) (hl : l.stackTraces = false) : zCt l yX4_whereDifferent cX4_whereDifferent 8 (some .int) (zrm 1 0 0) zF_X4_whereDifferent := z_ct (own := RX4) (sh := zs_X4_whereDifferent) (M := zM_X4_whereDifferent) (cd := zc_X4_whereDifferent) (cut := zk_X4_whereDifferent) (by decide +kernel) rfl rfl rfl (z_fl_all zfl_X4_ok) (z_cs_all zcs_X4_ok) zo_X4_whereDifferent (z_hthr (sites := []) (by decide +kernel) (fun _ h => nomatch h)) (z_hcal (L := zl_X4_whereDifferent) zv_X4_whereDifferent (List.forall_mem_cons.mpr ⟨z_calMin (l := l) (j := 263) (by decide +kernel) (by decide) (by decide), fun _ h => nomatch h⟩)) (by decide)
theorem zr_X4_whereDifferent : ∀ vs g r, zF_X4_whereDifferent vs g = some r → ∃ i rv, vs = .inr (.inl (0, i, 0)) :: rv ∧ i < z_ni 0 := fun vs g r h => z_chk_rec (z_fn_chk (sh := zs_X4_whereDifferent) h).1 (Or.inl ⟨rfl, by decide⟩)
end
section
def zc_X4_shapeOf : zCD := [(0, .aload_n 0, 1, 0), (1, .iload_n 1, 2, 0), (2, .aload_n 0, 3, 0), (3, .getfield 48, 6, 0), (6, .invokevirtual 180, 9, 0), (9, .istore_n 2, 10, 0), (10, .iload_n 2, 11, 0), (11, .iconst (-1), 12, 0), (12, .if_icmp .ne 7, 15, 19), (15, .iconst (-1), 16, 0), (16, .goto 17, 19, 33), (19, .aload_n 0, 20, 0), (20, .getfield 33, 23, 0), (23, .getfield 190, 26, 0), (26, .iload_n 1, 27, 0), (27, .iaload, 28, 0), (28, .bipush 8, 30, 0), (30, .imul, 31, 0), (31, .iload_n 2, 32, 0), (32, .iadd, 33, 0), (33, .ireturn, 34, 0)]
def zk_X4_shapeOf : List (Nat × List Nat) := []
def zl_X4_shapeOf : List (Nat × zCI) := [(180, (zF_X4_whereDifferent, 3, 1, 0, 0))]
def zM_X4_shapeOf : zMI := (z_look zfl_X4, z_look zl_X4_shapeOf, z_look zcs_X4, z_look zth_X4, 3, 1)
def zs_X4_shapeOf : List (Nat × Nat × Nat × Nat) := [(2, 0, 0, 0), (0, 0, 0, 0)]
def zF_X4_shapeOf : List zVV → zSG → Option zRR := z_fn zs_X4_shapeOf zM_X4_shapeOf zc_X4_shapeOf zk_X4_shapeOf (0, 0)
theorem zo_X4_shapeOf : z_okc cX4_shapeOf zc_X4_shapeOf = true := by decide +kernel
theorem zv_X4_shapeOf : z_kd [180] zc_X4_shapeOf = true := by decide +kernel
set_option maxRecDepth 20000 in
theorem zt_X4_shapeOf (l : Launch) (hl : l.stackTraces = false) : zCt l yX4_shapeOf cX4_shapeOf 3 (some .int) (zrm 2 0 0) zF_X4_shapeOf := z_ct (own := RX4) (sh := zs_X4_shapeOf) (M := zM_X4_shapeOf) (cd := zc_X4_shapeOf) (cut := zk_X4_shapeOf) (by decide +kernel) rfl rfl rfl (z_fl_all zfl_X4_ok) (z_cs_all zcs_X4_ok) zo_X4_shapeOf (z_hthr (sites := []) (by decide +kernel) (fun _ h => nomatch h)) (z_hcal (L := zl_X4_shapeOf) zv_X4_shapeOf (List.forall_mem_cons.mpr ⟨z_calV (l := l) (j := 180) (C := RX4) (cn := 0) (T := TX4) (N := 13) (zt_X4_whereDifferent l hl) (by decide +kernel) (by decide +kernel) rfl ⟨by decide +kernel, by decide +kernel, by decide +kernel⟩ (z_room (by omega) (by decide)) rfl zr_X4_whereDifferent, fun _ h => nomatch h⟩)) (by decide)
theorem zr_X4_shapeOf : ∀ vs g r, zF_X4_shapeOf vs g = some r → ∃ i rv, vs = .inr (.inl (0, i, 0)) :: rv ∧ i < z_ni 0 := fun vs g r h => z_chk_rec (z_fn_chk (sh := zs_X4_shapeOf) h).1 (Or.inl ⟨rfl, by decide⟩)
def zc_X4_lowestOfShape : zCD := [(0, .iconst 0, 1, 0), (1, .istore_n 2, 2, 0), (2, .iconst 0, 3, 0), (3, .istore_n 3, 4, 0), (4, .iconst 0, 5, 0), (5, .istore 4, 7, 0), (7, .iload 4, 9, 0), (9, .aload_n 0, 10, 0), (10, .getfield 33, 13, 0), (13, .getfield 109, 16, 0), (16, .if_icmp .ge 50, 19, 66), (19, .aload_n 0, 20, 0), (20, .iload 4, 22, 0), (22, .invokevirtual 184, 25, 0), (25, .istore 5, 27, 0), (27, .iload 5, 29, 0), (29, .iconst (-1), 30, 0), (30, .if_icmp .eq 30, 33, 60), (33, .iload_n 2, 34, 0), (34, .iconst 1, 35, 0), (35, .iload 5, 37, 0), (37, .ishl, 38, 0), (38, .iand, 39, 0), (39, .ifCond .ne 21, 42, 60), (42, .iload_n 3, 43, 0), (43, .iload_n 1, 44, 0), (44, .if_icmp .ne 6, 47, 50), (47, .iload 4, 49, 0), (49, .ireturn, 50, 0), (50, .iload_n 2, 51, 0), (51, .iconst 1, 52, 0), (52, .iload 5, 54, 0), (54, .ishl, 55, 0), (55, .ior, 56, 0), (56, .istore_n 2, 57, 0), (57, .iinc 3 1, 60, 0), (60, .iinc 4 1, 63, 0), (63, .goto (-56), 66, 7), (66, .iconst (-1), 67, 0), (67, .ireturn, 68, 0)]
def zk_X4_lowestOfShape : List (Nat × List Nat) := [(7, [0, 1, 2, 3, 4])]
def zl_X4_lowestOfShape : List (Nat × zCI) := [(184, (zF_X4_shapeOf, 2, 1, 0, 0))]
def zM_X4_lowestOfShape : zMI := (z_look zfl_X4, z_look zl_X4_lowestOfShape, z_look zcs_X4, z_look zth_X4, 6, 1)
def zs_X4_lowestOfShape : List (Nat × Nat × Nat × Nat) := [(2, 0, 0, 0), (0, 0, 0, 0)]
def zF_X4_lowestOfShape : List zVV → zSG → Option zRR := z_fn zs_X4_lowestOfShape zM_X4_lowestOfShape zc_X4_lowestOfShape zk_X4_lowestOfShape (0, 0)
theorem zo_X4_lowestOfShape : z_okc cX4_lowestOfShape zc_X4_lowestOfShape = true := by decide +kernel
theorem zv_X4_lowestOfShape : z_kd [184] zc_X4_lowestOfShape = true := by decide +kernel
set_option maxRecDepth 20000 in
theorem zt_X4_lowestOfShape (l : Launch) (hl : l.stackTraces = false) : zCt l yX4_lowestOfShape cX4_lowestOfShape 6 (some .int) (zrm 3 0 0) zF_X4_lowestOfShape := z_ct (own := RX4) (sh := zs_X4_lowestOfShape) (M := zM_X4_lowestOfShape) (cd := zc_X4_lowestOfShape) (cut := zk_X4_lowestOfShape) (by decide +kernel) rfl rfl rfl (z_fl_all zfl_X4_ok) (z_cs_all zcs_X4_ok) zo_X4_lowestOfShape (z_hthr (sites := []) (by decide +kernel) (fun _ h => nomatch h)) (z_hcal (L := zl_X4_lowestOfShape) zv_X4_lowestOfShape (List.forall_mem_cons.mpr ⟨z_calV (l := l) (j := 184) (C := RX4) (cn := 0) (T := TX4) (N := 13) (zt_X4_shapeOf l hl) (by decide +kernel) (by decide +kernel) rfl ⟨by decide +kernel, by decide +kernel, by decide +kernel⟩ (z_room (by omega) (by decide)) rfl zr_X4_shapeOf, fun _ h => nomatch h⟩)) (by decide)
theorem zr_X4_lowestOfShape : ∀ vs g r, zF_X4_lowestOfShape vs g = some r → ∃ i rv, vs = .inr (.inl (0, i, 0)) :: rv ∧ i < z_ni 0 := fun vs g r h => z_chk_rec (z_fn_chk (sh := zs_X4_lowestOfShape) h).1 (Or.inl ⟨rfl, by decide⟩)
def zc_X4_asksOfShape : zCD := [(0, .iconst 0, 1, 0), (1, .istore_n 2, 2, 0), (2, .iconst 0, 3, 0), (3, .istore_n 3, 4, 0), (4, .iload_n 3, 5, 0), (5, .aload_n 0, 6, 0), (6, .getfield 33, 9, 0), (9, .getfield 109, 12, 0), (12, .if_icmp .ge 21, 15, 33), (15, .aload_n 0, 16, 0), (16, .iload_n 3, 17, 0), (17, .invokevirtual 184, 20, 0), (20, .iload_n 1, 21, 0), (21, .if_icmp .ne 6, 24, 27), (24, .iinc 2 1, 27, 0), (27, .iinc 3 1, 30, 0), (30, .goto (-26), 33, 4), (33, .iload_n 2, 34, 0), (34, .ireturn, 35, 0)]
def zk_X4_asksOfShape : List (Nat × List Nat) := [(4, [0, 1, 2, 3])]
def zl_X4_asksOfShape : List (Nat × zCI) := [(184, (zF_X4_shapeOf, 2, 1, 0, 0))]
def zM_X4_asksOfShape : zMI := (z_look zfl_X4, z_look zl_X4_asksOfShape, z_look zcs_X4, z_look zth_X4, 4, 1)
def zs_X4_asksOfShape : List (Nat × Nat × Nat × Nat) := [(2, 0, 0, 0), (0, 0, 0, 0)]
def zF_X4_asksOfShape : List zVV → zSG → Option zRR := z_fn zs_X4_asksOfShape zM_X4_asksOfShape zc_X4_asksOfShape zk_X4_asksOfShape (0, 0)
theorem zo_X4_asksOfShape : z_okc cX4_asksOfShape zc_X4_asksOfShape = true := by decide +kernel
theorem zv_X4_asksOfShape : z_kd [184] zc_X4_asksOfShape = true := by decide +kernel
set_option maxRecDepth 20000 in
theorem zt_X4_asksOfShape (l : Launch) (hl : l.stackTraces = false) : zCt l yX4_asksOfShape cX4_asksOfShape 4 (some .int) (zrm 3 0 0) zF_X4_asksOfShape := z_ct (own := RX4) (sh := zs_X4_asksOfShape) (M := zM_X4_asksOfShape) (cd := zc_X4_asksOfShape) (cut := zk_X4_asksOfShape) (by decide +kernel) rfl rfl rfl (z_fl_all zfl_X4_ok) (z_cs_all zcs_X4_ok) zo_X4_asksOfShape (z_hthr (sites := []) (by decide +kernel) (fun _ h => nomatch h)) (z_hcal (L := zl_X4_asksOfShape) zv_X4_asksOfShape (List.forall_mem_cons.mpr ⟨z_calV (l := l) (j := 184) (C := RX4) (cn := 0) (T := TX4) (N := 13) (zt_X4_shapeOf l hl) (by decide +kernel) (by decide +kernel) rfl ⟨by decide +kernel, by decide +kernel, by decide +kernel⟩ (z_room (by omega) (by decide)) rfl zr_X4_shapeOf, fun _ h => nomatch h⟩)) (by decide)
theorem zr_X4_asksOfShape : ∀ vs g r, zF_X4_asksOfShape vs g = some r → ∃ i rv, vs = .inr (.inl (0, i, 0)) :: rv ∧ i < z_ni 0 := fun vs g r h => z_chk_rec (z_fn_chk (sh := zs_X4_asksOfShape) h).1 (Or.inl ⟨rfl, by decide⟩)
def zc_X4_areTouching : zCD := [(0, .iload_n 1, 1, 0), (1, .iload_n 2, 2, 0), (2, .if_icmp .ne 5, 5, 7), (5, .iconst 0, 6, 0), (6, .ireturn, 7, 0), (7, .aload_n 0, 8, 0), (8, .getfield 33, 11, 0), (11, .getfield 124, 14, 0), (14, .iload_n 1, 15, 0), (15, .iaload, 16, 0), (16, .iload_n 2, 17, 0), (17, .if_icmp .eq 16, 20, 33), (20, .aload_n 0, 21, 0), (21, .getfield 33, 24, 0), (24, .getfield 124, 27, 0), (27, .iload_n 2, 28, 0), (28, .iaload, 29, 0), (29, .iload_n 1, 30, 0), (30, .if_icmp .ne 5, 33, 35), (33, .iconst 1, 34, 0), (34, .ireturn, 35, 0), (35, .aload_n 0, 36, 0), (36, .getfield 48, 39, 0), (39, .iconst 0, 40, 0), (40, .aaload, 41, 0), (41, .astore_n 3, 42, 0), (42, .aload_n 3, 43, 0), (43, .getfield 148, 46, 0), (46, .iload_n 1, 47, 0), (47, .iaload, 48, 0), (48, .aload_n 3, 49, 0), (49, .getfield 151, 52, 0), (52, .iload_n 1, 53, 0), (53, .iaload, 54, 0), (54, .ior, 55, 0), (55, .istore 4, 57, 0), (57, .aload_n 3, 58, 0), (58, .getfield 148, 61, 0), (61, .iload_n 2, 62, 0), (62, .iaload, 63, 0), (63, .aload_n 3, 64, 0), (64, .getfield 151, 67, 0), (67, .iload_n 2, 68, 0), (68, .iaload, 69, 0), (69, .ior, 70, 0), (70, .istore 5, 72, 0), (72, .aload_n 3, 73, 0), (73, .getfield 151, 76, 0), (76, .iload_n 1, 77, 0), (77, .iaload, 78, 0), (78, .iload 5, 80, 0), (80, .iand, 81, 0), (81, .ifCond .ne 15, 84, 96), (84, .aload_n 3, 85, 0), (85, .getfield 151, 88, 0), (88, .iload_n 2, 89, 0), (89, .iaload, 90, 0), (90, .iload 4, 92, 0), (92, .iand, 93, 0), (93, .ifCond .eq 7, 96, 100), (96, .iconst 1, 97, 0), (97, .goto 4, 100, 101), (100, .iconst 0, 101, 0), (101, .ireturn, 102, 0)]
def zk_X4_areTouching : List (Nat × List Nat) := []
def zl_X4_areTouching : List (Nat × zCI) := []
def zM_X4_areTouching : zMI := (z_look zfl_X4, z_look zl_X4_areTouching, z_look zcs_X4, z_look zth_X4, 6, 2)
def zs_X4_areTouching : List (Nat × Nat × Nat × Nat) := [(2, 0, 0, 0), (0, 0, 0, 0), (0, 0, 0, 0)]
def zF_X4_areTouching : List zVV → zSG → Option zRR := z_fn zs_X4_areTouching zM_X4_areTouching zc_X4_areTouching zk_X4_areTouching (0, 0)
theorem zo_X4_areTouching : z_okc cX4_areTouching zc_X4_areTouching = true := by decide +kernel
theorem zv_X4_areTouching : z_kd [] zc_X4_areTouching = true := by decide +kernel
set_option maxRecDepth 20000 in
theorem zt_X4_areTouching (l : Launch) (hl : l.stackTraces = false) : zCt l yX4_areTouching cX4_areTouching 6 (some .boolean) (zrm 0 0 0) zF_X4_areTouching := z_ct (own := RX4) (sh := zs_X4_areTouching) (M := zM_X4_areTouching) (cd := zc_X4_areTouching) (cut := zk_X4_areTouching) (by decide +kernel) rfl rfl rfl (z_fl_all zfl_X4_ok) (z_cs_all zcs_X4_ok) zo_X4_areTouching (z_hthr (sites := []) (by decide +kernel) (fun _ h => nomatch h)) (z_hcal (L := zl_X4_areTouching) zv_X4_areTouching (fun _ h => nomatch h)) (by decide)
theorem zr_X4_areTouching : ∀ vs g r, zF_X4_areTouching vs g = some r → ∃ i rv, vs = .inr (.inl (0, i, 0)) :: rv ∧ i < z_ni 0 := fun vs g r h => z_chk_rec (z_fn_chk (sh := zs_X4_areTouching) h).1 (Or.inl ⟨rfl, by decide⟩)
def zc_X4_isIn : zCD := [(0, .iload_n 0, 1, 0), (1, .iconst 1, 2, 0), (2, .iload_n 1, 3, 0), (3, .iconst 1, 4, 0), (4, .isub, 5, 0), (5, .iload_n 2, 6, 0), (6, .isub, 7, 0), (7, .ishl, 8, 0), (8, .iand, 9, 0), (9, .ifCond .eq 7, 12, 16), (12, .iconst 1, 13, 0), (13, .goto 4, 16, 17), (16, .iconst 0, 17, 0), (17, .ireturn, 18, 0)]
def zk_X4_isIn : List (Nat × List Nat) := []
def zl_X4_isIn : List (Nat × zCI) := []
def zM_X4_isIn : zMI := (z_look zfl_X4, z_look zl_X4_isIn, z_look zcs_X4, z_look zth_X4, 3, 2)
def zs_X4_isIn : List (Nat × Nat × Nat × Nat) := [(0, 0, 0, 0), (0, 0, 0, 0), (0, 0, 0, 0)]
def zF_X4_isIn : List zVV → zSG → Option zRR := z_fn zs_X4_isIn zM_X4_isIn zc_X4_isIn zk_X4_isIn (0, 0)
theorem zo_X4_isIn : z_okc cX4_isIn zc_X4_isIn = true := by decide +kernel
theorem zv_X4_isIn : z_kd [] zc_X4_isIn = true := by decide +kernel
set_option maxRecDepth 20000 in
theorem zt_X4_isIn (l : Launch) (hl : l.stackTraces = false) : zCt l yX4_isIn cX4_isIn 3 (some .boolean) (zrm 0 0 0) zF_X4_isIn := z_ct (own := RX4) (sh := zs_X4_isIn) (M := zM_X4_isIn) (cd := zc_X4_isIn) (cut := zk_X4_isIn) (by decide +kernel) rfl rfl rfl (z_fl_all zfl_X4_ok) (z_cs_all zcs_X4_ok) zo_X4_isIn (z_hthr (sites := []) (by decide +kernel) (fun _ h => nomatch h)) (z_hcal (L := zl_X4_isIn) zv_X4_isIn (fun _ h => nomatch h)) (by decide)
def zc_X4_doAlwaysIn : zCD := [(0, .iconst 0, 1, 0), (1, .istore_n 2, 2, 0), (2, .iload_n 2, 3, 0), (3, .iconst 2, 4, 0), (4, .if_icmp .ge 64, 7, 68), (7, .aload_n 0, 8, 0), (8, .getfield 52, 11, 0), (11, .iload_n 2, 12, 0), (12, .aaload, 13, 0), (13, .astore_n 3, 14, 0), (14, .aload_n 3, 15, 0), (15, .aload_n 0, 16, 0), (16, .getfield 13, 19, 0), (19, .aload_n 0, 20, 0), (20, .getfield 16, 23, 0), (23, .iconst 0, 24, 0), (24, .invokevirtual 246, 27, 0), (27, .iconst 0, 28, 0), (28, .istore 4, 30, 0), (30, .iload 4, 32, 0), (32, .iload_n 1, 33, 0), (33, .if_icmp .ge 25, 36, 58), (36, .aload_n 0, 37, 0), (37, .aload_n 3, 38, 0), (38, .iload_n 2, 39, 0), (39, .aload_n 0, 40, 0), (40, .getfield 33, 43, 0), (43, .getfield 215, 46, 0), (46, .iload 4, 48, 0), (48, .iaload, 49, 0), (49, .invokevirtual 250, 52, 0), (52, .iinc 4 1, 55, 0), (55, .goto (-25), 58, 30), (58, .aload_n 3, 59, 0), (59, .invokevirtual 272, 62, 0), (62, .iinc 2 1, 65, 0), (65, .goto (-63), 68, 2), (68, .return_, 69, 0)]
def zk_X4_doAlwaysIn : List (Nat × List Nat) := [(2, [0, 1, 2]), (30, [0, 1, 2, 3, 4])]
def zl_X4_doAlwaysIn : List (Nat × zCI) := [(246, (zF_X2_start, 4, 0, 0, 0)), (250, (zF_X4_doAsk, 4, 0, 0, 0)), (272, (zF_X2_mark, 1, 0, 0, 0))]
def zM_X4_doAlwaysIn : zMI := (z_look zfl_X4, z_look zl_X4_doAlwaysIn, z_look zcs_X4, z_look zth_X4, 5, 0)
def zs_X4_doAlwaysIn : List (Nat × Nat × Nat × Nat) := [(2, 0, 0, 0), (0, 0, 0, 0)]
def zF_X4_doAlwaysIn : List zVV → zSG → Option zRR := z_fn zs_X4_doAlwaysIn zM_X4_doAlwaysIn zc_X4_doAlwaysIn zk_X4_doAlwaysIn (0, 0)
theorem zo_X4_doAlwaysIn : z_okc cX4_doAlwaysIn zc_X4_doAlwaysIn = true := by decide +kernel
theorem zv_X4_doAlwaysIn : z_kd [246, 250, 272] zc_X4_doAlwaysIn = true := by decide +kernel
set_option maxRecDepth 20000 in
theorem zt_X4_doAlwaysIn (l : Launch) (hl : l.stackTraces = false) : zCt l yX4_doAlwaysIn cX4_doAlwaysIn 5 none (zrm 4 0 0) zF_X4_doAlwaysIn := z_ct (own := RX4) (sh := zs_X4_doAlwaysIn) (M := zM_X4_doAlwaysIn) (cd := zc_X4_doAlwaysIn) (cut := zk_X4_doAlwaysIn) (by decide +kernel) rfl rfl rfl (z_fl_all zfl_X4_ok) (z_cs_all zcs_X4_ok) zo_X4_doAlwaysIn (z_hthr (sites := []) (by decide +kernel) (fun _ h => nomatch h)) (z_hcal (L := zl_X4_doAlwaysIn) zv_X4_doAlwaysIn (List.forall_mem_cons.mpr ⟨z_calV (l := l) (j := 246) (C := RX2) (cn := 4) (T := TX2) (N := 18) (zt_X2_start l) (by decide +kernel) (by decide +kernel) rfl ⟨by decide +kernel, by decide +kernel, by decide +kernel⟩ (z_room (by omega) (by decide)) rfl zr_X2_start, List.forall_mem_cons.mpr ⟨z_calV (l := l) (j := 250) (C := RX4) (cn := 0) (T := TX4) (N := 13) (zt_X4_doAsk l hl) (by decide +kernel) (by decide +kernel) rfl ⟨by decide +kernel, by decide +kernel, by decide +kernel⟩ (z_room (by omega) (by decide)) rfl zr_X4_doAsk, List.forall_mem_cons.mpr ⟨z_calV (l := l) (j := 272) (C := RX2) (cn := 4) (T := TX2) (N := 18) (zt_X2_mark l) (by decide +kernel) (by decide +kernel) rfl ⟨by decide +kernel, by decide +kernel, by decide +kernel⟩ (z_room (by omega) (by decide)) rfl zr_X2_mark, fun _ h => nomatch h⟩⟩⟩)) (by decide)
theorem zr_X4_doAlwaysIn : ∀ vs g r, zF_X4_doAlwaysIn vs g = some r → ∃ i rv, vs = .inr (.inl (0, i, 0)) :: rv ∧ i < z_ni 0 := fun vs g r h => z_chk_rec (z_fn_chk (sh := zs_X4_doAlwaysIn) h).1 (Or.inl ⟨rfl, by decide⟩)
def zc_X4_isDifferentWith : zCD := [(0, .aload_n 0, 1, 0), (1, .getfield 33, 4, 0), (4, .getfield 215, 7, 0), (7, .iload_n 3, 8, 0), (8, .iaload, 9, 0), (9, .istore 4, 11, 0), (11, .iconst 0, 12, 0), (12, .istore 5, 14, 0), (14, .iload 5, 16, 0), (16, .iconst 2, 17, 0), (17, .if_icmp .ge 108, 20, 125), (20, .aload_n 0, 21, 0), (21, .getfield 52, 24, 0), (24, .iload 5, 26, 0), (26, .aaload, 27, 0), (27, .astore 6, 29, 0), (29, .aload 6, 31, 0), (31, .invokevirtual 275, 34, 0), (34, .iload_n 2, 35, 0), (35, .istore 7, 37, 0), (37, .iload 7, 39, 0), (39, .iload_n 3, 40, 0), (40, .if_icmp .gt 26, 43, 66), (43, .aload 6, 45, 0), (45, .getfield 278, 48, 0), (48, .aload_n 0, 49, 0), (49, .getfield 33, 52, 0), (52, .getfield 215, 55, 0), (55, .iload 7, 57, 0), (57, .iaload, 58, 0), (58, .iconst 0, 59, 0), (59, .bastore, 60, 0), (60, .iinc 7 1, 63, 0), (63, .goto (-26), 66, 37), (66, .iload_n 2, 67, 0), (67, .istore 7, 69, 0), (69, .iload 7, 71, 0), (71, .iload_n 3, 72, 0), (72, .if_icmp .ge 37, 75, 109), (75, .iload_n 1, 76, 0), (76, .iload_n 3, 77, 0), (77, .iload 7, 79, 0), (79, .invokestatic 211, 82, 0), (82, .ifCond .eq 21, 85, 103), (85, .aload_n 0, 86, 0), (86, .aload 6, 88, 0), (88, .iload 5, 90, 0), (90, .aload_n 0, 91, 0), (91, .getfield 33, 94, 0), (94, .getfield 215, 97, 0), (97, .iload 7, 99, 0), (99, .iaload, 100, 0), (100, .invokevirtual 250, 103, 0), (103, .iinc 7 1, 106, 0), (106, .goto (-37), 109, 69), (109, .aload_n 0, 110, 0), (110, .aload 6, 112, 0), (112, .iload 5, 114, 0), (114, .iload 4, 116, 0), (116, .invokevirtual 250, 119, 0), (119, .iinc 5 1, 122, 0), (122, .goto (-108), 125, 14), (125, .aload_n 0, 126, 0), (126, .iload 4, 128, 0), (128, .aload_n 0, 129, 0), (129, .getfield 52, 132, 0), (132, .invokevirtual 180, 135, 0), (135, .iconst (-1), 136, 0), (136, .if_icmp .eq 7, 139, 143), (139, .iconst 1, 140, 0), (140, .goto 4, 143, 144), (143, .iconst 0, 144, 0), (144, .ireturn, 145, 0)]
def zk_X4_isDifferentWith : List (Nat × List Nat) := [(14, [0, 1, 2, 3, 4, 5]), (37, [0, 1, 2, 3, 4, 5, 6, 7]), (69, [0, 1, 2, 3, 4, 5, 6, 7])]
def zl_X4_isDifferentWith : List (Nat × zCI) := [(275, (zF_X2_backToMark, 1, 0, 0, 0)), (211, (zF_X4_isIn, 3, 1, 0, 0)), (250, (zF_X4_doAsk, 4, 0, 0, 0)), (180, (zF_X4_whereDifferent, 3, 1, 0, 0))]
def zM_X4_isDifferentWith : zMI := (z_look zfl_X4, z_look zl_X4_isDifferentWith, z_look zcs_X4, z_look zth_X4, 8, 2)
def zs_X4_isDifferentWith : List (Nat × Nat × Nat × Nat) := [(2, 0, 0, 0), (0, 0, 0, 0), (0, 0, 0, 0), (0, 0, 0, 0)]
def zF_X4_isDifferentWith : List zVV → zSG → Option zRR := z_fn zs_X4_isDifferentWith zM_X4_isDifferentWith zc_X4_isDifferentWith zk_X4_isDifferentWith (0, 0)
theorem zo_X4_isDifferentWith : z_okc cX4_isDifferentWith zc_X4_isDifferentWith = true := by decide +kernel
theorem zv_X4_isDifferentWith : z_kd [275, 250, 180] zc_X4_isDifferentWith = true := by decide +kernel
set_option maxRecDepth 20000 in
theorem zt_X4_isDifferentWith (l : Launch) (hl : l.stackTraces = false) : zCt l yX4_isDifferentWith cX4_isDifferentWith 8 (some .boolean) (zrm 4 0 0) zF_X4_isDifferentWith := z_ct (own := RX4) (sh := zs_X4_isDifferentWith) (M := zM_X4_isDifferentWith) (cd := zc_X4_isDifferentWith) (cut := zk_X4_isDifferentWith) (by decide +kernel) rfl rfl rfl (z_fl_all zfl_X4_ok) (z_cs_all zcs_X4_ok) zo_X4_isDifferentWith (z_hthr (sites := []) (by decide +kernel) (fun _ h => nomatch h)) (z_hcal (L := zl_X4_isDifferentWith) zv_X4_isDifferentWith (List.forall_mem_cons.mpr ⟨z_calV (l := l) (j := 275) (C := RX2) (cn := 4) (T := TX2) (N := 18) (zt_X2_backToMark l) (by decide +kernel) (by decide +kernel) rfl ⟨by decide +kernel, by decide +kernel, by decide +kernel⟩ (z_room (by omega) (by decide)) rfl zr_X2_backToMark, List.forall_mem_cons.mpr ⟨z_calS (l := l) (j := 211) (zt_X4_isIn l hl) (by decide +kernel) (by decide +kernel) ⟨by decide +kernel, by decide +kernel, by decide +kernel⟩ (z_room (by omega) (by decide)), List.forall_mem_cons.mpr ⟨z_calV (l := l) (j := 250) (C := RX4) (cn := 0) (T := TX4) (N := 13) (zt_X4_doAsk l hl) (by decide +kernel) (by decide +kernel) rfl ⟨by decide +kernel, by decide +kernel, by decide +kernel⟩ (z_room (by omega) (by decide)) rfl zr_X4_doAsk, List.forall_mem_cons.mpr ⟨z_calV (l := l) (j := 180) (C := RX4) (cn := 0) (T := TX4) (N := 13) (zt_X4_whereDifferent l hl) (by decide +kernel) (by decide +kernel) rfl ⟨by decide +kernel, by decide +kernel, by decide +kernel⟩ (z_room (by omega) (by decide)) rfl zr_X4_whereDifferent, fun _ h => nomatch h⟩⟩⟩⟩)) (by decide)
theorem zr_X4_isDifferentWith : ∀ vs g r, zF_X4_isDifferentWith vs g = some r → ∃ i rv, vs = .inr (.inl (0, i, 0)) :: rv ∧ i < z_ni 0 := fun vs g r h => z_chk_rec (z_fn_chk (sh := zs_X4_isDifferentWith) h).1 (Or.inl ⟨rfl, by decide⟩)
def zc_X4_smallSet : zCD := [(0, .aload_n 0, 1, 0), (1, .getfield 168, 4, 0), (4, .iconst 1, 5, 0), (5, .iload_n 1, 6, 0), (6, .ishl, 7, 0), (7, .iand, 8, 0), (8, .ifCond .eq 10, 11, 18), (11, .aload_n 0, 12, 0), (12, .getfield 56, 15, 0), (15, .iload_n 1, 16, 0), (16, .iaload, 17, 0), (17, .ireturn, 18, 0), (18, .aload_n 0, 19, 0), (19, .getfield 33, 22, 0), (22, .iload_n 1, 23, 0), (23, .invokevirtual 202, 26, 0), (26, .istore_n 2, 27, 0), (27, .iconst 0, 28, 0), (28, .iload_n 2, 29, 0), (29, .bipush 10, 31, 0), (31, .isub, 32, 0), (32, .invokestatic 205, 35, 0), (35, .istore_n 3, 36, 0), (36, .iconst 1, 37, 0), (37, .iload_n 2, 38, 0), (38, .iload_n 3, 39, 0), (39, .isub, 40, 0), (40, .ishl, 41, 0), (41, .iconst 1, 42, 0), (42, .isub, 43, 0), (43, .istore 4, 45, 0), (45, .iload 4, 47, 0), (47, .istore 5, 49, 0), (49, .aload_n 0, 50, 0), (50, .iload_n 3, 51, 0), (51, .invokevirtual 266, 54, 0), (54, .iconst 0, 55, 0), (55, .istore 6, 57, 0), (57, .iload 6, 59, 0), (59, .iload_n 2, 60, 0), (60, .iload_n 3, 61, 0), (61, .isub, 62, 0), (62, .if_icmp .ge 65, 65, 127), (65, .iload 5, 67, 0), (67, .iload 4, 69, 0), (69, .if_icmp .ne 58, 72, 127), (72, .iload 4, 74, 0), (74, .iconst 1, 75, 0), (75, .isub, 76, 0), (76, .istore 7, 78, 0), (78, .iload 7, 80, 0), (80, .ifCond .lt 41, 83, 121), (83, .iload 5, 85, 0), (85, .iload 4, 87, 0), (87, .if_icmp .ne 34, 90, 121), (90, .iload 7, 92, 0), (92, .invokestatic 162, 95, 0), (95, .iload 6, 97, 0), (97, .if_icmp .ne 18, 100, 115), (100, .aload_n 0, 101, 0), (101, .iload 7, 103, 0), (103, .iload_n 3, 104, 0), (104, .iload_n 2, 105, 0), (105, .invokevirtual 269, 108, 0), (108, .ifCond .eq 7, 111, 115), (111, .iload 7, 113, 0), (113, .istore 5, 115, 0), (115, .iinc 7 (-1), 118, 0), (118, .goto (-40), 121, 78), (121, .iinc 6 1, 124, 0), (124, .goto (-67), 127, 57), (127, .aload_n 0, 128, 0), (128, .getfield 56, 131, 0), (131, .iload_n 1, 132, 0), (132, .iload 5, 134, 0), (134, .iastore, 135, 0), (135, .aload_n 0, 136, 0), (136, .dup, 137, 0), (137, .getfield 168, 140, 0), (140, .iconst 1, 141, 0), (141, .iload_n 1, 142, 0), (142, .ishl, 143, 0), (143, .ior, 144, 0), (144, .putfield 168, 147, 0), (147, .iload 5, 149, 0), (149, .ireturn, 150, 0)]
def zk_X4_smallSet : List (Nat × List Nat) := [(57, [0, 1, 2, 3, 4, 5, 6]), (78, [0, 1, 2, 3, 4, 5, 6, 7])]
def zl_X4_smallSet : List (Nat × zCI) := [(202, (zF_X0_placeOf, 2, 1, 0, 0)), (205, (zF_max, 2, 1, 0, 0)), (266, (zF_X4_doAlwaysIn, 2, 0, 0, 0)), (162, (zF_J6_bitCount_0f7a4, 1, 1, 0, 0)), (269, (zF_X4_isDifferentWith, 4, 1, 0, 0))]
def zM_X4_smallSet : zMI := (z_look zfl_X4, z_look zl_X4_smallSet, z_look zcs_X4, z_look zth_X4, 8, 1)
def zs_X4_smallSet : List (Nat × Nat × Nat × Nat) := [(2, 0, 0, 0), (0, 0, 0, 0)]
def zF_X4_smallSet : List zVV → zSG → Option zRR := z_fn zs_X4_smallSet zM_X4_smallSet zc_X4_smallSet zk_X4_smallSet (0, 0)
theorem zo_X4_smallSet : z_okc cX4_smallSet zc_X4_smallSet = true := by decide +kernel
theorem zv_X4_smallSet : z_kd [202, 266, 269] zc_X4_smallSet = true := by decide +kernel
set_option maxRecDepth 20000 in
theorem zt_X4_smallSet (l : Launch) (hl : l.stackTraces = false) : zCt l yX4_smallSet cX4_smallSet 8 (some .int) (zrm 5 0 0) zF_X4_smallSet := z_ct (own := RX4) (sh := zs_X4_smallSet) (M := zM_X4_smallSet) (cd := zc_X4_smallSet) (cut := zk_X4_smallSet) (by decide +kernel) rfl rfl rfl (z_fl_all zfl_X4_ok) (z_cs_all zcs_X4_ok) zo_X4_smallSet (z_hthr (sites := []) (by decide +kernel) (fun _ h => nomatch h)) (z_hcal (L := zl_X4_smallSet) zv_X4_smallSet (List.forall_mem_cons.mpr ⟨z_calV (l := l) (j := 202) (C := RX0) (cn := 2) (T := TX0) (N := 8) (zt_X0_placeOf l) (by decide +kernel) (by decide +kernel) rfl ⟨by decide +kernel, by decide +kernel, by decide +kernel⟩ (z_room (by omega) (by decide)) rfl zr_X0_placeOf, List.forall_mem_cons.mpr ⟨z_calMax (l := l) (j := 205) (by decide +kernel) (by decide) (by decide), List.forall_mem_cons.mpr ⟨z_calV (l := l) (j := 266) (C := RX4) (cn := 0) (T := TX4) (N := 13) (zt_X4_doAlwaysIn l hl) (by decide +kernel) (by decide +kernel) rfl ⟨by decide +kernel, by decide +kernel, by decide +kernel⟩ (z_room (by omega) (by decide)) rfl zr_X4_doAlwaysIn, List.forall_mem_cons.mpr ⟨z_calS (l := l) (j := 162) (zt_J6_bitCount_0f7a4 l) (by decide +kernel) (by decide +kernel) ⟨by decide +kernel, by decide +kernel, by decide +kernel⟩ (z_room (by omega) (by decide)), List.forall_mem_cons.mpr ⟨z_calV (l := l) (j := 269) (C := RX4) (cn := 0) (T := TX4) (N := 13) (zt_X4_isDifferentWith l hl) (by decide +kernel) (by decide +kernel) rfl ⟨by decide +kernel, by decide +kernel, by decide +kernel⟩ (z_room (by omega) (by decide)) rfl zr_X4_isDifferentWith, fun _ h => nomatch h⟩⟩⟩⟩⟩)) (by decide)
theorem zr_X4_smallSet : ∀ vs g r, zF_X4_smallSet vs g = some r → ∃ i rv, vs = .inr (.inl (0, i, 0)) :: rv ∧ i < z_ni 0 := fun vs g r h => z_chk_rec (z_fn_chk (sh := zs_X4_smallSet) h).1 (Or.inl ⟨rfl, by decide⟩)
def zc_X4_feed : zCD := [(0, .aload_n 0, 1, 0), (1, .getfield 59, 4, 0), (4, .bipush 20, 6, 0), (6, .iadd, 7, 0), (7, .sipush 400, 10, 0), (10, .if_icmp .le 5, 13, 15), (13, .iconst (-1), 14, 0), (14, .ireturn, 15, 0), (15, .aload_n 0, 16, 0), (16, .iload_n 1, 17, 0), (17, .invokevirtual 63, 20, 0), (20, .aload_n 0, 21, 0), (21, .iload_n 2, 22, 0), (22, .invokevirtual 63, 25, 0), (25, .aload_n 0, 26, 0), (26, .iload_n 3, 27, 0), (27, .invokevirtual 63, 30, 0), (30, .aload_n 0, 31, 0), (31, .iload 4, 33, 0), (33, .invokevirtual 63, 36, 0), (36, .aload_n 0, 37, 0), (37, .iload 5, 39, 0), (39, .invokevirtual 63, 42, 0), (42, .aload_n 0, 43, 0), (43, .getfield 59, 46, 0), (46, .ireturn, 47, 0)]
def zk_X4_feed : List (Nat × List Nat) := []
def zl_X4_feed : List (Nat × zCI) := [(63, (zF_X4_layNumber, 2, 0, 0, 0))]
def zM_X4_feed : zMI := (z_look zfl_X4, z_look zl_X4_feed, z_look zcs_X4, z_look zth_X4, 6, 1)
def zs_X4_feed : List (Nat × Nat × Nat × Nat) := [(2, 0, 0, 0), (0, 0, 0, 0), (0, 0, 0, 0), (0, 0, 0, 0), (0, 0, 0, 0), (0, 0, 0, 0)]
def zF_X4_feed : List zVV → zSG → Option zRR := z_fn zs_X4_feed zM_X4_feed zc_X4_feed zk_X4_feed (0, 0)
theorem zo_X4_feed : z_okc cX4_feed zc_X4_feed = true := by decide +kernel
theorem zv_X4_feed : z_kd [63] zc_X4_feed = true := by decide +kernel
set_option maxRecDepth 20000 in
theorem zt_X4_feed (l : Launch) (hl : l.stackTraces = false) : zCt l yX4_feed cX4_feed 6 (some .int) (zrm 1 0 0) zF_X4_feed := z_ct (own := RX4) (sh := zs_X4_feed) (M := zM_X4_feed) (cd := zc_X4_feed) (cut := zk_X4_feed) (by decide +kernel) rfl rfl rfl (z_fl_all zfl_X4_ok) (z_cs_all zcs_X4_ok) zo_X4_feed (z_hthr (sites := []) (by decide +kernel) (fun _ h => nomatch h)) (z_hcal (L := zl_X4_feed) zv_X4_feed (List.forall_mem_cons.mpr ⟨z_calV (l := l) (j := 63) (C := RX4) (cn := 0) (T := TX4) (N := 13) (zt_X4_layNumber l hl) (by decide +kernel) (by decide +kernel) rfl ⟨by decide +kernel, by decide +kernel, by decide +kernel⟩ (z_room (by omega) (by decide)) rfl zr_X4_layNumber, fun _ h => nomatch h⟩)) (by decide)
theorem zr_X4_feed : ∀ vs g r, zF_X4_feed vs g = some r → ∃ i rv, vs = .inr (.inl (0, i, 0)) :: rv ∧ i < z_ni 0 := fun vs g r h => z_chk_rec (z_fn_chk (sh := zs_X4_feed) h).1 (Or.inl ⟨rfl, by decide⟩)
def zc_X4_begin : zCD := [(0, .iload_n 1, 1, 0), (1, .invokestatic 98, 4, 0), (4, .aload_n 0, 5, 0), (5, .getfield 13, 8, 0), (8, .iload_n 1, 9, 0), (9, .iaload, 10, 0), (10, .istore_n 3, 11, 0), (11, .aload_n 0, 12, 0), (12, .getfield 13, 15, 0), (15, .iload_n 1, 16, 0), (16, .iload_n 2, 17, 0), (17, .iastore, 18, 0), (18, .aload_n 0, 19, 0), (19, .invokevirtual 92, 22, 0), (22, .iload_n 3, 23, 0), (23, .ireturn, 24, 0)]
def zk_X4_begin : List (Nat × List Nat) := []
def zl_X4_begin : List (Nat × zCI) := [(98, (zF_X4_checkKey, 1, 0, 1, 6)), (92, (zF_X4_forgetRuns, 1, 0, 0, 0))]
def zM_X4_begin : zMI := (z_look zfl_X4, z_look zl_X4_begin, z_look zcs_X4, z_look zth_X4, 4, 1)
def zs_X4_begin : List (Nat × Nat × Nat × Nat) := [(2, 0, 0, 0), (0, 0, 0, 0), (0, 0, 0, 0)]
def zF_X4_begin : List zVV → zSG → Option zRR := z_fn zs_X4_begin zM_X4_begin zc_X4_begin zk_X4_begin (4, 24)
theorem zo_X4_begin : z_okc cX4_begin zc_X4_begin = true := by decide +kernel
theorem zv_X4_begin : z_kd [92] zc_X4_begin = true := by decide +kernel
set_option maxRecDepth 20000 in
theorem zt_X4_begin (l : Launch) (hl : l.stackTraces = false) : zCt l yX4_begin cX4_begin 4 (some .int) (zrm 7 4 24) zF_X4_begin := z_ct (own := RX4) (sh := zs_X4_begin) (M := zM_X4_begin) (cd := zc_X4_begin) (cut := zk_X4_begin) (by decide +kernel) rfl rfl rfl (z_fl_all zfl_X4_ok) (z_cs_all zcs_X4_ok) zo_X4_begin (z_hthr (sites := []) (by decide +kernel) (fun _ h => nomatch h)) (z_hcal (L := zl_X4_begin) zv_X4_begin (List.forall_mem_cons.mpr ⟨z_calS (l := l) (j := 98) (zt_X4_checkKey l hl) (by decide +kernel) (by decide +kernel) ⟨by decide +kernel, by decide +kernel, by decide +kernel⟩ (z_room (by omega) (by decide)), List.forall_mem_cons.mpr ⟨z_calV (l := l) (j := 92) (C := RX4) (cn := 0) (T := TX4) (N := 13) (zt_X4_forgetRuns l hl) (by decide +kernel) (by decide +kernel) rfl ⟨by decide +kernel, by decide +kernel, by decide +kernel⟩ (z_room (by omega) (by decide)) rfl zr_X4_forgetRuns, fun _ h => nomatch h⟩⟩)) (by decide)
theorem zr_X4_begin : ∀ vs g r, zF_X4_begin vs g = some r → ∃ i rv, vs = .inr (.inl (0, i, 0)) :: rv ∧ i < z_ni 0 := fun vs g r h => z_chk_rec (z_fn_chk (sh := zs_X4_begin) h).1 (Or.inl ⟨rfl, by decide⟩)
def zc_X4_keep : zCD := [(0, .iload_n 1, 1, 0), (1, .ifCond .lt 9, 4, 10), (4, .iload_n 1, 5, 0), (5, .bipush 16, 7, 0), (7, .if_icmp .lt 13, 10, 20), (10, .new 101, 13, 0), (20, .aload_n 0, 21, 0), (21, .getfield 16, 24, 0), (24, .iload_n 1, 25, 0), (25, .iaload, 26, 0), (26, .istore_n 3, 27, 0), (27, .aload_n 0, 28, 0), (28, .getfield 16, 31, 0), (31, .iload_n 1, 32, 0), (32, .iload_n 2, 33, 0), (33, .iastore, 34, 0), (34, .aload_n 0, 35, 0), (35, .invokevirtual 92, 38, 0), (38, .iload_n 3, 39, 0), (39, .ireturn, 40, 0)]
def zk_X4_keep : List (Nat × List Nat) := []
def zl_X4_keep : List (Nat × zCI) := [(92, (zF_X4_forgetRuns, 1, 0, 0, 0))]
def zM_X4_keep : zMI := (z_look zfl_X4, z_look zl_X4_keep, z_look zcs_X4, z_look zth_X4, 4, 1)
def zs_X4_keep : List (Nat × Nat × Nat × Nat) := [(2, 0, 0, 0), (0, 0, 0, 0), (0, 0, 0, 0)]
def zF_X4_keep : List zVV → zSG → Option zRR := z_fn zs_X4_keep zM_X4_keep zc_X4_keep zk_X4_keep (4, 24)
theorem zo_X4_keep : z_okc cX4_keep zc_X4_keep = true := by decide +kernel
theorem zv_X4_keep : z_kd [92] zc_X4_keep = true := by decide +kernel
set_option maxRecDepth 20000 in
theorem zt_X4_keep (l : Launch) (hl : l.stackTraces = false) : zCt l yX4_keep cX4_keep 4 (some .int) (zrm 6 4 24) zF_X4_keep := z_ct (own := RX4) (sh := zs_X4_keep) (M := zM_X4_keep) (cd := zc_X4_keep) (cut := zk_X4_keep) (by decide +kernel) rfl rfl rfl (z_fl_all zfl_X4_ok) (z_cs_all zcs_X4_ok) zo_X4_keep (z_hthr (sites := [(10, 101)]) (by decide +kernel) (List.forall_mem_cons.mpr ⟨fun x hx => by have e := Option.some.inj (show some 1 = some x from hx); subst e; exact z_throw hl (x := 1) (ik := 101) (is := 103) (ic := 105) (text := "no such argument") z_thb1 (by decide +kernel) (by decide) (by decide) (by decide), fun _ h => nomatch h⟩)) (z_hcal (L := zl_X4_keep) zv_X4_keep (List.forall_mem_cons.mpr ⟨z_calV (l := l) (j := 92) (C := RX4) (cn := 0) (T := TX4) (N := 13) (zt_X4_forgetRuns l hl) (by decide +kernel) (by decide +kernel) rfl ⟨by decide +kernel, by decide +kernel, by decide +kernel⟩ (z_room (by omega) (by decide)) rfl zr_X4_forgetRuns, fun _ h => nomatch h⟩)) (by decide)
theorem zr_X4_keep : ∀ vs g r, zF_X4_keep vs g = some r → ∃ i rv, vs = .inr (.inl (0, i, 0)) :: rv ∧ i < z_ni 0 := fun vs g r h => z_chk_rec (z_fn_chk (sh := zs_X4_keep) h).1 (Or.inl ⟨rfl, by decide⟩)
def zc_X4_ask : zCD := [(0, .iload_n 1, 1, 0), (1, .invokestatic 70, 4, 0), (4, .iload 4, 6, 0), (6, .ifCond .lt 10, 9, 16), (9, .iload 4, 11, 0), (11, .ldc 106, 13, 0), (13, .if_icmp .le 13, 16, 26), (16, .new 73, 19, 0), (26, .aload_n 0, 27, 0), (27, .getfield 33, 30, 0), (30, .getfield 109, 33, 0), (33, .bipush 30, 35, 0), (35, .if_icmp .lt 5, 38, 40), (38, .iconst (-1), 39, 0), (39, .ireturn, 40, 0), (40, .aload_n 0, 41, 0), (41, .invokevirtual 92, 44, 0), (44, .aload_n 0, 45, 0), (45, .getfield 33, 48, 0), (48, .iload_n 1, 49, 0), (49, .iload_n 2, 50, 0), (50, .iload_n 3, 51, 0), (51, .iload 4, 53, 0), (53, .invokevirtual 112, 56, 0), (56, .ireturn, 57, 0)]
def zk_X4_ask : List (Nat × List Nat) := []
def zl_X4_ask : List (Nat × zCI) := [(70, (zF_X4_checkKind, 1, 0, 1, 6)), (92, (zF_X4_forgetRuns, 1, 0, 0, 0)), (112, (zF_X0_write, 5, 1, 0, 0))]
def zM_X4_ask : zMI := (z_look zfl_X4, z_look zl_X4_ask, z_look zcs_X4, z_look zth_X4, 5, 1)
def zs_X4_ask : List (Nat × Nat × Nat × Nat) := [(2, 0, 0, 0), (0, 0, 0, 0), (0, 0, 0, 0), (0, 0, 0, 0), (0, 0, 0, 0)]
def zF_X4_ask : List zVV → zSG → Option zRR := z_fn zs_X4_ask zM_X4_ask zc_X4_ask zk_X4_ask (4, 24)
theorem zo_X4_ask : z_okc cX4_ask zc_X4_ask = true := by decide +kernel
theorem zv_X4_ask : z_kd [92, 112] zc_X4_ask = true := by decide +kernel
set_option maxRecDepth 20000 in
theorem zt_X4_ask (l : Launch) (hl : l.stackTraces = false) : zCt l yX4_ask cX4_ask 5 (some .int) (zrm 7 4 24) zF_X4_ask := z_ct (own := RX4) (sh := zs_X4_ask) (M := zM_X4_ask) (cd := zc_X4_ask) (cut := zk_X4_ask) (by decide +kernel) rfl rfl rfl (z_fl_all zfl_X4_ok) (z_cs_all zcs_X4_ok) zo_X4_ask (z_hthr (sites := [(16, 73)]) (by decide +kernel) (List.forall_mem_cons.mpr ⟨fun x hx => by have e := Option.some.inj (show some 0 = some x from hx); subst e; exact z_throw hl (x := 0) (ik := 73) (is := 107) (ic := 77) (text := "no such tick") z_thb0 (by decide +kernel) (by decide) (by decide) (by decide), fun _ h => nomatch h⟩)) (z_hcal (L := zl_X4_ask) zv_X4_ask (List.forall_mem_cons.mpr ⟨z_calS (l := l) (j := 70) (zt_X4_checkKind l hl) (by decide +kernel) (by decide +kernel) ⟨by decide +kernel, by decide +kernel, by decide +kernel⟩ (z_room (by omega) (by decide)), List.forall_mem_cons.mpr ⟨z_calV (l := l) (j := 92) (C := RX4) (cn := 0) (T := TX4) (N := 13) (zt_X4_forgetRuns l hl) (by decide +kernel) (by decide +kernel) rfl ⟨by decide +kernel, by decide +kernel, by decide +kernel⟩ (z_room (by omega) (by decide)) rfl zr_X4_forgetRuns, List.forall_mem_cons.mpr ⟨z_calV (l := l) (j := 112) (C := RX0) (cn := 2) (T := TX0) (N := 8) (zt_X0_write l) (by decide +kernel) (by decide +kernel) rfl ⟨by decide +kernel, by decide +kernel, by decide +kernel⟩ (z_room (by omega) (by decide)) rfl zr_X0_write, fun _ h => nomatch h⟩⟩⟩)) (by decide)
theorem zr_X4_ask : ∀ vs g r, zF_X4_ask vs g = some r → ∃ i rv, vs = .inr (.inl (0, i, 0)) :: rv ∧ i < z_ni 0 := fun vs g r h => z_chk_rec (z_fn_chk (sh := zs_X4_ask) h).1 (Or.inl ⟨rfl, by decide⟩)
def zc_X4_caused : zCD := [(0, .aload_n 0, 1, 0), (1, .iload_n 1, 2, 0), (2, .invokevirtual 116, 5, 0), (5, .iload_n 2, 6, 0), (6, .iconst (-1), 7, 0), (7, .if_icmp .eq 8, 10, 15), (10, .aload_n 0, 11, 0), (11, .iload_n 2, 12, 0), (12, .invokevirtual 116, 15, 0), (15, .iload_n 2, 16, 0), (16, .iload_n 1, 17, 0), (17, .if_icmp .lt 13, 20, 30), (20, .new 73, 23, 0), (30, .iload_n 3, 31, 0), (31, .invokestatic 121, 34, 0), (34, .aload_n 0, 35, 0), (35, .getfield 33, 38, 0), (38, .getfield 124, 41, 0), (41, .iload_n 1, 42, 0), (42, .iload_n 2, 43, 0), (43, .iastore, 44, 0), (44, .aload_n 0, 45, 0), (45, .getfield 33, 48, 0), (48, .getfield 127, 51, 0), (51, .iload_n 1, 52, 0), (52, .iload_n 3, 53, 0), (53, .iastore, 54, 0), (54, .aload_n 0, 55, 0), (55, .invokevirtual 92, 58, 0), (58, .iconst 1, 59, 0), (59, .ireturn, 60, 0)]
def zk_X4_caused : List (Nat × List Nat) := []
def zl_X4_caused : List (Nat × zCI) := [(116, (zF_X4_checkAsk, 2, 0, 1, 6)), (121, (zF_X4_checkField, 1, 0, 1, 6)), (92, (zF_X4_forgetRuns, 1, 0, 0, 0))]
def zM_X4_caused : zMI := (z_look zfl_X4, z_look zl_X4_caused, z_look zcs_X4, z_look zth_X4, 4, 1)
def zs_X4_caused : List (Nat × Nat × Nat × Nat) := [(2, 0, 0, 0), (0, 0, 0, 0), (0, 0, 0, 0), (0, 0, 0, 0)]
def zF_X4_caused : List zVV → zSG → Option zRR := z_fn zs_X4_caused zM_X4_caused zc_X4_caused zk_X4_caused (4, 24)
theorem zo_X4_caused : z_okc cX4_caused zc_X4_caused = true := by decide +kernel
theorem zv_X4_caused : z_kd [116, 92] zc_X4_caused = true := by decide +kernel
set_option maxRecDepth 20000 in
theorem zt_X4_caused (l : Launch) (hl : l.stackTraces = false) : zCt l yX4_caused cX4_caused 4 (some .int) (zrm 7 4 24) zF_X4_caused := z_ct (own := RX4) (sh := zs_X4_caused) (M := zM_X4_caused) (cd := zc_X4_caused) (cut := zk_X4_caused) (by decide +kernel) rfl rfl rfl (z_fl_all zfl_X4_ok) (z_cs_all zcs_X4_ok) zo_X4_caused (z_hthr (sites := [(20, 73)]) (by decide +kernel) (List.forall_mem_cons.mpr ⟨fun x hx => by have e := Option.some.inj (show some 0 = some x from hx); subst e; exact z_throw hl (x := 0) (ik := 73) (is := 119) (ic := 77) (text := "caused by one that is not lower") z_thb0 (by decide +kernel) (by decide) (by decide) (by decide), fun _ h => nomatch h⟩)) (z_hcal (L := zl_X4_caused) zv_X4_caused (List.forall_mem_cons.mpr ⟨z_calV (l := l) (j := 116) (C := RX4) (cn := 0) (T := TX4) (N := 13) (zt_X4_checkAsk l hl) (by decide +kernel) (by decide +kernel) rfl ⟨by decide +kernel, by decide +kernel, by decide +kernel⟩ (z_room (by omega) (by decide)) rfl zr_X4_checkAsk, List.forall_mem_cons.mpr ⟨z_calS (l := l) (j := 121) (zt_X4_checkField l hl) (by decide +kernel) (by decide +kernel) ⟨by decide +kernel, by decide +kernel, by decide +kernel⟩ (z_room (by omega) (by decide)), List.forall_mem_cons.mpr ⟨z_calV (l := l) (j := 92) (C := RX4) (cn := 0) (T := TX4) (N := 13) (zt_X4_forgetRuns l hl) (by decide +kernel) (by decide +kernel) rfl ⟨by decide +kernel, by decide +kernel, by decide +kernel⟩ (z_room (by omega) (by decide)) rfl zr_X4_forgetRuns, fun _ h => nomatch h⟩⟩⟩)) (by decide)
theorem zr_X4_caused : ∀ vs g r, zF_X4_caused vs g = some r → ∃ i rv, vs = .inr (.inl (0, i, 0)) :: rv ∧ i < z_ni 0 := fun vs g r h => z_chk_rec (z_fn_chk (sh := zs_X4_caused) h).1 (Or.inl ⟨rfl, by decide⟩)
def zc_X4_fields : zCD := [(0, .aload_n 0, 1, 0), (1, .iload_n 2, 2, 0), (2, .invokevirtual 116, 5, 0), (5, .iload_n 1, 6, 0), (6, .invokestatic 67, 9, 0), (9, .aload_n 0, 10, 0), (10, .invokevirtual 130, 13, 0), (13, .aload_n 0, 14, 0), (14, .getfield 48, 17, 0), (17, .iload_n 1, 18, 0), (18, .aaload, 19, 0), (19, .getfield 133, 22, 0), (22, .iload_n 2, 23, 0), (23, .iaload, 24, 0), (24, .ireturn, 25, 0)]
def zk_X4_fields : List (Nat × List Nat) := []
def zl_X4_fields : List (Nat × zCI) := [(116, (zF_X4_checkAsk, 2, 0, 1, 6)), (67, (zF_X4_checkVersion, 1, 0, 1, 6)), (130, (zF_X4_bringRuns, 1, 0, 0, 0))]
def zM_X4_fields : zMI := (z_look zfl_X4, z_look zl_X4_fields, z_look zcs_X4, z_look zth_X4, 3, 1)
def zs_X4_fields : List (Nat × Nat × Nat × Nat) := [(2, 0, 0, 0), (0, 0, 0, 0), (0, 0, 0, 0)]
def zF_X4_fields : List zVV → zSG → Option zRR := z_fn zs_X4_fields zM_X4_fields zc_X4_fields zk_X4_fields (4, 24)
theorem zo_X4_fields : z_okc cX4_fields zc_X4_fields = true := by decide +kernel
theorem zv_X4_fields : z_kd [116, 130] zc_X4_fields = true := by decide +kernel
set_option maxRecDepth 20000 in
theorem zt_X4_fields (l : Launch) (hl : l.stackTraces = false) : zCt l yX4_fields cX4_fields 3 (some .int) (zrm 7 4 24) zF_X4_fields := z_ct (own := RX4) (sh := zs_X4_fields) (M := zM_X4_fields) (cd := zc_X4_fields) (cut := zk_X4_fields) (by decide +kernel) rfl rfl rfl (z_fl_all zfl_X4_ok) (z_cs_all zcs_X4_ok) zo_X4_fields (z_hthr (sites := []) (by decide +kernel) (fun _ h => nomatch h)) (z_hcal (L := zl_X4_fields) zv_X4_fields (List.forall_mem_cons.mpr ⟨z_calV (l := l) (j := 116) (C := RX4) (cn := 0) (T := TX4) (N := 13) (zt_X4_checkAsk l hl) (by decide +kernel) (by decide +kernel) rfl ⟨by decide +kernel, by decide +kernel, by decide +kernel⟩ (z_room (by omega) (by decide)) rfl zr_X4_checkAsk, List.forall_mem_cons.mpr ⟨z_calS (l := l) (j := 67) (zt_X4_checkVersion l hl) (by decide +kernel) (by decide +kernel) ⟨by decide +kernel, by decide +kernel, by decide +kernel⟩ (z_room (by omega) (by decide)), List.forall_mem_cons.mpr ⟨z_calV (l := l) (j := 130) (C := RX4) (cn := 0) (T := TX4) (N := 13) (zt_X4_bringRuns l hl) (by decide +kernel) (by decide +kernel) rfl ⟨by decide +kernel, by decide +kernel, by decide +kernel⟩ (z_room (by omega) (by decide)) rfl zr_X4_bringRuns, fun _ h => nomatch h⟩⟩⟩)) (by decide)
theorem zr_X4_fields : ∀ vs g r, zF_X4_fields vs g = some r → ∃ i rv, vs = .inr (.inl (0, i, 0)) :: rv ∧ i < z_ni 0 := fun vs g r h => z_chk_rec (z_fn_chk (sh := zs_X4_fields) h).1 (Or.inl ⟨rfl, by decide⟩)
def zc_X4_field : zCD := [(0, .aload_n 0, 1, 0), (1, .iload_n 2, 2, 0), (2, .invokevirtual 116, 5, 0), (5, .iload_n 1, 6, 0), (6, .invokestatic 67, 9, 0), (9, .aload_n 0, 10, 0), (10, .invokevirtual 130, 13, 0), (13, .aload_n 0, 14, 0), (14, .getfield 48, 17, 0), (17, .iload_n 1, 18, 0), (18, .aaload, 19, 0), (19, .astore 4, 21, 0), (21, .aload 4, 23, 0), (23, .iload_n 2, 24, 0), (24, .iload_n 3, 25, 0), (25, .invokevirtual 136, 28, 0), (28, .ifCond .eq 18, 31, 46), (31, .aload 4, 33, 0), (33, .getfield 140, 36, 0), (36, .iload_n 2, 37, 0), (37, .bipush 8, 39, 0), (39, .imul, 40, 0), (40, .iload_n 3, 41, 0), (41, .iadd, 42, 0), (42, .iaload, 43, 0), (43, .goto 4, 46, 47), (46, .iconst 0, 47, 0), (47, .ireturn, 48, 0)]
def zk_X4_field : List (Nat × List Nat) := []
def zl_X4_field : List (Nat × zCI) := [(116, (zF_X4_checkAsk, 2, 0, 1, 6)), (67, (zF_X4_checkVersion, 1, 0, 1, 6)), (130, (zF_X4_bringRuns, 1, 0, 0, 0)), (136, (zF_X2_has, 3, 1, 0, 0))]
def zM_X4_field : zMI := (z_look zfl_X4, z_look zl_X4_field, z_look zcs_X4, z_look zth_X4, 5, 1)
def zs_X4_field : List (Nat × Nat × Nat × Nat) := [(2, 0, 0, 0), (0, 0, 0, 0), (0, 0, 0, 0), (0, 0, 0, 0)]
def zF_X4_field : List zVV → zSG → Option zRR := z_fn zs_X4_field zM_X4_field zc_X4_field zk_X4_field (4, 24)
theorem zo_X4_field : z_okc cX4_field zc_X4_field = true := by decide +kernel
theorem zv_X4_field : z_kd [116, 130, 136] zc_X4_field = true := by decide +kernel
set_option maxRecDepth 20000 in
theorem zt_X4_field (l : Launch) (hl : l.stackTraces = false) : zCt l yX4_field cX4_field 5 (some .int) (zrm 7 4 24) zF_X4_field := z_ct (own := RX4) (sh := zs_X4_field) (M := zM_X4_field) (cd := zc_X4_field) (cut := zk_X4_field) (by decide +kernel) rfl rfl rfl (z_fl_all zfl_X4_ok) (z_cs_all zcs_X4_ok) zo_X4_field (z_hthr (sites := []) (by decide +kernel) (fun _ h => nomatch h)) (z_hcal (L := zl_X4_field) zv_X4_field (List.forall_mem_cons.mpr ⟨z_calV (l := l) (j := 116) (C := RX4) (cn := 0) (T := TX4) (N := 13) (zt_X4_checkAsk l hl) (by decide +kernel) (by decide +kernel) rfl ⟨by decide +kernel, by decide +kernel, by decide +kernel⟩ (z_room (by omega) (by decide)) rfl zr_X4_checkAsk, List.forall_mem_cons.mpr ⟨z_calS (l := l) (j := 67) (zt_X4_checkVersion l hl) (by decide +kernel) (by decide +kernel) ⟨by decide +kernel, by decide +kernel, by decide +kernel⟩ (z_room (by omega) (by decide)), List.forall_mem_cons.mpr ⟨z_calV (l := l) (j := 130) (C := RX4) (cn := 0) (T := TX4) (N := 13) (zt_X4_bringRuns l hl) (by decide +kernel) (by decide +kernel) rfl ⟨by decide +kernel, by decide +kernel, by decide +kernel⟩ (z_room (by omega) (by decide)) rfl zr_X4_bringRuns, List.forall_mem_cons.mpr ⟨z_calV (l := l) (j := 136) (C := RX2) (cn := 4) (T := TX2) (N := 18) (zt_X2_has l) (by decide +kernel) (by decide +kernel) rfl ⟨by decide +kernel, by decide +kernel, by decide +kernel⟩ (z_room (by omega) (by decide)) rfl zr_X2_has, fun _ h => nomatch h⟩⟩⟩⟩)) (by decide)
theorem zr_X4_field : ∀ vs g r, zF_X4_field vs g = some r → ∃ i rv, vs = .inr (.inl (0, i, 0)) :: rv ∧ i < z_ni 0 := fun vs g r h => z_chk_rec (z_fn_chk (sh := zs_X4_field) h).1 (Or.inl ⟨rfl, by decide⟩)
def zc_X4_end : zCD := [(0, .iload_n 2, 1, 0), (1, .invokestatic 98, 4, 0), (4, .iload_n 1, 5, 0), (5, .invokestatic 67, 8, 0), (8, .aload_n 0, 9, 0), (9, .invokevirtual 130, 12, 0), (12, .aload_n 0, 13, 0), (13, .getfield 48, 16, 0), (16, .iload_n 1, 17, 0), (17, .aaload, 18, 0), (18, .getfield 143, 21, 0), (21, .iload_n 2, 22, 0), (22, .iaload, 23, 0), (23, .ireturn, 24, 0)]
def zk_X4_end : List (Nat × List Nat) := []
def zl_X4_end : List (Nat × zCI) := [(98, (zF_X4_checkKey, 1, 0, 1, 6)), (67, (zF_X4_checkVersion, 1, 0, 1, 6)), (130, (zF_X4_bringRuns, 1, 0, 0, 0))]
def zM_X4_end : zMI := (z_look zfl_X4, z_look zl_X4_end, z_look zcs_X4, z_look zth_X4, 3, 1)
def zs_X4_end : List (Nat × Nat × Nat × Nat) := [(2, 0, 0, 0), (0, 0, 0, 0), (0, 0, 0, 0)]
def zF_X4_end : List zVV → zSG → Option zRR := z_fn zs_X4_end zM_X4_end zc_X4_end zk_X4_end (4, 24)
theorem zo_X4_end : z_okc cX4_end zc_X4_end = true := by decide +kernel
theorem zv_X4_end : z_kd [130] zc_X4_end = true := by decide +kernel
set_option maxRecDepth 20000 in
theorem zt_X4_end (l : Launch) (hl : l.stackTraces = false) : zCt l yX4_end cX4_end 3 (some .int) (zrm 7 4 24) zF_X4_end := z_ct (own := RX4) (sh := zs_X4_end) (M := zM_X4_end) (cd := zc_X4_end) (cut := zk_X4_end) (by decide +kernel) rfl rfl rfl (z_fl_all zfl_X4_ok) (z_cs_all zcs_X4_ok) zo_X4_end (z_hthr (sites := []) (by decide +kernel) (fun _ h => nomatch h)) (z_hcal (L := zl_X4_end) zv_X4_end (List.forall_mem_cons.mpr ⟨z_calS (l := l) (j := 98) (zt_X4_checkKey l hl) (by decide +kernel) (by decide +kernel) ⟨by decide +kernel, by decide +kernel, by decide +kernel⟩ (z_room (by omega) (by decide)), List.forall_mem_cons.mpr ⟨z_calS (l := l) (j := 67) (zt_X4_checkVersion l hl) (by decide +kernel) (by decide +kernel) ⟨by decide +kernel, by decide +kernel, by decide +kernel⟩ (z_room (by omega) (by decide)), List.forall_mem_cons.mpr ⟨z_calV (l := l) (j := 130) (C := RX4) (cn := 0) (T := TX4) (N := 13) (zt_X4_bringRuns l hl) (by decide +kernel) (by decide +kernel) rfl ⟨by decide +kernel, by decide +kernel, by decide +kernel⟩ (z_room (by omega) (by decide)) rfl zr_X4_bringRuns, fun _ h => nomatch h⟩⟩⟩)) (by decide)
theorem zr_X4_end : ∀ vs g r, zF_X4_end vs g = some r → ∃ i rv, vs = .inr (.inl (0, i, 0)) :: rv ∧ i < z_ni 0 := fun vs g r h => z_chk_rec (z_fn_chk (sh := zs_X4_end) h).1 (Or.inl ⟨rfl, by decide⟩)
def zc_X4_touched : zCD := [(0, .aload_n 0, 1, 0), (1, .iload_n 2, 2, 0), (2, .invokevirtual 116, 5, 0), (5, .iload_n 1, 6, 0), (6, .invokestatic 67, 9, 0), (9, .iload_n 3, 10, 0), (10, .ifCond .lt 8, 13, 18), (13, .iload_n 3, 14, 0), (14, .iconst 2, 15, 0), (15, .if_icmp .le 13, 18, 28), (18, .new 73, 21, 0), (28, .aload_n 0, 29, 0), (29, .invokevirtual 130, 32, 0), (32, .aload_n 0, 33, 0), (33, .getfield 48, 36, 0), (36, .iload_n 1, 37, 0), (37, .aaload, 38, 0), (38, .astore 4, 40, 0), (40, .iload_n 3, 41, 0), (41, .ifCond .ne 11, 44, 52), (44, .aload 4, 46, 0), (46, .getfield 148, 49, 0), (49, .iload_n 2, 50, 0), (50, .iaload, 51, 0), (51, .ireturn, 52, 0), (52, .iload_n 3, 53, 0), (53, .iconst 1, 54, 0), (54, .if_icmp .ne 13, 57, 67), (57, .aload 4, 59, 0), (59, .getfield 151, 62, 0), (62, .iload_n 2, 63, 0), (63, .iaload, 64, 0), (64, .goto 10, 67, 74), (67, .aload 4, 69, 0), (69, .getfield 154, 72, 0), (72, .iload_n 2, 73, 0), (73, .iaload, 74, 0), (74, .ireturn, 75, 0)]
def zk_X4_touched : List (Nat × List Nat) := []
def zl_X4_touched : List (Nat × zCI) := [(116, (zF_X4_checkAsk, 2, 0, 1, 6)), (67, (zF_X4_checkVersion, 1, 0, 1, 6)), (130, (zF_X4_bringRuns, 1, 0, 0, 0))]
def zM_X4_touched : zMI := (z_look zfl_X4, z_look zl_X4_touched, z_look zcs_X4, z_look zth_X4, 5, 1)
def zs_X4_touched : List (Nat × Nat × Nat × Nat) := [(2, 0, 0, 0), (0, 0, 0, 0), (0, 0, 0, 0), (0, 0, 0, 0)]
def zF_X4_touched : List zVV → zSG → Option zRR := z_fn zs_X4_touched zM_X4_touched zc_X4_touched zk_X4_touched (4, 24)
theorem zo_X4_touched : z_okc cX4_touched zc_X4_touched = true := by decide +kernel
theorem zv_X4_touched : z_kd [116, 130] zc_X4_touched = true := by decide +kernel
set_option maxRecDepth 20000 in
theorem zt_X4_touched (l : Launch) (hl : l.stackTraces = false) : zCt l yX4_touched cX4_touched 5 (some .int) (zrm 7 4 24) zF_X4_touched := z_ct (own := RX4) (sh := zs_X4_touched) (M := zM_X4_touched) (cd := zc_X4_touched) (cut := zk_X4_touched) (by decide +kernel) rfl rfl rfl (z_fl_all zfl_X4_ok) (z_cs_all zcs_X4_ok) zo_X4_touched (z_hthr (sites := [(18, 73)]) (by decide +kernel) (List.forall_mem_cons.mpr ⟨fun x hx => by have e := Option.some.inj (show some 0 = some x from hx); subst e; exact z_throw hl (x := 0) (ik := 73) (is := 146) (ic := 77) (text := "no such what") z_thb0 (by decide +kernel) (by decide) (by decide) (by decide), fun _ h => nomatch h⟩)) (z_hcal (L := zl_X4_touched) zv_X4_touched (List.forall_mem_cons.mpr ⟨z_calV (l := l) (j := 116) (C := RX4) (cn := 0) (T := TX4) (N := 13) (zt_X4_checkAsk l hl) (by decide +kernel) (by decide +kernel) rfl ⟨by decide +kernel, by decide +kernel, by decide +kernel⟩ (z_room (by omega) (by decide)) rfl zr_X4_checkAsk, List.forall_mem_cons.mpr ⟨z_calS (l := l) (j := 67) (zt_X4_checkVersion l hl) (by decide +kernel) (by decide +kernel) ⟨by decide +kernel, by decide +kernel, by decide +kernel⟩ (z_room (by omega) (by decide)), List.forall_mem_cons.mpr ⟨z_calV (l := l) (j := 130) (C := RX4) (cn := 0) (T := TX4) (N := 13) (zt_X4_bringRuns l hl) (by decide +kernel) (by decide +kernel) rfl ⟨by decide +kernel, by decide +kernel, by decide +kernel⟩ (z_room (by omega) (by decide)) rfl zr_X4_bringRuns, fun _ h => nomatch h⟩⟩⟩)) (by decide)
theorem zr_X4_touched : ∀ vs g r, zF_X4_touched vs g = some r → ∃ i rv, vs = .inr (.inl (0, i, 0)) :: rv ∧ i < z_ni 0 := fun vs g r h => z_chk_rec (z_fn_chk (sh := zs_X4_touched) h).1 (Or.inl ⟨rfl, by decide⟩)
def zc_X4_calls : zCD := [(0, .iload_n 1, 1, 0), (1, .invokestatic 67, 4, 0), (4, .aload_n 0, 5, 0), (5, .invokevirtual 130, 8, 0), (8, .aload_n 0, 9, 0), (9, .getfield 48, 12, 0), (12, .iload_n 1, 13, 0), (13, .aaload, 14, 0), (14, .getfield 156, 17, 0), (17, .ireturn, 18, 0)]
def zk_X4_calls : List (Nat × List Nat) := []
def zl_X4_calls : List (Nat × zCI) := [(67, (zF_X4_checkVersion, 1, 0, 1, 6)), (130, (zF_X4_bringRuns, 1, 0, 0, 0))]
def zM_X4_calls : zMI := (z_look zfl_X4, z_look zl_X4_calls, z_look zcs_X4, z_look zth_X4, 2, 1)
def zs_X4_calls : List (Nat × Nat × Nat × Nat) := [(2, 0, 0, 0), (0, 0, 0, 0)]
def zF_X4_calls : List zVV → zSG → Option zRR := z_fn zs_X4_calls zM_X4_calls zc_X4_calls zk_X4_calls (4, 24)
theorem zo_X4_calls : z_okc cX4_calls zc_X4_calls = true := by decide +kernel
theorem zv_X4_calls : z_kd [130] zc_X4_calls = true := by decide +kernel
set_option maxRecDepth 20000 in
theorem zt_X4_calls (l : Launch) (hl : l.stackTraces = false) : zCt l yX4_calls cX4_calls 2 (some .int) (zrm 7 4 24) zF_X4_calls := z_ct (own := RX4) (sh := zs_X4_calls) (M := zM_X4_calls) (cd := zc_X4_calls) (cut := zk_X4_calls) (by decide +kernel) rfl rfl rfl (z_fl_all zfl_X4_ok) (z_cs_all zcs_X4_ok) zo_X4_calls (z_hthr (sites := []) (by decide +kernel) (fun _ h => nomatch h)) (z_hcal (L := zl_X4_calls) zv_X4_calls (List.forall_mem_cons.mpr ⟨z_calS (l := l) (j := 67) (zt_X4_checkVersion l hl) (by decide +kernel) (by decide +kernel) ⟨by decide +kernel, by decide +kernel, by decide +kernel⟩ (z_room (by omega) (by decide)), List.forall_mem_cons.mpr ⟨z_calV (l := l) (j := 130) (C := RX4) (cn := 0) (T := TX4) (N := 13) (zt_X4_bringRuns l hl) (by decide +kernel) (by decide +kernel) rfl ⟨by decide +kernel, by decide +kernel, by decide +kernel⟩ (z_room (by omega) (by decide)) rfl zr_X4_bringRuns, fun _ h => nomatch h⟩⟩)) (by decide)
theorem zr_X4_calls : ∀ vs g r, zF_X4_calls vs g = some r → ∃ i rv, vs = .inr (.inl (0, i, 0)) :: rv ∧ i < z_ni 0 := fun vs g r h => z_chk_rec (z_fn_chk (sh := zs_X4_calls) h).1 (Or.inl ⟨rfl, by decide⟩)
def zc_X4_never : zCD := [(0, .iload_n 1, 1, 0), (1, .invokestatic 67, 4, 0), (4, .iload_n 2, 5, 0), (5, .invokestatic 70, 8, 0), (8, .aload_n 0, 9, 0), (9, .invokevirtual 130, 12, 0), (12, .aload_n 0, 13, 0), (13, .getfield 48, 16, 0), (16, .iload_n 1, 17, 0), (17, .aaload, 18, 0), (18, .getfield 159, 21, 0), (21, .iload_n 2, 22, 0), (22, .iaload, 23, 0), (23, .invokestatic 162, 26, 0), (26, .istore_n 3, 27, 0), (27, .aload_n 0, 28, 0), (28, .getfield 42, 31, 0), (31, .iload_n 1, 32, 0), (32, .iconst 4, 33, 0), (33, .imul, 34, 0), (34, .iload_n 2, 35, 0), (35, .iadd, 36, 0), (36, .aaload, 37, 0), (37, .getfield 95, 40, 0), (40, .iload_n 3, 41, 0), (41, .isub, 42, 0), (42, .ireturn, 43, 0)]
def zk_X4_never : List (Nat × List Nat) := []
def zl_X4_never : List (Nat × zCI) := [(67, (zF_X4_checkVersion, 1, 0, 1, 6)), (70, (zF_X4_checkKind, 1, 0, 1, 6)), (130, (zF_X4_bringRuns, 1, 0, 0, 0)), (162, (zF_J6_bitCount_0f7a4, 1, 1, 0, 0))]
def zM_X4_never : zMI := (z_look zfl_X4, z_look zl_X4_never, z_look zcs_X4, z_look zth_X4, 4, 1)
def zs_X4_never : List (Nat × Nat × Nat × Nat) := [(2, 0, 0, 0), (0, 0, 0, 0), (0, 0, 0, 0)]
def zF_X4_never : List zVV → zSG → Option zRR := z_fn zs_X4_never zM_X4_never zc_X4_never zk_X4_never (4, 24)
theorem zo_X4_never : z_okc cX4_never zc_X4_never = true := by decide +kernel
theorem zv_X4_never : z_kd [130] zc_X4_never = true := by decide +kernel
set_option maxRecDepth 20000 in
theorem zt_X4_never (l : Launch) (hl : l.stackTraces = false) : zCt l yX4_never cX4_never 4 (some .int) (zrm 7 4 24) zF_X4_never := z_ct (own := RX4) (sh := zs_X4_never) (M := zM_X4_never) (cd := zc_X4_never) (cut := zk_X4_never) (by decide +kernel) rfl rfl rfl (z_fl_all zfl_X4_ok) (z_cs_all zcs_X4_ok) zo_X4_never (z_hthr (sites := []) (by decide +kernel) (fun _ h => nomatch h)) (z_hcal (L := zl_X4_never) zv_X4_never (List.forall_mem_cons.mpr ⟨z_calS (l := l) (j := 67) (zt_X4_checkVersion l hl) (by decide +kernel) (by decide +kernel) ⟨by decide +kernel, by decide +kernel, by decide +kernel⟩ (z_room (by omega) (by decide)), List.forall_mem_cons.mpr ⟨z_calS (l := l) (j := 70) (zt_X4_checkKind l hl) (by decide +kernel) (by decide +kernel) ⟨by decide +kernel, by decide +kernel, by decide +kernel⟩ (z_room (by omega) (by decide)), List.forall_mem_cons.mpr ⟨z_calV (l := l) (j := 130) (C := RX4) (cn := 0) (T := TX4) (N := 13) (zt_X4_bringRuns l hl) (by decide +kernel) (by decide +kernel) rfl ⟨by decide +kernel, by decide +kernel, by decide +kernel⟩ (z_room (by omega) (by decide)) rfl zr_X4_bringRuns, List.forall_mem_cons.mpr ⟨z_calS (l := l) (j := 162) (zt_J6_bitCount_0f7a4 l) (by decide +kernel) (by decide +kernel) ⟨by decide +kernel, by decide +kernel, by decide +kernel⟩ (z_room (by omega) (by decide)), fun _ h => nomatch h⟩⟩⟩⟩)) (by decide)
theorem zr_X4_never : ∀ vs g r, zF_X4_never vs g = some r → ∃ i rv, vs = .inr (.inl (0, i, 0)) :: rv ∧ i < z_ni 0 := fun vs g r h => z_chk_rec (z_fn_chk (sh := zs_X4_never) h).1 (Or.inl ⟨rfl, by decide⟩)
def zc_X4_noise : zCD := [(0, .iload_n 1, 1, 0), (1, .invokestatic 70, 4, 0), (4, .iload_n 2, 5, 0), (5, .invokestatic 121, 8, 0), (8, .aload_n 0, 9, 0), (9, .getfield 19, 12, 0), (12, .iload_n 1, 13, 0), (13, .bipush 8, 15, 0), (15, .imul, 16, 0), (16, .iload_n 2, 17, 0), (17, .iadd, 18, 0), (18, .baload, 19, 0), (19, .istore 4, 21, 0), (21, .aload_n 0, 22, 0), (22, .getfield 19, 25, 0), (25, .iload_n 1, 26, 0), (26, .bipush 8, 28, 0), (28, .imul, 29, 0), (29, .iload_n 2, 30, 0), (30, .iadd, 31, 0), (31, .iload_n 3, 32, 0), (32, .bastore, 33, 0), (33, .aload_n 0, 34, 0), (34, .iconst 0, 35, 0), (35, .putfield 168, 38, 0), (38, .iload 4, 40, 0), (40, .ireturn, 41, 0)]
def zk_X4_noise : List (Nat × List Nat) := []
def zl_X4_noise : List (Nat × zCI) := [(70, (zF_X4_checkKind, 1, 0, 1, 6)), (121, (zF_X4_checkField, 1, 0, 1, 6))]
def zM_X4_noise : zMI := (z_look zfl_X4, z_look zl_X4_noise, z_look zcs_X4, z_look zth_X4, 5, 2)
def zs_X4_noise : List (Nat × Nat × Nat × Nat) := [(2, 0, 0, 0), (0, 0, 0, 0), (0, 0, 0, 0), (0, 0, 0, 0)]
def zF_X4_noise : List zVV → zSG → Option zRR := z_fn zs_X4_noise zM_X4_noise zc_X4_noise zk_X4_noise (4, 24)
theorem zo_X4_noise : z_okc cX4_noise zc_X4_noise = true := by decide +kernel
theorem zv_X4_noise : z_kd [] zc_X4_noise = true := by decide +kernel
set_option maxRecDepth 20000 in
theorem zt_X4_noise (l : Launch) (hl : l.stackTraces = false) : zCt l yX4_noise cX4_noise 5 (some .boolean) (zrm 7 4 24) zF_X4_noise := z_ct (own := RX4) (sh := zs_X4_noise) (M := zM_X4_noise) (cd := zc_X4_noise) (cut := zk_X4_noise) (by decide +kernel) rfl rfl rfl (z_fl_all zfl_X4_ok) (z_cs_all zcs_X4_ok) zo_X4_noise (z_hthr (sites := []) (by decide +kernel) (fun _ h => nomatch h)) (z_hcal (L := zl_X4_noise) zv_X4_noise (List.forall_mem_cons.mpr ⟨z_calS (l := l) (j := 70) (zt_X4_checkKind l hl) (by decide +kernel) (by decide +kernel) ⟨by decide +kernel, by decide +kernel, by decide +kernel⟩ (z_room (by omega) (by decide)), List.forall_mem_cons.mpr ⟨z_calS (l := l) (j := 121) (zt_X4_checkField l hl) (by decide +kernel) (by decide +kernel) ⟨by decide +kernel, by decide +kernel, by decide +kernel⟩ (z_room (by omega) (by decide)), fun _ h => nomatch h⟩⟩)) (by decide)
theorem zr_X4_noise : ∀ vs g r, zF_X4_noise vs g = some r → ∃ i rv, vs = .inr (.inl (0, i, 0)) :: rv ∧ i < z_ni 0 := fun vs g r h => z_chk_rec (z_fn_chk (sh := zs_X4_noise) h).1 (Or.inl ⟨rfl, by decide⟩)
def zc_X4_learn : zCD := [(0, .aload_n 0, 1, 0), (1, .invokevirtual 130, 4, 0), (4, .aload_n 0, 5, 0), (5, .aload_n 0, 6, 0), (6, .getfield 52, 9, 0), (9, .iconst 0, 10, 0), (10, .aaload, 11, 0), (11, .iconst 0, 12, 0), (12, .ldc 171, 14, 0), (14, .invokevirtual 172, 17, 0), (17, .iconst 0, 18, 0), (18, .istore_n 1, 19, 0), (19, .iconst 0, 20, 0), (20, .istore_n 2, 21, 0), (21, .iload_n 2, 22, 0), (22, .aload_n 0, 23, 0), (23, .getfield 33, 26, 0), (26, .getfield 109, 29, 0), (29, .if_icmp .ge 29, 32, 58), (32, .iload_n 1, 33, 0), (33, .aload_n 0, 34, 0), (34, .iload_n 2, 35, 0), (35, .aload_n 0, 36, 0), (36, .getfield 48, 39, 0), (39, .iconst 0, 40, 0), (40, .aaload, 41, 0), (41, .aload_n 0, 42, 0), (42, .getfield 52, 45, 0), (45, .iconst 0, 46, 0), (46, .aaload, 47, 0), (47, .invokevirtual 176, 50, 0), (50, .iadd, 51, 0), (51, .istore_n 1, 52, 0), (52, .iinc 2 1, 55, 0), (55, .goto (-34), 58, 21), (58, .aload_n 0, 59, 0), (59, .iconst 0, 60, 0), (60, .putfield 168, 63, 0), (63, .iload_n 1, 64, 0), (64, .ireturn, 65, 0)]
def zk_X4_learn : List (Nat × List Nat) := [(21, [0, 1, 2])]
def zl_X4_learn : List (Nat × zCI) := [(130, (zF_X4_bringRuns, 1, 0, 0, 0)), (172, (zF_X4_doAll, 4, 0, 0, 0)), (176, (zF_X4_learnFrom, 4, 1, 0, 0))]
def zM_X4_learn : zMI := (z_look zfl_X4, z_look zl_X4_learn, z_look zcs_X4, z_look zth_X4, 3, 1)
def zs_X4_learn : List (Nat × Nat × Nat × Nat) := [(2, 0, 0, 0)]
def zF_X4_learn : List zVV → zSG → Option zRR := z_fn zs_X4_learn zM_X4_learn zc_X4_learn zk_X4_learn (0, 0)
theorem zo_X4_learn : z_okc cX4_learn zc_X4_learn = true := by decide +kernel
theorem zv_X4_learn : z_kd [130, 172, 176] zc_X4_learn = true := by decide +kernel
set_option maxRecDepth 20000 in
theorem zt_X4_learn (l : Launch) (hl : l.stackTraces = false) : zCt l yX4_learn cX4_learn 3 (some .int) (zrm 6 0 0) zF_X4_learn := z_ct (own := RX4) (sh := zs_X4_learn) (M := zM_X4_learn) (cd := zc_X4_learn) (cut := zk_X4_learn) (by decide +kernel) rfl rfl rfl (z_fl_all zfl_X4_ok) (z_cs_all zcs_X4_ok) zo_X4_learn (z_hthr (sites := []) (by decide +kernel) (fun _ h => nomatch h)) (z_hcal (L := zl_X4_learn) zv_X4_learn (List.forall_mem_cons.mpr ⟨z_calV (l := l) (j := 130) (C := RX4) (cn := 0) (T := TX4) (N := 13) (zt_X4_bringRuns l hl) (by decide +kernel) (by decide +kernel) rfl ⟨by decide +kernel, by decide +kernel, by decide +kernel⟩ (z_room (by omega) (by decide)) rfl zr_X4_bringRuns, List.forall_mem_cons.mpr ⟨z_calV (l := l) (j := 172) (C := RX4) (cn := 0) (T := TX4) (N := 13) (zt_X4_doAll l hl) (by decide +kernel) (by decide +kernel) rfl ⟨by decide +kernel, by decide +kernel, by decide +kernel⟩ (z_room (by omega) (by decide)) rfl zr_X4_doAll, List.forall_mem_cons.mpr ⟨z_calV (l := l) (j := 176) (C := RX4) (cn := 0) (T := TX4) (N := 13) (zt_X4_learnFrom l hl) (by decide +kernel) (by decide +kernel) rfl ⟨by decide +kernel, by decide +kernel, by decide +kernel⟩ (z_room (by omega) (by decide)) rfl zr_X4_learnFrom, fun _ h => nomatch h⟩⟩⟩)) (by decide)
theorem zr_X4_learn : ∀ vs g r, zF_X4_learn vs g = some r → ∃ i rv, vs = .inr (.inl (0, i, 0)) :: rv ∧ i < z_ni 0 := fun vs g r h => z_chk_rec (z_fn_chk (sh := zs_X4_learn) h).1 (Or.inl ⟨rfl, by decide⟩)
def zc_X4_differs : zCD := [(0, .aload_n 0, 1, 0), (1, .iload_n 1, 2, 0), (2, .invokevirtual 116, 5, 0), (5, .aload_n 0, 6, 0), (6, .invokevirtual 130, 9, 0), (9, .aload_n 0, 10, 0), (10, .iload_n 1, 11, 0), (11, .aload_n 0, 12, 0), (12, .getfield 48, 15, 0), (15, .invokevirtual 180, 18, 0), (18, .ireturn, 19, 0)]
def zk_X4_differs : List (Nat × List Nat) := []
def zl_X4_differs : List (Nat × zCI) := [(116, (zF_X4_checkAsk, 2, 0, 1, 6)), (130, (zF_X4_bringRuns, 1, 0, 0, 0)), (180, (zF_X4_whereDifferent, 3, 1, 0, 0))]
def zM_X4_differs : zMI := (z_look zfl_X4, z_look zl_X4_differs, z_look zcs_X4, z_look zth_X4, 2, 1)
def zs_X4_differs : List (Nat × Nat × Nat × Nat) := [(2, 0, 0, 0), (0, 0, 0, 0)]
def zF_X4_differs : List zVV → zSG → Option zRR := z_fn zs_X4_differs zM_X4_differs zc_X4_differs zk_X4_differs (4, 24)
theorem zo_X4_differs : z_okc cX4_differs zc_X4_differs = true := by decide +kernel
theorem zv_X4_differs : z_kd [116, 130, 180] zc_X4_differs = true := by decide +kernel
set_option maxRecDepth 20000 in
theorem zt_X4_differs (l : Launch) (hl : l.stackTraces = false) : zCt l yX4_differs cX4_differs 2 (some .int) (zrm 7 4 24) zF_X4_differs := z_ct (own := RX4) (sh := zs_X4_differs) (M := zM_X4_differs) (cd := zc_X4_differs) (cut := zk_X4_differs) (by decide +kernel) rfl rfl rfl (z_fl_all zfl_X4_ok) (z_cs_all zcs_X4_ok) zo_X4_differs (z_hthr (sites := []) (by decide +kernel) (fun _ h => nomatch h)) (z_hcal (L := zl_X4_differs) zv_X4_differs (List.forall_mem_cons.mpr ⟨z_calV (l := l) (j := 116) (C := RX4) (cn := 0) (T := TX4) (N := 13) (zt_X4_checkAsk l hl) (by decide +kernel) (by decide +kernel) rfl ⟨by decide +kernel, by decide +kernel, by decide +kernel⟩ (z_room (by omega) (by decide)) rfl zr_X4_checkAsk, List.forall_mem_cons.mpr ⟨z_calV (l := l) (j := 130) (C := RX4) (cn := 0) (T := TX4) (N := 13) (zt_X4_bringRuns l hl) (by decide +kernel) (by decide +kernel) rfl ⟨by decide +kernel, by decide +kernel, by decide +kernel⟩ (z_room (by omega) (by decide)) rfl zr_X4_bringRuns, List.forall_mem_cons.mpr ⟨z_calV (l := l) (j := 180) (C := RX4) (cn := 0) (T := TX4) (N := 13) (zt_X4_whereDifferent l hl) (by decide +kernel) (by decide +kernel) rfl ⟨by decide +kernel, by decide +kernel, by decide +kernel⟩ (z_room (by omega) (by decide)) rfl zr_X4_whereDifferent, fun _ h => nomatch h⟩⟩⟩)) (by decide)
theorem zr_X4_differs : ∀ vs g r, zF_X4_differs vs g = some r → ∃ i rv, vs = .inr (.inl (0, i, 0)) :: rv ∧ i < z_ni 0 := fun vs g r h => z_chk_rec (z_fn_chk (sh := zs_X4_differs) h).1 (Or.inl ⟨rfl, by decide⟩)
def zc_X4_shapes : zCD := [(0, .aload_n 0, 1, 0), (1, .invokevirtual 130, 4, 0), (4, .iconst 0, 5, 0), (5, .istore_n 1, 6, 0), (6, .iconst 0, 7, 0), (7, .istore_n 2, 8, 0), (8, .iload_n 2, 9, 0), (9, .aload_n 0, 10, 0), (10, .getfield 33, 13, 0), (13, .getfield 109, 16, 0), (16, .if_icmp .ge 26, 19, 42), (19, .aload_n 0, 20, 0), (20, .iload_n 2, 21, 0), (21, .invokevirtual 184, 24, 0), (24, .istore_n 3, 25, 0), (25, .iload_n 3, 26, 0), (26, .iconst (-1), 27, 0), (27, .if_icmp .eq 9, 30, 36), (30, .iload_n 1, 31, 0), (31, .iconst 1, 32, 0), (32, .iload_n 3, 33, 0), (33, .ishl, 34, 0), (34, .ior, 35, 0), (35, .istore_n 1, 36, 0), (36, .iinc 2 1, 39, 0), (39, .goto (-31), 42, 8), (42, .iload_n 1, 43, 0), (43, .invokestatic 162, 46, 0), (46, .ireturn, 47, 0)]
def zk_X4_shapes : List (Nat × List Nat) := [(8, [0, 1, 2])]
def zl_X4_shapes : List (Nat × zCI) := [(130, (zF_X4_bringRuns, 1, 0, 0, 0)), (184, (zF_X4_shapeOf, 2, 1, 0, 0)), (162, (zF_J6_bitCount_0f7a4, 1, 1, 0, 0))]
def zM_X4_shapes : zMI := (z_look zfl_X4, z_look zl_X4_shapes, z_look zcs_X4, z_look zth_X4, 4, 1)
def zs_X4_shapes : List (Nat × Nat × Nat × Nat) := [(2, 0, 0, 0)]
def zF_X4_shapes : List zVV → zSG → Option zRR := z_fn zs_X4_shapes zM_X4_shapes zc_X4_shapes zk_X4_shapes (0, 0)
theorem zo_X4_shapes : z_okc cX4_shapes zc_X4_shapes = true := by decide +kernel
theorem zv_X4_shapes : z_kd [130, 184] zc_X4_shapes = true := by decide +kernel
set_option maxRecDepth 20000 in
theorem zt_X4_shapes (l : Launch) (hl : l.stackTraces = false) : zCt l yX4_shapes cX4_shapes 4 (some .int) (zrm 6 0 0) zF_X4_shapes := z_ct (own := RX4) (sh := zs_X4_shapes) (M := zM_X4_shapes) (cd := zc_X4_shapes) (cut := zk_X4_shapes) (by decide +kernel) rfl rfl rfl (z_fl_all zfl_X4_ok) (z_cs_all zcs_X4_ok) zo_X4_shapes (z_hthr (sites := []) (by decide +kernel) (fun _ h => nomatch h)) (z_hcal (L := zl_X4_shapes) zv_X4_shapes (List.forall_mem_cons.mpr ⟨z_calV (l := l) (j := 130) (C := RX4) (cn := 0) (T := TX4) (N := 13) (zt_X4_bringRuns l hl) (by decide +kernel) (by decide +kernel) rfl ⟨by decide +kernel, by decide +kernel, by decide +kernel⟩ (z_room (by omega) (by decide)) rfl zr_X4_bringRuns, List.forall_mem_cons.mpr ⟨z_calV (l := l) (j := 184) (C := RX4) (cn := 0) (T := TX4) (N := 13) (zt_X4_shapeOf l hl) (by decide +kernel) (by decide +kernel) rfl ⟨by decide +kernel, by decide +kernel, by decide +kernel⟩ (z_room (by omega) (by decide)) rfl zr_X4_shapeOf, List.forall_mem_cons.mpr ⟨z_calS (l := l) (j := 162) (zt_J6_bitCount_0f7a4 l) (by decide +kernel) (by decide +kernel) ⟨by decide +kernel, by decide +kernel, by decide +kernel⟩ (z_room (by omega) (by decide)), fun _ h => nomatch h⟩⟩⟩)) (by decide)
theorem zr_X4_shapes : ∀ vs g r, zF_X4_shapes vs g = some r → ∃ i rv, vs = .inr (.inl (0, i, 0)) :: rv ∧ i < z_ni 0 := fun vs g r h => z_chk_rec (z_fn_chk (sh := zs_X4_shapes) h).1 (Or.inl ⟨rfl, by decide⟩)
def zc_X4_shape : zCD := [(0, .iload_n 2, 1, 0), (1, .ifCond .lt 8, 4, 9), (4, .iload_n 2, 5, 0), (5, .iconst 3, 6, 0), (6, .if_icmp .le 13, 9, 19), (9, .new 73, 12, 0), (19, .aload_n 0, 20, 0), (20, .invokevirtual 130, 23, 0), (23, .aload_n 0, 24, 0), (24, .iload_n 1, 25, 0), (25, .invokevirtual 187, 28, 0), (28, .istore_n 3, 29, 0), (29, .iload_n 3, 30, 0), (30, .iconst (-1), 31, 0), (31, .if_icmp .ne 5, 34, 36), (34, .iconst (-1), 35, 0), (35, .ireturn, 36, 0), (36, .iload_n 2, 37, 0), (37, .tableswitch 57 0 2 #[27, 37, 47], 64, 0), (64, .aload_n 0, 65, 0), (65, .getfield 33, 68, 0), (68, .getfield 190, 71, 0), (71, .iload_n 3, 72, 0), (72, .iaload, 73, 0), (73, .ireturn, 74, 0), (74, .aload_n 0, 75, 0), (75, .iload_n 3, 76, 0), (76, .aload_n 0, 77, 0), (77, .getfield 48, 80, 0), (80, .invokevirtual 180, 83, 0), (83, .ireturn, 84, 0), (84, .aload_n 0, 85, 0), (85, .aload_n 0, 86, 0), (86, .iload_n 3, 87, 0), (87, .invokevirtual 184, 90, 0), (90, .invokevirtual 193, 93, 0), (93, .ireturn, 94, 0), (94, .iload_n 3, 95, 0), (95, .ireturn, 96, 0)]
def zk_X4_shape : List (Nat × List Nat) := []
def zl_X4_shape : List (Nat × zCI) := [(130, (zF_X4_bringRuns, 1, 0, 0, 0)), (187, (zF_X4_lowestOfShape, 2, 1, 0, 0)), (180, (zF_X4_whereDifferent, 3, 1, 0, 0)), (184, (zF_X4_shapeOf, 2, 1, 0, 0)), (193, (zF_X4_asksOfShape, 2, 1, 0, 0))]
def zM_X4_shape : zMI := (z_look zfl_X4, z_look zl_X4_shape, z_look zcs_X4, z_look zth_X4, 4, 1)
def zs_X4_shape : List (Nat × Nat × Nat × Nat) := [(2, 0, 0, 0), (0, 0, 0, 0), (0, 0, 0, 0)]
def zF_X4_shape : List zVV → zSG → Option zRR := z_fn zs_X4_shape zM_X4_shape zc_X4_shape zk_X4_shape (4, 24)
theorem zo_X4_shape : z_okc cX4_shape zc_X4_shape = true := by decide +kernel
theorem zv_X4_shape : z_kd [130, 187, 180, 184, 193] zc_X4_shape = true := by decide +kernel
set_option maxRecDepth 20000 in
theorem zt_X4_shape (l : Launch) (hl : l.stackTraces = false) : zCt l yX4_shape cX4_shape 4 (some .int) (zrm 6 4 24) zF_X4_shape := z_ct (own := RX4) (sh := zs_X4_shape) (M := zM_X4_shape) (cd := zc_X4_shape) (cut := zk_X4_shape) (by decide +kernel) rfl rfl rfl (z_fl_all zfl_X4_ok) (z_cs_all zcs_X4_ok) zo_X4_shape (z_hthr (sites := [(9, 73)]) (by decide +kernel) (List.forall_mem_cons.mpr ⟨fun x hx => by have e := Option.some.inj (show some 0 = some x from hx); subst e; exact z_throw hl (x := 0) (ik := 73) (is := 146) (ic := 77) (text := "no such what") z_thb0 (by decide +kernel) (by decide) (by decide) (by decide), fun _ h => nomatch h⟩)) (z_hcal (L := zl_X4_shape) zv_X4_shape (List.forall_mem_cons.mpr ⟨z_calV (l := l) (j := 130) (C := RX4) (cn := 0) (T := TX4) (N := 13) (zt_X4_bringRuns l hl) (by decide +kernel) (by decide +kernel) rfl ⟨by decide +kernel, by decide +kernel, by decide +kernel⟩ (z_room (by omega) (by decide)) rfl zr_X4_bringRuns, List.forall_mem_cons.mpr ⟨z_calV (l := l) (j := 187) (C := RX4) (cn := 0) (T := TX4) (N := 13) (zt_X4_lowestOfShape l hl) (by decide +kernel) (by decide +kernel) rfl ⟨by decide +kernel, by decide +kernel, by decide +kernel⟩ (z_room (by omega) (by decide)) rfl zr_X4_lowestOfShape, List.forall_mem_cons.mpr ⟨z_calV (l := l) (j := 180) (C := RX4) (cn := 0) (T := TX4) (N := 13) (zt_X4_whereDifferent l hl) (by decide +kernel) (by decide +kernel) rfl ⟨by decide +kernel, by decide +kernel, by decide +kernel⟩ (z_room (by omega) (by decide)) rfl zr_X4_whereDifferent, List.forall_mem_cons.mpr ⟨z_calV (l := l) (j := 184) (C := RX4) (cn := 0) (T := TX4) (N := 13) (zt_X4_shapeOf l hl) (by decide +kernel) (by decide +kernel) rfl ⟨by decide +kernel, by decide +kernel, by decide +kernel⟩ (z_room (by omega) (by decide)) rfl zr_X4_shapeOf, List.forall_mem_cons.mpr ⟨z_calV (l := l) (j := 193) (C := RX4) (cn := 0) (T := TX4) (N := 13) (zt_X4_asksOfShape l hl) (by decide +kernel) (by decide +kernel) rfl ⟨by decide +kernel, by decide +kernel, by decide +kernel⟩ (z_room (by omega) (by decide)) rfl zr_X4_asksOfShape, fun _ h => nomatch h⟩⟩⟩⟩⟩)) (by decide)
theorem zr_X4_shape : ∀ vs g r, zF_X4_shape vs g = some r → ∃ i rv, vs = .inr (.inl (0, i, 0)) :: rv ∧ i < z_ni 0 := fun vs g r h => z_chk_rec (z_fn_chk (sh := zs_X4_shape) h).1 (Or.inl ⟨rfl, by decide⟩)
def zc_X4_touch : zCD := [(0, .aload_n 0, 1, 0), (1, .iload_n 1, 2, 0), (2, .invokevirtual 116, 5, 0), (5, .aload_n 0, 6, 0), (6, .iload_n 2, 7, 0), (7, .invokevirtual 116, 10, 0), (10, .aload_n 0, 11, 0), (11, .invokevirtual 130, 14, 0), (14, .aload_n 0, 15, 0), (15, .iload_n 1, 16, 0), (16, .iload_n 2, 17, 0), (17, .invokevirtual 196, 20, 0), (20, .ireturn, 21, 0)]
def zk_X4_touch : List (Nat × List Nat) := []
def zl_X4_touch : List (Nat × zCI) := [(116, (zF_X4_checkAsk, 2, 0, 1, 6)), (130, (zF_X4_bringRuns, 1, 0, 0, 0)), (196, (zF_X4_areTouching, 3, 1, 0, 0))]
def zM_X4_touch : zMI := (z_look zfl_X4, z_look zl_X4_touch, z_look zcs_X4, z_look zth_X4, 3, 2)
def zs_X4_touch : List (Nat × Nat × Nat × Nat) := [(2, 0, 0, 0), (0, 0, 0, 0), (0, 0, 0, 0)]
def zF_X4_touch : List zVV → zSG → Option zRR := z_fn zs_X4_touch zM_X4_touch zc_X4_touch zk_X4_touch (4, 24)
theorem zo_X4_touch : z_okc cX4_touch zc_X4_touch = true := by decide +kernel
theorem zv_X4_touch : z_kd [116, 130, 196] zc_X4_touch = true := by decide +kernel
set_option maxRecDepth 20000 in
theorem zt_X4_touch (l : Launch) (hl : l.stackTraces = false) : zCt l yX4_touch cX4_touch 3 (some .boolean) (zrm 7 4 24) zF_X4_touch := z_ct (own := RX4) (sh := zs_X4_touch) (M := zM_X4_touch) (cd := zc_X4_touch) (cut := zk_X4_touch) (by decide +kernel) rfl rfl rfl (z_fl_all zfl_X4_ok) (z_cs_all zcs_X4_ok) zo_X4_touch (z_hthr (sites := []) (by decide +kernel) (fun _ h => nomatch h)) (z_hcal (L := zl_X4_touch) zv_X4_touch (List.forall_mem_cons.mpr ⟨z_calV (l := l) (j := 116) (C := RX4) (cn := 0) (T := TX4) (N := 13) (zt_X4_checkAsk l hl) (by decide +kernel) (by decide +kernel) rfl ⟨by decide +kernel, by decide +kernel, by decide +kernel⟩ (z_room (by omega) (by decide)) rfl zr_X4_checkAsk, List.forall_mem_cons.mpr ⟨z_calV (l := l) (j := 130) (C := RX4) (cn := 0) (T := TX4) (N := 13) (zt_X4_bringRuns l hl) (by decide +kernel) (by decide +kernel) rfl ⟨by decide +kernel, by decide +kernel, by decide +kernel⟩ (z_room (by omega) (by decide)) rfl zr_X4_bringRuns, List.forall_mem_cons.mpr ⟨z_calV (l := l) (j := 196) (C := RX4) (cn := 0) (T := TX4) (N := 13) (zt_X4_areTouching l hl) (by decide +kernel) (by decide +kernel) rfl ⟨by decide +kernel, by decide +kernel, by decide +kernel⟩ (z_room (by omega) (by decide)) rfl zr_X4_areTouching, fun _ h => nomatch h⟩⟩⟩)) (by decide)
theorem zr_X4_touch : ∀ vs g r, zF_X4_touch vs g = some r → ∃ i rv, vs = .inr (.inl (0, i, 0)) :: rv ∧ i < z_ni 0 := fun vs g r h => z_chk_rec (z_fn_chk (sh := zs_X4_touch) h).1 (Or.inl ⟨rfl, by decide⟩)
def zc_X4_free : zCD := [(0, .aload_n 0, 1, 0), (1, .iload_n 1, 2, 0), (2, .invokevirtual 116, 5, 0), (5, .aload_n 0, 6, 0), (6, .invokevirtual 130, 9, 0), (9, .iconst 0, 10, 0), (10, .istore_n 2, 11, 0), (11, .iconst 0, 12, 0), (12, .istore_n 3, 13, 0), (13, .iload_n 3, 14, 0), (14, .aload_n 0, 15, 0), (15, .getfield 33, 18, 0), (18, .getfield 109, 21, 0), (21, .if_icmp .ge 26, 24, 47), (24, .iload_n 3, 25, 0), (25, .iload_n 1, 26, 0), (26, .if_icmp .eq 15, 29, 41), (29, .aload_n 0, 30, 0), (30, .iload_n 1, 31, 0), (31, .iload_n 3, 32, 0), (32, .invokevirtual 196, 35, 0), (35, .ifCond .ne 6, 38, 41), (38, .iinc 2 1, 41, 0), (41, .iinc 3 1, 44, 0), (44, .goto (-31), 47, 13), (47, .iload_n 2, 48, 0), (48, .ireturn, 49, 0)]
def zk_X4_free : List (Nat × List Nat) := [(13, [0, 1, 2, 3])]
def zl_X4_free : List (Nat × zCI) := [(116, (zF_X4_checkAsk, 2, 0, 1, 6)), (130, (zF_X4_bringRuns, 1, 0, 0, 0)), (196, (zF_X4_areTouching, 3, 1, 0, 0))]
def zM_X4_free : zMI := (z_look zfl_X4, z_look zl_X4_free, z_look zcs_X4, z_look zth_X4, 4, 1)
def zs_X4_free : List (Nat × Nat × Nat × Nat) := [(2, 0, 0, 0), (0, 0, 0, 0)]
def zF_X4_free : List zVV → zSG → Option zRR := z_fn zs_X4_free zM_X4_free zc_X4_free zk_X4_free (4, 24)
theorem zo_X4_free : z_okc cX4_free zc_X4_free = true := by decide +kernel
theorem zv_X4_free : z_kd [116, 130, 196] zc_X4_free = true := by decide +kernel
set_option maxRecDepth 20000 in
theorem zt_X4_free (l : Launch) (hl : l.stackTraces = false) : zCt l yX4_free cX4_free 4 (some .int) (zrm 7 4 24) zF_X4_free := z_ct (own := RX4) (sh := zs_X4_free) (M := zM_X4_free) (cd := zc_X4_free) (cut := zk_X4_free) (by decide +kernel) rfl rfl rfl (z_fl_all zfl_X4_ok) (z_cs_all zcs_X4_ok) zo_X4_free (z_hthr (sites := []) (by decide +kernel) (fun _ h => nomatch h)) (z_hcal (L := zl_X4_free) zv_X4_free (List.forall_mem_cons.mpr ⟨z_calV (l := l) (j := 116) (C := RX4) (cn := 0) (T := TX4) (N := 13) (zt_X4_checkAsk l hl) (by decide +kernel) (by decide +kernel) rfl ⟨by decide +kernel, by decide +kernel, by decide +kernel⟩ (z_room (by omega) (by decide)) rfl zr_X4_checkAsk, List.forall_mem_cons.mpr ⟨z_calV (l := l) (j := 130) (C := RX4) (cn := 0) (T := TX4) (N := 13) (zt_X4_bringRuns l hl) (by decide +kernel) (by decide +kernel) rfl ⟨by decide +kernel, by decide +kernel, by decide +kernel⟩ (z_room (by omega) (by decide)) rfl zr_X4_bringRuns, List.forall_mem_cons.mpr ⟨z_calV (l := l) (j := 196) (C := RX4) (cn := 0) (T := TX4) (N := 13) (zt_X4_areTouching l hl) (by decide +kernel) (by decide +kernel) rfl ⟨by decide +kernel, by decide +kernel, by decide +kernel⟩ (z_room (by omega) (by decide)) rfl zr_X4_areTouching, fun _ h => nomatch h⟩⟩⟩)) (by decide)
theorem zr_X4_free : ∀ vs g r, zF_X4_free vs g = some r → ∃ i rv, vs = .inr (.inl (0, i, 0)) :: rv ∧ i < z_ni 0 := fun vs g r h => z_chk_rec (z_fn_chk (sh := zs_X4_free) h).1 (Or.inl ⟨rfl, by decide⟩)
def zc_X4_small : zCD := [(0, .aload_n 0, 1, 0), (1, .iload_n 1, 2, 0), (2, .invokevirtual 116, 5, 0), (5, .aload_n 0, 6, 0), (6, .invokevirtual 130, 9, 0), (9, .aload_n 0, 10, 0), (10, .iload_n 1, 11, 0), (11, .aload_n 0, 12, 0), (12, .getfield 48, 15, 0), (15, .invokevirtual 180, 18, 0), (18, .iconst (-1), 19, 0), (19, .if_icmp .ne 5, 22, 24), (22, .iconst (-1), 23, 0), (23, .ireturn, 24, 0), (24, .aload_n 0, 25, 0), (25, .iload_n 1, 26, 0), (26, .invokevirtual 199, 29, 0), (29, .invokestatic 162, 32, 0), (32, .ireturn, 33, 0)]
def zk_X4_small : List (Nat × List Nat) := []
def zl_X4_small : List (Nat × zCI) := [(116, (zF_X4_checkAsk, 2, 0, 1, 6)), (130, (zF_X4_bringRuns, 1, 0, 0, 0)), (180, (zF_X4_whereDifferent, 3, 1, 0, 0)), (199, (zF_X4_smallSet, 2, 1, 0, 0)), (162, (zF_J6_bitCount_0f7a4, 1, 1, 0, 0))]
def zM_X4_small : zMI := (z_look zfl_X4, z_look zl_X4_small, z_look zcs_X4, z_look zth_X4, 2, 1)
def zs_X4_small : List (Nat × Nat × Nat × Nat) := [(2, 0, 0, 0), (0, 0, 0, 0)]
def zF_X4_small : List zVV → zSG → Option zRR := z_fn zs_X4_small zM_X4_small zc_X4_small zk_X4_small (4, 24)
theorem zo_X4_small : z_okc cX4_small zc_X4_small = true := by decide +kernel
theorem zv_X4_small : z_kd [116, 130, 180, 199] zc_X4_small = true := by decide +kernel
set_option maxRecDepth 20000 in
theorem zt_X4_small (l : Launch) (hl : l.stackTraces = false) : zCt l yX4_small cX4_small 2 (some .int) (zrm 7 4 24) zF_X4_small := z_ct (own := RX4) (sh := zs_X4_small) (M := zM_X4_small) (cd := zc_X4_small) (cut := zk_X4_small) (by decide +kernel) rfl rfl rfl (z_fl_all zfl_X4_ok) (z_cs_all zcs_X4_ok) zo_X4_small (z_hthr (sites := []) (by decide +kernel) (fun _ h => nomatch h)) (z_hcal (L := zl_X4_small) zv_X4_small (List.forall_mem_cons.mpr ⟨z_calV (l := l) (j := 116) (C := RX4) (cn := 0) (T := TX4) (N := 13) (zt_X4_checkAsk l hl) (by decide +kernel) (by decide +kernel) rfl ⟨by decide +kernel, by decide +kernel, by decide +kernel⟩ (z_room (by omega) (by decide)) rfl zr_X4_checkAsk, List.forall_mem_cons.mpr ⟨z_calV (l := l) (j := 130) (C := RX4) (cn := 0) (T := TX4) (N := 13) (zt_X4_bringRuns l hl) (by decide +kernel) (by decide +kernel) rfl ⟨by decide +kernel, by decide +kernel, by decide +kernel⟩ (z_room (by omega) (by decide)) rfl zr_X4_bringRuns, List.forall_mem_cons.mpr ⟨z_calV (l := l) (j := 180) (C := RX4) (cn := 0) (T := TX4) (N := 13) (zt_X4_whereDifferent l hl) (by decide +kernel) (by decide +kernel) rfl ⟨by decide +kernel, by decide +kernel, by decide +kernel⟩ (z_room (by omega) (by decide)) rfl zr_X4_whereDifferent, List.forall_mem_cons.mpr ⟨z_calV (l := l) (j := 199) (C := RX4) (cn := 0) (T := TX4) (N := 13) (zt_X4_smallSet l hl) (by decide +kernel) (by decide +kernel) rfl ⟨by decide +kernel, by decide +kernel, by decide +kernel⟩ (z_room (by omega) (by decide)) rfl zr_X4_smallSet, List.forall_mem_cons.mpr ⟨z_calS (l := l) (j := 162) (zt_J6_bitCount_0f7a4 l) (by decide +kernel) (by decide +kernel) ⟨by decide +kernel, by decide +kernel, by decide +kernel⟩ (z_room (by omega) (by decide)), fun _ h => nomatch h⟩⟩⟩⟩⟩)) (by decide)
theorem zr_X4_small : ∀ vs g r, zF_X4_small vs g = some r → ∃ i rv, vs = .inr (.inl (0, i, 0)) :: rv ∧ i < z_ni 0 := fun vs g r h => z_chk_rec (z_fn_chk (sh := zs_X4_small) h).1 (Or.inl ⟨rfl, by decide⟩)
def zc_X4_smallest : zCD := [(0, .aload_n 0, 1, 0), (1, .iload_n 1, 2, 0), (2, .invokevirtual 116, 5, 0), (5, .aload_n 0, 6, 0), (6, .invokevirtual 130, 9, 0), (9, .iload_n 2, 10, 0), (10, .ifCond .lt 16, 13, 26), (13, .aload_n 0, 14, 0), (14, .iload_n 1, 15, 0), (15, .aload_n 0, 16, 0), (16, .getfield 48, 19, 0), (19, .invokevirtual 180, 22, 0), (22, .iconst (-1), 23, 0), (23, .if_icmp .ne 5, 26, 28), (26, .iconst (-1), 27, 0), (27, .ireturn, 28, 0), (28, .aload_n 0, 29, 0), (29, .iload_n 1, 30, 0), (30, .invokevirtual 199, 33, 0), (33, .istore_n 3, 34, 0), (34, .aload_n 0, 35, 0), (35, .getfield 33, 38, 0), (38, .iload_n 1, 39, 0), (39, .invokevirtual 202, 42, 0), (42, .istore 4, 44, 0), (44, .iconst 0, 45, 0), (45, .istore 5, 47, 0), (47, .iconst 0, 48, 0), (48, .iload 4, 50, 0), (50, .bipush 10, 52, 0), (52, .isub, 53, 0), (53, .invokestatic 205, 56, 0), (56, .istore 6, 58, 0), (58, .iload 6, 60, 0), (60, .iload 4, 62, 0), (62, .if_icmp .ge 40, 65, 102), (65, .iload_n 3, 66, 0), (66, .iload 4, 68, 0), (68, .iload 6, 70, 0), (70, .invokestatic 211, 73, 0), (73, .ifCond .eq 23, 76, 96), (76, .iload 5, 78, 0), (78, .iload_n 2, 79, 0), (79, .if_icmp .ne 14, 82, 93), (82, .aload_n 0, 83, 0), (83, .getfield 33, 86, 0), (86, .getfield 215, 89, 0), (89, .iload 6, 91, 0), (91, .iaload, 92, 0), (92, .ireturn, 93, 0), (93, .iinc 5 1, 96, 0), (96, .iinc 6 1, 99, 0), (99, .goto (-41), 102, 58), (102, .iconst (-1), 103, 0), (103, .ireturn, 104, 0)]
def zk_X4_smallest : List (Nat × List Nat) := [(58, [0, 2, 3, 4, 5, 6])]
def zl_X4_smallest : List (Nat × zCI) := [(116, (zF_X4_checkAsk, 2, 0, 1, 6)), (130, (zF_X4_bringRuns, 1, 0, 0, 0)), (180, (zF_X4_whereDifferent, 3, 1, 0, 0)), (199, (zF_X4_smallSet, 2, 1, 0, 0)), (202, (zF_X0_placeOf, 2, 1, 0, 0)), (205, (zF_max, 2, 1, 0, 0)), (211, (zF_X4_isIn, 3, 1, 0, 0))]
def zM_X4_smallest : zMI := (z_look zfl_X4, z_look zl_X4_smallest, z_look zcs_X4, z_look zth_X4, 7, 1)
def zs_X4_smallest : List (Nat × Nat × Nat × Nat) := [(2, 0, 0, 0), (0, 0, 0, 0), (0, 0, 0, 0)]
def zF_X4_smallest : List zVV → zSG → Option zRR := z_fn zs_X4_smallest zM_X4_smallest zc_X4_smallest zk_X4_smallest (4, 24)
theorem zo_X4_smallest : z_okc cX4_smallest zc_X4_smallest = true := by decide +kernel
theorem zv_X4_smallest : z_kd [116, 130, 180, 199, 202] zc_X4_smallest = true := by decide +kernel
set_option maxRecDepth 20000 in
theorem zt_X4_smallest (l : Launch) (hl : l.stackTraces = false) : zCt l yX4_smallest cX4_smallest 7 (some .int) (zrm 7 4 24) zF_X4_smallest := z_ct (own := RX4) (sh := zs_X4_smallest) (M := zM_X4_smallest) (cd := zc_X4_smallest) (cut := zk_X4_smallest) (by decide +kernel) rfl rfl rfl (z_fl_all zfl_X4_ok) (z_cs_all zcs_X4_ok) zo_X4_smallest (z_hthr (sites := []) (by decide +kernel) (fun _ h => nomatch h)) (z_hcal (L := zl_X4_smallest) zv_X4_smallest (List.forall_mem_cons.mpr ⟨z_calV (l := l) (j := 116) (C := RX4) (cn := 0) (T := TX4) (N := 13) (zt_X4_checkAsk l hl) (by decide +kernel) (by decide +kernel) rfl ⟨by decide +kernel, by decide +kernel, by decide +kernel⟩ (z_room (by omega) (by decide)) rfl zr_X4_checkAsk, List.forall_mem_cons.mpr ⟨z_calV (l := l) (j := 130) (C := RX4) (cn := 0) (T := TX4) (N := 13) (zt_X4_bringRuns l hl) (by decide +kernel) (by decide +kernel) rfl ⟨by decide +kernel, by decide +kernel, by decide +kernel⟩ (z_room (by omega) (by decide)) rfl zr_X4_bringRuns, List.forall_mem_cons.mpr ⟨z_calV (l := l) (j := 180) (C := RX4) (cn := 0) (T := TX4) (N := 13) (zt_X4_whereDifferent l hl) (by decide +kernel) (by decide +kernel) rfl ⟨by decide +kernel, by decide +kernel, by decide +kernel⟩ (z_room (by omega) (by decide)) rfl zr_X4_whereDifferent, List.forall_mem_cons.mpr ⟨z_calV (l := l) (j := 199) (C := RX4) (cn := 0) (T := TX4) (N := 13) (zt_X4_smallSet l hl) (by decide +kernel) (by decide +kernel) rfl ⟨by decide +kernel, by decide +kernel, by decide +kernel⟩ (z_room (by omega) (by decide)) rfl zr_X4_smallSet, List.forall_mem_cons.mpr ⟨z_calV (l := l) (j := 202) (C := RX0) (cn := 2) (T := TX0) (N := 8) (zt_X0_placeOf l) (by decide +kernel) (by decide +kernel) rfl ⟨by decide +kernel, by decide +kernel, by decide +kernel⟩ (z_room (by omega) (by decide)) rfl zr_X0_placeOf, List.forall_mem_cons.mpr ⟨z_calMax (l := l) (j := 205) (by decide +kernel) (by decide) (by decide), List.forall_mem_cons.mpr ⟨z_calS (l := l) (j := 211) (zt_X4_isIn l hl) (by decide +kernel) (by decide +kernel) ⟨by decide +kernel, by decide +kernel, by decide +kernel⟩ (z_room (by omega) (by decide)), fun _ h => nomatch h⟩⟩⟩⟩⟩⟩⟩)) (by decide)
theorem zr_X4_smallest : ∀ vs g r, zF_X4_smallest vs g = some r → ∃ i rv, vs = .inr (.inl (0, i, 0)) :: rv ∧ i < z_ni 0 := fun vs g r h => z_chk_rec (z_fn_chk (sh := zs_X4_smallest) h).1 (Or.inl ⟨rfl, by decide⟩)
def zc_X4_lag : zCD := [(0, .iload_n 1, 1, 0), (1, .invokestatic 67, 4, 0), (4, .iload_n 2, 5, 0), (5, .iconst 1, 6, 0), (6, .if_icmp .lt 22, 9, 28), (9, .iload_n 2, 10, 0), (10, .sipush 1000, 13, 0), (13, .if_icmp .gt 15, 16, 28), (16, .iload_n 3, 17, 0), (17, .iconst 1, 18, 0), (18, .if_icmp .lt 10, 21, 28), (21, .iload_n 3, 22, 0), (22, .sipush 1000, 25, 0), (25, .if_icmp .le 13, 28, 38), (28, .new 73, 31, 0), (38, .aload_n 0, 39, 0), (39, .invokevirtual 130, 42, 0), (42, .aload_n 0, 43, 0), (43, .getfield 48, 46, 0), (46, .iload_n 1, 47, 0), (47, .aaload, 48, 0), (48, .astore 4, 50, 0), (50, .iconst 0, 51, 0), (51, .istore 5, 53, 0), (53, .iconst 0, 54, 0), (54, .istore 6, 56, 0), (56, .iconst 0, 57, 0), (57, .istore 7, 59, 0), (59, .iload 7, 61, 0), (61, .aload_n 0, 62, 0), (62, .getfield 33, 65, 0), (65, .getfield 109, 68, 0), (68, .if_icmp .ge 75, 71, 143), (71, .aload_n 0, 72, 0), (72, .getfield 33, 75, 0), (75, .getfield 215, 78, 0), (78, .iload 7, 80, 0), (80, .iaload, 81, 0), (81, .istore 8, 83, 0), (83, .aload_n 0, 84, 0), (84, .getfield 33, 87, 0), (87, .getfield 220, 90, 0), (90, .iload 8, 92, 0), (92, .iaload, 93, 0), (93, .iload_n 2, 94, 0), (94, .imul, 95, 0), (95, .iload_n 3, 96, 0), (96, .idiv, 97, 0), (97, .istore 9, 99, 0), (99, .iload 9, 101, 0), (101, .iload 5, 103, 0), (103, .invokestatic 205, 106, 0), (106, .istore 10, 108, 0), (108, .iload 6, 110, 0), (110, .iload 10, 112, 0), (112, .iload 9, 114, 0), (114, .isub, 115, 0), (115, .invokestatic 205, 118, 0), (118, .istore 6, 120, 0), (120, .iload 10, 122, 0), (122, .iconst 1, 123, 0), (123, .aload 4, 125, 0), (125, .getfield 154, 128, 0), (128, .iload 8, 130, 0), (130, .iaload, 131, 0), (131, .invokestatic 205, 134, 0), (134, .iadd, 135, 0), (135, .istore 5, 137, 0), (137, .iinc 7 1, 140, 0), (140, .goto (-81), 143, 59), (143, .iload 6, 145, 0), (145, .ireturn, 146, 0)]
def zk_X4_lag : List (Nat × List Nat) := [(59, [0, 2, 3, 4, 5, 6, 7])]
def zl_X4_lag : List (Nat × zCI) := [(67, (zF_X4_checkVersion, 1, 0, 1, 6)), (130, (zF_X4_bringRuns, 1, 0, 0, 0)), (205, (zF_max, 2, 1, 0, 0))]
def zM_X4_lag : zMI := (z_look zfl_X4, z_look zl_X4_lag, z_look zcs_X4, z_look zth_X4, 11, 1)
def zs_X4_lag : List (Nat × Nat × Nat × Nat) := [(2, 0, 0, 0), (0, 0, 0, 0), (0, 0, 0, 0), (0, 0, 0, 0)]
def zF_X4_lag : List zVV → zSG → Option zRR := z_fn zs_X4_lag zM_X4_lag zc_X4_lag zk_X4_lag (4, 24)
theorem zo_X4_lag : z_okc cX4_lag zc_X4_lag = true := by decide +kernel
theorem zv_X4_lag : z_kd [130] zc_X4_lag = true := by decide +kernel
set_option maxRecDepth 20000 in
theorem zt_X4_lag (l : Launch) (hl : l.stackTraces = false) : zCt l yX4_lag cX4_lag 11 (some .int) (zrm 7 4 24) zF_X4_lag := z_ct (own := RX4) (sh := zs_X4_lag) (M := zM_X4_lag) (cd := zc_X4_lag) (cut := zk_X4_lag) (by decide +kernel) rfl rfl rfl (z_fl_all zfl_X4_ok) (z_cs_all zcs_X4_ok) zo_X4_lag (z_hthr (sites := [(28, 73)]) (by decide +kernel) (List.forall_mem_cons.mpr ⟨fun x hx => by have e := Option.some.inj (show some 0 = some x from hx); subst e; exact z_throw hl (x := 0) (ik := 73) (is := 218) (ic := 77) (text := "no such rate") z_thb0 (by decide +kernel) (by decide) (by decide) (by decide), fun _ h => nomatch h⟩)) (z_hcal (L := zl_X4_lag) zv_X4_lag (List.forall_mem_cons.mpr ⟨z_calS (l := l) (j := 67) (zt_X4_checkVersion l hl) (by decide +kernel) (by decide +kernel) ⟨by decide +kernel, by decide +kernel, by decide +kernel⟩ (z_room (by omega) (by decide)), List.forall_mem_cons.mpr ⟨z_calV (l := l) (j := 130) (C := RX4) (cn := 0) (T := TX4) (N := 13) (zt_X4_bringRuns l hl) (by decide +kernel) (by decide +kernel) rfl ⟨by decide +kernel, by decide +kernel, by decide +kernel⟩ (z_room (by omega) (by decide)) rfl zr_X4_bringRuns, List.forall_mem_cons.mpr ⟨z_calMax (l := l) (j := 205) (by decide +kernel) (by decide) (by decide), fun _ h => nomatch h⟩⟩⟩)) (by decide)
theorem zr_X4_lag : ∀ vs g r, zF_X4_lag vs g = some r → ∃ i rv, vs = .inr (.inl (0, i, 0)) :: rv ∧ i < z_ni 0 := fun vs g r h => z_chk_rec (z_fn_chk (sh := zs_X4_lag) h).1 (Or.inl ⟨rfl, by decide⟩)
def zc_X4_count : zCD := [(0, .iload_n 1, 1, 0), (1, .tableswitch 54 0 3 #[31, 39, 44, 49], 32, 0), (32, .aload_n 0, 33, 0), (33, .getfield 33, 36, 0), (36, .getfield 109, 39, 0), (39, .ireturn, 40, 0), (40, .aload_n 0, 41, 0), (41, .invokevirtual 223, 44, 0), (44, .ireturn, 45, 0), (45, .aload_n 0, 46, 0), (46, .getfield 59, 49, 0), (49, .ireturn, 50, 0), (50, .aload_n 0, 51, 0), (51, .invokevirtual 226, 54, 0), (54, .ireturn, 55, 0), (55, .iconst (-1), 56, 0), (56, .ireturn, 57, 0)]
def zk_X4_count : List (Nat × List Nat) := []
def zl_X4_count : List (Nat × zCI) := [(223, (zF_X4_noisyFields, 1, 1, 0, 0)), (226, (zF_X4_stepsOfTexts, 1, 1, 0, 0))]
def zM_X4_count : zMI := (z_look zfl_X4, z_look zl_X4_count, z_look zcs_X4, z_look zth_X4, 2, 1)
def zs_X4_count : List (Nat × Nat × Nat × Nat) := [(2, 0, 0, 0), (0, 0, 0, 0)]
def zF_X4_count : List zVV → zSG → Option zRR := z_fn zs_X4_count zM_X4_count zc_X4_count zk_X4_count (0, 0)
theorem zo_X4_count : z_okc cX4_count zc_X4_count = true := by decide +kernel
theorem zv_X4_count : z_kd [223, 226] zc_X4_count = true := by decide +kernel
set_option maxRecDepth 20000 in
theorem zt_X4_count (l : Launch) (hl : l.stackTraces = false) : zCt l yX4_count cX4_count 2 (some .int) (zrm 1 0 0) zF_X4_count := z_ct (own := RX4) (sh := zs_X4_count) (M := zM_X4_count) (cd := zc_X4_count) (cut := zk_X4_count) (by decide +kernel) rfl rfl rfl (z_fl_all zfl_X4_ok) (z_cs_all zcs_X4_ok) zo_X4_count (z_hthr (sites := []) (by decide +kernel) (fun _ h => nomatch h)) (z_hcal (L := zl_X4_count) zv_X4_count (List.forall_mem_cons.mpr ⟨z_calV (l := l) (j := 223) (C := RX4) (cn := 0) (T := TX4) (N := 13) (zt_X4_noisyFields l hl) (by decide +kernel) (by decide +kernel) rfl ⟨by decide +kernel, by decide +kernel, by decide +kernel⟩ (z_room (by omega) (by decide)) rfl zr_X4_noisyFields, List.forall_mem_cons.mpr ⟨z_calV (l := l) (j := 226) (C := RX4) (cn := 0) (T := TX4) (N := 13) (zt_X4_stepsOfTexts l hl) (by decide +kernel) (by decide +kernel) rfl ⟨by decide +kernel, by decide +kernel, by decide +kernel⟩ (z_room (by omega) (by decide)) rfl zr_X4_stepsOfTexts, fun _ h => nomatch h⟩⟩)) (by decide)
theorem zr_X4_count : ∀ vs g r, zF_X4_count vs g = some r → ∃ i rv, vs = .inr (.inl (0, i, 0)) :: rv ∧ i < z_ni 0 := fun vs g r h => z_chk_rec (z_fn_chk (sh := zs_X4_count) h).1 (Or.inl ⟨rfl, by decide⟩)
end
section
/-! ===== String.length, String.charAt over the words of the texts ===== -/
def zPu (l : Launch) (y : MethodName) (bytes : ByteArray) (maxL : Nat) (ret : Option FieldType) (d : Nat) (vs : List Value) (Pre : State → Prop) (r : Option Value) : Prop :=
  Met l y (.code y bytes maxL ret :: zWS) (zrm d 0 0) (va_Pc vs Pre) (fun _ st o t => o = .returned r ∧ t.heap = st.heap) 0 0 (fun _ => False)
theorem zPu_of {l : Launch} {y : MethodName} {cc : ByteArray} {nL : Nat} {ret : Option FieldType} {d : Nat} {vs : List Value} {Pre : State → Prop} {r : Option Value} {own : String} (hy : plainName y.cls = true) (hown : y.cls = own) (hlen : (lg_sl vs).length ≤ nL)
    (body : ∀ (p : Program) (e : Env) (s : State) (m : MethodId) (below : List Frame) (meth : Method) (c : Code), CallFix p m c cc nL s vs.toArray zWS own → meth.sig.returnType = ret → meth.locks = false → Pre s → ∀ ls : Array Slot, lv_has ls nL (lv_args 0 vs) →
      W p l e (zrm d 0 0) s m vs.toArray below meth c s.heap [] 0 0 (MQ below (fun _ st o t => o = .returned r ∧ t.heap = st.heap) vs.toArray s 0 0 (fun _ => False)) (F0 m 0 ls [])) : zPu l y cc nL ret d vs Pre r := by
  refine Met.ofW hy rfl ?_
  intro p e s m args below meth c s₁ B hml hv
  obtain ⟨rfl, hp⟩ := hv
  have hts : ∀ w ∈ zWS, w.before vs.toArray s = true := fun w hw => atoms_spec (ws := .code y cc nL ret :: zWS) B.pre w (List.mem_cons_of_mem _ hw)
  rw [lg_entry_eq]
  exact body p e s m below meth c ⟨B.exec, B.bytes, hml, by rw [← hown]; exact findClass_of_methodNamed B.named, hts⟩ B.returns B.notSynchronized hp _ (lv_entry vs hlen)
section Pc
variable {p : Program} {l : Launch} {e : Env} {R : Room} {s : State} {m : MethodId} {args : Array Value} {below : List Frame} {meth : Method} {c : Code} {H : Heap} {locs : List Loc} {cells slots : Nat} {Q : State → Prop} {cc : ByteArray} {pc nL : Nat} {ls : Array Slot} {rest : List Value} {own : String} {y : MethodName} {bytes : ByteArray} {maxL : Nat} {ret : Option FieldType} {d : Nat} {Pre : State → Prop} {r : Option Value} {vs : List Value} {j n : Nat}
theorem z_pcB {st0 : List Value} (hr : va_Run p l e R s m args below meth c H locs cells slots 0 0 (F0 m pc ls st0) rest (fun st o t => o = .returned r ∧ t.heap = st.heap) (fun _ => False)) (hk : W p l e R s m args below meth c H locs cells slots Q (F0 m (pc + 3) ls (r.toList ++ rest))) : W p l e R s m args below meth c H locs cells slots Q (F0 m pc ls st0) := by
  intro T hT X
  obtain ⟨v, st₀, t, T', L, h0, X', hL, e1, e2, ⟨hv, hh⟩, st⟩ := hr T hT X
  cases hv
  have hLe : L = [] := List.eq_nil_iff_forall_not_mem.mpr (fun q hq => hL q hq)
  subst hLe
  rw [List.append_nil] at X'
  obtain ⟨t2, a1, b1⟩ := hk T' (by rw [e1, hh, h0]) X'
  exact ⟨t2, st t2 a1, b1⟩
theorem z_pcS (S : CallFix p m c cc nL s args zWS own) (hM : zPu l y bytes maxL ret d vs Pre r) (hw : (decide (Cond.methodLink own j y ∈ zWS) && decide (Cond.static y ∈ zWS) && decide (Cond.initialized y.cls ∈ zWS)) = true) (hcode : Cond.code y bytes maxL ret ∈ zWS)
    (hd : y.cls ≠ "java/lang/invoke/MethodHandle" ∧ y.cls ≠ "java/lang/invoke/VarHandle" ∧ (parseMethodDescriptor y.desc).map (fun d => d.parameters.length) = some n) (hn : vs.length = n) (hR : d + 1 ≤ R.frames ∧ 8 + (maxL + 11) + 40 * d ≤ R.locals) (hbl : ∀ (U : State) (g : JFrame) (mk : MethodId) (a : Array Value), Pre U → Pre (U.calling g mk a)) (hpre : ∀ U : State, U.heap = H → s.WarmedH U.vm → Pre U) (hsz : ls.size = nL) (hwt : (rest.map fun v => v.category).sum ≤ 8) (hdec : decode cc pc = .ok (.invokestatic j, 3)) (hc : cells ≤ R.cells ∧ slots ≤ R.slots)
    (hk : W p l e R s m args below meth c H locs cells slots Q (F0 m (pc + 3) ls (r.toList ++ rest))) : W p l e R s m args below meth c H locs cells slots Q (F0 m pc ls (vs.reverse ++ rest)) := by
  simp only [Bool.and_eq_true, decide_eq_true_eq] at hw
  obtain ⟨⟨w1, w2⟩, w3⟩ := hw
  have hts := S.2.2.2.2
  refine z_pcB ?_ hk
  exact va_runS (As := vs) (n := n) S hM ⟨callB_of n hts (z_goodV (own := own) (C := own) (j := j) hcode) rfl rfl rfl (hts _ w3) (hts _ w1) hd hR, hts _ w2⟩ ⟨fun a U g mk h => ⟨h.1, hbl U g mk a h.2⟩, fun U hU hW => ⟨rfl, hpre U hU hW⟩⟩ rfl hn hsz rfl (lv_room hwt) hdec ⟨by omega, by omega⟩
theorem z_pcV {b : Nat} {C : String} (S : CallFix p m c cc nL s args zWS own) (hM : zPu l y bytes maxL ret d (.ref b :: vs) Pre r) (hw : (decide (Cond.methodLink own j y ∈ zWS) && decide (Cond.instanceMethod y ∈ zWS) && decide (Cond.selects C y y ∈ zWS) && decide (Cond.initialized C ∈ zWS)) = true) (hcode : Cond.code y bytes maxL ret ∈ zWS) (hC : y.cls = C)
    (hd : y.cls ≠ "java/lang/invoke/MethodHandle" ∧ y.cls ≠ "java/lang/invoke/VarHandle" ∧ (parseMethodDescriptor y.desc).map (fun d => d.parameters.length) = some n) (hn : vs.length = n) (hR : d + 1 ≤ R.frames ∧ 8 + (maxL + 11) + 40 * d ≤ R.locals) (hbl : ∀ (U : State) (g : JFrame) (mk : MethodId) (a : Array Value), Pre U → Pre (U.calling g mk a)) (hrec : ∃ cellB : Cell, H[b]? = some cellB ∧ cellB.vm.isStatics = false ∧ s.vm.findClass C = some cellB.cls) (hpre : ∀ U : State, U.heap = H → s.WarmedH U.vm → Pre U) (hsz : ls.size = nL) (hwt : (rest.map fun v => v.category).sum ≤ 8) (hdec : decode cc pc = .ok (.invokevirtual j, 3)) (hc : cells ≤ R.cells ∧ slots ≤ R.slots)
    (hk : W p l e R s m args below meth c H locs cells slots Q (F0 m (pc + 3) ls (r.toList ++ rest))) : W p l e R s m args below meth c H locs cells slots Q (F0 m pc ls (vs.reverse ++ .ref b :: rest)) := by
  simp only [Bool.and_eq_true, decide_eq_true_eq] at hw
  obtain ⟨⟨⟨w1, w2⟩, w3⟩, w4⟩ := hw
  have hts := S.2.2.2.2
  refine z_pcB ?_ hk
  exact va_runV (As := vs) (n := n) S hM ⟨callB_of n hts (z_goodV (own := own) (C := C) (j := j) hcode) rfl rfl rfl (by rw [hC]; exact hts _ w4) (hts _ w1) hd hR, hts _ w2, hts _ w3⟩ ⟨fun a U g mk h => ⟨h.1, hbl U g mk a h.2⟩, hrec, fun U hU hW => ⟨rfl, hpre U hU hW⟩⟩ rfl hn hsz rfl (lv_room hwt) hdec ⟨by omega, by omega⟩
theorem z_talen {t N : Nat} {f : Nat → Value} {A : Nat → Prop} {ty : FieldType} (hx : p.tables.exec = Jvm.exec) (hb : c.code = cc) (hT : va_T ty t N f A s s.heap) (hS : va_S A s.heap H locs) (hdg : decode cc pc = .ok (.arraylength, 1)) (kk : W p l e R s m args below meth c H locs cells slots Q (F0 m (pc + 1) ls (.int (Int32.ofNat N) :: rest))) : W p l e R s m args below meth c H locs cells slots Q (F0 m pc ls (.ref t :: rest)) := by
  obtain ⟨cell, h1, h2, h3, h4, h5, h6, h7⟩ := hT
  exact W.alen hx hb (by rw [hS.2.1 t (Array.getElem?_eq_some_iff.mp h1).1 h7]; exact h1) h2 h5 rfl rfl hdg kk
end Pc
theorem zj_ci (l : Launch) (i n : Int32) (v : Value) (hv : v = .null ∨ ∃ t, v = .ref t) (h0 : ¬ i < 0) (h1 : i < n) : zPu l yJ3_checkIndex_8e157 cJ3_checkIndex_8e157 3 (some .int) 0 [.int i, .int n, v] (fun _ => True) (some (.int i)) := by
  refine zPu_of (own := RJ3) (by decide +kernel) rfl (by rcases hv with rfl | ⟨t, rfl⟩ <;> exact Nat.le_of_ble_eq_true rfl) ?_
  intro p e s m below meth c S hr hlocks _ ls hl
  obtain ⟨hx, hb, hml, hown, hts⟩ := S
  have hl : lv_has ls 3 [(0, .int i), (1, .int n), (2, v)] := by rcases hv with rfl | ⟨t, rfl⟩ <;> exact hl
  refine lv_iload_n (k := 0) hx hb (by decide +kernel) rfl (lv_at hl 0 rfl) ?_
  refine lv_if_lt (off := 8) (tgt := 9) hx hb (by decide +kernel) (by decide) (fun q => absurd q h0) (fun _ => ?_)
  refine lv_iload_n (k := 0) hx hb (by decide +kernel) rfl (lv_at hl 0 rfl) ?_
  refine lv_iload_n (k := 1) hx hb (by decide +kernel) rfl (lv_at hl 1 rfl) ?_
  refine lv_icmp_lt (off := 10) (tgt := 16) hx hb (by decide +kernel) (by decide) (fun _ => ?_) (fun q => absurd h1 q)
  refine lv_iload_n (k := 0) hx hb (by decide +kernel) rfl (lv_at hl 0 rfl) ?_
  exact W.iret hx hb hr (fun t ht hW => ⟨rfl, ht⟩) (fun q hq => nomatch hq) (by decide +kernel) hlocks
theorem zEv_blind {D : va_G} {ca : Nat → ClassId} {ad : zAD} {A : Nat → Prop} {g : zSG} (U : State) (f : JFrame) (mk : MethodId) (a : Array Value) (h : zEv D ca ad A g U U.heap) : zEv D ca ad A g (U.calling f mk a) (U.calling f mk a).heap := h.same rfl
section Str
variable (l : Launch) {D : va_G} {ca : Nat → ClassId} {ad : zAD} {A : Nat → Prop} {g : zSG}
theorem zj_ci0 (i n : Int32) (h0 : ¬ i < 0) (h1 : i < n) : zPu l yJ0_checkIndex_df160 cJ0_checkIndex_df160 2 none 1 [.int i, .int n] (fun U => zEv D ca ad A g U U.heap) none := by
  refine zPu_of (own := RJ0) (by decide +kernel) rfl (Nat.le_of_ble_eq_true rfl) ?_
  intro p e s m below meth c S hr hlocks hE ls hl
  have S' := S
  obtain ⟨hx, hb, hml, hown, hts⟩ := S
  have hl : lv_has ls 2 [(0, .int i), (1, .int n)] := hl
  have hS : va_S A s.heap s.heap [] := va_S.rf
  obtain ⟨-, -, -, -, -, -, -, -, eq, -⟩ := hE
  refine lv_iload_n (k := 0) hx hb (by decide +kernel) rfl (lv_at hl 0 rfl) ?_
  refine lv_iload_n (k := 1) hx hb (by decide +kernel) rfl (lv_at hl 1 rfl) ?_
  have key : ∀ v : Value, (v = .null ∨ ∃ t, v = .ref t) → W p l e (zrm 1 0 0) s m [Value.int i, Value.int n].toArray below meth c s.heap [] 0 0 (MQ below (fun _ st o t => o = .returned none ∧ t.heap = st.heap) [Value.int i, Value.int n].toArray s 0 0 (fun _ => False)) (F0 m 5 ls [v, .int n, .int i]) := by
    intro v hv
    refine z_pcS (R := zrm 1 0 0) (n := 3) (vs := [.int i, .int n, v]) (rest := []) (j := 1059) S' (zj_ci l i n v hv h0 h1) (by decide +kernel) (by decide +kernel) ⟨by decide +kernel, by decide +kernel, by decide +kernel⟩ rfl ⟨by decide, by decide⟩ (fun _ _ _ _ h => h) (fun _ _ _ => trivial) hl.1 (by decide) (by decide +kernel) ⟨by decide, by decide⟩ ?_
    refine lv_pop hx hb (by decide +kernel) rfl ?_
    exact W.vret hx hb hr (fun t ht hW => ⟨rfl, ht⟩) (fun q hq => nomatch hq) (by decide +kernel) hlocks
  rcases eq with hz | ⟨t, hz⟩
  · exact va_gets hx hb hz hS hown (hts (.fieldLink RJ0 1053 "jdk/internal/util/Preconditions" "SIOOBE_FORMATTER" "Ljava/util/function/BiFunction;") (by decide +kernel)) (fun _ h => h) (by decide +kernel) (key .null (Or.inl rfl))
  · exact va_gets hx hb hz hS hown (hts (.fieldLink RJ0 1053 "jdk/internal/util/Preconditions" "SIOOBE_FORMATTER" "Ljava/util/function/BiFunction;") (by decide +kernel)) (fun _ h => h) (by decide +kernel) (key (.ref t) (Or.inr ⟨t, rfl⟩))
theorem zj_coder {w : Nat} (hw : w < 8) : zPu l yJ0_coder_7d493 cJ0_coder_7d493 1 (some .byte) 0 [.ref (ad 6 w 0)] (fun U => zEv D ca ad A g U U.heap) (some (.int 0)) := by
  refine zPu_of (own := RJ0) (by decide +kernel) rfl (Nat.le_of_ble_eq_true rfl) ?_
  intro p e s m below meth c S hr hlocks hE ls hl
  obtain ⟨hx, hb, hml, hown, hts⟩ := S
  have hl : lv_has ls 1 [(0, .ref (ad 6 w 0))] := hl
  have hS : va_S A s.heap s.heap [] := va_S.rf
  obtain ⟨-, -, -, -, -, -, eS, eC, -⟩ := hE
  refine va_gets hx hb eC hS hown (hts (.fieldLink RJ0 38 "java/lang/String" "COMPACT_STRINGS" "Z") (by decide +kernel)) (fun _ h => h) (by decide +kernel) ?_
  refine lv_if_eq (off := 10) (tgt := 13) hx hb (by decide +kernel) (by decide) (fun q => absurd q (by decide)) (fun _ => ?_)
  refine lv_aload_n (k := 0) hx hb (by decide +kernel) rfl (lv_at hl 0 rfl) ?_
  refine vk_getf hx hb (eS.1 w hw).2.1 hS hown (hts (.fieldLink RJ0 15 "java/lang/String" "coder" "B") (by decide +kernel)) (fun _ h => h) (by decide +kernel) ?_
  refine lv_goto (off := 4) (tgt := 14) hx hb (by decide +kernel) (by decide) ?_
  exact W.zret hx hb hr rfl (fun t ht hW => ⟨rfl, ht⟩) (fun q hq => nomatch hq) (by decide +kernel) hlocks
theorem zj_latin {w : Nat} (hw : w < 8) : zPu l yJ0_isLatin1_aae02 cJ0_isLatin1_aae02 1 (some .boolean) 0 [.ref (ad 6 w 0)] (fun U => zEv D ca ad A g U U.heap) (some (.int 1)) := by
  refine zPu_of (own := RJ0) (by decide +kernel) rfl (Nat.le_of_ble_eq_true rfl) ?_
  intro p e s m below meth c S hr hlocks hE ls hl
  obtain ⟨hx, hb, hml, hown, hts⟩ := S
  have hl : lv_has ls 1 [(0, .ref (ad 6 w 0))] := hl
  have hS : va_S A s.heap s.heap [] := va_S.rf
  obtain ⟨-, -, -, -, -, -, eS, eC, -⟩ := hE
  refine va_gets hx hb eC hS hown (hts (.fieldLink RJ0 38 "java/lang/String" "COMPACT_STRINGS" "Z") (by decide +kernel)) (fun _ h => h) (by decide +kernel) ?_
  refine lv_if_eq (off := 14) (tgt := 17) hx hb (by decide +kernel) (by decide) (fun q => absurd q (by decide)) (fun _ => ?_)
  refine lv_aload_n (k := 0) hx hb (by decide +kernel) rfl (lv_at hl 0 rfl) ?_
  refine vk_getf hx hb (eS.1 w hw).2.1 hS hown (hts (.fieldLink RJ0 15 "java/lang/String" "coder" "B") (by decide +kernel)) (fun _ h => h) (by decide +kernel) ?_
  refine lv_if_ne (off := 7) (tgt := 17) hx hb (by decide +kernel) (by decide) (fun q => absurd rfl q) (fun _ => ?_)
  refine lv_iconst (v := 1) hx hb (n := 1) (by decide +kernel) (by decide) ?_
  refine lv_goto (off := 4) (tgt := 18) hx hb (by decide +kernel) (by decide) ?_
  exact W.zret hx hb hr rfl (fun t ht hW => ⟨rfl, ht⟩) (fun q hq => nomatch hq) (by decide +kernel) hlocks
theorem z_str_pre {s : State} (hE : zEv D ca ad A g s s.heap) : ∀ U : State, U.heap = s.heap → s.WarmedH U.vm → zEv D ca ad A g U U.heap := fun U hU hW => by rw [hU]; exact hE.warm hW
theorem z_str_rec {s : State} (hE : zEv D ca ad A g s s.heap) {w : Nat} (hw : w < 8) : ∃ cell : Cell, s.heap[ad 6 w 0]? = some cell ∧ cell.vm.isStatics = false ∧ s.vm.findClass RJ0 = some cell.cls := by
  obtain ⟨-, -, -, -, -, -, eS, -⟩ := hE
  exact vk_recv (i := w) (adK := fun i => ad 6 i 0) eS hw (va_S.rf (A := A))
theorem zj_length {w : Nat} (hw : w < 8) : zPu l yJ0_length_8abf5 cJ0_length_8abf5 1 (some .int) 1 [.ref (ad 6 w 0)] (fun U => zEv D ca ad A g U U.heap) (some (.int (Int32.ofNat (zLen.getD w 0) >>> ((0 : Int32) &&& 31)))) := by
  refine zPu_of (own := RJ0) (by decide +kernel) rfl (Nat.le_of_ble_eq_true rfl) ?_
  intro p e s m below meth c S hr hlocks hE ls hl
  have S' := S
  have hE' := hE
  obtain ⟨hx, hb, hml, hown, hts⟩ := S
  have hl : lv_has ls 1 [(0, .ref (ad 6 w 0))] := hl
  have hS : va_S A s.heap s.heap [] := va_S.rf
  obtain ⟨-, -, -, -, -, -, eS, eC, -⟩ := hE
  refine lv_aload_n (k := 0) hx hb (by decide +kernel) rfl (lv_at hl 0 rfl) ?_
  refine vk_getf hx hb (eS.1 w hw).2.2.1 hS hown (hts (.fieldLink RJ0 9 "java/lang/String" "value" "[B") (by decide +kernel)) (fun _ h => h) (by decide +kernel) ?_
  refine z_talen hx hb (eS.1 w hw).2.2.2 hS (by decide +kernel) ?_
  refine lv_aload_n (k := 0) hx hb (by decide +kernel) rfl (lv_at hl 0 rfl) ?_
  refine z_pcV (R := zrm 1 0 0) (n := 0) (vs := []) (rest := [.int (Int32.ofNat (zLen.getD w 0))]) (b := ad 6 w 0) (C := RJ0) (j := 335) S' (zj_coder l (D := D) (ca := ca) (A := A) (g := g) hw) (by decide +kernel) (by decide +kernel) rfl ⟨by decide +kernel, by decide +kernel, by decide +kernel⟩ rfl ⟨by decide, by decide⟩ zEv_blind (z_str_rec hE' hw) (z_str_pre hE') hl.1 (Nat.le_of_ble_eq_true rfl) (by decide +kernel) ⟨by decide, by decide⟩ ?_
  refine lv_ishr hx hb (by decide +kernel) ?_
  exact W.iret hx hb hr (fun t ht hW => ⟨rfl, ht⟩) (fun q hq => nomatch hq) (by decide +kernel) hlocks
def zCh (w : Nat) (i : Int32) : Int32 := (((zByt.getD w []).getD i.toNatClampNeg 0 &&& z_si 255).toUInt32 % 65536).toInt32
theorem zj_ch1 {w : Nat} (hw : w < 8) (i : Int32) (hi : z_inb i (zLen.getD w 0)) : zPu l yJ1_charAt_3b067 cJ1_charAt_3b067 2 (some .char) 2 [.ref (ad 6 w 1), .int i] (fun U => zEv D ca ad A g U U.heap) (some (.int (zCh w i))) := by
  have hlt : zLen.getD w 0 < 2 ^ 31 := (show ∀ w, w < 8 → zLen.getD w 0 < 2 ^ 31 by decide +kernel) w hw
  have h0 : ¬ i < 0 := by
    intro q
    have h1 := Int32.lt_iff_toInt_lt.mp q
    have h2 := hi.1
    have h3 : (0 : Int32).toInt = 0 := rfl
    omega
  have h1 : i < Int32.ofNat (zLen.getD w 0) := by
    apply Int32.lt_iff_toInt_lt.mpr
    have h2 := hi.2
    have h3 : (Int32.ofNat (zLen.getD w 0)).toInt = (zLen.getD w 0 : Int) := nI_toInt hlt
    omega
  refine zPu_of (own := RJ1) (by decide +kernel) rfl (Nat.le_of_ble_eq_true rfl) ?_
  intro p e s m below meth c S hr hlocks hE ls hl
  have S' := S
  have hE' := hE
  obtain ⟨hx, hb, hml, hown, hts⟩ := S
  have hl : lv_has ls 2 [(0, .ref (ad 6 w 1)), (1, .int i)] := hl
  have hS : va_S A s.heap s.heap [] := va_S.rf
  obtain ⟨-, -, -, -, -, -, eS, eC, -⟩ := hE
  refine lv_iload_n (k := 1) hx hb (by decide +kernel) rfl (lv_at hl 1 rfl) ?_
  refine lv_aload_n (k := 0) hx hb (by decide +kernel) rfl (lv_at hl 0 rfl) ?_
  refine z_talen hx hb (eS.1 w hw).2.2.2 hS (by decide +kernel) ?_
  refine z_pcS (R := zrm 2 0 0) (n := 2) (vs := [.int i, .int (Int32.ofNat (zLen.getD w 0))]) (rest := []) (j := 9) S' (zj_ci0 l (D := D) (ca := ca) (ad := ad) (A := A) (g := g) i _ h0 h1) (by decide +kernel) (by decide +kernel) ⟨by decide +kernel, by decide +kernel, by decide +kernel⟩ rfl ⟨by decide, by decide⟩ zEv_blind (z_str_pre hE') hl.1 (by decide) (by decide +kernel) ⟨by decide, by decide⟩ ?_
  refine lv_aload_n (k := 0) hx hb (by decide +kernel) rfl (lv_at hl 0 rfl) ?_
  refine lv_iload_n (k := 1) hx hb (by decide +kernel) rfl (lv_at hl 1 rfl) ?_
  refine va_tb hx hb (eS.1 w hw).2.2.2 hS (z_inb_iff.mp hi) rfl (by decide +kernel) ?_
  refine lv_sipush (v := z_si 255) hx hb (n := 255) (by decide +kernel) rfl ?_
  refine lv_iand hx hb (by decide +kernel) ?_
  refine lv_i2c hx hb (by decide +kernel) rfl ?_
  exact W.zret hx hb hr (pk_nc _) (fun t ht hW => ⟨rfl, ht⟩) (fun q hq => nomatch hq) (by decide +kernel) hlocks
theorem zj_charAt {w : Nat} (hw : w < 8) (i : Int32) (hi : z_inb i (zLen.getD w 0)) : zPu l yJ0_charAt_5068e cJ0_charAt_5068e 2 (some .char) 3 [.ref (ad 6 w 0), .int i] (fun U => zEv D ca ad A g U U.heap) (some (.int (zCh w i))) := by
  refine zPu_of (own := RJ0) (by decide +kernel) rfl (Nat.le_of_ble_eq_true rfl) ?_
  intro p e s m below meth c S hr hlocks hE ls hl
  have S' := S
  have hE' := hE
  obtain ⟨hx, hb, hml, hown, hts⟩ := S
  have hl : lv_has ls 2 [(0, .ref (ad 6 w 0)), (1, .int i)] := hl
  have hS : va_S A s.heap s.heap [] := va_S.rf
  obtain ⟨-, -, -, -, -, -, eS, eC, -⟩ := hE
  refine lv_aload_n (k := 0) hx hb (by decide +kernel) rfl (lv_at hl 0 rfl) ?_
  refine z_pcV (R := zrm 3 0 0) (n := 0) (vs := []) (rest := []) (b := ad 6 w 0) (C := RJ0) (j := 492) S' (zj_latin l (D := D) (ca := ca) (A := A) (g := g) hw) (by decide +kernel) (by decide +kernel) rfl ⟨by decide +kernel, by decide +kernel, by decide +kernel⟩ rfl ⟨by decide, by decide⟩ zEv_blind (z_str_rec hE' hw) (z_str_pre hE') hl.1 (by decide) (by decide +kernel) ⟨by decide, by decide⟩ ?_
  refine lv_if_eq (off := 12) (tgt := 16) hx hb (by decide +kernel) (by decide) (fun q => absurd q (by decide)) (fun _ => ?_)
  refine lv_aload_n (k := 0) hx hb (by decide +kernel) rfl (lv_at hl 0 rfl) ?_
  refine vk_getf hx hb (eS.1 w hw).2.2.1 hS hown (hts (.fieldLink RJ0 9 "java/lang/String" "value" "[B") (by decide +kernel)) (fun _ h => h) (by decide +kernel) ?_
  refine lv_iload_n (k := 1) hx hb (by decide +kernel) rfl (lv_at hl 1 rfl) ?_
  refine z_pcS (R := zrm 3 0 0) (n := 2) (vs := [.ref (ad 6 w 1), .int i]) (rest := []) (j := 495) S' (zj_ch1 l (D := D) (ca := ca) (ad := ad) (A := A) (g := g) hw i hi) (by decide +kernel) (by decide +kernel) ⟨by decide +kernel, by decide +kernel, by decide +kernel⟩ rfl ⟨by decide, by decide⟩ zEv_blind (z_str_pre hE') hl.1 (by decide) (by decide +kernel) ⟨by decide, by decide⟩ ?_
  exact W.zret hx hb hr (pk_nc _) (fun t ht hW => ⟨rfl, ht⟩) (fun q hq => nomatch hq) (by decide +kernel) hlocks
end Str
/-- as calls of the pure machine -/
def zF_slen (vs : List zVV) (g : zSG) : Option zRR := match vs with
  | [.inr (.inl (6, w, 0))] => if w < 8 then some (.inl (some (.inl (Int32.ofNat (zLen.getD w 0)))), g) else none
  | _ => none
def zF_sch (vs : List zVV) (g : zSG) : Option zRR := match vs with
  | [.inr (.inl (6, w, 0)), .inl i] => if w < 8 then (if z_inb i (zLen.getD w 0) then some (.inl (some (.inl (zCh w i))), g) else none) else none
  | _ => none
theorem z_take1 {st : List zVV} {a : zVV} (h : (st.take 1).reverse = [a]) : st = a :: st.drop 1 := by
  have h1 := congrArg List.reverse h
  rw [List.reverse_reverse] at h1
  conv => lhs; rw [← List.take_append_drop 1 st, h1]
  rfl
theorem z_take2 {st : List zVV} {a b : zVV} (h : (st.take 2).reverse = [a, b]) : st = b :: a :: st.drop 2 := by
  have h1 := congrArg List.reverse h
  rw [List.reverse_reverse] at h1
  conv => lhs; rw [← List.take_append_drop 2 st, h1]
  rfl
theorem z_slen0 : ∀ w, w < 8 → Int32.ofNat (zLen.getD w 0) >>> ((0 : Int32) &&& 31) = Int32.ofNat (zLen.getD w 0) := by decide +kernel
theorem z_calLen {l : Launch} {R : Room} {nL : Nat} (hf : 2 ≤ R.frames) (hlo : 80 ≤ R.locals) : zCalOK l R RX1 nL 112 (.invokevirtual 112) (zF_slen, 1, 1, 0, 0) := by
  intro p e s m args below meth c cc D ca ad A g0 pc Cx hdec
  obtain ⟨hx, hb, hml, hown, hts, hK, hA, hE, hlocks, hex⟩ := Cx
  intro lc st g b r' r a1 a2 a3 a4 hF hk hxx H locs cells slots ls hP hS hl c1 c2 h5
  dsimp only at a1 a2 a3 a4 hF hk
  unfold zF_slen at hF
  split at hF
  · rename_i w hv
    obtain ⟨hw, hF⟩ := z_ift hF
    have er := (Option.some.inj hF).symm
    subst er
    rw [z_take1 hv]
    refine z_pcV (n := 0) (vs := []) (rest := (st.drop 1).map (z_tV ad)) (b := ad 6 w 0) (C := RJ0) (j := 112) (cc := cc) (nL := nL) (own := RX1) ⟨hx, hb, hml, hown, hts⟩ (zj_length l (D := D) (ca := ca) (A := A) (g := g0) hw) (by decide +kernel) (by decide +kernel) rfl ⟨by decide +kernel, by decide +kernel, by decide +kernel⟩ rfl ⟨hf, by omega⟩ zEv_blind ?_ (fun U hU hW => by rw [hU]; exact (hE.kept hS.2.1).warm hW) hl.1 (by rw [z_wt_sum]; exact a4) hdec ⟨by omega, by omega⟩ ?_
    · obtain ⟨-, -, -, -, -, -, eS, -⟩ := hE
      exact vk_recv (i := w) (adK := fun i => ad 6 i 0) eS hw hS
    · have h9 := hk _ rfl H locs cells slots ls hP hS hl (by dsimp only; omega) (by dsimp only; omega) h5
      rw [z_slen0 w hw]
      exact h9
  · cases hF
theorem z_calCh {l : Launch} {R : Room} {nL : Nat} (hf : 4 ≤ R.frames) (hlo : 160 ≤ R.locals) : zCalOK l R RX1 nL 117 (.invokevirtual 117) (zF_sch, 2, 1, 0, 0) := by
  intro p e s m args below meth c cc D ca ad A g0 pc Cx hdec
  obtain ⟨hx, hb, hml, hown, hts, hK, hA, hE, hlocks, hex⟩ := Cx
  intro lc st g b r' r a1 a2 a3 a4 hF hk hxx H locs cells slots ls hP hS hl c1 c2 h5
  dsimp only at a1 a2 a3 a4 hF hk
  unfold zF_sch at hF
  split at hF
  · rename_i w i hv
    obtain ⟨hw, hF⟩ := z_ift hF
    obtain ⟨hi, hF⟩ := z_ift hF
    have er := (Option.some.inj hF).symm
    subst er
    rw [z_take2 hv]
    refine z_pcV (n := 1) (vs := [.int i]) (rest := (st.drop 2).map (z_tV ad)) (b := ad 6 w 0) (C := RJ0) (j := 117) (cc := cc) (nL := nL) (own := RX1) ⟨hx, hb, hml, hown, hts⟩ (zj_charAt l (D := D) (ca := ca) (A := A) (g := g0) hw i hi) (by decide +kernel) (by decide +kernel) rfl ⟨by decide +kernel, by decide +kernel, by decide +kernel⟩ rfl ⟨hf, by omega⟩ zEv_blind ?_ (fun U hU hW => by rw [hU]; exact (hE.kept hS.2.1).warm hW) hl.1 (by rw [z_wt_sum]; exact a4) hdec ⟨by omega, by omega⟩ ?_
    · obtain ⟨-, -, -, -, -, -, eS, -⟩ := hE
      exact vk_recv (i := w) (adK := fun i => ad 6 i 0) eS hw hS
    · exact hk _ rfl H locs cells slots ls hP hS hl (by dsimp only; omega) (by dsimp only; omega) h5
  · cases hF
end
section
def zfl_X1 : List (Nat × (Nat × Nat)) := [(9, (1, 0)), (15, (1, 1)), (24, (1, 2)), (28, (1, 3)), (31, (1, 4)), (34, (1, 5))]
def zcs_X1 : List (Nat × zVV) := [(62, .inr (.inl (6, 0, 0))), (79, .inr (.inl (6, 1, 0))), (84, .inr (.inl (6, 2, 0))), (102, .inr (.inl (6, 3, 0))), (104, .inr (.inl (6, 4, 0))), (106, .inr (.inl (6, 5, 0))), (108, .inr (.inl (6, 6, 0))), (110, .inr (.inl (6, 7, 0)))]
def zth_X1 : List (Nat × Nat) := []
theorem zfl_X1_ok : zfl_X1.all (fun q => z_flb RX1 q.1 q.2.1 q.2.2) = true := by decide +kernel
theorem zcs_X1_ok : zcs_X1.all (fun q => z_csb RX1 q.1 q.2) = true := by decide +kernel
def zc_X1_place : zCD := [(0, .aload_n 0, 1, 0), (1, .getfield 28, 4, 0), (4, .ireturn, 5, 0)]
def zk_X1_place : List (Nat × List Nat) := []
def zl_X1_place : List (Nat × zCI) := []
def zM_X1_place : zMI := (z_look zfl_X1, z_look zl_X1_place, z_look zcs_X1, z_look zth_X1, 1, 1)
def zs_X1_place : List (Nat × Nat × Nat × Nat) := [(2, 1, 0, 0)]
def zF_X1_place : List zVV → zSG → Option zRR := z_fn zs_X1_place zM_X1_place zc_X1_place zk_X1_place (0, 0)
theorem zo_X1_place : z_okc cX1_place zc_X1_place = true := by decide +kernel
theorem zv_X1_place : z_kd [] zc_X1_place = true := by decide +kernel
set_option maxRecDepth 20000 in
theorem zt_X1_place (l : Launch) : zCt l yX1_place cX1_place 1 (some .int) (zrm 0 0 0) zF_X1_place := z_ct (own := RX1) (sh := zs_X1_place) (M := zM_X1_place) (cd := zc_X1_place) (cut := zk_X1_place) (by decide +kernel) rfl rfl rfl (z_fl_all zfl_X1_ok) (z_cs_all zcs_X1_ok) zo_X1_place z_nothr (z_hcal (L := zl_X1_place) zv_X1_place (fun _ h => nomatch h)) (by decide)
theorem zr_X1_place : ∀ vs g r, zF_X1_place vs g = some r → ∃ i rv, vs = .inr (.inl (1, i, 0)) :: rv ∧ i < z_ni 1 := fun vs g r h => z_chk_rec (z_fn_chk (sh := zs_X1_place) h).1 (Or.inl ⟨rfl, by decide⟩)
def zc_X1_byteAt : zCD := [(0, .iload_n 1, 1, 0), (1, .ifCond .lt 20, 4, 21), (4, .iload_n 1, 5, 0), (5, .aload_n 0, 6, 0), (6, .getfield 24, 9, 0), (9, .if_icmp .ge 12, 12, 21), (12, .aload_n 0, 13, 0), (13, .getfield 15, 16, 0), (16, .iload_n 1, 17, 0), (17, .iaload, 18, 0), (18, .goto 4, 21, 22), (21, .iconst (-1), 22, 0), (22, .ireturn, 23, 0)]
def zk_X1_byteAt : List (Nat × List Nat) := []
def zl_X1_byteAt : List (Nat × zCI) := []
def zM_X1_byteAt : zMI := (z_look zfl_X1, z_look zl_X1_byteAt, z_look zcs_X1, z_look zth_X1, 2, 1)
def zs_X1_byteAt : List (Nat × Nat × Nat × Nat) := [(2, 1, 0, 0), (0, 0, 0, 0)]
def zF_X1_byteAt : List zVV → zSG → Option zRR := z_fn zs_X1_byteAt zM_X1_byteAt zc_X1_byteAt zk_X1_byteAt (0, 0)
theorem zo_X1_byteAt : z_okc cX1_byteAt zc_X1_byteAt = true := by decide +kernel
theorem zv_X1_byteAt : z_kd [] zc_X1_byteAt = true := by decide +kernel
set_option maxRecDepth 20000 in
theorem zt_X1_byteAt (l : Launch) : zCt l yX1_byteAt cX1_byteAt 2 (some .int) (zrm 0 0 0) zF_X1_byteAt := z_ct (own := RX1) (sh := zs_X1_byteAt) (M := zM_X1_byteAt) (cd := zc_X1_byteAt) (cut := zk_X1_byteAt) (by decide +kernel) rfl rfl rfl (z_fl_all zfl_X1_ok) (z_cs_all zcs_X1_ok) zo_X1_byteAt z_nothr (z_hcal (L := zl_X1_byteAt) zv_X1_byteAt (fun _ h => nomatch h)) (by decide)
theorem zr_X1_byteAt : ∀ vs g r, zF_X1_byteAt vs g = some r → ∃ i rv, vs = .inr (.inl (1, i, 0)) :: rv ∧ i < z_ni 1 := fun vs g r h => z_chk_rec (z_fn_chk (sh := zs_X1_byteAt) h).1 (Or.inl ⟨rfl, by decide⟩)
def zc_X1_isDigit : zCD := [(0, .iload_n 0, 1, 0), (1, .bipush 48, 3, 0), (3, .if_icmp .lt 13, 6, 16), (6, .iload_n 0, 7, 0), (7, .bipush 57, 9, 0), (9, .if_icmp .gt 7, 12, 16), (12, .iconst 1, 13, 0), (13, .goto 4, 16, 17), (16, .iconst 0, 17, 0), (17, .ireturn, 18, 0)]
def zk_X1_isDigit : List (Nat × List Nat) := []
def zl_X1_isDigit : List (Nat × zCI) := []
def zM_X1_isDigit : zMI := (z_look zfl_X1, z_look zl_X1_isDigit, z_look zcs_X1, z_look zth_X1, 1, 2)
def zs_X1_isDigit : List (Nat × Nat × Nat × Nat) := [(0, 0, 0, 0)]
def zF_X1_isDigit : List zVV → zSG → Option zRR := z_fn zs_X1_isDigit zM_X1_isDigit zc_X1_isDigit zk_X1_isDigit (0, 0)
theorem zo_X1_isDigit : z_okc cX1_isDigit zc_X1_isDigit = true := by decide +kernel
theorem zv_X1_isDigit : z_kd [] zc_X1_isDigit = true := by decide +kernel
set_option maxRecDepth 20000 in
theorem zt_X1_isDigit (l : Launch) : zCt l yX1_isDigit cX1_isDigit 1 (some .boolean) (zrm 0 0 0) zF_X1_isDigit := z_ct (own := RX1) (sh := zs_X1_isDigit) (M := zM_X1_isDigit) (cd := zc_X1_isDigit) (cut := zk_X1_isDigit) (by decide +kernel) rfl rfl rfl (z_fl_all zfl_X1_ok) (z_cs_all zcs_X1_ok) zo_X1_isDigit z_nothr (z_hcal (L := zl_X1_isDigit) zv_X1_isDigit (fun _ h => nomatch h)) (by decide)
def zc_X1_isLetter : zCD := [(0, .iload_n 0, 1, 0), (1, .bipush 97, 3, 0), (3, .if_icmp .lt 13, 6, 16), (6, .iload_n 0, 7, 0), (7, .bipush 122, 9, 0), (9, .if_icmp .gt 7, 12, 16), (12, .iconst 1, 13, 0), (13, .goto 4, 16, 17), (16, .iconst 0, 17, 0), (17, .ireturn, 18, 0)]
def zk_X1_isLetter : List (Nat × List Nat) := []
def zl_X1_isLetter : List (Nat × zCI) := []
def zM_X1_isLetter : zMI := (z_look zfl_X1, z_look zl_X1_isLetter, z_look zcs_X1, z_look zth_X1, 1, 2)
def zs_X1_isLetter : List (Nat × Nat × Nat × Nat) := [(0, 0, 0, 0)]
def zF_X1_isLetter : List zVV → zSG → Option zRR := z_fn zs_X1_isLetter zM_X1_isLetter zc_X1_isLetter zk_X1_isLetter (0, 0)
theorem zo_X1_isLetter : z_okc cX1_isLetter zc_X1_isLetter = true := by decide +kernel
theorem zv_X1_isLetter : z_kd [] zc_X1_isLetter = true := by decide +kernel
set_option maxRecDepth 20000 in
theorem zt_X1_isLetter (l : Launch) : zCt l yX1_isLetter cX1_isLetter 1 (some .boolean) (zrm 0 0 0) zF_X1_isLetter := z_ct (own := RX1) (sh := zs_X1_isLetter) (M := zM_X1_isLetter) (cd := zc_X1_isLetter) (cut := zk_X1_isLetter) (by decide +kernel) rfl rfl rfl (z_fl_all zfl_X1_ok) (z_cs_all zcs_X1_ok) zo_X1_isLetter z_nothr (z_hcal (L := zl_X1_isLetter) zv_X1_isLetter (fun _ h => nomatch h)) (by decide)
def zc_X1_skipBlanks : zCD := [(0, .aload_n 0, 1, 0), (1, .getfield 28, 4, 0), (4, .aload_n 0, 5, 0), (5, .getfield 24, 8, 0), (8, .if_icmp .ge 30, 11, 38), (11, .aload_n 0, 12, 0), (12, .getfield 15, 15, 0), (15, .aload_n 0, 16, 0), (16, .getfield 28, 19, 0), (19, .iaload, 20, 0), (20, .bipush 32, 22, 0), (22, .if_icmp .ne 16, 25, 38), (25, .aload_n 0, 26, 0), (26, .dup, 27, 0), (27, .getfield 28, 30, 0), (30, .iconst 1, 31, 0), (31, .iadd, 32, 0), (32, .putfield 28, 35, 0), (35, .goto (-35), 38, 0), (38, .return_, 39, 0)]
def zk_X1_skipBlanks : List (Nat × List Nat) := [(0, [0])]
def zl_X1_skipBlanks : List (Nat × zCI) := []
def zM_X1_skipBlanks : zMI := (z_look zfl_X1, z_look zl_X1_skipBlanks, z_look zcs_X1, z_look zth_X1, 1, 0)
def zs_X1_skipBlanks : List (Nat × Nat × Nat × Nat) := [(2, 1, 0, 0)]
def zF_X1_skipBlanks : List zVV → zSG → Option zRR := z_fn zs_X1_skipBlanks zM_X1_skipBlanks zc_X1_skipBlanks zk_X1_skipBlanks (0, 0)
theorem zo_X1_skipBlanks : z_okc cX1_skipBlanks zc_X1_skipBlanks = true := by decide +kernel
theorem zv_X1_skipBlanks : z_kd [] zc_X1_skipBlanks = true := by decide +kernel
set_option maxRecDepth 20000 in
theorem zt_X1_skipBlanks (l : Launch) : zCt l yX1_skipBlanks cX1_skipBlanks 1 none (zrm 0 0 0) zF_X1_skipBlanks := z_ct (own := RX1) (sh := zs_X1_skipBlanks) (M := zM_X1_skipBlanks) (cd := zc_X1_skipBlanks) (cut := zk_X1_skipBlanks) (by decide +kernel) rfl rfl rfl (z_fl_all zfl_X1_ok) (z_cs_all zcs_X1_ok) zo_X1_skipBlanks z_nothr (z_hcal (L := zl_X1_skipBlanks) zv_X1_skipBlanks (fun _ h => nomatch h)) (by decide)
theorem zr_X1_skipBlanks : ∀ vs g r, zF_X1_skipBlanks vs g = some r → ∃ i rv, vs = .inr (.inl (1, i, 0)) :: rv ∧ i < z_ni 1 := fun vs g r h => z_chk_rec (z_fn_chk (sh := zs_X1_skipBlanks) h).1 (Or.inl ⟨rfl, by decide⟩)
def zc_X1_takeSign : zCD := [(0, .aload_n 0, 1, 0), (1, .invokevirtual 52, 4, 0), (4, .aload_n 0, 5, 0), (5, .aload_n 0, 6, 0), (6, .getfield 28, 9, 0), (9, .invokevirtual 55, 12, 0), (12, .iload_n 1, 13, 0), (13, .if_icmp .eq 5, 16, 18), (16, .iconst 0, 17, 0), (17, .ireturn, 18, 0), (18, .aload_n 0, 19, 0), (19, .dup, 20, 0), (20, .getfield 28, 23, 0), (23, .iconst 1, 24, 0), (24, .iadd, 25, 0), (25, .putfield 28, 28, 0), (28, .iconst 1, 29, 0), (29, .ireturn, 30, 0)]
def zk_X1_takeSign : List (Nat × List Nat) := []
def zl_X1_takeSign : List (Nat × zCI) := [(52, (zF_X1_skipBlanks, 1, 0, 0, 0)), (55, (zF_X1_byteAt, 2, 1, 0, 0))]
def zM_X1_takeSign : zMI := (z_look zfl_X1, z_look zl_X1_takeSign, z_look zcs_X1, z_look zth_X1, 2, 2)
def zs_X1_takeSign : List (Nat × Nat × Nat × Nat) := [(2, 1, 0, 0), (0, 0, 0, 0)]
def zF_X1_takeSign : List zVV → zSG → Option zRR := z_fn zs_X1_takeSign zM_X1_takeSign zc_X1_takeSign zk_X1_takeSign (0, 0)
theorem zo_X1_takeSign : z_okc cX1_takeSign zc_X1_takeSign = true := by decide +kernel
theorem zv_X1_takeSign : z_kd [52, 55] zc_X1_takeSign = true := by decide +kernel
set_option maxRecDepth 20000 in
theorem zt_X1_takeSign (l : Launch) : zCt l yX1_takeSign cX1_takeSign 2 (some .boolean) (zrm 1 0 0) zF_X1_takeSign := z_ct (own := RX1) (sh := zs_X1_takeSign) (M := zM_X1_takeSign) (cd := zc_X1_takeSign) (cut := zk_X1_takeSign) (by decide +kernel) rfl rfl rfl (z_fl_all zfl_X1_ok) (z_cs_all zcs_X1_ok) zo_X1_takeSign z_nothr (z_hcal (L := zl_X1_takeSign) zv_X1_takeSign (List.forall_mem_cons.mpr ⟨z_calV (l := l) (j := 52) (C := RX1) (cn := 1) (T := TX1) (N := 6) (zt_X1_skipBlanks l) (by decide +kernel) (by decide +kernel) rfl ⟨by decide +kernel, by decide +kernel, by decide +kernel⟩ (z_room (by omega) (by decide)) rfl zr_X1_skipBlanks, List.forall_mem_cons.mpr ⟨z_calV (l := l) (j := 55) (C := RX1) (cn := 1) (T := TX1) (N := 6) (zt_X1_byteAt l) (by decide +kernel) (by decide +kernel) rfl ⟨by decide +kernel, by decide +kernel, by decide +kernel⟩ (z_room (by omega) (by decide)) rfl zr_X1_byteAt, fun _ h => nomatch h⟩⟩)) (by decide)
theorem zr_X1_takeSign : ∀ vs g r, zF_X1_takeSign vs g = some r → ∃ i rv, vs = .inr (.inl (1, i, 0)) :: rv ∧ i < z_ni 1 := fun vs g r h => z_chk_rec (z_fn_chk (sh := zs_X1_takeSign) h).1 (Or.inl ⟨rfl, by decide⟩)
def zc_X1_lay : zCD := [(0, .aload_n 0, 1, 0), (1, .getfield 31, 4, 0), (4, .aload_n 0, 5, 0), (5, .getfield 9, 8, 0), (8, .arraylength, 9, 0), (9, .if_icmp .lt 5, 12, 14), (12, .iconst 0, 13, 0), (13, .ireturn, 14, 0), (14, .aload_n 0, 15, 0), (15, .getfield 9, 18, 0), (18, .aload_n 0, 19, 0), (19, .getfield 31, 22, 0), (22, .iload_n 1, 23, 0), (23, .iload_n 2, 24, 0), (24, .iconst 4, 25, 0), (25, .ishl, 26, 0), (26, .ior, 27, 0), (27, .iastore, 28, 0), (28, .aload_n 0, 29, 0), (29, .dup, 30, 0), (30, .getfield 31, 33, 0), (33, .iconst 1, 34, 0), (34, .iadd, 35, 0), (35, .putfield 31, 38, 0), (38, .iconst 1, 39, 0), (39, .ireturn, 40, 0)]
def zk_X1_lay : List (Nat × List Nat) := []
def zl_X1_lay : List (Nat × zCI) := []
def zM_X1_lay : zMI := (z_look zfl_X1, z_look zl_X1_lay, z_look zcs_X1, z_look zth_X1, 3, 2)
def zs_X1_lay : List (Nat × Nat × Nat × Nat) := [(2, 1, 0, 0), (0, 0, 0, 0), (0, 0, 0, 0)]
def zF_X1_lay : List zVV → zSG → Option zRR := z_fn zs_X1_lay zM_X1_lay zc_X1_lay zk_X1_lay (0, 0)
theorem zo_X1_lay : z_okc cX1_lay zc_X1_lay = true := by decide +kernel
theorem zv_X1_lay : z_kd [] zc_X1_lay = true := by decide +kernel
set_option maxRecDepth 20000 in
theorem zt_X1_lay (l : Launch) : zCt l yX1_lay cX1_lay 3 (some .boolean) (zrm 0 0 0) zF_X1_lay := z_ct (own := RX1) (sh := zs_X1_lay) (M := zM_X1_lay) (cd := zc_X1_lay) (cut := zk_X1_lay) (by decide +kernel) rfl rfl rfl (z_fl_all zfl_X1_ok) (z_cs_all zcs_X1_ok) zo_X1_lay z_nothr (z_hcal (L := zl_X1_lay) zv_X1_lay (fun _ h => nomatch h)) (by decide)
theorem zr_X1_lay : ∀ vs g r, zF_X1_lay vs g = some r → ∃ i rv, vs = .inr (.inl (1, i, 0)) :: rv ∧ i < z_ni 1 := fun vs g r h => z_chk_rec (z_fn_chk (sh := zs_X1_lay) h).1 (Or.inl ⟨rfl, by decide⟩)
def zc_X1_joinFor : zCD := [(0, .iload_n 0, 1, 0), (1, .bipush 43, 3, 0), (3, .if_icmp .ne 6, 6, 9), (6, .bipush 6, 8, 0), (8, .ireturn, 9, 0), (9, .iload_n 0, 10, 0), (10, .bipush 45, 12, 0), (12, .if_icmp .ne 6, 15, 18), (15, .bipush 7, 17, 0), (17, .ireturn, 18, 0), (18, .iload_n 0, 19, 0), (19, .bipush 42, 21, 0), (21, .if_icmp .ne 8, 24, 29), (24, .bipush 8, 26, 0), (26, .goto 4, 29, 30), (29, .iconst (-1), 30, 0), (30, .ireturn, 31, 0)]
def zk_X1_joinFor : List (Nat × List Nat) := []
def zl_X1_joinFor : List (Nat × zCI) := []
def zM_X1_joinFor : zMI := (z_look zfl_X1, z_look zl_X1_joinFor, z_look zcs_X1, z_look zth_X1, 1, 1)
def zs_X1_joinFor : List (Nat × Nat × Nat × Nat) := [(0, 0, 0, 0)]
def zF_X1_joinFor : List zVV → zSG → Option zRR := z_fn zs_X1_joinFor zM_X1_joinFor zc_X1_joinFor zk_X1_joinFor (0, 0)
theorem zo_X1_joinFor : z_okc cX1_joinFor zc_X1_joinFor = true := by decide +kernel
theorem zv_X1_joinFor : z_kd [] zc_X1_joinFor = true := by decide +kernel
set_option maxRecDepth 20000 in
theorem zt_X1_joinFor (l : Launch) : zCt l yX1_joinFor cX1_joinFor 1 (some .int) (zrm 0 0 0) zF_X1_joinFor := z_ct (own := RX1) (sh := zs_X1_joinFor) (M := zM_X1_joinFor) (cd := zc_X1_joinFor) (cut := zk_X1_joinFor) (by decide +kernel) rfl rfl rfl (z_fl_all zfl_X1_ok) (z_cs_all zcs_X1_ok) zo_X1_joinFor z_nothr (z_hcal (L := zl_X1_joinFor) zv_X1_joinFor (fun _ h => nomatch h)) (by decide)
def zc_X1_readNumber : zCD := [(0, .iconst 0, 1, 0), (1, .istore_n 1, 2, 0), (2, .iconst 0, 3, 0), (3, .istore_n 2, 4, 0), (4, .iload_n 2, 5, 0), (5, .bipush 6, 7, 0), (7, .if_icmp .ge 50, 10, 57), (10, .aload_n 0, 11, 0), (11, .aload_n 0, 12, 0), (12, .getfield 28, 15, 0), (15, .invokevirtual 55, 18, 0), (18, .invokestatic 95, 21, 0), (21, .ifCond .eq 36, 24, 57), (24, .iload_n 1, 25, 0), (25, .bipush 10, 27, 0), (27, .imul, 28, 0), (28, .aload_n 0, 29, 0), (29, .aload_n 0, 30, 0), (30, .getfield 28, 33, 0), (33, .invokevirtual 55, 36, 0), (36, .iadd, 37, 0), (37, .bipush 48, 39, 0), (39, .isub, 40, 0), (40, .istore_n 1, 41, 0), (41, .aload_n 0, 42, 0), (42, .dup, 43, 0), (43, .getfield 28, 46, 0), (46, .iconst 1, 47, 0), (47, .iadd, 48, 0), (48, .putfield 28, 51, 0), (51, .iinc 2 1, 54, 0), (54, .goto (-50), 57, 4), (57, .aload_n 0, 58, 0), (58, .aload_n 0, 59, 0), (59, .getfield 28, 62, 0), (62, .invokevirtual 55, 65, 0), (65, .invokestatic 95, 68, 0), (68, .ifCond .ne 16, 71, 84), (71, .aload_n 0, 72, 0), (72, .iconst 0, 73, 0), (73, .iload_n 1, 74, 0), (74, .invokevirtual 75, 77, 0), (77, .ifCond .eq 7, 80, 84), (80, .iconst 1, 81, 0), (81, .goto 4, 84, 85), (84, .iconst 0, 85, 0), (85, .ireturn, 86, 0)]
def zk_X1_readNumber : List (Nat × List Nat) := [(4, [0, 1, 2])]
def zl_X1_readNumber : List (Nat × zCI) := [(55, (zF_X1_byteAt, 2, 1, 0, 0)), (95, (zF_X1_isDigit, 1, 1, 0, 0)), (75, (zF_X1_lay, 3, 1, 0, 0))]
def zM_X1_readNumber : zMI := (z_look zfl_X1, z_look zl_X1_readNumber, z_look zcs_X1, z_look zth_X1, 3, 2)
def zs_X1_readNumber : List (Nat × Nat × Nat × Nat) := [(2, 1, 0, 0)]
def zF_X1_readNumber : List zVV → zSG → Option zRR := z_fn zs_X1_readNumber zM_X1_readNumber zc_X1_readNumber zk_X1_readNumber (0, 0)
theorem zo_X1_readNumber : z_okc cX1_readNumber zc_X1_readNumber = true := by decide +kernel
theorem zv_X1_readNumber : z_kd [55, 75] zc_X1_readNumber = true := by decide +kernel
set_option maxRecDepth 20000 in
theorem zt_X1_readNumber (l : Launch) : zCt l yX1_readNumber cX1_readNumber 3 (some .boolean) (zrm 1 0 0) zF_X1_readNumber := z_ct (own := RX1) (sh := zs_X1_readNumber) (M := zM_X1_readNumber) (cd := zc_X1_readNumber) (cut := zk_X1_readNumber) (by decide +kernel) rfl rfl rfl (z_fl_all zfl_X1_ok) (z_cs_all zcs_X1_ok) zo_X1_readNumber z_nothr (z_hcal (L := zl_X1_readNumber) zv_X1_readNumber (List.forall_mem_cons.mpr ⟨z_calV (l := l) (j := 55) (C := RX1) (cn := 1) (T := TX1) (N := 6) (zt_X1_byteAt l) (by decide +kernel) (by decide +kernel) rfl ⟨by decide +kernel, by decide +kernel, by decide +kernel⟩ (z_room (by omega) (by decide)) rfl zr_X1_byteAt, List.forall_mem_cons.mpr ⟨z_calS (l := l) (j := 95) (zt_X1_isDigit l) (by decide +kernel) (by decide +kernel) ⟨by decide +kernel, by decide +kernel, by decide +kernel⟩ (z_room (by omega) (by decide)), List.forall_mem_cons.mpr ⟨z_calV (l := l) (j := 75) (C := RX1) (cn := 1) (T := TX1) (N := 6) (zt_X1_lay l) (by decide +kernel) (by decide +kernel) rfl ⟨by decide +kernel, by decide +kernel, by decide +kernel⟩ (z_room (by omega) (by decide)) rfl zr_X1_lay, fun _ h => nomatch h⟩⟩⟩)) (by decide)
theorem zr_X1_readNumber : ∀ vs g r, zF_X1_readNumber vs g = some r → ∃ i rv, vs = .inr (.inl (1, i, 0)) :: rv ∧ i < z_ni 1 := fun vs g r h => z_chk_rec (z_fn_chk (sh := zs_X1_readNumber) h).1 (Or.inl ⟨rfl, by decide⟩)
def zc_X1_takeWord : zCD := [(0, .iconst 0, 1, 0), (1, .istore_n 2, 2, 0), (2, .iload_n 2, 3, 0), (3, .aload_n 1, 4, 0), (4, .invokevirtual 112, 7, 0), (7, .if_icmp .ge 29, 10, 36), (10, .aload_n 0, 11, 0), (11, .aload_n 0, 12, 0), (12, .getfield 28, 15, 0), (15, .iload_n 2, 16, 0), (16, .iadd, 17, 0), (17, .invokevirtual 55, 20, 0), (20, .aload_n 1, 21, 0), (21, .iload_n 2, 22, 0), (22, .invokevirtual 117, 25, 0), (25, .if_icmp .eq 5, 28, 30), (28, .iconst 0, 29, 0), (29, .ireturn, 30, 0), (30, .iinc 2 1, 33, 0), (33, .goto (-31), 36, 2), (36, .aload_n 0, 37, 0), (37, .aload_n 0, 38, 0), (38, .getfield 28, 41, 0), (41, .aload_n 1, 42, 0), (42, .invokevirtual 112, 45, 0), (45, .iadd, 46, 0), (46, .invokevirtual 55, 49, 0), (49, .invokestatic 121, 52, 0), (52, .ifCond .eq 5, 55, 57), (55, .iconst 0, 56, 0), (56, .ireturn, 57, 0), (57, .aload_n 0, 58, 0), (58, .dup, 59, 0), (59, .getfield 28, 62, 0), (62, .aload_n 1, 63, 0), (63, .invokevirtual 112, 66, 0), (66, .iadd, 67, 0), (67, .putfield 28, 70, 0), (70, .iconst 1, 71, 0), (71, .ireturn, 72, 0)]
def zk_X1_takeWord : List (Nat × List Nat) := [(2, [0, 1, 2])]
def zl_X1_takeWord : List (Nat × zCI) := [(112, (zF_slen, 1, 1, 0, 0)), (55, (zF_X1_byteAt, 2, 1, 0, 0)), (117, (zF_sch, 2, 1, 0, 0)), (121, (zF_X1_isLetter, 1, 1, 0, 0))]
def zM_X1_takeWord : zMI := (z_look zfl_X1, z_look zl_X1_takeWord, z_look zcs_X1, z_look zth_X1, 3, 2)
def zs_X1_takeWord : List (Nat × Nat × Nat × Nat) := [(2, 1, 0, 0), (3, 6, 0, 0)]
def zF_X1_takeWord : List zVV → zSG → Option zRR := z_fn zs_X1_takeWord zM_X1_takeWord zc_X1_takeWord zk_X1_takeWord (0, 0)
theorem zo_X1_takeWord : z_okc cX1_takeWord zc_X1_takeWord = true := by decide +kernel
theorem zv_X1_takeWord : z_kd [112, 55, 117] zc_X1_takeWord = true := by decide +kernel
set_option maxRecDepth 20000 in
theorem zt_X1_takeWord (l : Launch) : zCt l yX1_takeWord cX1_takeWord 3 (some .boolean) (zrm 4 0 0) zF_X1_takeWord := z_ct (own := RX1) (sh := zs_X1_takeWord) (M := zM_X1_takeWord) (cd := zc_X1_takeWord) (cut := zk_X1_takeWord) (by decide +kernel) rfl rfl rfl (z_fl_all zfl_X1_ok) (z_cs_all zcs_X1_ok) zo_X1_takeWord z_nothr (z_hcal (L := zl_X1_takeWord) zv_X1_takeWord (List.forall_mem_cons.mpr ⟨z_calLen (l := l) (by decide) (by decide), List.forall_mem_cons.mpr ⟨z_calV (l := l) (j := 55) (C := RX1) (cn := 1) (T := TX1) (N := 6) (zt_X1_byteAt l) (by decide +kernel) (by decide +kernel) rfl ⟨by decide +kernel, by decide +kernel, by decide +kernel⟩ (z_room (by omega) (by decide)) rfl zr_X1_byteAt, List.forall_mem_cons.mpr ⟨z_calCh (l := l) (by decide) (by decide), List.forall_mem_cons.mpr ⟨z_calS (l := l) (j := 121) (zt_X1_isLetter l) (by decide +kernel) (by decide +kernel) ⟨by decide +kernel, by decide +kernel, by decide +kernel⟩ (z_room (by omega) (by decide)), fun _ h => nomatch h⟩⟩⟩⟩)) (by decide)
theorem zr_X1_takeWord : ∀ vs g r, zF_X1_takeWord vs g = some r → ∃ i rv, vs = .inr (.inl (1, i, 0)) :: rv ∧ i < z_ni 1 := fun vs g r h => z_chk_rec (z_fn_chk (sh := zs_X1_takeWord) h).1 (Or.inl ⟨rfl, by decide⟩)
def zc_X1_readTerm : zCD := [(0, .aload_n 0, 1, 0), (1, .invokevirtual 52, 4, 0), (4, .aload_n 0, 5, 0), (5, .aload_n 0, 6, 0), (6, .getfield 28, 9, 0), (9, .invokevirtual 55, 12, 0), (12, .invokestatic 95, 15, 0), (15, .ifCond .eq 8, 18, 23), (18, .aload_n 0, 19, 0), (19, .invokevirtual 98, 22, 0), (22, .ireturn, 23, 0), (23, .aload_n 0, 24, 0), (24, .ldc 102, 26, 0), (26, .invokevirtual 64, 29, 0), (29, .ifCond .eq 10, 32, 39), (32, .aload_n 0, 33, 0), (33, .iconst 1, 34, 0), (34, .iconst 0, 35, 0), (35, .invokevirtual 75, 38, 0), (38, .ireturn, 39, 0), (39, .aload_n 0, 40, 0), (40, .ldc 104, 42, 0), (42, .invokevirtual 64, 45, 0), (45, .ifCond .eq 10, 48, 55), (48, .aload_n 0, 49, 0), (49, .iconst 2, 50, 0), (50, .iconst 0, 51, 0), (51, .invokevirtual 75, 54, 0), (54, .ireturn, 55, 0), (55, .aload_n 0, 56, 0), (56, .ldc 106, 58, 0), (58, .invokevirtual 64, 61, 0), (61, .ifCond .eq 10, 64, 71), (64, .aload_n 0, 65, 0), (65, .iconst 3, 66, 0), (66, .iconst 0, 67, 0), (67, .invokevirtual 75, 70, 0), (70, .ireturn, 71, 0), (71, .iload_n 1, 72, 0), (72, .bipush 12, 74, 0), (74, .if_icmp .lt 5, 77, 79), (77, .iconst 0, 78, 0), (78, .ireturn, 79, 0), (79, .aload_n 0, 80, 0), (80, .ldc 108, 82, 0), (82, .invokevirtual 64, 85, 0), (85, .ifCond .eq 28, 88, 113), (88, .aload_n 0, 89, 0), (89, .iload_n 1, 90, 0), (90, .iconst 1, 91, 0), (91, .iadd, 92, 0), (92, .invokevirtual 89, 95, 0), (95, .ifCond .eq 16, 98, 111), (98, .aload_n 0, 99, 0), (99, .iconst 4, 100, 0), (100, .iconst 0, 101, 0), (101, .invokevirtual 75, 104, 0), (104, .ifCond .eq 7, 107, 111), (107, .iconst 1, 108, 0), (108, .goto 4, 111, 112), (111, .iconst 0, 112, 0), (112, .ireturn, 113, 0), (113, .aload_n 0, 114, 0), (114, .ldc 110, 116, 0), (116, .invokevirtual 64, 119, 0), (119, .ifCond .eq 28, 122, 147), (122, .aload_n 0, 123, 0), (123, .iload_n 1, 124, 0), (124, .iconst 1, 125, 0), (125, .iadd, 126, 0), (126, .invokevirtual 89, 129, 0), (129, .ifCond .eq 16, 132, 145), (132, .aload_n 0, 133, 0), (133, .iconst 5, 134, 0), (134, .iconst 0, 135, 0), (135, .invokevirtual 75, 138, 0), (138, .ifCond .eq 7, 141, 145), (141, .iconst 1, 142, 0), (142, .goto 4, 145, 146), (145, .iconst 0, 146, 0), (146, .ireturn, 147, 0), (147, .aload_n 0, 148, 0), (148, .bipush 40, 150, 0), (150, .invokevirtual 71, 153, 0), (153, .ifCond .eq 26, 156, 179), (156, .aload_n 0, 157, 0), (157, .iload_n 1, 158, 0), (158, .iconst 1, 159, 0), (159, .iadd, 160, 0), (160, .invokevirtual 81, 163, 0), (163, .ifCond .eq 16, 166, 179), (166, .aload_n 0, 167, 0), (167, .bipush 41, 169, 0), (169, .invokevirtual 71, 172, 0), (172, .ifCond .eq 7, 175, 179), (175, .iconst 1, 176, 0), (176, .goto 4, 179, 180), (179, .iconst 0, 180, 0), (180, .ireturn, 181, 0)]
def zk_X1_readTerm : List (Nat × List Nat) := []
def zl_X1_readTerm (P : Nat → List zVV → zSG → Option zRR) : List (Nat × zCI) := [(52, (zF_X1_skipBlanks, 1, 0, 0, 0)), (55, (zF_X1_byteAt, 2, 1, 0, 0)), (95, (zF_X1_isDigit, 1, 1, 0, 0)), (98, (zF_X1_readNumber, 1, 1, 0, 0)), (64, (zF_X1_takeWord, 2, 1, 0, 0)), (75, (zF_X1_lay, 3, 1, 0, 0)), (89, ((P 0), 2, 1, 0, 0)), (71, (zF_X1_takeSign, 2, 1, 0, 0)), (81, ((P 2), 2, 1, 0, 0))]
def zM_X1_readTerm (P : Nat → List zVV → zSG → Option zRR) : zMI := (z_look zfl_X1, z_look (zl_X1_readTerm P), z_look zcs_X1, z_look zth_X1, 2, 2)
def zs_X1_readTerm : List (Nat × Nat × Nat × Nat) := [(2, 1, 0, 0), (0, 0, 0, 0)]
theorem zo_X1_readTerm : z_okc cX1_readTerm zc_X1_readTerm = true := by decide +kernel
theorem zv_X1_readTerm : z_kd [52, 55, 98, 64, 75, 89, 71, 81] zc_X1_readTerm = true := by decide +kernel
def zc_X1_readSum : zCD := [(0, .aload_n 0, 1, 0), (1, .iload_n 1, 2, 0), (2, .invokevirtual 89, 5, 0), (5, .ifCond .ne 5, 8, 10), (8, .iconst 0, 9, 0), (9, .ireturn, 10, 0), (10, .iconst 0, 11, 0), (11, .istore_n 2, 12, 0), (12, .iload_n 2, 13, 0), (13, .sipush 400, 16, 0), (16, .if_icmp .ge 61, 19, 77), (19, .aload_n 0, 20, 0), (20, .invokevirtual 52, 23, 0), (23, .aload_n 0, 24, 0), (24, .aload_n 0, 25, 0), (25, .getfield 28, 28, 0), (28, .invokevirtual 55, 31, 0), (31, .invokestatic 92, 34, 0), (34, .istore_n 3, 35, 0), (35, .iload_n 3, 36, 0), (36, .iconst (-1), 37, 0), (37, .if_icmp .ne 5, 40, 42), (40, .iconst 1, 41, 0), (41, .ireturn, 42, 0), (42, .aload_n 0, 43, 0), (43, .dup, 44, 0), (44, .getfield 28, 47, 0), (47, .iconst 1, 48, 0), (48, .iadd, 49, 0), (49, .putfield 28, 52, 0), (52, .aload_n 0, 53, 0), (53, .iload_n 1, 54, 0), (54, .invokevirtual 89, 57, 0), (57, .ifCond .eq 12, 60, 69), (60, .aload_n 0, 61, 0), (61, .iload_n 3, 62, 0), (62, .iconst 0, 63, 0), (63, .invokevirtual 75, 66, 0), (66, .ifCond .ne 5, 69, 71), (69, .iconst 0, 70, 0), (70, .ireturn, 71, 0), (71, .iinc 2 1, 74, 0), (74, .goto (-62), 77, 12), (77, .iconst 1, 78, 0), (78, .ireturn, 79, 0)]
def zk_X1_readSum : List (Nat × List Nat) := [(12, [0, 1, 2])]
def zl_X1_readSum (P : Nat → List zVV → zSG → Option zRR) : List (Nat × zCI) := [(89, ((P 0), 2, 1, 0, 0)), (52, (zF_X1_skipBlanks, 1, 0, 0, 0)), (55, (zF_X1_byteAt, 2, 1, 0, 0)), (92, (zF_X1_joinFor, 1, 1, 0, 0)), (75, (zF_X1_lay, 3, 1, 0, 0))]
def zM_X1_readSum (P : Nat → List zVV → zSG → Option zRR) : zMI := (z_look zfl_X1, z_look (zl_X1_readSum P), z_look zcs_X1, z_look zth_X1, 4, 2)
def zs_X1_readSum : List (Nat × Nat × Nat × Nat) := [(2, 1, 0, 0), (0, 0, 0, 0)]
theorem zo_X1_readSum : z_okc cX1_readSum zc_X1_readSum = true := by decide +kernel
theorem zv_X1_readSum : z_kd [89, 52, 55, 75] zc_X1_readSum = true := by decide +kernel
def zc_X1_readCompare : zCD := [(0, .aload_n 0, 1, 0), (1, .iload_n 1, 2, 0), (2, .invokevirtual 68, 5, 0), (5, .ifCond .ne 5, 8, 10), (8, .iconst 0, 9, 0), (9, .ireturn, 10, 0), (10, .aload_n 0, 11, 0), (11, .bipush 60, 13, 0), (13, .invokevirtual 71, 16, 0), (16, .ifCond .eq 27, 19, 43), (19, .aload_n 0, 20, 0), (20, .iload_n 1, 21, 0), (21, .invokevirtual 68, 24, 0), (24, .ifCond .eq 17, 27, 41), (27, .aload_n 0, 28, 0), (28, .bipush 9, 30, 0), (30, .iconst 0, 31, 0), (31, .invokevirtual 75, 34, 0), (34, .ifCond .eq 7, 37, 41), (37, .iconst 1, 38, 0), (38, .goto 4, 41, 42), (41, .iconst 0, 42, 0), (42, .ireturn, 43, 0), (43, .aload_n 0, 44, 0), (44, .bipush 61, 46, 0), (46, .invokevirtual 71, 49, 0), (49, .ifCond .eq 27, 52, 76), (52, .aload_n 0, 53, 0), (53, .iload_n 1, 54, 0), (54, .invokevirtual 68, 57, 0), (57, .ifCond .eq 17, 60, 74), (60, .aload_n 0, 61, 0), (61, .bipush 10, 63, 0), (63, .iconst 0, 64, 0), (64, .invokevirtual 75, 67, 0), (67, .ifCond .eq 7, 70, 74), (70, .iconst 1, 71, 0), (71, .goto 4, 74, 75), (74, .iconst 0, 75, 0), (75, .ireturn, 76, 0), (76, .iconst 1, 77, 0), (77, .ireturn, 78, 0)]
def zk_X1_readCompare : List (Nat × List Nat) := []
def zl_X1_readCompare (P : Nat → List zVV → zSG → Option zRR) : List (Nat × zCI) := [(68, ((P 1), 2, 1, 0, 0)), (71, (zF_X1_takeSign, 2, 1, 0, 0)), (75, (zF_X1_lay, 3, 1, 0, 0))]
def zM_X1_readCompare (P : Nat → List zVV → zSG → Option zRR) : zMI := (z_look zfl_X1, z_look (zl_X1_readCompare P), z_look zcs_X1, z_look zth_X1, 2, 2)
def zs_X1_readCompare : List (Nat × Nat × Nat × Nat) := [(2, 1, 0, 0), (0, 0, 0, 0)]
theorem zo_X1_readCompare : z_okc cX1_readCompare zc_X1_readCompare = true := by decide +kernel
theorem zv_X1_readCompare : z_kd [68, 71, 75] zc_X1_readCompare = true := by decide +kernel
def zP1 : Nat → Nat → List zVV → zSG → Option zRR
  | 0, _, _, _ => none
  | d + 1, w, vs, g => match w with
    | 0 => z_fn zs_X1_readTerm (zM_X1_readTerm (fun w vs g => zP1 d w vs g)) zc_X1_readTerm zk_X1_readTerm (0, 0) vs g
    | 1 => z_fn zs_X1_readSum (zM_X1_readSum (fun w vs g => zP1 d w vs g)) zc_X1_readSum zk_X1_readSum (0, 0) vs g
    | _ => z_fn zs_X1_readCompare (zM_X1_readCompare (fun w vs g => zP1 d w vs g)) zc_X1_readCompare zk_X1_readCompare (0, 0) vs g
theorem zP1_0 (d : Nat) : zP1 (d + 1) 0 = z_fn zs_X1_readTerm (zM_X1_readTerm (zP1 d)) zc_X1_readTerm zk_X1_readTerm (0, 0) := rfl
theorem zP1_1 (d : Nat) : zP1 (d + 1) 1 = z_fn zs_X1_readSum (zM_X1_readSum (zP1 d)) zc_X1_readSum zk_X1_readSum (0, 0) := rfl
theorem zP1_2 (d : Nat) : zP1 (d + 1) 2 = z_fn zs_X1_readCompare (zM_X1_readCompare (zP1 d)) zc_X1_readCompare zk_X1_readCompare (0, 0) := rfl
theorem zr_X1_readTerm : ∀ d vs g r, zP1 d 0 vs g = some r → ∃ i rv, vs = .inr (.inl (1, i, 0)) :: rv ∧ i < z_ni 1 := by
  intro d vs g r h
  cases d with
  | zero => cases h
  | succ d => rw [zP1_0] at h; exact z_chk_rec (z_fn_chk (sh := zs_X1_readTerm) h).1 (Or.inl ⟨rfl, by decide⟩)
theorem zr_X1_readSum : ∀ d vs g r, zP1 d 1 vs g = some r → ∃ i rv, vs = .inr (.inl (1, i, 0)) :: rv ∧ i < z_ni 1 := by
  intro d vs g r h
  cases d with
  | zero => cases h
  | succ d => rw [zP1_1] at h; exact z_chk_rec (z_fn_chk (sh := zs_X1_readSum) h).1 (Or.inl ⟨rfl, by decide⟩)
theorem zr_X1_readCompare : ∀ d vs g r, zP1 d 2 vs g = some r → ∃ i rv, vs = .inr (.inl (1, i, 0)) :: rv ∧ i < z_ni 1 := by
  intro d vs g r h
  cases d with
  | zero => cases h
  | succ d => rw [zP1_2] at h; exact z_chk_rec (z_fn_chk (sh := zs_X1_readCompare) h).1 (Or.inl ⟨rfl, by decide⟩)
set_option maxRecDepth 20000 in
theorem zt_zP1 (l : Launch) : ∀ d : Nat, zCt l yX1_readTerm cX1_readTerm 2 (some .boolean) (zrm (6 + d) 0 0) (zP1 d 0) ∧ zCt l yX1_readSum cX1_readSum 4 (some .boolean) (zrm (6 + d) 0 0) (zP1 d 1) ∧ zCt l yX1_readCompare cX1_readCompare 2 (some .boolean) (zrm (6 + d) 0 0) (zP1 d 2) := by
  intro d
  induction d with
  | zero => exact ⟨z_none (fun _ _ => rfl), z_none (fun _ _ => rfl), z_none (fun _ _ => rfl)⟩
  | succ d ih =>
    obtain ⟨ih0, ih1, ih2⟩ := ih
    refine ⟨?_, ?_, ?_⟩
    · rw [zP1_0]
      exact z_ct (own := RX1) (sh := zs_X1_readTerm) (M := zM_X1_readTerm (zP1 d)) (cd := zc_X1_readTerm) (cut := zk_X1_readTerm) (by decide +kernel) rfl rfl rfl (z_fl_all zfl_X1_ok) (z_cs_all zcs_X1_ok) zo_X1_readTerm z_nothr (z_hcal (L := zl_X1_readTerm (zP1 d)) zv_X1_readTerm (List.forall_mem_cons.mpr ⟨z_calV (l := l) (j := 52) (C := RX1) (cn := 1) (T := TX1) (N := 6) (zt_X1_skipBlanks l) (by decide +kernel) (by decide +kernel) rfl ⟨by decide +kernel, by decide +kernel, by decide +kernel⟩ (z_room (by omega) (by decide)) rfl zr_X1_skipBlanks, List.forall_mem_cons.mpr ⟨z_calV (l := l) (j := 55) (C := RX1) (cn := 1) (T := TX1) (N := 6) (zt_X1_byteAt l) (by decide +kernel) (by decide +kernel) rfl ⟨by decide +kernel, by decide +kernel, by decide +kernel⟩ (z_room (by omega) (by decide)) rfl zr_X1_byteAt, List.forall_mem_cons.mpr ⟨z_calS (l := l) (j := 95) (zt_X1_isDigit l) (by decide +kernel) (by decide +kernel) ⟨by decide +kernel, by decide +kernel, by decide +kernel⟩ (z_room (by omega) (by decide)), List.forall_mem_cons.mpr ⟨z_calV (l := l) (j := 98) (C := RX1) (cn := 1) (T := TX1) (N := 6) (zt_X1_readNumber l) (by decide +kernel) (by decide +kernel) rfl ⟨by decide +kernel, by decide +kernel, by decide +kernel⟩ (z_room (by omega) (by decide)) rfl zr_X1_readNumber, List.forall_mem_cons.mpr ⟨z_calV (l := l) (j := 64) (C := RX1) (cn := 1) (T := TX1) (N := 6) (zt_X1_takeWord l) (by decide +kernel) (by decide +kernel) rfl ⟨by decide +kernel, by decide +kernel, by decide +kernel⟩ (z_room (by omega) (by decide)) rfl zr_X1_takeWord, List.forall_mem_cons.mpr ⟨z_calV (l := l) (j := 75) (C := RX1) (cn := 1) (T := TX1) (N := 6) (zt_X1_lay l) (by decide +kernel) (by decide +kernel) rfl ⟨by decide +kernel, by decide +kernel, by decide +kernel⟩ (z_room (by omega) (by decide)) rfl zr_X1_lay, List.forall_mem_cons.mpr ⟨z_calV (l := l) (j := 89) (C := RX1) (cn := 1) (T := TX1) (N := 6) ih0 (by decide +kernel) (by decide +kernel) rfl ⟨by decide +kernel, by decide +kernel, by decide +kernel⟩ (z_room (by omega) (by decide)) rfl (zr_X1_readTerm d), List.forall_mem_cons.mpr ⟨z_calV (l := l) (j := 71) (C := RX1) (cn := 1) (T := TX1) (N := 6) (zt_X1_takeSign l) (by decide +kernel) (by decide +kernel) rfl ⟨by decide +kernel, by decide +kernel, by decide +kernel⟩ (z_room (by omega) (by decide)) rfl zr_X1_takeSign, List.forall_mem_cons.mpr ⟨z_calV (l := l) (j := 81) (C := RX1) (cn := 1) (T := TX1) (N := 6) ih2 (by decide +kernel) (by decide +kernel) rfl ⟨by decide +kernel, by decide +kernel, by decide +kernel⟩ (z_room (by omega) (by decide)) rfl (zr_X1_readCompare d), fun _ h => nomatch h⟩⟩⟩⟩⟩⟩⟩⟩⟩)) (by decide)
    · rw [zP1_1]
      exact z_ct (own := RX1) (sh := zs_X1_readSum) (M := zM_X1_readSum (zP1 d)) (cd := zc_X1_readSum) (cut := zk_X1_readSum) (by decide +kernel) rfl rfl rfl (z_fl_all zfl_X1_ok) (z_cs_all zcs_X1_ok) zo_X1_readSum z_nothr (z_hcal (L := zl_X1_readSum (zP1 d)) zv_X1_readSum (List.forall_mem_cons.mpr ⟨z_calV (l := l) (j := 89) (C := RX1) (cn := 1) (T := TX1) (N := 6) ih0 (by decide +kernel) (by decide +kernel) rfl ⟨by decide +kernel, by decide +kernel, by decide +kernel⟩ (z_room (by omega) (by decide)) rfl (zr_X1_readTerm d), List.forall_mem_cons.mpr ⟨z_calV (l := l) (j := 52) (C := RX1) (cn := 1) (T := TX1) (N := 6) (zt_X1_skipBlanks l) (by decide +kernel) (by decide +kernel) rfl ⟨by decide +kernel, by decide +kernel, by decide +kernel⟩ (z_room (by omega) (by decide)) rfl zr_X1_skipBlanks, List.forall_mem_cons.mpr ⟨z_calV (l := l) (j := 55) (C := RX1) (cn := 1) (T := TX1) (N := 6) (zt_X1_byteAt l) (by decide +kernel) (by decide +kernel) rfl ⟨by decide +kernel, by decide +kernel, by decide +kernel⟩ (z_room (by omega) (by decide)) rfl zr_X1_byteAt, List.forall_mem_cons.mpr ⟨z_calS (l := l) (j := 92) (zt_X1_joinFor l) (by decide +kernel) (by decide +kernel) ⟨by decide +kernel, by decide +kernel, by decide +kernel⟩ (z_room (by omega) (by decide)), List.forall_mem_cons.mpr ⟨z_calV (l := l) (j := 75) (C := RX1) (cn := 1) (T := TX1) (N := 6) (zt_X1_lay l) (by decide +kernel) (by decide +kernel) rfl ⟨by decide +kernel, by decide +kernel, by decide +kernel⟩ (z_room (by omega) (by decide)) rfl zr_X1_lay, fun _ h => nomatch h⟩⟩⟩⟩⟩)) (by decide)
    · rw [zP1_2]
      exact z_ct (own := RX1) (sh := zs_X1_readCompare) (M := zM_X1_readCompare (zP1 d)) (cd := zc_X1_readCompare) (cut := zk_X1_readCompare) (by decide +kernel) rfl rfl rfl (z_fl_all zfl_X1_ok) (z_cs_all zcs_X1_ok) zo_X1_readCompare z_nothr (z_hcal (L := zl_X1_readCompare (zP1 d)) zv_X1_readCompare (List.forall_mem_cons.mpr ⟨z_calV (l := l) (j := 68) (C := RX1) (cn := 1) (T := TX1) (N := 6) ih1 (by decide +kernel) (by decide +kernel) rfl ⟨by decide +kernel, by decide +kernel, by decide +kernel⟩ (z_room (by omega) (by decide)) rfl (zr_X1_readSum d), List.forall_mem_cons.mpr ⟨z_calV (l := l) (j := 71) (C := RX1) (cn := 1) (T := TX1) (N := 6) (zt_X1_takeSign l) (by decide +kernel) (by decide +kernel) rfl ⟨by decide +kernel, by decide +kernel, by decide +kernel⟩ (z_room (by omega) (by decide)) rfl zr_X1_takeSign, List.forall_mem_cons.mpr ⟨z_calV (l := l) (j := 75) (C := RX1) (cn := 1) (T := TX1) (N := 6) (zt_X1_lay l) (by decide +kernel) (by decide +kernel) rfl ⟨by decide +kernel, by decide +kernel, by decide +kernel⟩ (z_room (by omega) (by decide)) rfl zr_X1_lay, fun _ h => nomatch h⟩⟩⟩)) (by decide)
def zc_X1_readSteps : zCD := [(0, .iconst 0, 1, 0), (1, .istore_n 2, 2, 0), (2, .iload_n 2, 3, 0), (3, .bipush 30, 5, 0), (5, .if_icmp .gt 49, 8, 54), (8, .aload_n 0, 9, 0), (9, .invokevirtual 52, 12, 0), (12, .aload_n 0, 13, 0), (13, .getfield 28, 16, 0), (16, .aload_n 0, 17, 0), (17, .getfield 24, 20, 0), (20, .if_icmp .ge 16, 23, 36), (23, .aload_n 0, 24, 0), (24, .aload_n 0, 25, 0), (25, .getfield 28, 28, 0), (28, .invokevirtual 55, 31, 0), (31, .bipush 41, 33, 0), (33, .if_icmp .ne 5, 36, 38), (36, .iconst 1, 37, 0), (37, .ireturn, 38, 0), (38, .aload_n 0, 39, 0), (39, .iload_n 1, 40, 0), (40, .invokevirtual 59, 43, 0), (43, .ifCond .ne 5, 46, 48), (46, .iconst 0, 47, 0), (47, .ireturn, 48, 0), (48, .iinc 2 1, 51, 0), (51, .goto (-49), 54, 2), (54, .iconst 0, 55, 0), (55, .ireturn, 56, 0)]
def zk_X1_readSteps : List (Nat × List Nat) := [(2, [0, 1, 2])]
def zl_X1_readSteps (P : Nat → List zVV → zSG → Option zRR) : List (Nat × zCI) := [(52, (zF_X1_skipBlanks, 1, 0, 0, 0)), (55, (zF_X1_byteAt, 2, 1, 0, 0)), (59, ((P 1), 2, 1, 0, 0))]
def zM_X1_readSteps (P : Nat → List zVV → zSG → Option zRR) : zMI := (z_look zfl_X1, z_look (zl_X1_readSteps P), z_look zcs_X1, z_look zth_X1, 3, 2)
def zs_X1_readSteps : List (Nat × Nat × Nat × Nat) := [(2, 1, 0, 0), (0, 0, 0, 0)]
theorem zo_X1_readSteps : z_okc cX1_readSteps zc_X1_readSteps = true := by decide +kernel
theorem zv_X1_readSteps : z_kd [52, 55, 59] zc_X1_readSteps = true := by decide +kernel
def zc_X1_readStep : zCD := [(0, .aload_n 0, 1, 0), (1, .getfield 34, 4, 0), (4, .bipush 30, 6, 0), (6, .if_icmp .lt 5, 9, 11), (9, .iconst 0, 10, 0), (10, .ireturn, 11, 0), (11, .aload_n 0, 12, 0), (12, .getfield 34, 15, 0), (15, .istore_n 2, 16, 0), (16, .aload_n 0, 17, 0), (17, .dup, 18, 0), (18, .getfield 34, 21, 0), (21, .iconst 1, 22, 0), (22, .iadd, 23, 0), (23, .putfield 34, 26, 0), (26, .aload_n 0, 27, 0), (27, .ldc 62, 29, 0), (29, .invokevirtual 64, 32, 0), (32, .ifCond .eq 44, 35, 76), (35, .aload_n 0, 36, 0), (36, .iconst 0, 37, 0), (37, .invokevirtual 68, 40, 0), (40, .ifCond .eq 34, 43, 74), (43, .aload_n 0, 44, 0), (44, .iconst 0, 45, 0), (45, .invokevirtual 68, 48, 0), (48, .ifCond .eq 26, 51, 74), (51, .aload_n 0, 52, 0), (52, .bipush 59, 54, 0), (54, .invokevirtual 71, 57, 0), (57, .ifCond .eq 17, 60, 74), (60, .aload_n 0, 61, 0), (61, .bipush 11, 63, 0), (63, .iload_n 2, 64, 0), (64, .invokevirtual 75, 67, 0), (67, .ifCond .eq 7, 70, 74), (70, .iconst 1, 71, 0), (71, .goto 4, 74, 75), (74, .iconst 0, 75, 0), (75, .ireturn, 76, 0), (76, .aload_n 0, 77, 0), (77, .ldc 79, 79, 0), (79, .invokevirtual 64, 82, 0), (82, .ifCond .eq 36, 85, 118), (85, .aload_n 0, 86, 0), (86, .iconst 0, 87, 0), (87, .invokevirtual 81, 90, 0), (90, .ifCond .eq 26, 93, 116), (93, .aload_n 0, 94, 0), (94, .bipush 59, 96, 0), (96, .invokevirtual 71, 99, 0), (99, .ifCond .eq 17, 102, 116), (102, .aload_n 0, 103, 0), (103, .bipush 12, 105, 0), (105, .iload_n 2, 106, 0), (106, .invokevirtual 75, 109, 0), (109, .ifCond .eq 7, 112, 116), (112, .iconst 1, 113, 0), (113, .goto 4, 116, 117), (116, .iconst 0, 117, 0), (117, .ireturn, 118, 0), (118, .iload_n 1, 119, 0), (119, .bipush 6, 121, 0), (121, .if_icmp .ge 25, 124, 146), (124, .aload_n 0, 125, 0), (125, .ldc 84, 127, 0), (127, .invokevirtual 64, 130, 0), (130, .ifCond .eq 16, 133, 146), (133, .aload_n 0, 134, 0), (134, .iload_n 1, 135, 0), (135, .iload_n 2, 136, 0), (136, .invokevirtual 86, 139, 0), (139, .ifCond .eq 7, 142, 146), (142, .iconst 1, 143, 0), (143, .goto 4, 146, 147), (146, .iconst 0, 147, 0), (147, .ireturn, 148, 0)]
def zk_X1_readStep : List (Nat × List Nat) := []
def zl_X1_readStep (P : Nat → List zVV → zSG → Option zRR) : List (Nat × zCI) := [(64, (zF_X1_takeWord, 2, 1, 0, 0)), (68, ((zP1 40 1), 2, 1, 0, 0)), (71, (zF_X1_takeSign, 2, 1, 0, 0)), (75, (zF_X1_lay, 3, 1, 0, 0)), (81, ((zP1 40 2), 2, 1, 0, 0)), (86, ((P 2), 3, 1, 0, 0))]
def zM_X1_readStep (P : Nat → List zVV → zSG → Option zRR) : zMI := (z_look zfl_X1, z_look (zl_X1_readStep P), z_look zcs_X1, z_look zth_X1, 3, 2)
def zs_X1_readStep : List (Nat × Nat × Nat × Nat) := [(2, 1, 0, 0), (0, 0, 0, 0)]
theorem zo_X1_readStep : z_okc cX1_readStep zc_X1_readStep = true := by decide +kernel
theorem zv_X1_readStep : z_kd [64, 68, 71, 75, 81, 86] zc_X1_readStep = true := by decide +kernel
def zc_X1_readWhen : zCD := [(0, .aload_n 0, 1, 0), (1, .iconst 0, 2, 0), (2, .invokevirtual 81, 5, 0), (5, .ifCond .eq 12, 8, 17), (8, .aload_n 0, 9, 0), (9, .bipush 40, 11, 0), (11, .invokevirtual 71, 14, 0), (14, .ifCond .ne 5, 17, 19), (17, .iconst 0, 18, 0), (18, .ireturn, 19, 0), (19, .aload_n 0, 20, 0), (20, .getfield 31, 23, 0), (23, .istore_n 3, 24, 0), (24, .aload_n 0, 25, 0), (25, .bipush 13, 27, 0), (27, .iload_n 2, 28, 0), (28, .invokevirtual 75, 31, 0), (31, .ifCond .eq 22, 34, 53), (34, .aload_n 0, 35, 0), (35, .iload_n 1, 36, 0), (36, .iconst 1, 37, 0), (37, .iadd, 38, 0), (38, .invokevirtual 37, 41, 0), (41, .ifCond .eq 12, 44, 53), (44, .aload_n 0, 45, 0), (45, .bipush 41, 47, 0), (47, .invokevirtual 71, 50, 0), (50, .ifCond .ne 5, 53, 55), (53, .iconst 0, 54, 0), (54, .ireturn, 55, 0), (55, .aload_n 0, 56, 0), (56, .getfield 9, 59, 0), (59, .iload_n 3, 60, 0), (60, .dup2, 61, 0), (61, .iaload, 62, 0), (62, .aload_n 0, 63, 0), (63, .getfield 31, 66, 0), (66, .bipush 9, 68, 0), (68, .ishl, 69, 0), (69, .ior, 70, 0), (70, .iastore, 71, 0), (71, .iconst 1, 72, 0), (72, .ireturn, 73, 0)]
def zk_X1_readWhen : List (Nat × List Nat) := []
def zl_X1_readWhen (P : Nat → List zVV → zSG → Option zRR) : List (Nat × zCI) := [(81, ((zP1 40 2), 2, 1, 0, 0)), (71, (zF_X1_takeSign, 2, 1, 0, 0)), (75, (zF_X1_lay, 3, 1, 0, 0)), (37, ((P 0), 2, 1, 0, 0))]
def zM_X1_readWhen (P : Nat → List zVV → zSG → Option zRR) : zMI := (z_look zfl_X1, z_look (zl_X1_readWhen P), z_look zcs_X1, z_look zth_X1, 4, 2)
def zs_X1_readWhen : List (Nat × Nat × Nat × Nat) := [(2, 1, 0, 0), (0, 0, 0, 0), (0, 0, 0, 0)]
theorem zo_X1_readWhen : z_okc cX1_readWhen zc_X1_readWhen = true := by decide +kernel
theorem zv_X1_readWhen : z_kd [81, 71, 75, 37] zc_X1_readWhen = true := by decide +kernel
def zS1 : Nat → Nat → List zVV → zSG → Option zRR
  | 0, _, _, _ => none
  | d + 1, w, vs, g => match w with
    | 0 => z_fn zs_X1_readSteps (zM_X1_readSteps (fun w vs g => zS1 d w vs g)) zc_X1_readSteps zk_X1_readSteps (0, 0) vs g
    | 1 => z_fn zs_X1_readStep (zM_X1_readStep (fun w vs g => zS1 d w vs g)) zc_X1_readStep zk_X1_readStep (0, 0) vs g
    | _ => z_fn zs_X1_readWhen (zM_X1_readWhen (fun w vs g => zS1 d w vs g)) zc_X1_readWhen zk_X1_readWhen (0, 0) vs g
theorem zS1_0 (d : Nat) : zS1 (d + 1) 0 = z_fn zs_X1_readSteps (zM_X1_readSteps (zS1 d)) zc_X1_readSteps zk_X1_readSteps (0, 0) := rfl
theorem zS1_1 (d : Nat) : zS1 (d + 1) 1 = z_fn zs_X1_readStep (zM_X1_readStep (zS1 d)) zc_X1_readStep zk_X1_readStep (0, 0) := rfl
theorem zS1_2 (d : Nat) : zS1 (d + 1) 2 = z_fn zs_X1_readWhen (zM_X1_readWhen (zS1 d)) zc_X1_readWhen zk_X1_readWhen (0, 0) := rfl
theorem zr_X1_readSteps : ∀ d vs g r, zS1 d 0 vs g = some r → ∃ i rv, vs = .inr (.inl (1, i, 0)) :: rv ∧ i < z_ni 1 := by
  intro d vs g r h
  cases d with
  | zero => cases h
  | succ d => rw [zS1_0] at h; exact z_chk_rec (z_fn_chk (sh := zs_X1_readSteps) h).1 (Or.inl ⟨rfl, by decide⟩)
theorem zr_X1_readStep : ∀ d vs g r, zS1 d 1 vs g = some r → ∃ i rv, vs = .inr (.inl (1, i, 0)) :: rv ∧ i < z_ni 1 := by
  intro d vs g r h
  cases d with
  | zero => cases h
  | succ d => rw [zS1_1] at h; exact z_chk_rec (z_fn_chk (sh := zs_X1_readStep) h).1 (Or.inl ⟨rfl, by decide⟩)
theorem zr_X1_readWhen : ∀ d vs g r, zS1 d 2 vs g = some r → ∃ i rv, vs = .inr (.inl (1, i, 0)) :: rv ∧ i < z_ni 1 := by
  intro d vs g r h
  cases d with
  | zero => cases h
  | succ d => rw [zS1_2] at h; exact z_chk_rec (z_fn_chk (sh := zs_X1_readWhen) h).1 (Or.inl ⟨rfl, by decide⟩)
set_option maxRecDepth 20000 in
theorem zt_zS1 (l : Launch) : ∀ d : Nat, zCt l yX1_readSteps cX1_readSteps 3 (some .boolean) (zrm (48 + d) 0 0) (zS1 d 0) ∧ zCt l yX1_readStep cX1_readStep 3 (some .boolean) (zrm (48 + d) 0 0) (zS1 d 1) ∧ zCt l yX1_readWhen cX1_readWhen 4 (some .boolean) (zrm (48 + d) 0 0) (zS1 d 2) := by
  intro d
  induction d with
  | zero => exact ⟨z_none (fun _ _ => rfl), z_none (fun _ _ => rfl), z_none (fun _ _ => rfl)⟩
  | succ d ih =>
    obtain ⟨ih0, ih1, ih2⟩ := ih
    refine ⟨?_, ?_, ?_⟩
    · rw [zS1_0]
      exact z_ct (own := RX1) (sh := zs_X1_readSteps) (M := zM_X1_readSteps (zS1 d)) (cd := zc_X1_readSteps) (cut := zk_X1_readSteps) (by decide +kernel) rfl rfl rfl (z_fl_all zfl_X1_ok) (z_cs_all zcs_X1_ok) zo_X1_readSteps z_nothr (z_hcal (L := zl_X1_readSteps (zS1 d)) zv_X1_readSteps (List.forall_mem_cons.mpr ⟨z_calV (l := l) (j := 52) (C := RX1) (cn := 1) (T := TX1) (N := 6) (zt_X1_skipBlanks l) (by decide +kernel) (by decide +kernel) rfl ⟨by decide +kernel, by decide +kernel, by decide +kernel⟩ (z_room (by omega) (by decide)) rfl zr_X1_skipBlanks, List.forall_mem_cons.mpr ⟨z_calV (l := l) (j := 55) (C := RX1) (cn := 1) (T := TX1) (N := 6) (zt_X1_byteAt l) (by decide +kernel) (by decide +kernel) rfl ⟨by decide +kernel, by decide +kernel, by decide +kernel⟩ (z_room (by omega) (by decide)) rfl zr_X1_byteAt, List.forall_mem_cons.mpr ⟨z_calV (l := l) (j := 59) (C := RX1) (cn := 1) (T := TX1) (N := 6) ih1 (by decide +kernel) (by decide +kernel) rfl ⟨by decide +kernel, by decide +kernel, by decide +kernel⟩ (z_room (by omega) (by decide)) rfl (zr_X1_readStep d), fun _ h => nomatch h⟩⟩⟩)) (by decide)
    · rw [zS1_1]
      exact z_ct (own := RX1) (sh := zs_X1_readStep) (M := zM_X1_readStep (zS1 d)) (cd := zc_X1_readStep) (cut := zk_X1_readStep) (by decide +kernel) rfl rfl rfl (z_fl_all zfl_X1_ok) (z_cs_all zcs_X1_ok) zo_X1_readStep z_nothr (z_hcal (L := zl_X1_readStep (zS1 d)) zv_X1_readStep (List.forall_mem_cons.mpr ⟨z_calV (l := l) (j := 64) (C := RX1) (cn := 1) (T := TX1) (N := 6) (zt_X1_takeWord l) (by decide +kernel) (by decide +kernel) rfl ⟨by decide +kernel, by decide +kernel, by decide +kernel⟩ (z_room (by omega) (by decide)) rfl zr_X1_takeWord, List.forall_mem_cons.mpr ⟨z_calV (l := l) (j := 68) (C := RX1) (cn := 1) (T := TX1) (N := 6) (zt_zP1 l 40).2.1 (by decide +kernel) (by decide +kernel) rfl ⟨by decide +kernel, by decide +kernel, by decide +kernel⟩ (z_room (by omega) (by decide)) rfl (zr_X1_readSum 40), List.forall_mem_cons.mpr ⟨z_calV (l := l) (j := 71) (C := RX1) (cn := 1) (T := TX1) (N := 6) (zt_X1_takeSign l) (by decide +kernel) (by decide +kernel) rfl ⟨by decide +kernel, by decide +kernel, by decide +kernel⟩ (z_room (by omega) (by decide)) rfl zr_X1_takeSign, List.forall_mem_cons.mpr ⟨z_calV (l := l) (j := 75) (C := RX1) (cn := 1) (T := TX1) (N := 6) (zt_X1_lay l) (by decide +kernel) (by decide +kernel) rfl ⟨by decide +kernel, by decide +kernel, by decide +kernel⟩ (z_room (by omega) (by decide)) rfl zr_X1_lay, List.forall_mem_cons.mpr ⟨z_calV (l := l) (j := 81) (C := RX1) (cn := 1) (T := TX1) (N := 6) (zt_zP1 l 40).2.2 (by decide +kernel) (by decide +kernel) rfl ⟨by decide +kernel, by decide +kernel, by decide +kernel⟩ (z_room (by omega) (by decide)) rfl (zr_X1_readCompare 40), List.forall_mem_cons.mpr ⟨z_calV (l := l) (j := 86) (C := RX1) (cn := 1) (T := TX1) (N := 6) ih2 (by decide +kernel) (by decide +kernel) rfl ⟨by decide +kernel, by decide +kernel, by decide +kernel⟩ (z_room (by omega) (by decide)) rfl (zr_X1_readWhen d), fun _ h => nomatch h⟩⟩⟩⟩⟩⟩)) (by decide)
    · rw [zS1_2]
      exact z_ct (own := RX1) (sh := zs_X1_readWhen) (M := zM_X1_readWhen (zS1 d)) (cd := zc_X1_readWhen) (cut := zk_X1_readWhen) (by decide +kernel) rfl rfl rfl (z_fl_all zfl_X1_ok) (z_cs_all zcs_X1_ok) zo_X1_readWhen z_nothr (z_hcal (L := zl_X1_readWhen (zS1 d)) zv_X1_readWhen (List.forall_mem_cons.mpr ⟨z_calV (l := l) (j := 81) (C := RX1) (cn := 1) (T := TX1) (N := 6) (zt_zP1 l 40).2.2 (by decide +kernel) (by decide +kernel) rfl ⟨by decide +kernel, by decide +kernel, by decide +kernel⟩ (z_room (by omega) (by decide)) rfl (zr_X1_readCompare 40), List.forall_mem_cons.mpr ⟨z_calV (l := l) (j := 71) (C := RX1) (cn := 1) (T := TX1) (N := 6) (zt_X1_takeSign l) (by decide +kernel) (by decide +kernel) rfl ⟨by decide +kernel, by decide +kernel, by decide +kernel⟩ (z_room (by omega) (by decide)) rfl zr_X1_takeSign, List.forall_mem_cons.mpr ⟨z_calV (l := l) (j := 75) (C := RX1) (cn := 1) (T := TX1) (N := 6) (zt_X1_lay l) (by decide +kernel) (by decide +kernel) rfl ⟨by decide +kernel, by decide +kernel, by decide +kernel⟩ (z_room (by omega) (by decide)) rfl zr_X1_lay, List.forall_mem_cons.mpr ⟨z_calV (l := l) (j := 37) (C := RX1) (cn := 1) (T := TX1) (N := 6) ih0 (by decide +kernel) (by decide +kernel) rfl ⟨by decide +kernel, by decide +kernel, by decide +kernel⟩ (z_room (by omega) (by decide)) rfl (zr_X1_readSteps d), fun _ h => nomatch h⟩⟩⟩⟩)) (by decide)
def zc_X1_understands : zCD := [(0, .aload_n 0, 1, 0), (1, .aload_n 1, 2, 0), (2, .putfield 15, 5, 0), (5, .aload_n 0, 6, 0), (6, .iload_n 2, 7, 0), (7, .aload_n 1, 8, 0), (8, .arraylength, 9, 0), (9, .invokestatic 18, 12, 0), (12, .putfield 24, 15, 0), (15, .aload_n 0, 16, 0), (16, .iconst 0, 17, 0), (17, .putfield 28, 20, 0), (20, .aload_n 0, 21, 0), (21, .iconst 0, 22, 0), (22, .putfield 31, 25, 0), (25, .aload_n 0, 26, 0), (26, .iconst 0, 27, 0), (27, .putfield 34, 30, 0), (30, .aload_n 0, 31, 0), (31, .iconst 0, 32, 0), (32, .invokevirtual 37, 35, 0), (35, .ifCond .eq 18, 38, 53), (38, .aload_n 0, 39, 0), (39, .getfield 28, 42, 0), (42, .aload_n 0, 43, 0), (43, .getfield 24, 46, 0), (46, .if_icmp .lt 7, 49, 53), (49, .iconst 1, 50, 0), (50, .goto 4, 53, 54), (53, .iconst 0, 54, 0), (54, .ireturn, 55, 0)]
def zk_X1_understands : List (Nat × List Nat) := []
def zl_X1_understands : List (Nat × zCI) := [(18, (zF_min, 2, 1, 0, 0)), (37, ((zS1 24 0), 2, 1, 0, 0))]
def zM_X1_understands : zMI := (z_look zfl_X1, z_look zl_X1_understands, z_look zcs_X1, z_look zth_X1, 3, 2)
def zs_X1_understands : List (Nat × Nat × Nat × Nat) := [(2, 1, 0, 0), (2, 0, 0, 1), (0, 0, 0, 0)]
def zF_X1_understands : List zVV → zSG → Option zRR := z_fn zs_X1_understands zM_X1_understands zc_X1_understands zk_X1_understands (0, 0)
theorem zo_X1_understands : z_okc cX1_understands zc_X1_understands = true := by decide +kernel
theorem zv_X1_understands : z_kd [37] zc_X1_understands = true := by decide +kernel
set_option maxRecDepth 20000 in
theorem zt_X1_understands (l : Launch) : zCt l yX1_understands cX1_understands 3 (some .boolean) (zrm 73 0 0) zF_X1_understands := z_ct (own := RX1) (sh := zs_X1_understands) (M := zM_X1_understands) (cd := zc_X1_understands) (cut := zk_X1_understands) (by decide +kernel) rfl rfl rfl (z_fl_all zfl_X1_ok) (z_cs_all zcs_X1_ok) zo_X1_understands z_nothr (z_hcal (L := zl_X1_understands) zv_X1_understands (List.forall_mem_cons.mpr ⟨z_calMin (l := l) (j := 18) (by decide +kernel) (by decide) (by decide), List.forall_mem_cons.mpr ⟨z_calV (l := l) (j := 37) (C := RX1) (cn := 1) (T := TX1) (N := 6) (zt_zS1 l 24).1 (by decide +kernel) (by decide +kernel) rfl ⟨by decide +kernel, by decide +kernel, by decide +kernel⟩ (z_room (by omega) (by decide)) rfl (zr_X1_readSteps 24), fun _ h => nomatch h⟩⟩)) (by decide)
theorem zr_X1_understands : ∀ vs g r, zF_X1_understands vs g = some r → ∃ i rv, vs = .inr (.inl (1, i, 0)) :: rv ∧ i < z_ni 1 := fun vs g r h => z_chk_rec (z_fn_chk (sh := zs_X1_understands) h).1 (Or.inl ⟨rfl, by decide⟩)
end
section
theorem z_fn_ok {sh : List (Nat × Nat × Nat × Nat)} {M : zMI} {cd : zCD} {cut : List (Nat × List Nat)} {b : Nat × Nat} {vs : List zVV} {lc : zLC} {g : zSG} (h : z_chk sh vs = true) (ha : z_args 0 vs = lc) : z_fn sh M cd cut b vs g = z_run M cd cut 100000 0 lc g b := by
  unfold z_fn
  rw [h, ha]
  rfl
set_option maxRecDepth 400000 in
set_option maxHeartbeats 4000000 in
theorem zu_J6_bitCount_0f7a4_0 (n : Nat) (x0 : Int32)  (g : zSG) : z_run zM_J6_bitCount_0f7a4 zc_J6_bitCount_0f7a4 zk_J6_bitCount_0f7a4 (n + 1) 0 [(0, .inl x0)] g (0, 0) = some (.inl (some (.inl ((((((((x0 - (((x0.toUInt32 >>> ((1 : Int32).toUInt32 &&& Int32.toUInt32 31)).toInt32) &&& (1431655765 : Int32))) &&& (858993459 : Int32)) + ((((x0 - (((x0.toUInt32 >>> ((1 : Int32).toUInt32 &&& Int32.toUInt32 31)).toInt32) &&& (1431655765 : Int32))).toUInt32 >>> ((2 : Int32).toUInt32 &&& Int32.toUInt32 31)).toInt32) &&& (858993459 : Int32))) + (((((x0 - (((x0.toUInt32 >>> ((1 : Int32).toUInt32 &&& Int32.toUInt32 31)).toInt32) &&& (1431655765 : Int32))) &&& (858993459 : Int32)) + ((((x0 - (((x0.toUInt32 >>> ((1 : Int32).toUInt32 &&& Int32.toUInt32 31)).toInt32) &&& (1431655765 : Int32))).toUInt32 >>> ((2 : Int32).toUInt32 &&& Int32.toUInt32 31)).toInt32) &&& (858993459 : Int32))).toUInt32 >>> ((4 : Int32).toUInt32 &&& Int32.toUInt32 31)).toInt32)) &&& (252645135 : Int32)) + (((((((x0 - (((x0.toUInt32 >>> ((1 : Int32).toUInt32 &&& Int32.toUInt32 31)).toInt32) &&& (1431655765 : Int32))) &&& (858993459 : Int32)) + ((((x0 - (((x0.toUInt32 >>> ((1 : Int32).toUInt32 &&& Int32.toUInt32 31)).toInt32) &&& (1431655765 : Int32))).toUInt32 >>> ((2 : Int32).toUInt32 &&& Int32.toUInt32 31)).toInt32) &&& (858993459 : Int32))) + (((((x0 - (((x0.toUInt32 >>> ((1 : Int32).toUInt32 &&& Int32.toUInt32 31)).toInt32) &&& (1431655765 : Int32))) &&& (858993459 : Int32)) + ((((x0 - (((x0.toUInt32 >>> ((1 : Int32).toUInt32 &&& Int32.toUInt32 31)).toInt32) &&& (1431655765 : Int32))).toUInt32 >>> ((2 : Int32).toUInt32 &&& Int32.toUInt32 31)).toInt32) &&& (858993459 : Int32))).toUInt32 >>> ((4 : Int32).toUInt32 &&& Int32.toUInt32 31)).toInt32)) &&& (252645135 : Int32)).toUInt32 >>> ((8 : Int32).toUInt32 &&& Int32.toUInt32 31)).toInt32)) + ((((((((x0 - (((x0.toUInt32 >>> ((1 : Int32).toUInt32 &&& Int32.toUInt32 31)).toInt32) &&& (1431655765 : Int32))) &&& (858993459 : Int32)) + ((((x0 - (((x0.toUInt32 >>> ((1 : Int32).toUInt32 &&& Int32.toUInt32 31)).toInt32) &&& (1431655765 : Int32))).toUInt32 >>> ((2 : Int32).toUInt32 &&& Int32.toUInt32 31)).toInt32) &&& (858993459 : Int32))) + (((((x0 - (((x0.toUInt32 >>> ((1 : Int32).toUInt32 &&& Int32.toUInt32 31)).toInt32) &&& (1431655765 : Int32))) &&& (858993459 : Int32)) + ((((x0 - (((x0.toUInt32 >>> ((1 : Int32).toUInt32 &&& Int32.toUInt32 31)).toInt32) &&& (1431655765 : Int32))).toUInt32 >>> ((2 : Int32).toUInt32 &&& Int32.toUInt32 31)).toInt32) &&& (858993459 : Int32))).toUInt32 >>> ((4 : Int32).toUInt32 &&& Int32.toUInt32 31)).toInt32)) &&& (252645135 : Int32)) + (((((((x0 - (((x0.toUInt32 >>> ((1 : Int32).toUInt32 &&& Int32.toUInt32 31)).toInt32) &&& (1431655765 : Int32))) &&& (858993459 : Int32)) + ((((x0 - (((x0.toUInt32 >>> ((1 : Int32).toUInt32 &&& Int32.toUInt32 31)).toInt32) &&& (1431655765 : Int32))).toUInt32 >>> ((2 : Int32).toUInt32 &&& Int32.toUInt32 31)).toInt32) &&& (858993459 : Int32))) + (((((x0 - (((x0.toUInt32 >>> ((1 : Int32).toUInt32 &&& Int32.toUInt32 31)).toInt32) &&& (1431655765 : Int32))) &&& (858993459 : Int32)) + ((((x0 - (((x0.toUInt32 >>> ((1 : Int32).toUInt32 &&& Int32.toUInt32 31)).toInt32) &&& (1431655765 : Int32))).toUInt32 >>> ((2 : Int32).toUInt32 &&& Int32.toUInt32 31)).toInt32) &&& (858993459 : Int32))).toUInt32 >>> ((4 : Int32).toUInt32 &&& Int32.toUInt32 31)).toInt32)) &&& (252645135 : Int32)).toUInt32 >>> ((8 : Int32).toUInt32 &&& Int32.toUInt32 31)).toInt32)).toUInt32 >>> ((16 : Int32).toUInt32 &&& Int32.toUInt32 31)).toInt32)) &&& (63 : Int32)))), g) := rfl
theorem ze_J6_bitCount_0f7a4 (x0 : Int32)  (g : zSG) : zF_J6_bitCount_0f7a4 [.inl x0] g = z_run zM_J6_bitCount_0f7a4 zc_J6_bitCount_0f7a4 zk_J6_bitCount_0f7a4 100000 0 [(0, .inl x0)] g (0, 0) := z_fn_ok (sh := zs_J6_bitCount_0f7a4) (vs := [.inl x0]) (rfl) rfl
set_option maxRecDepth 400000 in
set_option maxHeartbeats 4000000 in
theorem zu_J7_fill_53178_0 (n : Nat) (x1 : Int32) (r : Nat) (hr : r < 4) (g : zSG) : z_run zM_J7_fill_53178 zc_J7_fill_53178 zk_J7_fill_53178 (n + 1) 0 [(0, .inr (.inl (4, r, 8))), (1, .inl x1)] g (0, 0) = z_run zM_J7_fill_53178 zc_J7_fill_53178 zk_J7_fill_53178 n 5 [(0, .inr (.inl (4, r, 8))), (1, .inl x1), (2, .inl (0 : Int32)), (3, .inl (4 : Int32))] g (0, 0) := match r, hr with | 0, _ => rfl | 1, _ => rfl | 2, _ => rfl | 3, _ => rfl | k + 4, h => absurd h (by omega)
set_option maxRecDepth 400000 in
set_option maxHeartbeats 4000000 in
theorem zu_J7_fill_53178_5 (n : Nat) (x1 : Int32) (x2 : Int32) (x3 : Int32) (r : Nat) (hr : r < 4) (g : zSG) : z_run zM_J7_fill_53178 zc_J7_fill_53178 zk_J7_fill_53178 (n + 1) 5 [(0, .inr (.inl (4, r, 8))), (1, .inl x1), (2, .inl x2), (3, .inl x3)] g (0, 0) = (if x3 ≤ x2 then some (.inl none, g) else (if z_inb x2 4 then z_run zM_J7_fill_53178 zc_J7_fill_53178 zk_J7_fill_53178 n 5 [(0, .inr (.inl (4, r, 8))), (1, .inl x1), (2, .inl (x2 + (1 : Int32))), (3, .inl x3)] (z_gA g 4 r 7 (upd ((g 4 r).2 7) (x2).toNatClampNeg x1)) (0, 0) else none)) := match r, hr with | 0, _ => rfl | 1, _ => rfl | 2, _ => rfl | 3, _ => rfl | k + 4, h => absurd h (by omega)
theorem ze_J7_fill_53178 (x1 : Int32) (r : Nat) (hr : r < 4) (g : zSG) : zF_J7_fill_53178 [.inr (.inl (4, r, 8)), .inl x1] g = z_run zM_J7_fill_53178 zc_J7_fill_53178 zk_J7_fill_53178 100000 0 [(0, .inr (.inl (4, r, 8))), (1, .inl x1)] g (0, 0) := z_fn_ok (sh := zs_J7_fill_53178) (vs := [.inr (.inl (4, r, 8)), .inl x1]) (match r, hr with | 0, _ => rfl | 1, _ => rfl | 2, _ => rfl | 3, _ => rfl | k + 4, h => absurd h (by omega)) rfl
set_option maxRecDepth 400000 in
set_option maxHeartbeats 4000000 in
theorem zu_X2_mark_0 (n : Nat)  (r : Nat) (hr : r < 4) (g : zSG) : z_run zM_X2_mark zc_X2_mark zk_X2_mark (n + 1) 0 [(0, .inr (.inl (4, r, 0)))] g (0, 0) = (z_bV (zF_acp [.inr (.inl (4, r, 1)), .inl (0 : Int32), .inr (.inl (4, r, 11)), .inl (0 : Int32), .inl (8 : Int32)] g) (fun g1 => some (.inl none, (z_gI g1 4 r 12 ((g1 4 r).1 13))))) := match r, hr with | 0, _ => rfl | 1, _ => rfl | 2, _ => rfl | 3, _ => rfl | k + 4, h => absurd h (by omega)
theorem ze_X2_mark  (r : Nat) (hr : r < 4) (g : zSG) : zF_X2_mark [.inr (.inl (4, r, 0))] g = z_run zM_X2_mark zc_X2_mark zk_X2_mark 100000 0 [(0, .inr (.inl (4, r, 0)))] g (0, 0) := z_fn_ok (sh := zs_X2_mark) (vs := [.inr (.inl (4, r, 0))]) (match r, hr with | 0, _ => rfl | 1, _ => rfl | 2, _ => rfl | 3, _ => rfl | k + 4, h => absurd h (by omega)) rfl
set_option maxRecDepth 400000 in
set_option maxHeartbeats 4000000 in
theorem zu_X2_backToMark_0 (n : Nat)  (r : Nat) (hr : r < 4) (g : zSG) : z_run zM_X2_backToMark zc_X2_backToMark zk_X2_backToMark (n + 1) 0 [(0, .inr (.inl (4, r, 0)))] g (0, 0) = (z_bV (zF_acp [.inr (.inl (4, r, 11)), .inl (0 : Int32), .inr (.inl (4, r, 1)), .inl (0 : Int32), .inl (8 : Int32)] g) (fun g1 => some (.inl none, (z_gI g1 4 r 13 ((g1 4 r).1 12))))) := match r, hr with | 0, _ => rfl | 1, _ => rfl | 2, _ => rfl | 3, _ => rfl | k + 4, h => absurd h (by omega)
theorem ze_X2_backToMark  (r : Nat) (hr : r < 4) (g : zSG) : zF_X2_backToMark [.inr (.inl (4, r, 0))] g = z_run zM_X2_backToMark zc_X2_backToMark zk_X2_backToMark 100000 0 [(0, .inr (.inl (4, r, 0)))] g (0, 0) := z_fn_ok (sh := zs_X2_backToMark) (vs := [.inr (.inl (4, r, 0))]) (match r, hr with | 0, _ => rfl | 1, _ => rfl | 2, _ => rfl | 3, _ => rfl | k + 4, h => absurd h (by omega)) rfl
set_option maxRecDepth 400000 in
set_option maxHeartbeats 4000000 in
theorem zu_X2_has_0 (n : Nat) (x1 : Int32) (x2 : Int32) (r : Nat) (hr : r < 4) (g : zSG) : z_run zM_X2_has zc_X2_has zk_X2_has (n + 1) 0 [(0, .inr (.inl (4, r, 0))), (1, .inl x1), (2, .inl x2)] g (0, 0) = (if z_inb x1 30 then (if ((g 4 r).2 6 (x1).toNatClampNeg) = 0 then (if (0 : Int32) = 0 ∨ (0 : Int32) = 1 then some (.inl (some (.inl (0 : Int32))), g) else none) else (if x2 < 0 then (if (0 : Int32) = 0 ∨ (0 : Int32) = 1 then some (.inl (some (.inl (0 : Int32))), g) else none) else (if z_inb x1 30 then (if ((g 4 r).2 2 (x1).toNatClampNeg) ≤ x2 then (if (0 : Int32) = 0 ∨ (0 : Int32) = 1 then some (.inl (some (.inl (0 : Int32))), g) else none) else (if (1 : Int32) = 0 ∨ (1 : Int32) = 1 then some (.inl (some (.inl (1 : Int32))), g) else none)) else none))) else none) := match r, hr with | 0, _ => rfl | 1, _ => rfl | 2, _ => rfl | 3, _ => rfl | k + 4, h => absurd h (by omega)
theorem ze_X2_has (x1 : Int32) (x2 : Int32) (r : Nat) (hr : r < 4) (g : zSG) : zF_X2_has [.inr (.inl (4, r, 0)), .inl x1, .inl x2] g = z_run zM_X2_has zc_X2_has zk_X2_has 100000 0 [(0, .inr (.inl (4, r, 0))), (1, .inl x1), (2, .inl x2)] g (0, 0) := z_fn_ok (sh := zs_X2_has) (vs := [.inr (.inl (4, r, 0)), .inl x1, .inl x2]) (match r, hr with | 0, _ => rfl | 1, _ => rfl | 2, _ => rfl | 3, _ => rfl | k + 4, h => absurd h (by omega)) rfl
set_option maxRecDepth 400000 in
set_option maxHeartbeats 4000000 in
theorem zu_X2_join_0 (n : Nat) (x0 : Int32) (x1 : Int32) (x2 : Int32)  (g : zSG) : z_run zM_X2_join zc_X2_join zk_X2_join (n + 1) 0 [(0, .inl x0), (1, .inl x1), (2, .inl x2)] g (0, 0) = (if x0.toInt = 6 then some (.inl (some (.inl (x1 + x2))), g) else (if x0.toInt = 7 then some (.inl (some (.inl (x1 - x2))), g) else (if x0.toInt = 8 then some (.inl (some (.inl (x1 * x2))), g) else (if x0.toInt = 9 then (if x2 ≤ x1 then some (.inl (some (.inl (0 : Int32))), g) else some (.inl (some (.inl (1 : Int32))), g)) else (if x1 = x2 then some (.inl (some (.inl (1 : Int32))), g) else some (.inl (some (.inl (0 : Int32))), g)))))) := rfl
theorem ze_X2_join (x0 : Int32) (x1 : Int32) (x2 : Int32)  (g : zSG) : zF_X2_join [.inl x0, .inl x1, .inl x2] g = z_run zM_X2_join zc_X2_join zk_X2_join 100000 0 [(0, .inl x0), (1, .inl x1), (2, .inl x2)] g (0, 0) := z_fn_ok (sh := zs_X2_join) (vs := [.inl x0, .inl x1, .inl x2]) (rfl) rfl
set_option maxRecDepth 400000 in
set_option maxHeartbeats 4000000 in
theorem zu_X2_read_0 (n : Nat) (x1 : Int32) (r : Nat) (hr : r < 4) (g : zSG) : z_run zM_X2_read zc_X2_read zk_X2_read (n + 1) 0 [(0, .inr (.inl (4, r, 0))), (1, .inl x1)] g (0, 0) = (if z_inb ((g 4 r).1 15) 30 then (if z_inb ((g 4 r).1 15) 30 then (if z_inb (x1 &&& (7 : Int32)) 8 then some (.inl (some (.inl ((g 4 r).2 0 (x1 &&& (7 : Int32)).toNatClampNeg))), (z_gA g 4 r 3 (upd ((g 4 r).2 3) ((g 4 r).1 15).toNatClampNeg (((g 4 r).2 3 ((g 4 r).1 15).toNatClampNeg) ||| ((1 : Int32) <<< ((x1 &&& (7 : Int32)) &&& 31)))))) else none) else none) else none) := match r, hr with | 0, _ => rfl | 1, _ => rfl | 2, _ => rfl | 3, _ => rfl | k + 4, h => absurd h (by omega)
theorem ze_X2_read (x1 : Int32) (r : Nat) (hr : r < 4) (g : zSG) : zF_X2_read [.inr (.inl (4, r, 0)), .inl x1] g = z_run zM_X2_read zc_X2_read zk_X2_read 100000 0 [(0, .inr (.inl (4, r, 0))), (1, .inl x1)] g (0, 0) := z_fn_ok (sh := zs_X2_read) (vs := [.inr (.inl (4, r, 0)), .inl x1]) (match r, hr with | 0, _ => rfl | 1, _ => rfl | 2, _ => rfl | 3, _ => rfl | k + 4, h => absurd h (by omega)) rfl
set_option maxRecDepth 400000 in
set_option maxHeartbeats 4000000 in
theorem zu_X2_write_0 (n : Nat) (x1 : Int32) (x2 : Int32) (r : Nat) (hr : r < 4) (g : zSG) : z_run zM_X2_write zc_X2_write zk_X2_write (n + 1) 0 [(0, .inr (.inl (4, r, 0))), (1, .inl x1), (2, .inl x2)] g (0, 0) = (if z_inb ((g 4 r).1 15) 30 then (if z_inb ((g 4 r).1 15) 30 then (if z_inb (x1 &&& (7 : Int32)) 8 then some (.inl none, (z_gA (z_gA g 4 r 4 (upd ((g 4 r).2 4) ((g 4 r).1 15).toNatClampNeg (((g 4 r).2 4 ((g 4 r).1 15).toNatClampNeg) ||| ((1 : Int32) <<< ((x1 &&& (7 : Int32)) &&& 31))))) 4 r 0 (upd ((g 4 r).2 0) (x1 &&& (7 : Int32)).toNatClampNeg x2))) else none) else none) else none) := match r, hr with | 0, _ => rfl | 1, _ => rfl | 2, _ => rfl | 3, _ => rfl | k + 4, h => absurd h (by omega)
theorem ze_X2_write (x1 : Int32) (x2 : Int32) (r : Nat) (hr : r < 4) (g : zSG) : zF_X2_write [.inr (.inl (4, r, 0)), .inl x1, .inl x2] g = z_run zM_X2_write zc_X2_write zk_X2_write 100000 0 [(0, .inr (.inl (4, r, 0))), (1, .inl x1), (2, .inl x2)] g (0, 0) := z_fn_ok (sh := zs_X2_write) (vs := [.inr (.inl (4, r, 0)), .inl x1, .inl x2]) (match r, hr with | 0, _ => rfl | 1, _ => rfl | 2, _ => rfl | 3, _ => rfl | k + 4, h => absurd h (by omega)) rfl
set_option maxRecDepth 400000 in
set_option maxHeartbeats 4000000 in
theorem zu_X2_answer_0 (n : Nat) (x1 : Int32) (r : Nat) (hr : r < 4) (g : zSG) : z_run zM_X2_answer zc_X2_answer zk_X2_answer (n + 1) 0 [(0, .inr (.inl (4, r, 0))), (1, .inl x1)] g (0, 0) = (if z_inb ((g 4 r).1 15) 30 then (if (8 : Int32) ≤ ((g 4 r).2 2 ((g 4 r).1 15).toNatClampNeg) then some (.inl none, g) else (if z_inb ((g 4 r).1 15) 30 then (if z_inb ((((g 4 r).1 15) * (8 : Int32)) + ((g 4 r).2 2 ((g 4 r).1 15).toNatClampNeg)) 240 then (if z_inb ((g 4 r).1 15) 30 then (if z_inb ((g 4 r).1 15) 30 then some (.inl none, (z_gA (z_gA g 4 r 1 (upd ((g 4 r).2 1) ((((g 4 r).1 15) * (8 : Int32)) + ((g 4 r).2 2 ((g 4 r).1 15).toNatClampNeg)).toNatClampNeg x1)) 4 r 2 (upd ((g 4 r).2 2) ((g 4 r).1 15).toNatClampNeg (((g 4 r).2 2 ((g 4 r).1 15).toNatClampNeg) + (1 : Int32))))) else none) else none) else none) else none)) else none) := match r, hr with | 0, _ => rfl | 1, _ => rfl | 2, _ => rfl | 3, _ => rfl | k + 4, h => absurd h (by omega)
theorem ze_X2_answer (x1 : Int32) (r : Nat) (hr : r < 4) (g : zSG) : zF_X2_answer [.inr (.inl (4, r, 0)), .inl x1] g = z_run zM_X2_answer zc_X2_answer zk_X2_answer 100000 0 [(0, .inr (.inl (4, r, 0))), (1, .inl x1)] g (0, 0) := z_fn_ok (sh := zs_X2_answer) (vs := [.inr (.inl (4, r, 0)), .inl x1]) (match r, hr with | 0, _ => rfl | 1, _ => rfl | 2, _ => rfl | 3, _ => rfl | k + 4, h => absurd h (by omega)) rfl
set_option maxRecDepth 400000 in
set_option maxHeartbeats 4000000 in
theorem zu_X2_push_0 (n : Nat) (x1 : Int32) (r : Nat) (hr : r < 4) (g : zSG) : z_run zM_X2_push zc_X2_push zk_X2_push (n + 1) 0 [(0, .inr (.inl (4, r, 0))), (1, .inl x1)] g (0, 0) = (if (32 : Int32) ≤ ((g 4 r).1 14) then some (.inl none, g) else (if z_inb ((g 4 r).1 14) 32 then some (.inl none, (z_gI (z_gA g 4 r 11 (upd ((g 4 r).2 11) ((g 4 r).1 14).toNatClampNeg x1)) 4 r 14 (((g 4 r).1 14) + (1 : Int32)))) else none)) := match r, hr with | 0, _ => rfl | 1, _ => rfl | 2, _ => rfl | 3, _ => rfl | k + 4, h => absurd h (by omega)
theorem ze_X2_push (x1 : Int32) (r : Nat) (hr : r < 4) (g : zSG) : zF_X2_push [.inr (.inl (4, r, 0)), .inl x1] g = z_run zM_X2_push zc_X2_push zk_X2_push 100000 0 [(0, .inr (.inl (4, r, 0))), (1, .inl x1)] g (0, 0) := z_fn_ok (sh := zs_X2_push) (vs := [.inr (.inl (4, r, 0)), .inl x1]) (match r, hr with | 0, _ => rfl | 1, _ => rfl | 2, _ => rfl | 3, _ => rfl | k + 4, h => absurd h (by omega)) rfl
set_option maxRecDepth 400000 in
set_option maxHeartbeats 4000000 in
theorem zu_X2_pop_0 (n : Nat)  (r : Nat) (hr : r < 4) (g : zSG) : z_run zM_X2_pop zc_X2_pop zk_X2_pop (n + 1) 0 [(0, .inr (.inl (4, r, 0)))] g (0, 0) = (if 0 < ((g 4 r).1 14) then (if z_inb (((g 4 r).1 14) - (1 : Int32)) 32 then some (.inl (some (.inl ((g 4 r).2 11 (((g 4 r).1 14) - (1 : Int32)).toNatClampNeg))), (z_gI g 4 r 14 (((g 4 r).1 14) - (1 : Int32)))) else none) else some (.inl (some (.inl (0 : Int32))), g)) := match r, hr with | 0, _ => rfl | 1, _ => rfl | 2, _ => rfl | 3, _ => rfl | k + 4, h => absurd h (by omega)
theorem ze_X2_pop  (r : Nat) (hr : r < 4) (g : zSG) : zF_X2_pop [.inr (.inl (4, r, 0))] g = z_run zM_X2_pop zc_X2_pop zk_X2_pop 100000 0 [(0, .inr (.inl (4, r, 0)))] g (0, 0) := z_fn_ok (sh := zs_X2_pop) (vs := [.inr (.inl (4, r, 0))]) (match r, hr with | 0, _ => rfl | 1, _ => rfl | 2, _ => rfl | 3, _ => rfl | k + 4, h => absurd h (by omega)) rfl
set_option maxRecDepth 400000 in
set_option maxHeartbeats 4000000 in
theorem zu_X2_work_0 (n : Nat) (x1 : Int32) (x2 : Int32) (r : Nat) (hr : r < 4) (g : zSG) : z_run zM_X2_work zc_X2_work zk_X2_work (n + 1) 0 [(0, .inr (.inl (4, r, 0))), (1, .inl x1), (2, .inl x2)] g (0, 0) = (if x1.toInt = 0 then (z_bV (zF_X2_push [.inr (.inl (4, r, 0)), .inl x2] g) (fun g19 => some (.inl none, g19))) else (if x1.toInt = 1 then (z_bV (zF_X2_push [.inr (.inl (4, r, 0)), .inl ((g 4 r).1 16)] g) (fun g18 => some (.inl none, g18))) else (if x1.toInt = 2 then (z_bV (zF_X2_push [.inr (.inl (4, r, 0)), .inl ((g 4 r).1 17)] g) (fun g17 => some (.inl none, g17))) else (if x1.toInt = 3 then (z_bV (zF_X2_push [.inr (.inl (4, r, 0)), .inl (((g 4 r).1 13) + (1 : Int32))] (z_gI g 4 r 13 (((g 4 r).1 13) + (1 : Int32)))) (fun g16 => some (.inl none, g16))) else (if x1.toInt = 4 then (z_bI (zF_X2_pop [.inr (.inl (4, r, 0))] g) (fun r12 g11 => (z_bI (zF_X2_read [.inr (.inl (4, r, 0)), .inl r12] g11) (fun r14 g13 => (z_bV (zF_X2_push [.inr (.inl (4, r, 0)), .inl r14] g13) (fun g15 => some (.inl none, g15))))))) else (if x1.toInt = 5 then (z_bI (zF_X2_pop [.inr (.inl (4, r, 0))] (z_gI g 4 r 8 (((g 4 r).1 8) + (1 : Int32)))) (fun r9 g8 => (if z_inb (r9 &&& (15 : Int32)) 16 then (z_bV (zF_X2_push [.inr (.inl (4, r, 0)), .inl ((g8 4 r).2 9 (r9 &&& (15 : Int32)).toNatClampNeg)] g8) (fun g10 => some (.inl none, g10))) else none))) else (z_bI (zF_X2_pop [.inr (.inl (4, r, 0))] g) (fun r2 g1 => (z_bI (zF_X2_pop [.inr (.inl (4, r, 0))] g1) (fun r4 g3 => (z_bI (zF_X2_join [.inl x1, .inl r4, .inl r2] g3) (fun r6 g5 => (z_bV (zF_X2_push [.inr (.inl (4, r, 0)), .inl r6] g5) (fun g7 => some (.inl none, g7))))))))))))))) := match r, hr with | 0, _ => rfl | 1, _ => rfl | 2, _ => rfl | 3, _ => rfl | k + 4, h => absurd h (by omega)
theorem ze_X2_work (x1 : Int32) (x2 : Int32) (r : Nat) (hr : r < 4) (g : zSG) : zF_X2_work [.inr (.inl (4, r, 0)), .inl x1, .inl x2] g = z_run zM_X2_work zc_X2_work zk_X2_work 100000 0 [(0, .inr (.inl (4, r, 0))), (1, .inl x1), (2, .inl x2)] g (0, 0) := z_fn_ok (sh := zs_X2_work) (vs := [.inr (.inl (4, r, 0)), .inl x1, .inl x2]) (match r, hr with | 0, _ => rfl | 1, _ => rfl | 2, _ => rfl | 3, _ => rfl | k + 4, h => absurd h (by omega)) rfl
set_option maxRecDepth 400000 in
set_option maxHeartbeats 4000000 in
theorem zu_X2_start_0 (n : Nat) (x3 : Int32) (r : Nat) (hr : r < 4) (g : zSG) : z_run zM_X2_start zc_X2_start zk_X2_start (n + 1) 0 [(0, .inr (.inl (4, r, 0))), (1, .inr (.inl (0, 0, 2))), (2, .inr (.inl (0, 0, 3))), (3, .inl x3)] g (0, 0) = (z_bV (zF_acp [.inr (.inl (0, 0, 2)), .inl (0 : Int32), .inr (.inl (4, r, 1)), .inl (0 : Int32), .inl (8 : Int32)] g) (fun g1 => (z_bV (zF_acp [.inr (.inl (0, 0, 3)), .inl (0 : Int32), .inr (.inl (4, r, 10)), .inl (0 : Int32), .inl (16 : Int32)] g1) (fun g2 => (z_bV (zF_J7_fill_53178 [.inr (.inl (4, r, 8)), .inl (0 : Int32)] g2) (fun g3 => z_run zM_X2_start zc_X2_start zk_X2_start n 35 [(0, .inr (.inl (4, r, 0))), (3, .inl x3), (4, .inl (0 : Int32))] g3 (0, 0))))))) := match r, hr with | 0, _ => rfl | 1, _ => rfl | 2, _ => rfl | 3, _ => rfl | k + 4, h => absurd h (by omega)
set_option maxRecDepth 400000 in
set_option maxHeartbeats 4000000 in
theorem zu_X2_start_35 (n : Nat) (x3 : Int32) (x4 : Int32) (r : Nat) (hr : r < 4) (g : zSG) : z_run zM_X2_start zc_X2_start zk_X2_start (n + 1) 35 [(0, .inr (.inl (4, r, 0))), (3, .inl x3), (4, .inl x4)] g (0, 0) = (if (30 : Int32) ≤ x4 then some (.inl none, (z_gI (z_gI g 4 r 13 x3) 4 r 8 (0 : Int32))) else (if z_inb x4 30 then z_run zM_X2_start zc_X2_start zk_X2_start n 35 [(0, .inr (.inl (4, r, 0))), (3, .inl x3), (4, .inl (x4 + (1 : Int32)))] (z_gA g 4 r 6 (upd ((g 4 r).2 6) (x4).toNatClampNeg ((0 : Int32) &&& 1))) (0, 0) else none)) := match r, hr with | 0, _ => rfl | 1, _ => rfl | 2, _ => rfl | 3, _ => rfl | k + 4, h => absurd h (by omega)
theorem ze_X2_start (x3 : Int32) (r : Nat) (hr : r < 4) (g : zSG) : zF_X2_start [.inr (.inl (4, r, 0)), .inr (.inl (0, 0, 2)), .inr (.inl (0, 0, 3)), .inl x3] g = z_run zM_X2_start zc_X2_start zk_X2_start 100000 0 [(0, .inr (.inl (4, r, 0))), (1, .inr (.inl (0, 0, 2))), (2, .inr (.inl (0, 0, 3))), (3, .inl x3)] g (0, 0) := z_fn_ok (sh := zs_X2_start) (vs := [.inr (.inl (4, r, 0)), .inr (.inl (0, 0, 2)), .inr (.inl (0, 0, 3)), .inl x3]) (match r, hr with | 0, _ => rfl | 1, _ => rfl | 2, _ => rfl | 3, _ => rfl | k + 4, h => absurd h (by omega)) rfl
set_option maxRecDepth 400000 in
set_option maxHeartbeats 4000000 in
theorem zu_X2_obey_0 (n : Nat) (x2 : Int32) (x3 : Int32) (x4 : Int32) (x5 : Int32) (r : Nat) (t : Nat) (hr : r < 4) (g : zSG) : z_run zM_X2_obey zc_X2_obey zk_X2_obey (n + 1) 0 [(0, .inr (.inl (4, r, 0))), (1, .inr (.inl (5, t, 0))), (2, .inl x2), (3, .inl x3), (4, .inl x4), (5, .inl x5)] g (0, 0) = (if z_inb x2 30 then (if z_inb x2 30 then (if z_inb x2 30 then (if z_inb x2 30 then z_run zM_X2_obey zc_X2_obey zk_X2_obey n 53 [(0, .inr (.inl (4, r, 0))), (1, .inr (.inl (5, t, 0))), (2, .inl x2), (3, .inl x3), (6, .inl (0 : Int32))] (z_gI (z_gA (z_gA (z_gA (z_gA (z_gI (z_gI (z_gI g 4 r 15 x2) 4 r 16 x4) 4 r 17 x5) 4 r 2 (upd ((g 4 r).2 2) (x2).toNatClampNeg (0 : Int32))) 4 r 3 (upd ((g 4 r).2 3) (x2).toNatClampNeg (0 : Int32))) 4 r 4 (upd ((g 4 r).2 4) (x2).toNatClampNeg (0 : Int32))) 4 r 5 (upd ((g 4 r).2 5) (x2).toNatClampNeg (0 : Int32))) 4 r 14 (0 : Int32)) (0, 0) else none) else none) else none) else none) := match r, hr with | 0, _ => rfl | 1, _ => rfl | 2, _ => rfl | 3, _ => rfl | k + 4, h => absurd h (by omega)
set_option maxRecDepth 400000 in
set_option maxHeartbeats 4000000 in
theorem zu_X2_obey_53 (n : Nat) (x2 : Int32) (x3 : Int32) (x6 : Int32) (r : Nat) (t : Nat) (hr : r < 4) (g : zSG) : z_run zM_X2_obey zc_X2_obey zk_X2_obey (n + 1) 53 [(0, .inr (.inl (4, r, 0))), (1, .inr (.inl (5, t, 0))), (2, .inl x2), (3, .inl x3), (6, .inl x6)] g (0, 0) = (if t < 8 then (if t < 8 then (if (Int32.ofNat ((g 5 t).1 0).toNatClampNeg) ≤ x6 then (if z_inb x2 30 then some (.inl none, (z_gA g 4 r 6 (upd ((g 4 r).2 6) (x2).toNatClampNeg ((1 : Int32) &&& 1)))) else none) else (if t < 8 then (if t < 8 then (if z_inb x6 ((g 5 t).1 0).toNatClampNeg then (if t < 8 then (if t < 8 then (if z_inb x6 ((g 5 t).1 0).toNatClampNeg then (if (11 : Int32) ≤ (((g 5 t).2 0 (x6).toNatClampNeg) &&& (15 : Int32)) then (if z_inb x3 4 then (if z_inb x3 4 then (if z_inb x2 30 then (if z_inb x2 30 then (z_bI (zF_X2_pop [.inr (.inl (4, r, 0))] (z_gA (z_gA g 4 r 7 (upd ((g 4 r).2 7) (x3).toNatClampNeg (((g 4 r).2 7 (x3).toNatClampNeg) ||| ((1 : Int32) <<< ((((((g 5 t).2 0 (x6).toNatClampNeg).toUInt32 >>> ((4 : Int32).toUInt32 &&& Int32.toUInt32 31)).toInt32) &&& (31 : Int32)) &&& 31))))) 4 r 5 (upd ((g 4 r).2 5) (x2).toNatClampNeg (((g 4 r).2 5 (x2).toNatClampNeg) + (1 : Int32))))) (fun r2 g1 => (if (((g 5 t).2 0 (x6).toNatClampNeg) &&& (15 : Int32)) = (13 : Int32) then (if r2 = 0 then (z_bI (zF_max [.inl (x6 + (1 : Int32)), .inl ((((((g 5 t).2 0 (x6).toNatClampNeg).toUInt32 >>> ((4 : Int32).toUInt32 &&& Int32.toUInt32 31)).toInt32).toUInt32 >>> ((5 : Int32).toUInt32 &&& Int32.toUInt32 31)).toInt32)] g1) (fun r8 g7 => z_run zM_X2_obey zc_X2_obey zk_X2_obey n 53 [(0, .inr (.inl (4, r, 0))), (1, .inr (.inl (5, t, 0))), (2, .inl x2), (3, .inl x3), (6, .inl r8)] g7 (0, 0))) else z_run zM_X2_obey zc_X2_obey zk_X2_obey n 53 [(0, .inr (.inl (4, r, 0))), (1, .inr (.inl (5, t, 0))), (2, .inl x2), (3, .inl x3), (6, .inl (x6 + (1 : Int32)))] g1 (0, 0)) else (if (((g 5 t).2 0 (x6).toNatClampNeg) &&& (15 : Int32)) = (11 : Int32) then (z_bI (zF_X2_pop [.inr (.inl (4, r, 0))] g1) (fun r5 g4 => (z_bV (zF_X2_write [.inr (.inl (4, r, 0)), .inl r5, .inl r2] g4) (fun g6 => z_run zM_X2_obey zc_X2_obey zk_X2_obey n 53 [(0, .inr (.inl (4, r, 0))), (1, .inr (.inl (5, t, 0))), (2, .inl x2), (3, .inl x3), (6, .inl (x6 + (1 : Int32)))] g6 (0, 0))))) else (z_bV (zF_X2_answer [.inr (.inl (4, r, 0)), .inl r2] g1) (fun g3 => z_run zM_X2_obey zc_X2_obey zk_X2_obey n 53 [(0, .inr (.inl (4, r, 0))), (1, .inr (.inl (5, t, 0))), (2, .inl x2), (3, .inl x3), (6, .inl (x6 + (1 : Int32)))] g3 (0, 0))))))) else none) else none) else none) else none) else (z_bV (zF_X2_work [.inr (.inl (4, r, 0)), .inl (((g 5 t).2 0 (x6).toNatClampNeg) &&& (15 : Int32)), .inl ((((g 5 t).2 0 (x6).toNatClampNeg).toUInt32 >>> ((4 : Int32).toUInt32 &&& Int32.toUInt32 31)).toInt32)] g) (fun g9 => z_run zM_X2_obey zc_X2_obey zk_X2_obey n 53 [(0, .inr (.inl (4, r, 0))), (1, .inr (.inl (5, t, 0))), (2, .inl x2), (3, .inl x3), (6, .inl (x6 + (1 : Int32)))] g9 (0, 0)))) else none) else none) else none) else none) else none) else none)) else none) else none) := match r, hr with | 0, _ => rfl | 1, _ => rfl | 2, _ => rfl | 3, _ => rfl | k + 4, h => absurd h (by omega)
theorem ze_X2_obey (x2 : Int32) (x3 : Int32) (x4 : Int32) (x5 : Int32) (r : Nat) (hr : r < 4) (t : Nat) (ht : t < 8) (g : zSG) : zF_X2_obey [.inr (.inl (4, r, 0)), .inr (.inl (5, t, 0)), .inl x2, .inl x3, .inl x4, .inl x5] g = z_run zM_X2_obey zc_X2_obey zk_X2_obey 100000 0 [(0, .inr (.inl (4, r, 0))), (1, .inr (.inl (5, t, 0))), (2, .inl x2), (3, .inl x3), (4, .inl x4), (5, .inl x5)] g (0, 0) := z_fn_ok (sh := zs_X2_obey) (vs := [.inr (.inl (4, r, 0)), .inr (.inl (5, t, 0)), .inl x2, .inl x3, .inl x4, .inl x5]) (match r, hr with | 0, _ => (match t, ht with | 0, _ => rfl | 1, _ => rfl | 2, _ => rfl | 3, _ => rfl | 4, _ => rfl | 5, _ => rfl | 6, _ => rfl | 7, _ => rfl | k + 8, h => absurd h (by omega)) | 1, _ => (match t, ht with | 0, _ => rfl | 1, _ => rfl | 2, _ => rfl | 3, _ => rfl | 4, _ => rfl | 5, _ => rfl | 6, _ => rfl | 7, _ => rfl | k + 8, h => absurd h (by omega)) | 2, _ => (match t, ht with | 0, _ => rfl | 1, _ => rfl | 2, _ => rfl | 3, _ => rfl | 4, _ => rfl | 5, _ => rfl | 6, _ => rfl | 7, _ => rfl | k + 8, h => absurd h (by omega)) | 3, _ => (match t, ht with | 0, _ => rfl | 1, _ => rfl | 2, _ => rfl | 3, _ => rfl | 4, _ => rfl | 5, _ => rfl | 6, _ => rfl | 7, _ => rfl | k + 8, h => absurd h (by omega)) | k + 4, h => absurd h (by omega)) rfl
set_option maxRecDepth 400000 in
set_option maxHeartbeats 4000000 in
theorem zu_X0_write_0 (n : Nat) (x1 : Int32) (x2 : Int32) (x3 : Int32) (x4 : Int32)  (g : zSG) : z_run zM_X0_write zc_X0_write zk_X0_write (n + 1) 0 [(0, .inr (.inl (2, 0, 0))), (1, .inl x1), (2, .inl x2), (3, .inl x3), (4, .inl x4)] g (0, 0) = (if ((g 2 0).1 7) < (30 : Int32) then (if z_inb ((g 2 0).1 7) 30 then (if z_inb ((g 2 0).1 7) 30 then (if z_inb ((g 2 0).1 7) 30 then (if z_inb ((g 2 0).1 7) 30 then (if z_inb ((g 2 0).1 7) 30 then z_run zM_X0_write zc_X0_write zk_X0_write n 62 [(0, .inr (.inl (2, 0, 0))), (4, .inl x4), (5, .inl ((g 2 0).1 7)), (6, .inl ((g 2 0).1 7))] (z_gA (z_gA (z_gA (z_gA (z_gA g 2 0 0 (upd ((g 2 0).2 0) ((g 2 0).1 7).toNatClampNeg x1)) 2 0 1 (upd ((g 2 0).2 1) ((g 2 0).1 7).toNatClampNeg x2)) 2 0 2 (upd ((g 2 0).2 2) ((g 2 0).1 7).toNatClampNeg x3)) 2 0 3 (upd ((g 2 0).2 3) ((g 2 0).1 7).toNatClampNeg x4)) 2 0 4 (upd ((g 2 0).2 4) ((g 2 0).1 7).toNatClampNeg (-1 : Int32))) (0, 0) else none) else none) else none) else none) else none) else some (.inl (some (.inl (-1 : Int32))), g)) := rfl
set_option maxRecDepth 400000 in
set_option maxHeartbeats 4000000 in
theorem zu_X0_write_62 (n : Nat) (x4 : Int32) (x5 : Int32) (x6 : Int32)  (g : zSG) : z_run zM_X0_write zc_X0_write zk_X0_write (n + 1) 62 [(0, .inr (.inl (2, 0, 0))), (4, .inl x4), (5, .inl x5), (6, .inl x6)] g (0, 0) = (if x6 ≤ 0 then (if z_inb x6 30 then some (.inl (some (.inl x5)), (z_gI (z_gA g 2 0 6 (upd ((g 2 0).2 6) (x6).toNatClampNeg x5)) 2 0 7 (((g 2 0).1 7) + (1 : Int32)))) else none) else (if z_inb (x6 - (1 : Int32)) 30 then (if z_inb ((g 2 0).2 6 (x6 - (1 : Int32)).toNatClampNeg) 30 then (if ((g 2 0).2 3 ((g 2 0).2 6 (x6 - (1 : Int32)).toNatClampNeg).toNatClampNeg) ≤ x4 then (if z_inb x6 30 then some (.inl (some (.inl x5)), (z_gI (z_gA g 2 0 6 (upd ((g 2 0).2 6) (x6).toNatClampNeg x5)) 2 0 7 (((g 2 0).1 7) + (1 : Int32)))) else none) else (if z_inb (x6 - (1 : Int32)) 30 then (if z_inb x6 30 then z_run zM_X0_write zc_X0_write zk_X0_write n 62 [(0, .inr (.inl (2, 0, 0))), (4, .inl x4), (5, .inl x5), (6, .inl (x6 + (-1 : Int32)))] (z_gA g 2 0 6 (upd ((g 2 0).2 6) (x6).toNatClampNeg ((g 2 0).2 6 (x6 - (1 : Int32)).toNatClampNeg))) (0, 0) else none) else none)) else none) else none)) := rfl
theorem ze_X0_write (x1 : Int32) (x2 : Int32) (x3 : Int32) (x4 : Int32)  (g : zSG) : zF_X0_write [.inr (.inl (2, 0, 0)), .inl x1, .inl x2, .inl x3, .inl x4] g = z_run zM_X0_write zc_X0_write zk_X0_write 100000 0 [(0, .inr (.inl (2, 0, 0))), (1, .inl x1), (2, .inl x2), (3, .inl x3), (4, .inl x4)] g (0, 0) := z_fn_ok (sh := zs_X0_write) (vs := [.inr (.inl (2, 0, 0)), .inl x1, .inl x2, .inl x3, .inl x4]) (rfl) rfl
set_option maxRecDepth 400000 in
set_option maxHeartbeats 4000000 in
theorem zu_X0_placeOf_0 (n : Nat) (x1 : Int32)  (g : zSG) : z_run zM_X0_placeOf zc_X0_placeOf zk_X0_placeOf (n + 1) 0 [(0, .inr (.inl (2, 0, 0))), (1, .inl x1)] g (0, 0) = z_run zM_X0_placeOf zc_X0_placeOf zk_X0_placeOf n 2 [(0, .inr (.inl (2, 0, 0))), (1, .inl x1), (2, .inl (0 : Int32))] g (0, 0) := rfl
set_option maxRecDepth 400000 in
set_option maxHeartbeats 4000000 in
theorem zu_X0_placeOf_2 (n : Nat) (x1 : Int32) (x2 : Int32)  (g : zSG) : z_run zM_X0_placeOf zc_X0_placeOf zk_X0_placeOf (n + 1) 2 [(0, .inr (.inl (2, 0, 0))), (1, .inl x1), (2, .inl x2)] g (0, 0) = (if ((g 2 0).1 7) ≤ x2 then some (.inl (some (.inl (0 : Int32))), g) else (if z_inb x2 30 then (if ((g 2 0).2 6 (x2).toNatClampNeg) = x1 then some (.inl (some (.inl x2)), g) else z_run zM_X0_placeOf zc_X0_placeOf zk_X0_placeOf n 2 [(0, .inr (.inl (2, 0, 0))), (1, .inl x1), (2, .inl (x2 + (1 : Int32)))] g (0, 0)) else none)) := rfl
theorem ze_X0_placeOf (x1 : Int32)  (g : zSG) : zF_X0_placeOf [.inr (.inl (2, 0, 0)), .inl x1] g = z_run zM_X0_placeOf zc_X0_placeOf zk_X0_placeOf 100000 0 [(0, .inr (.inl (2, 0, 0))), (1, .inl x1)] g (0, 0) := z_fn_ok (sh := zs_X0_placeOf) (vs := [.inr (.inl (2, 0, 0)), .inl x1]) (rfl) rfl
end
section
set_option maxRecDepth 400000 in
set_option maxHeartbeats 4000000 in
theorem zu_X1_place_0 (n : Nat)   (g : zSG) : z_run zM_X1_place zc_X1_place zk_X1_place (n + 1) 0 [(0, .inr (.inl (1, 0, 0)))] g (0, 0) = some (.inl (some (.inl ((g 1 0).1 3))), g) := rfl
theorem ze_X1_place   (g : zSG) : zF_X1_place [.inr (.inl (1, 0, 0))] g = z_run zM_X1_place zc_X1_place zk_X1_place 100000 0 [(0, .inr (.inl (1, 0, 0)))] g (0, 0) := z_fn_ok (sh := zs_X1_place) (vs := [.inr (.inl (1, 0, 0))]) (rfl) rfl
set_option maxRecDepth 400000 in
set_option maxHeartbeats 4000000 in
theorem zu_X1_byteAt_0 (n : Nat) (x1 : Int32)  (g : zSG) : z_run zM_X1_byteAt zc_X1_byteAt zk_X1_byteAt (n + 1) 0 [(0, .inr (.inl (1, 0, 0))), (1, .inl x1)] g (0, 0) = (if x1 < 0 then some (.inl (some (.inl (-1 : Int32))), g) else (if ((g 1 0).1 2) ≤ x1 then some (.inl (some (.inl (-1 : Int32))), g) else (if (g 1 0).1 1 = 1 then (if z_inb x1 400 then some (.inl (some (.inl ((g 0 0).2 0 (x1).toNatClampNeg))), g) else none) else none))) := rfl
theorem ze_X1_byteAt (x1 : Int32)  (g : zSG) : zF_X1_byteAt [.inr (.inl (1, 0, 0)), .inl x1] g = z_run zM_X1_byteAt zc_X1_byteAt zk_X1_byteAt 100000 0 [(0, .inr (.inl (1, 0, 0))), (1, .inl x1)] g (0, 0) := z_fn_ok (sh := zs_X1_byteAt) (vs := [.inr (.inl (1, 0, 0)), .inl x1]) (rfl) rfl
set_option maxRecDepth 400000 in
set_option maxHeartbeats 4000000 in
theorem zu_X1_isDigit_0 (n : Nat) (x0 : Int32)  (g : zSG) : z_run zM_X1_isDigit zc_X1_isDigit zk_X1_isDigit (n + 1) 0 [(0, .inl x0)] g (0, 0) = (if x0 < (48 : Int32) then (if (0 : Int32) = 0 ∨ (0 : Int32) = 1 then some (.inl (some (.inl (0 : Int32))), g) else none) else (if (57 : Int32) < x0 then (if (0 : Int32) = 0 ∨ (0 : Int32) = 1 then some (.inl (some (.inl (0 : Int32))), g) else none) else (if (1 : Int32) = 0 ∨ (1 : Int32) = 1 then some (.inl (some (.inl (1 : Int32))), g) else none))) := rfl
theorem ze_X1_isDigit (x0 : Int32)  (g : zSG) : zF_X1_isDigit [.inl x0] g = z_run zM_X1_isDigit zc_X1_isDigit zk_X1_isDigit 100000 0 [(0, .inl x0)] g (0, 0) := z_fn_ok (sh := zs_X1_isDigit) (vs := [.inl x0]) (rfl) rfl
set_option maxRecDepth 400000 in
set_option maxHeartbeats 4000000 in
theorem zu_X1_isLetter_0 (n : Nat) (x0 : Int32)  (g : zSG) : z_run zM_X1_isLetter zc_X1_isLetter zk_X1_isLetter (n + 1) 0 [(0, .inl x0)] g (0, 0) = (if x0 < (97 : Int32) then (if (0 : Int32) = 0 ∨ (0 : Int32) = 1 then some (.inl (some (.inl (0 : Int32))), g) else none) else (if (122 : Int32) < x0 then (if (0 : Int32) = 0 ∨ (0 : Int32) = 1 then some (.inl (some (.inl (0 : Int32))), g) else none) else (if (1 : Int32) = 0 ∨ (1 : Int32) = 1 then some (.inl (some (.inl (1 : Int32))), g) else none))) := rfl
theorem ze_X1_isLetter (x0 : Int32)  (g : zSG) : zF_X1_isLetter [.inl x0] g = z_run zM_X1_isLetter zc_X1_isLetter zk_X1_isLetter 100000 0 [(0, .inl x0)] g (0, 0) := z_fn_ok (sh := zs_X1_isLetter) (vs := [.inl x0]) (rfl) rfl
set_option maxRecDepth 400000 in
set_option maxHeartbeats 4000000 in
theorem zu_X1_skipBlanks_0 (n : Nat)   (g : zSG) : z_run zM_X1_skipBlanks zc_X1_skipBlanks zk_X1_skipBlanks (n + 1) 0 [(0, .inr (.inl (1, 0, 0)))] g (0, 0) = (if ((g 1 0).1 2) ≤ ((g 1 0).1 3) then some (.inl none, g) else (if (g 1 0).1 1 = 1 then (if z_inb ((g 1 0).1 3) 400 then (if ((g 0 0).2 0 ((g 1 0).1 3).toNatClampNeg) = (32 : Int32) then z_run zM_X1_skipBlanks zc_X1_skipBlanks zk_X1_skipBlanks n 0 [(0, .inr (.inl (1, 0, 0)))] (z_gI g 1 0 3 (((g 1 0).1 3) + (1 : Int32))) (0, 0) else some (.inl none, g)) else none) else none)) := rfl
theorem ze_X1_skipBlanks   (g : zSG) : zF_X1_skipBlanks [.inr (.inl (1, 0, 0))] g = z_run zM_X1_skipBlanks zc_X1_skipBlanks zk_X1_skipBlanks 100000 0 [(0, .inr (.inl (1, 0, 0)))] g (0, 0) := z_fn_ok (sh := zs_X1_skipBlanks) (vs := [.inr (.inl (1, 0, 0))]) (rfl) rfl
set_option maxRecDepth 400000 in
set_option maxHeartbeats 4000000 in
theorem zu_X1_takeSign_0 (n : Nat) (x1 : Int32)  (g : zSG) : z_run zM_X1_takeSign zc_X1_takeSign zk_X1_takeSign (n + 1) 0 [(0, .inr (.inl (1, 0, 0))), (1, .inl x1)] g (0, 0) = (z_bV (zF_X1_skipBlanks [.inr (.inl (1, 0, 0))] g) (fun g1 => (z_bI (zF_X1_byteAt [.inr (.inl (1, 0, 0)), .inl ((g1 1 0).1 3)] g1) (fun r3 g2 => (if r3 = x1 then (if (1 : Int32) = 0 ∨ (1 : Int32) = 1 then some (.inl (some (.inl (1 : Int32))), (z_gI g2 1 0 3 (((g2 1 0).1 3) + (1 : Int32)))) else none) else (if (0 : Int32) = 0 ∨ (0 : Int32) = 1 then some (.inl (some (.inl (0 : Int32))), g2) else none)))))) := rfl
theorem ze_X1_takeSign (x1 : Int32)  (g : zSG) : zF_X1_takeSign [.inr (.inl (1, 0, 0)), .inl x1] g = z_run zM_X1_takeSign zc_X1_takeSign zk_X1_takeSign 100000 0 [(0, .inr (.inl (1, 0, 0))), (1, .inl x1)] g (0, 0) := z_fn_ok (sh := zs_X1_takeSign) (vs := [.inr (.inl (1, 0, 0)), .inl x1]) (rfl) rfl
set_option maxRecDepth 400000 in
set_option maxHeartbeats 4000000 in
theorem zu_X1_lay_0 (n : Nat) (x1 : Int32) (x2 : Int32)  (g : zSG) : z_run zM_X1_lay zc_X1_lay zk_X1_lay (n + 1) 0 [(0, .inr (.inl (1, 0, 0))), (1, .inl x1), (2, .inl x2)] g (0, 0) = (if ((g 1 0).1 4) < (400 : Int32) then (if z_inb ((g 1 0).1 4) 400 then (if (1 : Int32) = 0 ∨ (1 : Int32) = 1 then some (.inl (some (.inl (1 : Int32))), (z_gI (z_gA g 1 0 0 (upd ((g 1 0).2 0) ((g 1 0).1 4).toNatClampNeg (x1 ||| (x2 <<< ((4 : Int32) &&& 31))))) 1 0 4 (((g 1 0).1 4) + (1 : Int32)))) else none) else none) else (if (0 : Int32) = 0 ∨ (0 : Int32) = 1 then some (.inl (some (.inl (0 : Int32))), g) else none)) := rfl
theorem ze_X1_lay (x1 : Int32) (x2 : Int32)  (g : zSG) : zF_X1_lay [.inr (.inl (1, 0, 0)), .inl x1, .inl x2] g = z_run zM_X1_lay zc_X1_lay zk_X1_lay 100000 0 [(0, .inr (.inl (1, 0, 0))), (1, .inl x1), (2, .inl x2)] g (0, 0) := z_fn_ok (sh := zs_X1_lay) (vs := [.inr (.inl (1, 0, 0)), .inl x1, .inl x2]) (rfl) rfl
set_option maxRecDepth 400000 in
set_option maxHeartbeats 4000000 in
theorem zu_X1_joinFor_0 (n : Nat) (x0 : Int32)  (g : zSG) : z_run zM_X1_joinFor zc_X1_joinFor zk_X1_joinFor (n + 1) 0 [(0, .inl x0)] g (0, 0) = (if x0 = (43 : Int32) then some (.inl (some (.inl (6 : Int32))), g) else (if x0 = (45 : Int32) then some (.inl (some (.inl (7 : Int32))), g) else (if x0 = (42 : Int32) then some (.inl (some (.inl (8 : Int32))), g) else some (.inl (some (.inl (-1 : Int32))), g)))) := rfl
theorem ze_X1_joinFor (x0 : Int32)  (g : zSG) : zF_X1_joinFor [.inl x0] g = z_run zM_X1_joinFor zc_X1_joinFor zk_X1_joinFor 100000 0 [(0, .inl x0)] g (0, 0) := z_fn_ok (sh := zs_X1_joinFor) (vs := [.inl x0]) (rfl) rfl
set_option maxRecDepth 400000 in
set_option maxHeartbeats 4000000 in
theorem zu_X1_readNumber_0 (n : Nat)   (g : zSG) : z_run zM_X1_readNumber zc_X1_readNumber zk_X1_readNumber (n + 1) 0 [(0, .inr (.inl (1, 0, 0)))] g (0, 0) = z_run zM_X1_readNumber zc_X1_readNumber zk_X1_readNumber n 4 [(0, .inr (.inl (1, 0, 0))), (1, .inl (0 : Int32)), (2, .inl (0 : Int32))] g (0, 0) := rfl
set_option maxRecDepth 400000 in
set_option maxHeartbeats 4000000 in
theorem zu_X1_readNumber_4 (n : Nat) (x1 : Int32) (x2 : Int32)  (g : zSG) : z_run zM_X1_readNumber zc_X1_readNumber zk_X1_readNumber (n + 1) 4 [(0, .inr (.inl (1, 0, 0))), (1, .inl x1), (2, .inl x2)] g (0, 0) = (if (6 : Int32) ≤ x2 then (z_bI (zF_X1_byteAt [.inr (.inl (1, 0, 0)), .inl ((g 1 0).1 3)] g) (fun r2 g1 => (z_bI (zF_X1_isDigit [.inl r2] g1) (fun r4 g3 => (if r4 = 0 then (z_bI (zF_X1_lay [.inr (.inl (1, 0, 0)), .inl (0 : Int32), .inl x1] g3) (fun r6 g5 => (if r6 = 0 then (if (0 : Int32) = 0 ∨ (0 : Int32) = 1 then some (.inl (some (.inl (0 : Int32))), g5) else none) else (if (1 : Int32) = 0 ∨ (1 : Int32) = 1 then some (.inl (some (.inl (1 : Int32))), g5) else none)))) else (if (0 : Int32) = 0 ∨ (0 : Int32) = 1 then some (.inl (some (.inl (0 : Int32))), g3) else none)))))) else (z_bI (zF_X1_byteAt [.inr (.inl (1, 0, 0)), .inl ((g 1 0).1 3)] g) (fun r8 g7 => (z_bI (zF_X1_isDigit [.inl r8] g7) (fun r10 g9 => (if r10 = 0 then (z_bI (zF_X1_byteAt [.inr (.inl (1, 0, 0)), .inl ((g9 1 0).1 3)] g9) (fun r12 g11 => (z_bI (zF_X1_isDigit [.inl r12] g11) (fun r14 g13 => (if r14 = 0 then (z_bI (zF_X1_lay [.inr (.inl (1, 0, 0)), .inl (0 : Int32), .inl x1] g13) (fun r16 g15 => (if r16 = 0 then (if (0 : Int32) = 0 ∨ (0 : Int32) = 1 then some (.inl (some (.inl (0 : Int32))), g15) else none) else (if (1 : Int32) = 0 ∨ (1 : Int32) = 1 then some (.inl (some (.inl (1 : Int32))), g15) else none)))) else (if (0 : Int32) = 0 ∨ (0 : Int32) = 1 then some (.inl (some (.inl (0 : Int32))), g13) else none)))))) else (z_bI (zF_X1_byteAt [.inr (.inl (1, 0, 0)), .inl ((g9 1 0).1 3)] g9) (fun r18 g17 => z_run zM_X1_readNumber zc_X1_readNumber zk_X1_readNumber n 4 [(0, .inr (.inl (1, 0, 0))), (1, .inl (((x1 * (10 : Int32)) + r18) - (48 : Int32))), (2, .inl (x2 + (1 : Int32)))] (z_gI g17 1 0 3 (((g17 1 0).1 3) + (1 : Int32))) (0, 0))))))))) := rfl
theorem ze_X1_readNumber   (g : zSG) : zF_X1_readNumber [.inr (.inl (1, 0, 0))] g = z_run zM_X1_readNumber zc_X1_readNumber zk_X1_readNumber 100000 0 [(0, .inr (.inl (1, 0, 0)))] g (0, 0) := z_fn_ok (sh := zs_X1_readNumber) (vs := [.inr (.inl (1, 0, 0))]) (rfl) rfl
set_option maxRecDepth 400000 in
set_option maxHeartbeats 4000000 in
theorem zu_X1_takeWord_0 (n : Nat)  (w : Nat) (g : zSG) : z_run zM_X1_takeWord zc_X1_takeWord zk_X1_takeWord (n + 1) 0 [(0, .inr (.inl (1, 0, 0))), (1, .inr (.inl (6, w, 0)))] g (0, 0) = z_run zM_X1_takeWord zc_X1_takeWord zk_X1_takeWord n 2 [(0, .inr (.inl (1, 0, 0))), (1, .inr (.inl (6, w, 0))), (2, .inl (0 : Int32))] g (0, 0) := rfl
set_option maxRecDepth 400000 in
set_option maxHeartbeats 4000000 in
theorem zu_X1_takeWord_2 (n : Nat) (x2 : Int32) (w : Nat) (g : zSG) : z_run zM_X1_takeWord zc_X1_takeWord zk_X1_takeWord (n + 1) 2 [(0, .inr (.inl (1, 0, 0))), (1, .inr (.inl (6, w, 0))), (2, .inl x2)] g (0, 0) = (z_bI (zF_slen [.inr (.inl (6, w, 0))] g) (fun r2 g1 => (if r2 ≤ x2 then (z_bI (zF_slen [.inr (.inl (6, w, 0))] g1) (fun r4 g3 => (z_bI (zF_X1_byteAt [.inr (.inl (1, 0, 0)), .inl (((g1 1 0).1 3) + r4)] g3) (fun r6 g5 => (z_bI (zF_X1_isLetter [.inl r6] g5) (fun r8 g7 => (if r8 = 0 then (z_bI (zF_slen [.inr (.inl (6, w, 0))] g7) (fun r10 g9 => (if (1 : Int32) = 0 ∨ (1 : Int32) = 1 then some (.inl (some (.inl (1 : Int32))), (z_gI g9 1 0 3 (((g7 1 0).1 3) + r10))) else none))) else (if (0 : Int32) = 0 ∨ (0 : Int32) = 1 then some (.inl (some (.inl (0 : Int32))), g7) else none)))))))) else (z_bI (zF_X1_byteAt [.inr (.inl (1, 0, 0)), .inl (((g1 1 0).1 3) + x2)] g1) (fun r12 g11 => (z_bI (zF_sch [.inr (.inl (6, w, 0)), .inl x2] g11) (fun r14 g13 => (if r12 = r14 then z_run zM_X1_takeWord zc_X1_takeWord zk_X1_takeWord n 2 [(0, .inr (.inl (1, 0, 0))), (1, .inr (.inl (6, w, 0))), (2, .inl (x2 + (1 : Int32)))] g13 (0, 0) else (if (0 : Int32) = 0 ∨ (0 : Int32) = 1 then some (.inl (some (.inl (0 : Int32))), g13) else none))))))))) := rfl
theorem ze_X1_takeWord  (w : Nat) (hw : w < 8) (g : zSG) : zF_X1_takeWord [.inr (.inl (1, 0, 0)), .inr (.inl (6, w, 0))] g = z_run zM_X1_takeWord zc_X1_takeWord zk_X1_takeWord 100000 0 [(0, .inr (.inl (1, 0, 0))), (1, .inr (.inl (6, w, 0)))] g (0, 0) := z_fn_ok (sh := zs_X1_takeWord) (vs := [.inr (.inl (1, 0, 0)), .inr (.inl (6, w, 0))]) (match w, hw with | 0, _ => rfl | 1, _ => rfl | 2, _ => rfl | 3, _ => rfl | 4, _ => rfl | 5, _ => rfl | 6, _ => rfl | 7, _ => rfl | k + 8, h => absurd h (by omega)) rfl
set_option maxRecDepth 400000 in
set_option maxHeartbeats 4000000 in
theorem zu_X1_readTerm_0 (P : Nat → List zVV → zSG → Option zRR) (n : Nat) (x1 : Int32)  (g : zSG) : z_run (zM_X1_readTerm P) zc_X1_readTerm zk_X1_readTerm (n + 1) 0 [(0, .inr (.inl (1, 0, 0))), (1, .inl x1)] g (0, 0) = (z_bV (zF_X1_skipBlanks [.inr (.inl (1, 0, 0))] g) (fun g1 => (z_bI (zF_X1_byteAt [.inr (.inl (1, 0, 0)), .inl ((g1 1 0).1 3)] g1) (fun r3 g2 => (z_bI (zF_X1_isDigit [.inl r3] g2) (fun r5 g4 => (if r5 = 0 then (z_bI (zF_X1_takeWord [.inr (.inl (1, 0, 0)), .inr (.inl (6, 3, 0))] g4) (fun r7 g6 => (if r7 = 0 then (z_bI (zF_X1_takeWord [.inr (.inl (1, 0, 0)), .inr (.inl (6, 4, 0))] g6) (fun r9 g8 => (if r9 = 0 then (z_bI (zF_X1_takeWord [.inr (.inl (1, 0, 0)), .inr (.inl (6, 5, 0))] g8) (fun r11 g10 => (if r11 = 0 then (if x1 < (12 : Int32) then (z_bI (zF_X1_takeWord [.inr (.inl (1, 0, 0)), .inr (.inl (6, 6, 0))] g10) (fun r13 g12 => (if r13 = 0 then (z_bI (zF_X1_takeWord [.inr (.inl (1, 0, 0)), .inr (.inl (6, 7, 0))] g12) (fun r15 g14 => (if r15 = 0 then (z_bI (zF_X1_takeSign [.inr (.inl (1, 0, 0)), .inl (40 : Int32)] g14) (fun r17 g16 => (if r17 = 0 then (if (0 : Int32) = 0 ∨ (0 : Int32) = 1 then some (.inl (some (.inl (0 : Int32))), g16) else none) else (z_bI ((P 2) [.inr (.inl (1, 0, 0)), .inl (x1 + (1 : Int32))] g16) (fun r19 g18 => (if r19 = 0 then (if (0 : Int32) = 0 ∨ (0 : Int32) = 1 then some (.inl (some (.inl (0 : Int32))), g18) else none) else (z_bI (zF_X1_takeSign [.inr (.inl (1, 0, 0)), .inl (41 : Int32)] g18) (fun r21 g20 => (if r21 = 0 then (if (0 : Int32) = 0 ∨ (0 : Int32) = 1 then some (.inl (some (.inl (0 : Int32))), g20) else none) else (if (1 : Int32) = 0 ∨ (1 : Int32) = 1 then some (.inl (some (.inl (1 : Int32))), g20) else none)))))))))) else (z_bI ((P 0) [.inr (.inl (1, 0, 0)), .inl (x1 + (1 : Int32))] g14) (fun r23 g22 => (if r23 = 0 then (if (0 : Int32) = 0 ∨ (0 : Int32) = 1 then some (.inl (some (.inl (0 : Int32))), g22) else none) else (z_bI (zF_X1_lay [.inr (.inl (1, 0, 0)), .inl (5 : Int32), .inl (0 : Int32)] g22) (fun r25 g24 => (if r25 = 0 then (if (0 : Int32) = 0 ∨ (0 : Int32) = 1 then some (.inl (some (.inl (0 : Int32))), g24) else none) else (if (1 : Int32) = 0 ∨ (1 : Int32) = 1 then some (.inl (some (.inl (1 : Int32))), g24) else none)))))))))) else (z_bI ((P 0) [.inr (.inl (1, 0, 0)), .inl (x1 + (1 : Int32))] g12) (fun r27 g26 => (if r27 = 0 then (if (0 : Int32) = 0 ∨ (0 : Int32) = 1 then some (.inl (some (.inl (0 : Int32))), g26) else none) else (z_bI (zF_X1_lay [.inr (.inl (1, 0, 0)), .inl (4 : Int32), .inl (0 : Int32)] g26) (fun r29 g28 => (if r29 = 0 then (if (0 : Int32) = 0 ∨ (0 : Int32) = 1 then some (.inl (some (.inl (0 : Int32))), g28) else none) else (if (1 : Int32) = 0 ∨ (1 : Int32) = 1 then some (.inl (some (.inl (1 : Int32))), g28) else none)))))))))) else (if (0 : Int32) = 0 ∨ (0 : Int32) = 1 then some (.inl (some (.inl (0 : Int32))), g10) else none)) else (z_bI (zF_X1_lay [.inr (.inl (1, 0, 0)), .inl (3 : Int32), .inl (0 : Int32)] g10) (fun r31 g30 => (if r31 = 0 ∨ r31 = 1 then some (.inl (some (.inl r31)), g30) else none)))))) else (z_bI (zF_X1_lay [.inr (.inl (1, 0, 0)), .inl (2 : Int32), .inl (0 : Int32)] g8) (fun r33 g32 => (if r33 = 0 ∨ r33 = 1 then some (.inl (some (.inl r33)), g32) else none)))))) else (z_bI (zF_X1_lay [.inr (.inl (1, 0, 0)), .inl (1 : Int32), .inl (0 : Int32)] g6) (fun r35 g34 => (if r35 = 0 ∨ r35 = 1 then some (.inl (some (.inl r35)), g34) else none)))))) else (z_bI (zF_X1_readNumber [.inr (.inl (1, 0, 0))] g4) (fun r37 g36 => (if r37 = 0 ∨ r37 = 1 then some (.inl (some (.inl r37)), g36) else none)))))))))) := rfl
set_option maxRecDepth 400000 in
set_option maxHeartbeats 4000000 in
theorem zu_X1_readSum_0 (P : Nat → List zVV → zSG → Option zRR) (n : Nat) (x1 : Int32)  (g : zSG) : z_run (zM_X1_readSum P) zc_X1_readSum zk_X1_readSum (n + 1) 0 [(0, .inr (.inl (1, 0, 0))), (1, .inl x1)] g (0, 0) = (z_bI ((P 0) [.inr (.inl (1, 0, 0)), .inl x1] g) (fun r2 g1 => (if r2 = 0 then (if (0 : Int32) = 0 ∨ (0 : Int32) = 1 then some (.inl (some (.inl (0 : Int32))), g1) else none) else z_run (zM_X1_readSum P) zc_X1_readSum zk_X1_readSum n 12 [(0, .inr (.inl (1, 0, 0))), (1, .inl x1), (2, .inl (0 : Int32))] g1 (0, 0)))) := rfl
set_option maxRecDepth 400000 in
set_option maxHeartbeats 4000000 in
theorem zu_X1_readSum_12 (P : Nat → List zVV → zSG → Option zRR) (n : Nat) (x1 : Int32) (x2 : Int32)  (g : zSG) : z_run (zM_X1_readSum P) zc_X1_readSum zk_X1_readSum (n + 1) 12 [(0, .inr (.inl (1, 0, 0))), (1, .inl x1), (2, .inl x2)] g (0, 0) = (if (400 : Int32) ≤ x2 then (if (1 : Int32) = 0 ∨ (1 : Int32) = 1 then some (.inl (some (.inl (1 : Int32))), g) else none) else (z_bV (zF_X1_skipBlanks [.inr (.inl (1, 0, 0))] g) (fun g1 => (z_bI (zF_X1_byteAt [.inr (.inl (1, 0, 0)), .inl ((g1 1 0).1 3)] g1) (fun r3 g2 => (z_bI (zF_X1_joinFor [.inl r3] g2) (fun r5 g4 => (if r5 = (-1 : Int32) then (if (1 : Int32) = 0 ∨ (1 : Int32) = 1 then some (.inl (some (.inl (1 : Int32))), g4) else none) else (z_bI ((P 0) [.inr (.inl (1, 0, 0)), .inl x1] (z_gI g4 1 0 3 (((g4 1 0).1 3) + (1 : Int32)))) (fun r7 g6 => (if r7 = 0 then (if (0 : Int32) = 0 ∨ (0 : Int32) = 1 then some (.inl (some (.inl (0 : Int32))), g6) else none) else (z_bI (zF_X1_lay [.inr (.inl (1, 0, 0)), .inl r5, .inl (0 : Int32)] g6) (fun r9 g8 => (if r9 = 0 then (if (0 : Int32) = 0 ∨ (0 : Int32) = 1 then some (.inl (some (.inl (0 : Int32))), g8) else none) else z_run (zM_X1_readSum P) zc_X1_readSum zk_X1_readSum n 12 [(0, .inr (.inl (1, 0, 0))), (1, .inl x1), (2, .inl (x2 + (1 : Int32)))] g8 (0, 0))))))))))))))) := rfl
set_option maxRecDepth 400000 in
set_option maxHeartbeats 4000000 in
theorem zu_X1_readCompare_0 (P : Nat → List zVV → zSG → Option zRR) (n : Nat) (x1 : Int32)  (g : zSG) : z_run (zM_X1_readCompare P) zc_X1_readCompare zk_X1_readCompare (n + 1) 0 [(0, .inr (.inl (1, 0, 0))), (1, .inl x1)] g (0, 0) = (z_bI ((P 1) [.inr (.inl (1, 0, 0)), .inl x1] g) (fun r2 g1 => (if r2 = 0 then (if (0 : Int32) = 0 ∨ (0 : Int32) = 1 then some (.inl (some (.inl (0 : Int32))), g1) else none) else (z_bI (zF_X1_takeSign [.inr (.inl (1, 0, 0)), .inl (60 : Int32)] g1) (fun r4 g3 => (if r4 = 0 then (z_bI (zF_X1_takeSign [.inr (.inl (1, 0, 0)), .inl (61 : Int32)] g3) (fun r6 g5 => (if r6 = 0 then (if (1 : Int32) = 0 ∨ (1 : Int32) = 1 then some (.inl (some (.inl (1 : Int32))), g5) else none) else (z_bI ((P 1) [.inr (.inl (1, 0, 0)), .inl x1] g5) (fun r8 g7 => (if r8 = 0 then (if (0 : Int32) = 0 ∨ (0 : Int32) = 1 then some (.inl (some (.inl (0 : Int32))), g7) else none) else (z_bI (zF_X1_lay [.inr (.inl (1, 0, 0)), .inl (10 : Int32), .inl (0 : Int32)] g7) (fun r10 g9 => (if r10 = 0 then (if (0 : Int32) = 0 ∨ (0 : Int32) = 1 then some (.inl (some (.inl (0 : Int32))), g9) else none) else (if (1 : Int32) = 0 ∨ (1 : Int32) = 1 then some (.inl (some (.inl (1 : Int32))), g9) else none)))))))))) else (z_bI ((P 1) [.inr (.inl (1, 0, 0)), .inl x1] g3) (fun r12 g11 => (if r12 = 0 then (if (0 : Int32) = 0 ∨ (0 : Int32) = 1 then some (.inl (some (.inl (0 : Int32))), g11) else none) else (z_bI (zF_X1_lay [.inr (.inl (1, 0, 0)), .inl (9 : Int32), .inl (0 : Int32)] g11) (fun r14 g13 => (if r14 = 0 then (if (0 : Int32) = 0 ∨ (0 : Int32) = 1 then some (.inl (some (.inl (0 : Int32))), g13) else none) else (if (1 : Int32) = 0 ∨ (1 : Int32) = 1 then some (.inl (some (.inl (1 : Int32))), g13) else none))))))))))))) := rfl
set_option maxRecDepth 400000 in
set_option maxHeartbeats 4000000 in
theorem zu_X1_readSteps_0 (P : Nat → List zVV → zSG → Option zRR) (n : Nat) (x1 : Int32)  (g : zSG) : z_run (zM_X1_readSteps P) zc_X1_readSteps zk_X1_readSteps (n + 1) 0 [(0, .inr (.inl (1, 0, 0))), (1, .inl x1)] g (0, 0) = z_run (zM_X1_readSteps P) zc_X1_readSteps zk_X1_readSteps n 2 [(0, .inr (.inl (1, 0, 0))), (1, .inl x1), (2, .inl (0 : Int32))] g (0, 0) := rfl
set_option maxRecDepth 400000 in
set_option maxHeartbeats 4000000 in
theorem zu_X1_readSteps_2 (P : Nat → List zVV → zSG → Option zRR) (n : Nat) (x1 : Int32) (x2 : Int32)  (g : zSG) : z_run (zM_X1_readSteps P) zc_X1_readSteps zk_X1_readSteps (n + 1) 2 [(0, .inr (.inl (1, 0, 0))), (1, .inl x1), (2, .inl x2)] g (0, 0) = (if (30 : Int32) < x2 then (if (0 : Int32) = 0 ∨ (0 : Int32) = 1 then some (.inl (some (.inl (0 : Int32))), g) else none) else (z_bV (zF_X1_skipBlanks [.inr (.inl (1, 0, 0))] g) (fun g1 => (if ((g1 1 0).1 2) ≤ ((g1 1 0).1 3) then (if (1 : Int32) = 0 ∨ (1 : Int32) = 1 then some (.inl (some (.inl (1 : Int32))), g1) else none) else (z_bI (zF_X1_byteAt [.inr (.inl (1, 0, 0)), .inl ((g1 1 0).1 3)] g1) (fun r3 g2 => (if r3 = (41 : Int32) then (if (1 : Int32) = 0 ∨ (1 : Int32) = 1 then some (.inl (some (.inl (1 : Int32))), g2) else none) else (z_bI ((P 1) [.inr (.inl (1, 0, 0)), .inl x1] g2) (fun r5 g4 => (if r5 = 0 then (if (0 : Int32) = 0 ∨ (0 : Int32) = 1 then some (.inl (some (.inl (0 : Int32))), g4) else none) else z_run (zM_X1_readSteps P) zc_X1_readSteps zk_X1_readSteps n 2 [(0, .inr (.inl (1, 0, 0))), (1, .inl x1), (2, .inl (x2 + (1 : Int32)))] g4 (0, 0))))))))))) := rfl
set_option maxRecDepth 400000 in
set_option maxHeartbeats 4000000 in
theorem zu_X1_readStep_0 (P : Nat → List zVV → zSG → Option zRR) (n : Nat) (x1 : Int32)  (g : zSG) : z_run (zM_X1_readStep P) zc_X1_readStep zk_X1_readStep (n + 1) 0 [(0, .inr (.inl (1, 0, 0))), (1, .inl x1)] g (0, 0) = (if ((g 1 0).1 5) < (30 : Int32) then (z_bI (zF_X1_takeWord [.inr (.inl (1, 0, 0)), .inr (.inl (6, 0, 0))] (z_gI g 1 0 5 (((g 1 0).1 5) + (1 : Int32)))) (fun r2 g1 => (if r2 = 0 then (z_bI (zF_X1_takeWord [.inr (.inl (1, 0, 0)), .inr (.inl (6, 1, 0))] g1) (fun r4 g3 => (if r4 = 0 then (if (6 : Int32) ≤ x1 then (if (0 : Int32) = 0 ∨ (0 : Int32) = 1 then some (.inl (some (.inl (0 : Int32))), g3) else none) else (z_bI (zF_X1_takeWord [.inr (.inl (1, 0, 0)), .inr (.inl (6, 2, 0))] g3) (fun r6 g5 => (if r6 = 0 then (if (0 : Int32) = 0 ∨ (0 : Int32) = 1 then some (.inl (some (.inl (0 : Int32))), g5) else none) else (z_bI ((P 2) [.inr (.inl (1, 0, 0)), .inl x1, .inl ((g 1 0).1 5)] g5) (fun r8 g7 => (if r8 = 0 then (if (0 : Int32) = 0 ∨ (0 : Int32) = 1 then some (.inl (some (.inl (0 : Int32))), g7) else none) else (if (1 : Int32) = 0 ∨ (1 : Int32) = 1 then some (.inl (some (.inl (1 : Int32))), g7) else none)))))))) else (z_bI ((zP1 40 2) [.inr (.inl (1, 0, 0)), .inl (0 : Int32)] g3) (fun r10 g9 => (if r10 = 0 then (if (0 : Int32) = 0 ∨ (0 : Int32) = 1 then some (.inl (some (.inl (0 : Int32))), g9) else none) else (z_bI (zF_X1_takeSign [.inr (.inl (1, 0, 0)), .inl (59 : Int32)] g9) (fun r12 g11 => (if r12 = 0 then (if (0 : Int32) = 0 ∨ (0 : Int32) = 1 then some (.inl (some (.inl (0 : Int32))), g11) else none) else (z_bI (zF_X1_lay [.inr (.inl (1, 0, 0)), .inl (12 : Int32), .inl ((g 1 0).1 5)] g11) (fun r14 g13 => (if r14 = 0 then (if (0 : Int32) = 0 ∨ (0 : Int32) = 1 then some (.inl (some (.inl (0 : Int32))), g13) else none) else (if (1 : Int32) = 0 ∨ (1 : Int32) = 1 then some (.inl (some (.inl (1 : Int32))), g13) else none))))))))))))) else (z_bI ((zP1 40 1) [.inr (.inl (1, 0, 0)), .inl (0 : Int32)] g1) (fun r16 g15 => (if r16 = 0 then (if (0 : Int32) = 0 ∨ (0 : Int32) = 1 then some (.inl (some (.inl (0 : Int32))), g15) else none) else (z_bI ((zP1 40 1) [.inr (.inl (1, 0, 0)), .inl (0 : Int32)] g15) (fun r18 g17 => (if r18 = 0 then (if (0 : Int32) = 0 ∨ (0 : Int32) = 1 then some (.inl (some (.inl (0 : Int32))), g17) else none) else (z_bI (zF_X1_takeSign [.inr (.inl (1, 0, 0)), .inl (59 : Int32)] g17) (fun r20 g19 => (if r20 = 0 then (if (0 : Int32) = 0 ∨ (0 : Int32) = 1 then some (.inl (some (.inl (0 : Int32))), g19) else none) else (z_bI (zF_X1_lay [.inr (.inl (1, 0, 0)), .inl (11 : Int32), .inl ((g 1 0).1 5)] g19) (fun r22 g21 => (if r22 = 0 then (if (0 : Int32) = 0 ∨ (0 : Int32) = 1 then some (.inl (some (.inl (0 : Int32))), g21) else none) else (if (1 : Int32) = 0 ∨ (1 : Int32) = 1 then some (.inl (some (.inl (1 : Int32))), g21) else none)))))))))))))))) else (if (0 : Int32) = 0 ∨ (0 : Int32) = 1 then some (.inl (some (.inl (0 : Int32))), g) else none)) := rfl
set_option maxRecDepth 400000 in
set_option maxHeartbeats 4000000 in
theorem zu_X1_readWhen_0 (P : Nat → List zVV → zSG → Option zRR) (n : Nat) (x1 : Int32) (x2 : Int32)  (g : zSG) : z_run (zM_X1_readWhen P) zc_X1_readWhen zk_X1_readWhen (n + 1) 0 [(0, .inr (.inl (1, 0, 0))), (1, .inl x1), (2, .inl x2)] g (0, 0) = (z_bI ((zP1 40 2) [.inr (.inl (1, 0, 0)), .inl (0 : Int32)] g) (fun r2 g1 => (if r2 = 0 then (if (0 : Int32) = 0 ∨ (0 : Int32) = 1 then some (.inl (some (.inl (0 : Int32))), g1) else none) else (z_bI (zF_X1_takeSign [.inr (.inl (1, 0, 0)), .inl (40 : Int32)] g1) (fun r4 g3 => (if r4 = 0 then (if (0 : Int32) = 0 ∨ (0 : Int32) = 1 then some (.inl (some (.inl (0 : Int32))), g3) else none) else (z_bI (zF_X1_lay [.inr (.inl (1, 0, 0)), .inl (13 : Int32), .inl x2] g3) (fun r6 g5 => (if r6 = 0 then (if (0 : Int32) = 0 ∨ (0 : Int32) = 1 then some (.inl (some (.inl (0 : Int32))), g5) else none) else (z_bI ((P 0) [.inr (.inl (1, 0, 0)), .inl (x1 + (1 : Int32))] g5) (fun r8 g7 => (if r8 = 0 then (if (0 : Int32) = 0 ∨ (0 : Int32) = 1 then some (.inl (some (.inl (0 : Int32))), g7) else none) else (z_bI (zF_X1_takeSign [.inr (.inl (1, 0, 0)), .inl (41 : Int32)] g7) (fun r10 g9 => (if r10 = 0 then (if (0 : Int32) = 0 ∨ (0 : Int32) = 1 then some (.inl (some (.inl (0 : Int32))), g9) else none) else (if z_inb ((g3 1 0).1 4) 400 then (if z_inb ((g3 1 0).1 4) 400 then (if (1 : Int32) = 0 ∨ (1 : Int32) = 1 then some (.inl (some (.inl (1 : Int32))), (z_gA g9 1 0 0 (upd ((g9 1 0).2 0) ((g3 1 0).1 4).toNatClampNeg (((g9 1 0).2 0 ((g3 1 0).1 4).toNatClampNeg) ||| (((g9 1 0).1 4) <<< ((9 : Int32) &&& 31)))))) else none) else none) else none)))))))))))))))) := rfl
set_option maxRecDepth 400000 in
set_option maxHeartbeats 4000000 in
theorem zu_X1_understands_0 (n : Nat) (x2 : Int32)  (g : zSG) : z_run zM_X1_understands zc_X1_understands zk_X1_understands (n + 1) 0 [(0, .inr (.inl (1, 0, 0))), (1, .inr (.inl (0, 0, 1))), (2, .inl x2)] g (0, 0) = (z_bI (zF_min [.inl x2, .inl (400 : Int32)] (z_gI g 1 0 1 (1 : Int32))) (fun r2 g1 => (z_bI ((zS1 24 0) [.inr (.inl (1, 0, 0)), .inl (0 : Int32)] (z_gI (z_gI (z_gI (z_gI g1 1 0 2 r2) 1 0 3 (0 : Int32)) 1 0 4 (0 : Int32)) 1 0 5 (0 : Int32))) (fun r4 g3 => (if r4 = 0 then (if (0 : Int32) = 0 ∨ (0 : Int32) = 1 then some (.inl (some (.inl (0 : Int32))), g3) else none) else (if ((g3 1 0).1 3) < ((g3 1 0).1 2) then (if (0 : Int32) = 0 ∨ (0 : Int32) = 1 then some (.inl (some (.inl (0 : Int32))), g3) else none) else (if (1 : Int32) = 0 ∨ (1 : Int32) = 1 then some (.inl (some (.inl (1 : Int32))), g3) else none))))))) := rfl
theorem ze_X1_understands (x2 : Int32)  (g : zSG) : zF_X1_understands [.inr (.inl (1, 0, 0)), .inr (.inl (0, 0, 1)), .inl x2] g = z_run zM_X1_understands zc_X1_understands zk_X1_understands 100000 0 [(0, .inr (.inl (1, 0, 0))), (1, .inr (.inl (0, 0, 1))), (2, .inl x2)] g (0, 0) := z_fn_ok (sh := zs_X1_understands) (vs := [.inr (.inl (1, 0, 0)), .inr (.inl (0, 0, 1)), .inl x2]) (rfl) rfl
end
section
set_option maxRecDepth 400000 in
set_option maxHeartbeats 4000000 in
theorem zu_X5_thrown_0 (n : Nat)   (g : zSG) : z_run zM_X5_thrown zc_X5_thrown zk_X5_thrown (n + 1) 0 [(0, .inr (.inl (3, 0, 0)))] g (0, 0) = some (.inl (some (.inl ((g 3 0).1 0))), g) := rfl
theorem ze_X5_thrown   (g : zSG) : zF_X5_thrown [.inr (.inl (3, 0, 0))] g = z_run zM_X5_thrown zc_X5_thrown zk_X5_thrown 100000 0 [(0, .inr (.inl (3, 0, 0)))] g (0, 0) := z_fn_ok (sh := zs_X5_thrown) (vs := [.inr (.inl (3, 0, 0))]) (rfl) rfl
set_option maxRecDepth 400000 in
set_option maxHeartbeats 4000000 in
theorem zu_X5_may_0 (n : Nat) (x1 : Int32) (x2 : Int32)  (g : zSG) : z_run zM_X5_may zc_X5_may zk_X5_may (n + 1) 0 [(0, .inr (.inl (3, 0, 0))), (1, .inl x1), (2, .inl x2)] g (0, 0) = (if x1 = 0 then (if ((g 3 0).1 0) = 0 then (if x2 = 0 then (if (1 : Int32) = 0 ∨ (1 : Int32) = 1 then some (.inl (some (.inl (1 : Int32))), (z_gI g 3 0 0 x2)) else none) else (if (0 : Int32) = 0 ∨ (0 : Int32) = 1 then some (.inl (some (.inl (0 : Int32))), (z_gI g 3 0 0 x2)) else none)) else (if ((g 3 0).1 0) = 0 then (if (1 : Int32) = 0 ∨ (1 : Int32) = 1 then some (.inl (some (.inl (1 : Int32))), g) else none) else (if (0 : Int32) = 0 ∨ (0 : Int32) = 1 then some (.inl (some (.inl (0 : Int32))), g) else none))) else (if ((g 3 0).1 0) = 0 then (if (1 : Int32) = 0 ∨ (1 : Int32) = 1 then some (.inl (some (.inl (1 : Int32))), g) else none) else (if (0 : Int32) = 0 ∨ (0 : Int32) = 1 then some (.inl (some (.inl (0 : Int32))), g) else none))) := rfl
theorem ze_X5_may (x1 : Int32) (x2 : Int32)  (g : zSG) : zF_X5_may [.inr (.inl (3, 0, 0)), .inl x1, .inl x2] g = z_run zM_X5_may zc_X5_may zk_X5_may 100000 0 [(0, .inr (.inl (3, 0, 0))), (1, .inl x1), (2, .inl x2)] g (0, 0) := z_fn_ok (sh := zs_X5_may) (vs := [.inr (.inl (3, 0, 0)), .inl x1, .inl x2]) (rfl) rfl
set_option maxRecDepth 400000 in
set_option maxHeartbeats 4000000 in
theorem zu_X5_within_0 (n : Nat) (x0 : Int32) (x1 : Int32) (x2 : Int32)  (g : zSG) : z_run zM_X5_within zc_X5_within zk_X5_within (n + 1) 0 [(0, .inl x0), (1, .inl x1), (2, .inl x2)] g (0, 0) = (if x0 < x1 then (if (0 : Int32) = 0 ∨ (0 : Int32) = 1 then some (.inl (some (.inl (0 : Int32))), g) else none) else (if x2 < x0 then (if (0 : Int32) = 0 ∨ (0 : Int32) = 1 then some (.inl (some (.inl (0 : Int32))), g) else none) else (if (1 : Int32) = 0 ∨ (1 : Int32) = 1 then some (.inl (some (.inl (1 : Int32))), g) else none))) := rfl
theorem ze_X5_within (x0 : Int32) (x1 : Int32) (x2 : Int32)  (g : zSG) : zF_X5_within [.inl x0, .inl x1, .inl x2] g = z_run zM_X5_within zc_X5_within zk_X5_within 100000 0 [(0, .inl x0), (1, .inl x1), (2, .inl x2)] g (0, 0) := z_fn_ok (sh := zs_X5_within) (vs := [.inl x0, .inl x1, .inl x2]) (rfl) rfl
set_option maxRecDepth 400000 in
set_option maxHeartbeats 4000000 in
theorem zu_X5_feed_0 (n : Nat) (x1 : Int32) (x2 : Int32) (x3 : Int32) (x4 : Int32) (x5 : Int32)  (g : zSG) : z_run zM_X5_feed zc_X5_feed zk_X5_feed (n + 1) 0 [(0, .inr (.inl (3, 0, 0))), (1, .inl x1), (2, .inl x2), (3, .inl x3), (4, .inl x4), (5, .inl x5)] g (0, 0) = (if (((g 3 0).1 1) + (20 : Int32)) ≤ (400 : Int32) then z_run zM_X5_feed zc_X5_feed zk_X5_feed n 23 [(0, .inr (.inl (3, 0, 0))), (1, .inl x1), (2, .inl x2), (3, .inl x3), (4, .inl x4), (5, .inl x5), (6, .inl (0 : Int32))] (z_gI g 3 0 0 (0 : Int32)) (0, 0) else some (.inl (some (.inl (-1 : Int32))), (z_gI g 3 0 0 (0 : Int32)))) := rfl
set_option maxRecDepth 400000 in
set_option maxHeartbeats 4000000 in
theorem zu_X5_feed_23 (n : Nat) (x1 : Int32) (x2 : Int32) (x3 : Int32) (x4 : Int32) (x5 : Int32) (x6 : Int32)  (g : zSG) : z_run zM_X5_feed zc_X5_feed zk_X5_feed (n + 1) 23 [(0, .inr (.inl (3, 0, 0))), (1, .inl x1), (2, .inl x2), (3, .inl x3), (4, .inl x4), (5, .inl x5), (6, .inl x6)] g (0, 0) = (if (20 : Int32) ≤ x6 then some (.inl (some (.inl ((g 3 0).1 1))), g) else (if (4 : Int32) ≤ x6 then (if (8 : Int32) ≤ x6 then (if (12 : Int32) ≤ x6 then (if (16 : Int32) ≤ x6 then (if (4 : Int32) = 0 then none else (if z_inb ((g 3 0).1 1) 400 then z_run zM_X5_feed zc_X5_feed zk_X5_feed n 23 [(0, .inr (.inl (3, 0, 0))), (1, .inl x1), (2, .inl x2), (3, .inl x3), (4, .inl x4), (5, .inl x5), (6, .inl (x6 + (1 : Int32)))] (z_gI (z_gA g 3 0 9 (upd ((g 3 0).2 9) ((g 3 0).1 1).toNatClampNeg ((x5 >>> (((24 : Int32) - ((8 : Int32) * (x6 - x6 / (4 : Int32) * (4 : Int32)))) &&& 31)) &&& (255 : Int32)))) 3 0 1 (((g 3 0).1 1) + (1 : Int32))) (0, 0) else none)) else (if (4 : Int32) = 0 then none else (if z_inb ((g 3 0).1 1) 400 then z_run zM_X5_feed zc_X5_feed zk_X5_feed n 23 [(0, .inr (.inl (3, 0, 0))), (1, .inl x1), (2, .inl x2), (3, .inl x3), (4, .inl x4), (5, .inl x5), (6, .inl (x6 + (1 : Int32)))] (z_gI (z_gA g 3 0 9 (upd ((g 3 0).2 9) ((g 3 0).1 1).toNatClampNeg ((x4 >>> (((24 : Int32) - ((8 : Int32) * (x6 - x6 / (4 : Int32) * (4 : Int32)))) &&& 31)) &&& (255 : Int32)))) 3 0 1 (((g 3 0).1 1) + (1 : Int32))) (0, 0) else none))) else (if (4 : Int32) = 0 then none else (if z_inb ((g 3 0).1 1) 400 then z_run zM_X5_feed zc_X5_feed zk_X5_feed n 23 [(0, .inr (.inl (3, 0, 0))), (1, .inl x1), (2, .inl x2), (3, .inl x3), (4, .inl x4), (5, .inl x5), (6, .inl (x6 + (1 : Int32)))] (z_gI (z_gA g 3 0 9 (upd ((g 3 0).2 9) ((g 3 0).1 1).toNatClampNeg ((x3 >>> (((24 : Int32) - ((8 : Int32) * (x6 - x6 / (4 : Int32) * (4 : Int32)))) &&& 31)) &&& (255 : Int32)))) 3 0 1 (((g 3 0).1 1) + (1 : Int32))) (0, 0) else none))) else (if (4 : Int32) = 0 then none else (if z_inb ((g 3 0).1 1) 400 then z_run zM_X5_feed zc_X5_feed zk_X5_feed n 23 [(0, .inr (.inl (3, 0, 0))), (1, .inl x1), (2, .inl x2), (3, .inl x3), (4, .inl x4), (5, .inl x5), (6, .inl (x6 + (1 : Int32)))] (z_gI (z_gA g 3 0 9 (upd ((g 3 0).2 9) ((g 3 0).1 1).toNatClampNeg ((x2 >>> (((24 : Int32) - ((8 : Int32) * (x6 - x6 / (4 : Int32) * (4 : Int32)))) &&& 31)) &&& (255 : Int32)))) 3 0 1 (((g 3 0).1 1) + (1 : Int32))) (0, 0) else none))) else (if (4 : Int32) = 0 then none else (if z_inb ((g 3 0).1 1) 400 then z_run zM_X5_feed zc_X5_feed zk_X5_feed n 23 [(0, .inr (.inl (3, 0, 0))), (1, .inl x1), (2, .inl x2), (3, .inl x3), (4, .inl x4), (5, .inl x5), (6, .inl (x6 + (1 : Int32)))] (z_gI (z_gA g 3 0 9 (upd ((g 3 0).2 9) ((g 3 0).1 1).toNatClampNeg ((x1 >>> (((24 : Int32) - ((8 : Int32) * (x6 - x6 / (4 : Int32) * (4 : Int32)))) &&& 31)) &&& (255 : Int32)))) 3 0 1 (((g 3 0).1 1) + (1 : Int32))) (0, 0) else none)))) := rfl
theorem ze_X5_feed (x1 : Int32) (x2 : Int32) (x3 : Int32) (x4 : Int32) (x5 : Int32)  (g : zSG) : zF_X5_feed [.inr (.inl (3, 0, 0)), .inl x1, .inl x2, .inl x3, .inl x4, .inl x5] g = z_run zM_X5_feed zc_X5_feed zk_X5_feed 100000 0 [(0, .inr (.inl (3, 0, 0))), (1, .inl x1), (2, .inl x2), (3, .inl x3), (4, .inl x4), (5, .inl x5)] g (0, 0) := z_fn_ok (sh := zs_X5_feed) (vs := [.inr (.inl (3, 0, 0)), .inl x1, .inl x2, .inl x3, .inl x4, .inl x5]) (rfl) rfl
set_option maxRecDepth 400000 in
set_option maxHeartbeats 4000000 in
theorem zu_X5_fine_0 (n : Nat)   (g : zSG) : z_run zM_X5_fine zc_X5_fine zk_X5_fine (n + 1) 0 [(0, .inr (.inl (3, 0, 0)))] g (0, 0) = (if ((g 3 0).1 4) = (-1 : Int32) then (if (1 : Int32) = 0 ∨ (1 : Int32) = 1 then some (.inl (some (.inl (1 : Int32))), g) else none) else (if (0 : Int32) = 0 ∨ (0 : Int32) = 1 then some (.inl (some (.inl (0 : Int32))), g) else none)) := rfl
theorem ze_X5_fine   (g : zSG) : zF_X5_fine [.inr (.inl (3, 0, 0))] g = z_run zM_X5_fine zc_X5_fine zk_X5_fine 100000 0 [(0, .inr (.inl (3, 0, 0)))] g (0, 0) := z_fn_ok (sh := zs_X5_fine) (vs := [.inr (.inl (3, 0, 0))]) (rfl) rfl
set_option maxRecDepth 400000 in
set_option maxHeartbeats 4000000 in
theorem zu_X5_wrong_0 (n : Nat) (x1 : Int32)  (g : zSG) : z_run zM_X5_wrong zc_X5_wrong zk_X5_wrong (n + 1) 0 [(0, .inr (.inl (3, 0, 0))), (1, .inl x1)] g (0, 0) = (if ((g 3 0).1 4) = (-1 : Int32) then some (.inl none, (z_gI g 3 0 4 x1)) else some (.inl none, g)) := rfl
theorem ze_X5_wrong (x1 : Int32)  (g : zSG) : zF_X5_wrong [.inr (.inl (3, 0, 0)), .inl x1] g = z_run zM_X5_wrong zc_X5_wrong zk_X5_wrong 100000 0 [(0, .inr (.inl (3, 0, 0))), (1, .inl x1)] g (0, 0) := z_fn_ok (sh := zs_X5_wrong) (vs := [.inr (.inl (3, 0, 0)), .inl x1]) (rfl) rfl
set_option maxRecDepth 400000 in
set_option maxHeartbeats 4000000 in
theorem zu_X5_here_0 (n : Nat)   (g : zSG) : z_run zM_X5_here zc_X5_here zk_X5_here (n + 1) 0 [(0, .inr (.inl (3, 0, 0)))] g (0, 0) = (if ((g 3 0).1 2) ≤ ((g 3 0).1 3) then (if ((g 3 0).1 2) ≤ ((g 3 0).1 3) then some (.inl (some (.inl (0 : Int32))), g) else (if z_inb ((g 3 0).1 3) 400 then some (.inl (some (.inl ((g 3 0).2 9 ((g 3 0).1 3).toNatClampNeg))), g) else none)) else (if z_inb ((g 3 0).1 3) 400 then (if ((g 3 0).2 9 ((g 3 0).1 3).toNatClampNeg) = (32 : Int32) then z_run zM_X5_here zc_X5_here zk_X5_here n 0 [(0, .inr (.inl (3, 0, 0)))] (z_gI g 3 0 3 (((g 3 0).1 3) + (1 : Int32))) (0, 0) else (if ((g 3 0).1 2) ≤ ((g 3 0).1 3) then some (.inl (some (.inl (0 : Int32))), g) else (if z_inb ((g 3 0).1 3) 400 then some (.inl (some (.inl ((g 3 0).2 9 ((g 3 0).1 3).toNatClampNeg))), g) else none))) else none)) := rfl
theorem ze_X5_here   (g : zSG) : zF_X5_here [.inr (.inl (3, 0, 0))] g = z_run zM_X5_here zc_X5_here zk_X5_here 100000 0 [(0, .inr (.inl (3, 0, 0)))] g (0, 0) := z_fn_ok (sh := zs_X5_here) (vs := [.inr (.inl (3, 0, 0))]) (rfl) rfl
set_option maxRecDepth 400000 in
set_option maxHeartbeats 4000000 in
theorem zu_X5_isSmall_0 (n : Nat) (x0 : Int32)  (g : zSG) : z_run zM_X5_isSmall zc_X5_isSmall zk_X5_isSmall (n + 1) 0 [(0, .inl x0)] g (0, 0) = (if x0 < (97 : Int32) then (if (0 : Int32) = 0 ∨ (0 : Int32) = 1 then some (.inl (some (.inl (0 : Int32))), g) else none) else (if (122 : Int32) < x0 then (if (0 : Int32) = 0 ∨ (0 : Int32) = 1 then some (.inl (some (.inl (0 : Int32))), g) else none) else (if (1 : Int32) = 0 ∨ (1 : Int32) = 1 then some (.inl (some (.inl (1 : Int32))), g) else none))) := rfl
theorem ze_X5_isSmall (x0 : Int32)  (g : zSG) : zF_X5_isSmall [.inl x0] g = z_run zM_X5_isSmall zc_X5_isSmall zk_X5_isSmall 100000 0 [(0, .inl x0)] g (0, 0) := z_fn_ok (sh := zs_X5_isSmall) (vs := [.inl x0]) (rfl) rfl
set_option maxRecDepth 400000 in
set_option maxHeartbeats 4000000 in
theorem zu_X5_isDigit_0 (n : Nat) (x0 : Int32)  (g : zSG) : z_run zM_X5_isDigit zc_X5_isDigit zk_X5_isDigit (n + 1) 0 [(0, .inl x0)] g (0, 0) = (if x0 < (48 : Int32) then (if (0 : Int32) = 0 ∨ (0 : Int32) = 1 then some (.inl (some (.inl (0 : Int32))), g) else none) else (if (57 : Int32) < x0 then (if (0 : Int32) = 0 ∨ (0 : Int32) = 1 then some (.inl (some (.inl (0 : Int32))), g) else none) else (if (1 : Int32) = 0 ∨ (1 : Int32) = 1 then some (.inl (some (.inl (1 : Int32))), g) else none))) := rfl
theorem ze_X5_isDigit (x0 : Int32)  (g : zSG) : zF_X5_isDigit [.inl x0] g = z_run zM_X5_isDigit zc_X5_isDigit zk_X5_isDigit 100000 0 [(0, .inl x0)] g (0, 0) := z_fn_ok (sh := zs_X5_isDigit) (vs := [.inl x0]) (rfl) rfl
set_option maxRecDepth 400000 in
set_option maxHeartbeats 4000000 in
theorem zu_X5_word_0 (n : Nat)   (g : zSG) : z_run zM_X5_word zc_X5_word zk_X5_word (n + 1) 0 [(0, .inr (.inl (3, 0, 0)))] g (0, 0) = (z_bI (zF_X5_here [.inr (.inl (3, 0, 0))] g) (fun r2 g1 => z_run zM_X5_word zc_X5_word zk_X5_word n 15 [(0, .inr (.inl (3, 0, 0))), (1, .inr (.inr (0 : Int64))), (3, .inl (0 : Int32)), (4, .inl ((g1 3 0).1 3))] g1 (0, 0))) := rfl
set_option maxRecDepth 400000 in
set_option maxHeartbeats 4000000 in
theorem zu_X5_word_15 (n : Nat) (y1 : Int64) (x3 : Int32) (x4 : Int32)  (g : zSG) : z_run zM_X5_word zc_X5_word zk_X5_word (n + 1) 15 [(0, .inr (.inl (3, 0, 0))), (1, .inr (.inr y1)), (3, .inl x3), (4, .inl x4)] g (0, 0) = (if ((g 3 0).1 2) ≤ x4 then (if x3 ≤ (7 : Int32) then some (.inl (some (.inr (.inr y1))), g) else some (.inl (some (.inr (.inr (0 : Int64)))), g)) else (if z_inb x4 400 then (z_bI (zF_X5_isSmall [.inl ((g 3 0).2 9 (x4).toNatClampNeg)] g) (fun r2 g1 => (if r2 = 0 then (if x3 ≤ (7 : Int32) then some (.inl (some (.inr (.inr y1))), g1) else some (.inl (some (.inr (.inr (0 : Int64)))), g1)) else (if (7 : Int32) ≤ x3 then z_run zM_X5_word zc_X5_word zk_X5_word n 15 [(0, .inr (.inl (3, 0, 0))), (1, .inr (.inr (0 : Int64))), (3, .inl (x3 + (1 : Int32))), (4, .inl (x4 + (1 : Int32)))] g1 (0, 0) else (if z_inb x4 400 then z_run zM_X5_word zc_X5_word zk_X5_word n 15 [(0, .inr (.inl (3, 0, 0))), (1, .inr (.inr ((y1 <<< ((5 : Int32).toInt64 &&& 63)) ||| ((((g1 3 0).2 9 (x4).toNatClampNeg) - (96 : Int32)).toInt64)))), (3, .inl (x3 + (1 : Int32))), (4, .inl (x4 + (1 : Int32)))] g1 (0, 0) else none))))) else none)) := rfl
theorem ze_X5_word   (g : zSG) : zF_X5_word [.inr (.inl (3, 0, 0))] g = z_run zM_X5_word zc_X5_word zk_X5_word 100000 0 [(0, .inr (.inl (3, 0, 0)))] g (0, 0) := z_fn_ok (sh := zs_X5_word) (vs := [.inr (.inl (3, 0, 0))]) (rfl) rfl
set_option maxRecDepth 400000 in
set_option maxHeartbeats 4000000 in
theorem zu_X5_pass_0 (n : Nat)   (g : zSG) : z_run zM_X5_pass zc_X5_pass zk_X5_pass (n + 1) 0 [(0, .inr (.inl (3, 0, 0)))] g (0, 0) = (if ((g 3 0).1 2) ≤ ((g 3 0).1 3) then some (.inl none, g) else (if z_inb ((g 3 0).1 3) 400 then (z_bI (zF_X5_isSmall [.inl ((g 3 0).2 9 ((g 3 0).1 3).toNatClampNeg)] g) (fun r2 g1 => (if r2 = 0 then some (.inl none, g1) else z_run zM_X5_pass zc_X5_pass zk_X5_pass n 0 [(0, .inr (.inl (3, 0, 0)))] (z_gI g1 3 0 3 (((g1 3 0).1 3) + (1 : Int32))) (0, 0)))) else none)) := rfl
theorem ze_X5_pass   (g : zSG) : zF_X5_pass [.inr (.inl (3, 0, 0))] g = z_run zM_X5_pass zc_X5_pass zk_X5_pass 100000 0 [(0, .inr (.inl (3, 0, 0)))] g (0, 0) := z_fn_ok (sh := zs_X5_pass) (vs := [.inr (.inl (3, 0, 0))]) (rfl) rfl
set_option maxRecDepth 400000 in
set_option maxHeartbeats 4000000 in
theorem zu_X5_emit_0 (n : Nat) (x1 : Int32) (x2 : Int32)  (g : zSG) : z_run zM_X5_emit zc_X5_emit zk_X5_emit (n + 1) 0 [(0, .inr (.inl (3, 0, 0))), (1, .inl x1), (2, .inl x2)] g (0, 0) = (if z_inb ((g 3 0).1 5) 500 then (if z_inb ((g 3 0).1 5) 500 then some (.inl none, (z_gI (z_gA (z_gA g 3 0 10 (upd ((g 3 0).2 10) ((g 3 0).1 5).toNatClampNeg x1)) 3 0 11 (upd ((g 3 0).2 11) ((g 3 0).1 5).toNatClampNeg x2)) 3 0 5 (((g 3 0).1 5) + (1 : Int32)))) else none) else none) := rfl
theorem ze_X5_emit (x1 : Int32) (x2 : Int32)  (g : zSG) : zF_X5_emit [.inr (.inl (3, 0, 0)), .inl x1, .inl x2] g = z_run zM_X5_emit zc_X5_emit zk_X5_emit 100000 0 [(0, .inr (.inl (3, 0, 0))), (1, .inl x1), (2, .inl x2)] g (0, 0) := z_fn_ok (sh := zs_X5_emit) (vs := [.inr (.inl (3, 0, 0)), .inl x1, .inl x2]) (rfl) rfl
set_option maxRecDepth 400000 in
set_option maxHeartbeats 4000000 in
theorem zu_X5_need_0 (n : Nat) (x1 : Int32)  (g : zSG) : z_run zM_X5_need zc_X5_need zk_X5_need (n + 1) 0 [(0, .inr (.inl (3, 0, 0))), (1, .inl x1)] g (0, 0) = (z_bI (zF_X5_fine [.inr (.inl (3, 0, 0))] g) (fun r2 g1 => (if r2 = 0 then (z_bI (zF_X5_fine [.inr (.inl (3, 0, 0))] g1) (fun r4 g3 => (if r4 = 0 then some (.inl none, g3) else some (.inl none, (z_gI g3 3 0 3 (((g3 3 0).1 3) + (1 : Int32))))))) else (z_bI (zF_X5_here [.inr (.inl (3, 0, 0))] g1) (fun r6 g5 => (if r6 = x1 then (z_bI (zF_X5_fine [.inr (.inl (3, 0, 0))] g5) (fun r8 g7 => (if r8 = 0 then some (.inl none, g7) else some (.inl none, (z_gI g7 3 0 3 (((g7 3 0).1 3) + (1 : Int32))))))) else (z_bV (zF_X5_wrong [.inr (.inl (3, 0, 0)), .inl ((g5 3 0).1 3)] g5) (fun g9 => (z_bI (zF_X5_fine [.inr (.inl (3, 0, 0))] g9) (fun r11 g10 => (if r11 = 0 then some (.inl none, g10) else some (.inl none, (z_gI g10 3 0 3 (((g10 3 0).1 3) + (1 : Int32))))))))))))))) := rfl
theorem ze_X5_need (x1 : Int32)  (g : zSG) : zF_X5_need [.inr (.inl (3, 0, 0)), .inl x1] g = z_run zM_X5_need zc_X5_need zk_X5_need 100000 0 [(0, .inr (.inl (3, 0, 0))), (1, .inl x1)] g (0, 0) := z_fn_ok (sh := zs_X5_need) (vs := [.inr (.inl (3, 0, 0)), .inl x1]) (rfl) rfl
set_option maxRecDepth 400000 in
set_option maxHeartbeats 4000000 in
theorem zu_X5_digits_0 (n : Nat)   (g : zSG) : z_run zM_X5_digits zc_X5_digits zk_X5_digits (n + 1) 0 [(0, .inr (.inl (3, 0, 0)))] g (0, 0) = z_run zM_X5_digits zc_X5_digits zk_X5_digits n 4 [(0, .inr (.inl (3, 0, 0))), (1, .inl (0 : Int32)), (2, .inl (0 : Int32))] g (0, 0) := rfl
set_option maxRecDepth 400000 in
set_option maxHeartbeats 4000000 in
theorem zu_X5_digits_4 (n : Nat) (x1 : Int32) (x2 : Int32)  (g : zSG) : z_run zM_X5_digits zc_X5_digits zk_X5_digits (n + 1) 4 [(0, .inr (.inl (3, 0, 0))), (1, .inl x1), (2, .inl x2)] g (0, 0) = (z_bI (zF_X5_fine [.inr (.inl (3, 0, 0))] g) (fun r2 g1 => (if r2 = 0 then (z_bI (zF_X5_fine [.inr (.inl (3, 0, 0))] g1) (fun r4 g3 => (if r4 = 0 then some (.inl none, g3) else (z_bV (zF_X5_emit [.inr (.inl (3, 0, 0)), .inl (0 : Int32), .inl x1] g3) (fun g5 => some (.inl none, g5)))))) else (if ((g1 3 0).1 2) ≤ ((g1 3 0).1 3) then (z_bI (zF_X5_fine [.inr (.inl (3, 0, 0))] g1) (fun r7 g6 => (if r7 = 0 then some (.inl none, g6) else (z_bV (zF_X5_emit [.inr (.inl (3, 0, 0)), .inl (0 : Int32), .inl x1] g6) (fun g8 => some (.inl none, g8)))))) else (if z_inb ((g1 3 0).1 3) 400 then (z_bI (zF_X5_isDigit [.inl ((g1 3 0).2 9 ((g1 3 0).1 3).toNatClampNeg)] g1) (fun r10 g9 => (if r10 = 0 then (z_bI (zF_X5_fine [.inr (.inl (3, 0, 0))] g9) (fun r12 g11 => (if r12 = 0 then some (.inl none, g11) else (z_bV (zF_X5_emit [.inr (.inl (3, 0, 0)), .inl (0 : Int32), .inl x1] g11) (fun g13 => some (.inl none, g13)))))) else (if x2 = (6 : Int32) then (z_bV (zF_X5_wrong [.inr (.inl (3, 0, 0)), .inl ((g9 3 0).1 3)] g9) (fun g14 => z_run zM_X5_digits zc_X5_digits zk_X5_digits n 4 [(0, .inr (.inl (3, 0, 0))), (1, .inl x1), (2, .inl x2)] g14 (0, 0))) else (if z_inb ((g9 3 0).1 3) 400 then z_run zM_X5_digits zc_X5_digits zk_X5_digits n 4 [(0, .inr (.inl (3, 0, 0))), (1, .inl ((((10 : Int32) * x1) + ((g9 3 0).2 9 ((g9 3 0).1 3).toNatClampNeg)) - (48 : Int32))), (2, .inl (x2 + (1 : Int32)))] (z_gI g9 3 0 3 (((g9 3 0).1 3) + (1 : Int32))) (0, 0) else none))))) else none))))) := rfl
theorem ze_X5_digits   (g : zSG) : zF_X5_digits [.inr (.inl (3, 0, 0))] g = z_run zM_X5_digits zc_X5_digits zk_X5_digits 100000 0 [(0, .inr (.inl (3, 0, 0)))] g (0, 0) := z_fn_ok (sh := zs_X5_digits) (vs := [.inr (.inl (3, 0, 0))]) (rfl) rfl
set_option maxRecDepth 400000 in
set_option maxHeartbeats 4000000 in
theorem zu_X5_simple_0 (P : Nat → List zVV → zSG → Option zRR) (n : Nat)   (g : zSG) : z_run (zM_X5_simple P) zc_X5_simple zk_X5_simple (n + 1) 0 [(0, .inr (.inl (3, 0, 0)))] g (0, 0) = (z_bI (zF_X5_here [.inr (.inl (3, 0, 0))] g) (fun r2 g1 => (z_bI (zF_X5_isDigit [.inl r2] g1) (fun r4 g3 => (if r4 = 0 then (z_bL (zF_X5_word [.inr (.inl (3, 0, 0))] g3) (fun r6 g5 => (if r2 = (40 : Int32) then (if ((g5 3 0).1 8) = (12 : Int32) then (z_bV (zF_X5_wrong [.inr (.inl (3, 0, 0)), .inl ((g5 3 0).1 3)] g5) (fun g15 => some (.inl none, g15))) else (if r2 = (40 : Int32) then (z_bV ((P 2) [.inr (.inl (3, 0, 0))] (z_gI (z_gI g5 3 0 8 (((g5 3 0).1 8) + (1 : Int32))) 3 0 3 (((g5 3 0).1 3) + (1 : Int32)))) (fun g13 => (z_bV (zF_X5_need [.inr (.inl (3, 0, 0)), .inl (41 : Int32)] g13) (fun g14 => some (.inl none, (z_gI g14 3 0 8 (((g14 3 0).1 8) - (1 : Int32)))))))) else (z_bV (zF_X5_pass [.inr (.inl (3, 0, 0))] (z_gI g5 3 0 8 (((g5 3 0).1 8) + (1 : Int32)))) (fun g7 => (z_bV ((P 0) [.inr (.inl (3, 0, 0))] g7) (fun g8 => (z_bI (zF_X5_fine [.inr (.inl (3, 0, 0))] g8) (fun r10 g9 => (if r10 = 0 then some (.inl none, (z_gI g9 3 0 8 (((g9 3 0).1 8) - (1 : Int32)))) else (if (lg_cmp r6 (7348 : Int64)) = 0 then (z_bV (zF_X5_emit [.inr (.inl (3, 0, 0)), .inl (4 : Int32), .inl (0 : Int32)] g9) (fun g12 => some (.inl none, (z_gI g12 3 0 8 (((g12 3 0).1 8) - (1 : Int32)))))) else (z_bV (zF_X5_emit [.inr (.inl (3, 0, 0)), .inl (5 : Int32), .inl (0 : Int32)] g9) (fun g11 => some (.inl none, (z_gI g11 3 0 8 (((g11 3 0).1 8) - (1 : Int32)))))))))))))))) else (if (lg_cmp r6 (7348 : Int64)) = 0 then (if ((g5 3 0).1 8) = (12 : Int32) then (z_bV (zF_X5_wrong [.inr (.inl (3, 0, 0)), .inl ((g5 3 0).1 3)] g5) (fun g24 => some (.inl none, g24))) else (if r2 = (40 : Int32) then (z_bV ((P 2) [.inr (.inl (3, 0, 0))] (z_gI (z_gI g5 3 0 8 (((g5 3 0).1 8) + (1 : Int32))) 3 0 3 (((g5 3 0).1 3) + (1 : Int32)))) (fun g22 => (z_bV (zF_X5_need [.inr (.inl (3, 0, 0)), .inl (41 : Int32)] g22) (fun g23 => some (.inl none, (z_gI g23 3 0 8 (((g23 3 0).1 8) - (1 : Int32)))))))) else (z_bV (zF_X5_pass [.inr (.inl (3, 0, 0))] (z_gI g5 3 0 8 (((g5 3 0).1 8) + (1 : Int32)))) (fun g16 => (z_bV ((P 0) [.inr (.inl (3, 0, 0))] g16) (fun g17 => (z_bI (zF_X5_fine [.inr (.inl (3, 0, 0))] g17) (fun r19 g18 => (if r19 = 0 then some (.inl none, (z_gI g18 3 0 8 (((g18 3 0).1 8) - (1 : Int32)))) else (if (lg_cmp r6 (7348 : Int64)) = 0 then (z_bV (zF_X5_emit [.inr (.inl (3, 0, 0)), .inl (4 : Int32), .inl (0 : Int32)] g18) (fun g21 => some (.inl none, (z_gI g21 3 0 8 (((g21 3 0).1 8) - (1 : Int32)))))) else (z_bV (zF_X5_emit [.inr (.inl (3, 0, 0)), .inl (5 : Int32), .inl (0 : Int32)] g18) (fun g20 => some (.inl none, (z_gI g20 3 0 8 (((g20 3 0).1 8) - (1 : Int32)))))))))))))))) else (if (lg_cmp r6 (16832373893 : Int64)) = 0 then (if ((g5 3 0).1 8) = (12 : Int32) then (z_bV (zF_X5_wrong [.inr (.inl (3, 0, 0)), .inl ((g5 3 0).1 3)] g5) (fun g46 => some (.inl none, g46))) else (if r2 = (40 : Int32) then (z_bV ((P 2) [.inr (.inl (3, 0, 0))] (z_gI (z_gI g5 3 0 8 (((g5 3 0).1 8) + (1 : Int32))) 3 0 3 (((g5 3 0).1 3) + (1 : Int32)))) (fun g44 => (z_bV (zF_X5_need [.inr (.inl (3, 0, 0)), .inl (41 : Int32)] g44) (fun g45 => some (.inl none, (z_gI g45 3 0 8 (((g45 3 0).1 8) - (1 : Int32)))))))) else (z_bV (zF_X5_pass [.inr (.inl (3, 0, 0))] (z_gI g5 3 0 8 (((g5 3 0).1 8) + (1 : Int32)))) (fun g38 => (z_bV ((P 0) [.inr (.inl (3, 0, 0))] g38) (fun g39 => (z_bI (zF_X5_fine [.inr (.inl (3, 0, 0))] g39) (fun r41 g40 => (if r41 = 0 then some (.inl none, (z_gI g40 3 0 8 (((g40 3 0).1 8) - (1 : Int32)))) else (if (lg_cmp r6 (7348 : Int64)) = 0 then (z_bV (zF_X5_emit [.inr (.inl (3, 0, 0)), .inl (4 : Int32), .inl (0 : Int32)] g40) (fun g43 => some (.inl none, (z_gI g43 3 0 8 (((g43 3 0).1 8) - (1 : Int32)))))) else (z_bV (zF_X5_emit [.inr (.inl (3, 0, 0)), .inl (5 : Int32), .inl (0 : Int32)] g40) (fun g42 => some (.inl none, (z_gI g42 3 0 8 (((g42 3 0).1 8) - (1 : Int32)))))))))))))))) else (if (lg_cmp r6 (1 : Int64)) = 0 then (z_bV (zF_X5_pass [.inr (.inl (3, 0, 0))] g5) (fun g25 => (if (lg_cmp r6 (1 : Int64)) = 0 then (z_bV (zF_X5_emit [.inr (.inl (3, 0, 0)), .inl (1 : Int32), .inl (0 : Int32)] g25) (fun g28 => some (.inl none, g28))) else (if (lg_cmp r6 (2 : Int64)) = 0 then (z_bV (zF_X5_emit [.inr (.inl (3, 0, 0)), .inl (2 : Int32), .inl (0 : Int32)] g25) (fun g27 => some (.inl none, g27))) else (z_bV (zF_X5_emit [.inr (.inl (3, 0, 0)), .inl (3 : Int32), .inl (0 : Int32)] g25) (fun g26 => some (.inl none, g26))))))) else (if (lg_cmp r6 (2 : Int64)) = 0 then (z_bV (zF_X5_pass [.inr (.inl (3, 0, 0))] g5) (fun g29 => (if (lg_cmp r6 (1 : Int64)) = 0 then (z_bV (zF_X5_emit [.inr (.inl (3, 0, 0)), .inl (1 : Int32), .inl (0 : Int32)] g29) (fun g32 => some (.inl none, g32))) else (if (lg_cmp r6 (2 : Int64)) = 0 then (z_bV (zF_X5_emit [.inr (.inl (3, 0, 0)), .inl (2 : Int32), .inl (0 : Int32)] g29) (fun g31 => some (.inl none, g31))) else (z_bV (zF_X5_emit [.inr (.inl (3, 0, 0)), .inl (3 : Int32), .inl (0 : Int32)] g29) (fun g30 => some (.inl none, g30))))))) else (if (lg_cmp r6 (292 : Int64)) = 0 then (z_bV (zF_X5_pass [.inr (.inl (3, 0, 0))] g5) (fun g33 => (if (lg_cmp r6 (1 : Int64)) = 0 then (z_bV (zF_X5_emit [.inr (.inl (3, 0, 0)), .inl (1 : Int32), .inl (0 : Int32)] g33) (fun g36 => some (.inl none, g36))) else (if (lg_cmp r6 (2 : Int64)) = 0 then (z_bV (zF_X5_emit [.inr (.inl (3, 0, 0)), .inl (2 : Int32), .inl (0 : Int32)] g33) (fun g35 => some (.inl none, g35))) else (z_bV (zF_X5_emit [.inr (.inl (3, 0, 0)), .inl (3 : Int32), .inl (0 : Int32)] g33) (fun g34 => some (.inl none, g34))))))) else (z_bV (zF_X5_wrong [.inr (.inl (3, 0, 0)), .inl ((g5 3 0).1 3)] g5) (fun g37 => some (.inl none, g37))))))))))) else (z_bV (zF_X5_digits [.inr (.inl (3, 0, 0))] g3) (fun g47 => some (.inl none, g47)))))))) := rfl
set_option maxRecDepth 400000 in
set_option maxHeartbeats 4000000 in
theorem zu_X5_row_0 (P : Nat → List zVV → zSG → Option zRR) (n : Nat)   (g : zSG) : z_run (zM_X5_row P) zc_X5_row zk_X5_row (n + 1) 0 [(0, .inr (.inl (3, 0, 0)))] g (0, 0) = (z_bV ((P 0) [.inr (.inl (3, 0, 0))] g) (fun g1 => z_run (zM_X5_row P) zc_X5_row zk_X5_row n 4 [(0, .inr (.inl (3, 0, 0)))] g1 (0, 0))) := rfl
set_option maxRecDepth 400000 in
set_option maxHeartbeats 4000000 in
theorem zu_X5_row_4 (P : Nat → List zVV → zSG → Option zRR) (n : Nat)   (g : zSG) : z_run (zM_X5_row P) zc_X5_row zk_X5_row (n + 1) 4 [(0, .inr (.inl (3, 0, 0)))] g (0, 0) = (z_bI (zF_X5_fine [.inr (.inl (3, 0, 0))] g) (fun r2 g1 => (if r2 = 0 then some (.inl none, g1) else (z_bI (zF_X5_here [.inr (.inl (3, 0, 0))] g1) (fun r4 g3 => (if r4 = (43 : Int32) then (z_bI (zF_X5_here [.inr (.inl (3, 0, 0))] g3) (fun r6 g5 => (z_bV ((P 0) [.inr (.inl (3, 0, 0))] (z_gI g5 3 0 3 (((g5 3 0).1 3) + (1 : Int32)))) (fun g7 => (z_bI (zF_X5_fine [.inr (.inl (3, 0, 0))] g7) (fun r9 g8 => (if r9 = 0 then z_run (zM_X5_row P) zc_X5_row zk_X5_row n 4 [(0, .inr (.inl (3, 0, 0)))] g8 (0, 0) else (if r6 = (43 : Int32) then (z_bV (zF_X5_emit [.inr (.inl (3, 0, 0)), .inl (6 : Int32), .inl (0 : Int32)] g8) (fun g12 => z_run (zM_X5_row P) zc_X5_row zk_X5_row n 4 [(0, .inr (.inl (3, 0, 0)))] g12 (0, 0))) else (if r6 = (45 : Int32) then (z_bV (zF_X5_emit [.inr (.inl (3, 0, 0)), .inl (7 : Int32), .inl (0 : Int32)] g8) (fun g11 => z_run (zM_X5_row P) zc_X5_row zk_X5_row n 4 [(0, .inr (.inl (3, 0, 0)))] g11 (0, 0))) else (z_bV (zF_X5_emit [.inr (.inl (3, 0, 0)), .inl (8 : Int32), .inl (0 : Int32)] g8) (fun g10 => z_run (zM_X5_row P) zc_X5_row zk_X5_row n 4 [(0, .inr (.inl (3, 0, 0)))] g10 (0, 0)))))))))))) else (z_bI (zF_X5_here [.inr (.inl (3, 0, 0))] g3) (fun r14 g13 => (if r14 = (45 : Int32) then (z_bI (zF_X5_here [.inr (.inl (3, 0, 0))] g13) (fun r16 g15 => (z_bV ((P 0) [.inr (.inl (3, 0, 0))] (z_gI g15 3 0 3 (((g15 3 0).1 3) + (1 : Int32)))) (fun g17 => (z_bI (zF_X5_fine [.inr (.inl (3, 0, 0))] g17) (fun r19 g18 => (if r19 = 0 then z_run (zM_X5_row P) zc_X5_row zk_X5_row n 4 [(0, .inr (.inl (3, 0, 0)))] g18 (0, 0) else (if r16 = (43 : Int32) then (z_bV (zF_X5_emit [.inr (.inl (3, 0, 0)), .inl (6 : Int32), .inl (0 : Int32)] g18) (fun g22 => z_run (zM_X5_row P) zc_X5_row zk_X5_row n 4 [(0, .inr (.inl (3, 0, 0)))] g22 (0, 0))) else (if r16 = (45 : Int32) then (z_bV (zF_X5_emit [.inr (.inl (3, 0, 0)), .inl (7 : Int32), .inl (0 : Int32)] g18) (fun g21 => z_run (zM_X5_row P) zc_X5_row zk_X5_row n 4 [(0, .inr (.inl (3, 0, 0)))] g21 (0, 0))) else (z_bV (zF_X5_emit [.inr (.inl (3, 0, 0)), .inl (8 : Int32), .inl (0 : Int32)] g18) (fun g20 => z_run (zM_X5_row P) zc_X5_row zk_X5_row n 4 [(0, .inr (.inl (3, 0, 0)))] g20 (0, 0)))))))))))) else (z_bI (zF_X5_here [.inr (.inl (3, 0, 0))] g13) (fun r24 g23 => (if r24 = (42 : Int32) then (z_bI (zF_X5_here [.inr (.inl (3, 0, 0))] g23) (fun r26 g25 => (z_bV ((P 0) [.inr (.inl (3, 0, 0))] (z_gI g25 3 0 3 (((g25 3 0).1 3) + (1 : Int32)))) (fun g27 => (z_bI (zF_X5_fine [.inr (.inl (3, 0, 0))] g27) (fun r29 g28 => (if r29 = 0 then z_run (zM_X5_row P) zc_X5_row zk_X5_row n 4 [(0, .inr (.inl (3, 0, 0)))] g28 (0, 0) else (if r26 = (43 : Int32) then (z_bV (zF_X5_emit [.inr (.inl (3, 0, 0)), .inl (6 : Int32), .inl (0 : Int32)] g28) (fun g32 => z_run (zM_X5_row P) zc_X5_row zk_X5_row n 4 [(0, .inr (.inl (3, 0, 0)))] g32 (0, 0))) else (if r26 = (45 : Int32) then (z_bV (zF_X5_emit [.inr (.inl (3, 0, 0)), .inl (7 : Int32), .inl (0 : Int32)] g28) (fun g31 => z_run (zM_X5_row P) zc_X5_row zk_X5_row n 4 [(0, .inr (.inl (3, 0, 0)))] g31 (0, 0))) else (z_bV (zF_X5_emit [.inr (.inl (3, 0, 0)), .inl (8 : Int32), .inl (0 : Int32)] g28) (fun g30 => z_run (zM_X5_row P) zc_X5_row zk_X5_row n 4 [(0, .inr (.inl (3, 0, 0)))] g30 (0, 0)))))))))))) else some (.inl none, g23))))))))))))) := rfl
set_option maxRecDepth 400000 in
set_option maxHeartbeats 4000000 in
theorem zu_X5_whole_0 (P : Nat → List zVV → zSG → Option zRR) (n : Nat)   (g : zSG) : z_run (zM_X5_whole P) zc_X5_whole zk_X5_whole (n + 1) 0 [(0, .inr (.inl (3, 0, 0)))] g (0, 0) = (z_bV ((P 1) [.inr (.inl (3, 0, 0))] g) (fun g1 => (z_bI (zF_X5_fine [.inr (.inl (3, 0, 0))] g1) (fun r3 g2 => (if r3 = 0 then (if (0 : Int32) = (60 : Int32) then (z_bV ((P 1) [.inr (.inl (3, 0, 0))] (z_gI g2 3 0 3 (((g2 3 0).1 3) + (1 : Int32)))) (fun g4 => (z_bI (zF_X5_fine [.inr (.inl (3, 0, 0))] g4) (fun r6 g5 => (if r6 = 0 then some (.inl none, g5) else (if (0 : Int32) = (60 : Int32) then (z_bV (zF_X5_emit [.inr (.inl (3, 0, 0)), .inl (9 : Int32), .inl (0 : Int32)] g5) (fun g8 => some (.inl none, g8))) else (z_bV (zF_X5_emit [.inr (.inl (3, 0, 0)), .inl (10 : Int32), .inl (0 : Int32)] g5) (fun g7 => some (.inl none, g7))))))))) else (if (0 : Int32) = (61 : Int32) then (z_bV ((P 1) [.inr (.inl (3, 0, 0))] (z_gI g2 3 0 3 (((g2 3 0).1 3) + (1 : Int32)))) (fun g9 => (z_bI (zF_X5_fine [.inr (.inl (3, 0, 0))] g9) (fun r11 g10 => (if r11 = 0 then some (.inl none, g10) else (if (0 : Int32) = (60 : Int32) then (z_bV (zF_X5_emit [.inr (.inl (3, 0, 0)), .inl (9 : Int32), .inl (0 : Int32)] g10) (fun g13 => some (.inl none, g13))) else (z_bV (zF_X5_emit [.inr (.inl (3, 0, 0)), .inl (10 : Int32), .inl (0 : Int32)] g10) (fun g12 => some (.inl none, g12))))))))) else some (.inl none, g2))) else (z_bI (zF_X5_here [.inr (.inl (3, 0, 0))] g2) (fun r15 g14 => (if r15 = (60 : Int32) then (z_bV ((P 1) [.inr (.inl (3, 0, 0))] (z_gI g14 3 0 3 (((g14 3 0).1 3) + (1 : Int32)))) (fun g16 => (z_bI (zF_X5_fine [.inr (.inl (3, 0, 0))] g16) (fun r18 g17 => (if r18 = 0 then some (.inl none, g17) else (if r15 = (60 : Int32) then (z_bV (zF_X5_emit [.inr (.inl (3, 0, 0)), .inl (9 : Int32), .inl (0 : Int32)] g17) (fun g20 => some (.inl none, g20))) else (z_bV (zF_X5_emit [.inr (.inl (3, 0, 0)), .inl (10 : Int32), .inl (0 : Int32)] g17) (fun g19 => some (.inl none, g19))))))))) else (if r15 = (61 : Int32) then (z_bV ((P 1) [.inr (.inl (3, 0, 0))] (z_gI g14 3 0 3 (((g14 3 0).1 3) + (1 : Int32)))) (fun g21 => (z_bI (zF_X5_fine [.inr (.inl (3, 0, 0))] g21) (fun r23 g22 => (if r23 = 0 then some (.inl none, g22) else (if r15 = (60 : Int32) then (z_bV (zF_X5_emit [.inr (.inl (3, 0, 0)), .inl (9 : Int32), .inl (0 : Int32)] g22) (fun g25 => some (.inl none, g25))) else (z_bV (zF_X5_emit [.inr (.inl (3, 0, 0)), .inl (10 : Int32), .inl (0 : Int32)] g22) (fun g24 => some (.inl none, g24))))))))) else some (.inl none, g14)))))))))) := rfl
set_option maxRecDepth 400000 in
set_option maxHeartbeats 4000000 in
theorem zu_X5_statement_0 (P : Nat → List zVV → zSG → Option zRR) (n : Nat)   (g : zSG) : z_run (zM_X5_statement P) zc_X5_statement zk_X5_statement (n + 1) 0 [(0, .inr (.inl (3, 0, 0)))] g (0, 0) = (z_bL (zF_X5_word [.inr (.inl (3, 0, 0))] g) (fun r2 g1 => (if (lg_cmp r2 (17076 : Int64)) = 0 then (if (1 : Int32) = 0 then (z_bV (zF_X5_wrong [.inr (.inl (3, 0, 0)), .inl ((g1 3 0).1 3)] g1) (fun g3 => some (.inl none, g3))) else (if ((g1 3 0).1 6) = (30 : Int32) then (z_bV (zF_X5_wrong [.inr (.inl (3, 0, 0)), .inl ((g1 3 0).1 3)] g1) (fun g4 => some (.inl none, g4))) else (if (lg_cmp r2 (762030 : Int64)) = 0 then (if ((g1 3 0).1 7) = (6 : Int32) then (z_bV (zF_X5_wrong [.inr (.inl (3, 0, 0)), .inl ((g1 3 0).1 3)] g1) (fun g59 => some (.inl none, g59))) else (z_bV (zF_X5_pass [.inr (.inl (3, 0, 0))] g1) (fun g32 => (z_bV (zF_X5_emit [.inr (.inl (3, 0, 0)), .inl (14 : Int32), .inl ((g32 3 0).1 6)] g32) (fun g33 => (if (lg_cmp r2 (762030 : Int64)) = 0 then (z_bV ((zP5 40 2) [.inr (.inl (3, 0, 0))] (z_gI (z_gI g33 3 0 6 (((g33 3 0).1 6) + (1 : Int32))) 3 0 7 (((g33 3 0).1 7) + (1 : Int32)))) (fun g54 => (z_bV (zF_X5_need [.inr (.inl (3, 0, 0)), .inl (40 : Int32)] g54) (fun g55 => (z_bI (zF_X5_fine [.inr (.inl (3, 0, 0))] g55) (fun r57 g56 => (if r57 = 0 then z_run (zM_X5_statement P) zc_X5_statement zk_X5_statement n 146 [(0, .inr (.inl (3, 0, 0))), (4, .inl ((g55 3 0).1 5))] g56 (0, 0) else (z_bV (zF_X5_emit [.inr (.inl (3, 0, 0)), .inl (13 : Int32), .inl (0 : Int32)] g56) (fun g58 => z_run (zM_X5_statement P) zc_X5_statement zk_X5_statement n 146 [(0, .inr (.inl (3, 0, 0))), (4, .inl ((g55 3 0).1 5))] g58 (0, 0)))))))))) else (if (lg_cmp r2 (17076 : Int64)) = 0 then (z_bV ((zP5 40 1) [.inr (.inl (3, 0, 0))] (z_gI g33 3 0 6 (((g33 3 0).1 6) + (1 : Int32)))) (fun g40 => (z_bI (zF_X5_fine [.inr (.inl (3, 0, 0))] g40) (fun r42 g41 => (if r42 = 0 then (z_bI (zF_X5_fine [.inr (.inl (3, 0, 0))] g41) (fun r44 g43 => (if r44 = 0 then (z_bV (zF_X5_need [.inr (.inl (3, 0, 0)), .inl (59 : Int32)] g43) (fun g45 => some (.inl none, g45))) else (z_bV (zF_X5_emit [.inr (.inl (3, 0, 0)), .inl (11 : Int32), .inl (0 : Int32)] g43) (fun g46 => (z_bV (zF_X5_need [.inr (.inl (3, 0, 0)), .inl (59 : Int32)] g46) (fun g47 => some (.inl none, g47)))))))) else (z_bV ((zP5 40 1) [.inr (.inl (3, 0, 0))] g41) (fun g48 => (z_bI (zF_X5_fine [.inr (.inl (3, 0, 0))] g48) (fun r50 g49 => (if r50 = 0 then (z_bV (zF_X5_need [.inr (.inl (3, 0, 0)), .inl (59 : Int32)] g49) (fun g51 => some (.inl none, g51))) else (z_bV (zF_X5_emit [.inr (.inl (3, 0, 0)), .inl (11 : Int32), .inl (0 : Int32)] g49) (fun g52 => (z_bV (zF_X5_need [.inr (.inl (3, 0, 0)), .inl (59 : Int32)] g52) (fun g53 => some (.inl none, g53))))))))))))))) else (z_bV ((zP5 40 2) [.inr (.inl (3, 0, 0))] (z_gI g33 3 0 6 (((g33 3 0).1 6) + (1 : Int32)))) (fun g34 => (z_bI (zF_X5_fine [.inr (.inl (3, 0, 0))] g34) (fun r36 g35 => (if r36 = 0 then (z_bV (zF_X5_need [.inr (.inl (3, 0, 0)), .inl (59 : Int32)] g35) (fun g37 => some (.inl none, g37))) else (z_bV (zF_X5_emit [.inr (.inl (3, 0, 0)), .inl (12 : Int32), .inl (0 : Int32)] g35) (fun g38 => (z_bV (zF_X5_need [.inr (.inl (3, 0, 0)), .inl (59 : Int32)] g38) (fun g39 => some (.inl none, g39))))))))))))))))) else (z_bV (zF_X5_pass [.inr (.inl (3, 0, 0))] g1) (fun g5 => (z_bV (zF_X5_emit [.inr (.inl (3, 0, 0)), .inl (14 : Int32), .inl ((g5 3 0).1 6)] g5) (fun g6 => (if (lg_cmp r2 (762030 : Int64)) = 0 then (z_bV ((zP5 40 2) [.inr (.inl (3, 0, 0))] (z_gI (z_gI g6 3 0 6 (((g6 3 0).1 6) + (1 : Int32))) 3 0 7 (((g6 3 0).1 7) + (1 : Int32)))) (fun g27 => (z_bV (zF_X5_need [.inr (.inl (3, 0, 0)), .inl (40 : Int32)] g27) (fun g28 => (z_bI (zF_X5_fine [.inr (.inl (3, 0, 0))] g28) (fun r30 g29 => (if r30 = 0 then z_run (zM_X5_statement P) zc_X5_statement zk_X5_statement n 146 [(0, .inr (.inl (3, 0, 0))), (4, .inl ((g28 3 0).1 5))] g29 (0, 0) else (z_bV (zF_X5_emit [.inr (.inl (3, 0, 0)), .inl (13 : Int32), .inl (0 : Int32)] g29) (fun g31 => z_run (zM_X5_statement P) zc_X5_statement zk_X5_statement n 146 [(0, .inr (.inl (3, 0, 0))), (4, .inl ((g28 3 0).1 5))] g31 (0, 0)))))))))) else (if (lg_cmp r2 (17076 : Int64)) = 0 then (z_bV ((zP5 40 1) [.inr (.inl (3, 0, 0))] (z_gI g6 3 0 6 (((g6 3 0).1 6) + (1 : Int32)))) (fun g13 => (z_bI (zF_X5_fine [.inr (.inl (3, 0, 0))] g13) (fun r15 g14 => (if r15 = 0 then (z_bI (zF_X5_fine [.inr (.inl (3, 0, 0))] g14) (fun r17 g16 => (if r17 = 0 then (z_bV (zF_X5_need [.inr (.inl (3, 0, 0)), .inl (59 : Int32)] g16) (fun g18 => some (.inl none, g18))) else (z_bV (zF_X5_emit [.inr (.inl (3, 0, 0)), .inl (11 : Int32), .inl (0 : Int32)] g16) (fun g19 => (z_bV (zF_X5_need [.inr (.inl (3, 0, 0)), .inl (59 : Int32)] g19) (fun g20 => some (.inl none, g20)))))))) else (z_bV ((zP5 40 1) [.inr (.inl (3, 0, 0))] g14) (fun g21 => (z_bI (zF_X5_fine [.inr (.inl (3, 0, 0))] g21) (fun r23 g22 => (if r23 = 0 then (z_bV (zF_X5_need [.inr (.inl (3, 0, 0)), .inl (59 : Int32)] g22) (fun g24 => some (.inl none, g24))) else (z_bV (zF_X5_emit [.inr (.inl (3, 0, 0)), .inl (11 : Int32), .inl (0 : Int32)] g22) (fun g25 => (z_bV (zF_X5_need [.inr (.inl (3, 0, 0)), .inl (59 : Int32)] g25) (fun g26 => some (.inl none, g26))))))))))))))) else (z_bV ((zP5 40 2) [.inr (.inl (3, 0, 0))] (z_gI g6 3 0 6 (((g6 3 0).1 6) + (1 : Int32)))) (fun g7 => (z_bI (zF_X5_fine [.inr (.inl (3, 0, 0))] g7) (fun r9 g8 => (if r9 = 0 then (z_bV (zF_X5_need [.inr (.inl (3, 0, 0)), .inl (59 : Int32)] g8) (fun g10 => some (.inl none, g10))) else (z_bV (zF_X5_emit [.inr (.inl (3, 0, 0)), .inl (12 : Int32), .inl (0 : Int32)] g8) (fun g11 => (z_bV (zF_X5_need [.inr (.inl (3, 0, 0)), .inl (59 : Int32)] g11) (fun g12 => some (.inl none, g12))))))))))))))))))) else (if (lg_cmp r2 (19513 : Int64)) = 0 then (if (1 : Int32) = 0 then (z_bV (zF_X5_wrong [.inr (.inl (3, 0, 0)), .inl ((g1 3 0).1 3)] g1) (fun g60 => some (.inl none, g60))) else (if ((g1 3 0).1 6) = (30 : Int32) then (z_bV (zF_X5_wrong [.inr (.inl (3, 0, 0)), .inl ((g1 3 0).1 3)] g1) (fun g61 => some (.inl none, g61))) else (if (lg_cmp r2 (762030 : Int64)) = 0 then (if ((g1 3 0).1 7) = (6 : Int32) then (z_bV (zF_X5_wrong [.inr (.inl (3, 0, 0)), .inl ((g1 3 0).1 3)] g1) (fun g116 => some (.inl none, g116))) else (z_bV (zF_X5_pass [.inr (.inl (3, 0, 0))] g1) (fun g89 => (z_bV (zF_X5_emit [.inr (.inl (3, 0, 0)), .inl (14 : Int32), .inl ((g89 3 0).1 6)] g89) (fun g90 => (if (lg_cmp r2 (762030 : Int64)) = 0 then (z_bV ((zP5 40 2) [.inr (.inl (3, 0, 0))] (z_gI (z_gI g90 3 0 6 (((g90 3 0).1 6) + (1 : Int32))) 3 0 7 (((g90 3 0).1 7) + (1 : Int32)))) (fun g111 => (z_bV (zF_X5_need [.inr (.inl (3, 0, 0)), .inl (40 : Int32)] g111) (fun g112 => (z_bI (zF_X5_fine [.inr (.inl (3, 0, 0))] g112) (fun r114 g113 => (if r114 = 0 then z_run (zM_X5_statement P) zc_X5_statement zk_X5_statement n 146 [(0, .inr (.inl (3, 0, 0))), (4, .inl ((g112 3 0).1 5))] g113 (0, 0) else (z_bV (zF_X5_emit [.inr (.inl (3, 0, 0)), .inl (13 : Int32), .inl (0 : Int32)] g113) (fun g115 => z_run (zM_X5_statement P) zc_X5_statement zk_X5_statement n 146 [(0, .inr (.inl (3, 0, 0))), (4, .inl ((g112 3 0).1 5))] g115 (0, 0)))))))))) else (if (lg_cmp r2 (17076 : Int64)) = 0 then (z_bV ((zP5 40 1) [.inr (.inl (3, 0, 0))] (z_gI g90 3 0 6 (((g90 3 0).1 6) + (1 : Int32)))) (fun g97 => (z_bI (zF_X5_fine [.inr (.inl (3, 0, 0))] g97) (fun r99 g98 => (if r99 = 0 then (z_bI (zF_X5_fine [.inr (.inl (3, 0, 0))] g98) (fun r101 g100 => (if r101 = 0 then (z_bV (zF_X5_need [.inr (.inl (3, 0, 0)), .inl (59 : Int32)] g100) (fun g102 => some (.inl none, g102))) else (z_bV (zF_X5_emit [.inr (.inl (3, 0, 0)), .inl (11 : Int32), .inl (0 : Int32)] g100) (fun g103 => (z_bV (zF_X5_need [.inr (.inl (3, 0, 0)), .inl (59 : Int32)] g103) (fun g104 => some (.inl none, g104)))))))) else (z_bV ((zP5 40 1) [.inr (.inl (3, 0, 0))] g98) (fun g105 => (z_bI (zF_X5_fine [.inr (.inl (3, 0, 0))] g105) (fun r107 g106 => (if r107 = 0 then (z_bV (zF_X5_need [.inr (.inl (3, 0, 0)), .inl (59 : Int32)] g106) (fun g108 => some (.inl none, g108))) else (z_bV (zF_X5_emit [.inr (.inl (3, 0, 0)), .inl (11 : Int32), .inl (0 : Int32)] g106) (fun g109 => (z_bV (zF_X5_need [.inr (.inl (3, 0, 0)), .inl (59 : Int32)] g109) (fun g110 => some (.inl none, g110))))))))))))))) else (z_bV ((zP5 40 2) [.inr (.inl (3, 0, 0))] (z_gI g90 3 0 6 (((g90 3 0).1 6) + (1 : Int32)))) (fun g91 => (z_bI (zF_X5_fine [.inr (.inl (3, 0, 0))] g91) (fun r93 g92 => (if r93 = 0 then (z_bV (zF_X5_need [.inr (.inl (3, 0, 0)), .inl (59 : Int32)] g92) (fun g94 => some (.inl none, g94))) else (z_bV (zF_X5_emit [.inr (.inl (3, 0, 0)), .inl (12 : Int32), .inl (0 : Int32)] g92) (fun g95 => (z_bV (zF_X5_need [.inr (.inl (3, 0, 0)), .inl (59 : Int32)] g95) (fun g96 => some (.inl none, g96))))))))))))))))) else (z_bV (zF_X5_pass [.inr (.inl (3, 0, 0))] g1) (fun g62 => (z_bV (zF_X5_emit [.inr (.inl (3, 0, 0)), .inl (14 : Int32), .inl ((g62 3 0).1 6)] g62) (fun g63 => (if (lg_cmp r2 (762030 : Int64)) = 0 then (z_bV ((zP5 40 2) [.inr (.inl (3, 0, 0))] (z_gI (z_gI g63 3 0 6 (((g63 3 0).1 6) + (1 : Int32))) 3 0 7 (((g63 3 0).1 7) + (1 : Int32)))) (fun g84 => (z_bV (zF_X5_need [.inr (.inl (3, 0, 0)), .inl (40 : Int32)] g84) (fun g85 => (z_bI (zF_X5_fine [.inr (.inl (3, 0, 0))] g85) (fun r87 g86 => (if r87 = 0 then z_run (zM_X5_statement P) zc_X5_statement zk_X5_statement n 146 [(0, .inr (.inl (3, 0, 0))), (4, .inl ((g85 3 0).1 5))] g86 (0, 0) else (z_bV (zF_X5_emit [.inr (.inl (3, 0, 0)), .inl (13 : Int32), .inl (0 : Int32)] g86) (fun g88 => z_run (zM_X5_statement P) zc_X5_statement zk_X5_statement n 146 [(0, .inr (.inl (3, 0, 0))), (4, .inl ((g85 3 0).1 5))] g88 (0, 0)))))))))) else (if (lg_cmp r2 (17076 : Int64)) = 0 then (z_bV ((zP5 40 1) [.inr (.inl (3, 0, 0))] (z_gI g63 3 0 6 (((g63 3 0).1 6) + (1 : Int32)))) (fun g70 => (z_bI (zF_X5_fine [.inr (.inl (3, 0, 0))] g70) (fun r72 g71 => (if r72 = 0 then (z_bI (zF_X5_fine [.inr (.inl (3, 0, 0))] g71) (fun r74 g73 => (if r74 = 0 then (z_bV (zF_X5_need [.inr (.inl (3, 0, 0)), .inl (59 : Int32)] g73) (fun g75 => some (.inl none, g75))) else (z_bV (zF_X5_emit [.inr (.inl (3, 0, 0)), .inl (11 : Int32), .inl (0 : Int32)] g73) (fun g76 => (z_bV (zF_X5_need [.inr (.inl (3, 0, 0)), .inl (59 : Int32)] g76) (fun g77 => some (.inl none, g77)))))))) else (z_bV ((zP5 40 1) [.inr (.inl (3, 0, 0))] g71) (fun g78 => (z_bI (zF_X5_fine [.inr (.inl (3, 0, 0))] g78) (fun r80 g79 => (if r80 = 0 then (z_bV (zF_X5_need [.inr (.inl (3, 0, 0)), .inl (59 : Int32)] g79) (fun g81 => some (.inl none, g81))) else (z_bV (zF_X5_emit [.inr (.inl (3, 0, 0)), .inl (11 : Int32), .inl (0 : Int32)] g79) (fun g82 => (z_bV (zF_X5_need [.inr (.inl (3, 0, 0)), .inl (59 : Int32)] g82) (fun g83 => some (.inl none, g83))))))))))))))) else (z_bV ((zP5 40 2) [.inr (.inl (3, 0, 0))] (z_gI g63 3 0 6 (((g63 3 0).1 6) + (1 : Int32)))) (fun g64 => (z_bI (zF_X5_fine [.inr (.inl (3, 0, 0))] g64) (fun r66 g65 => (if r66 = 0 then (z_bV (zF_X5_need [.inr (.inl (3, 0, 0)), .inl (59 : Int32)] g65) (fun g67 => some (.inl none, g67))) else (z_bV (zF_X5_emit [.inr (.inl (3, 0, 0)), .inl (12 : Int32), .inl (0 : Int32)] g65) (fun g68 => (z_bV (zF_X5_need [.inr (.inl (3, 0, 0)), .inl (59 : Int32)] g68) (fun g69 => some (.inl none, g69))))))))))))))))))) else (if (lg_cmp r2 (762030 : Int64)) = 0 then (if (1 : Int32) = 0 then (z_bV (zF_X5_wrong [.inr (.inl (3, 0, 0)), .inl ((g1 3 0).1 3)] g1) (fun g174 => some (.inl none, g174))) else (if ((g1 3 0).1 6) = (30 : Int32) then (z_bV (zF_X5_wrong [.inr (.inl (3, 0, 0)), .inl ((g1 3 0).1 3)] g1) (fun g175 => some (.inl none, g175))) else (if (lg_cmp r2 (762030 : Int64)) = 0 then (if ((g1 3 0).1 7) = (6 : Int32) then (z_bV (zF_X5_wrong [.inr (.inl (3, 0, 0)), .inl ((g1 3 0).1 3)] g1) (fun g230 => some (.inl none, g230))) else (z_bV (zF_X5_pass [.inr (.inl (3, 0, 0))] g1) (fun g203 => (z_bV (zF_X5_emit [.inr (.inl (3, 0, 0)), .inl (14 : Int32), .inl ((g203 3 0).1 6)] g203) (fun g204 => (if (lg_cmp r2 (762030 : Int64)) = 0 then (z_bV ((zP5 40 2) [.inr (.inl (3, 0, 0))] (z_gI (z_gI g204 3 0 6 (((g204 3 0).1 6) + (1 : Int32))) 3 0 7 (((g204 3 0).1 7) + (1 : Int32)))) (fun g225 => (z_bV (zF_X5_need [.inr (.inl (3, 0, 0)), .inl (40 : Int32)] g225) (fun g226 => (z_bI (zF_X5_fine [.inr (.inl (3, 0, 0))] g226) (fun r228 g227 => (if r228 = 0 then z_run (zM_X5_statement P) zc_X5_statement zk_X5_statement n 146 [(0, .inr (.inl (3, 0, 0))), (4, .inl ((g226 3 0).1 5))] g227 (0, 0) else (z_bV (zF_X5_emit [.inr (.inl (3, 0, 0)), .inl (13 : Int32), .inl (0 : Int32)] g227) (fun g229 => z_run (zM_X5_statement P) zc_X5_statement zk_X5_statement n 146 [(0, .inr (.inl (3, 0, 0))), (4, .inl ((g226 3 0).1 5))] g229 (0, 0)))))))))) else (if (lg_cmp r2 (17076 : Int64)) = 0 then (z_bV ((zP5 40 1) [.inr (.inl (3, 0, 0))] (z_gI g204 3 0 6 (((g204 3 0).1 6) + (1 : Int32)))) (fun g211 => (z_bI (zF_X5_fine [.inr (.inl (3, 0, 0))] g211) (fun r213 g212 => (if r213 = 0 then (z_bI (zF_X5_fine [.inr (.inl (3, 0, 0))] g212) (fun r215 g214 => (if r215 = 0 then (z_bV (zF_X5_need [.inr (.inl (3, 0, 0)), .inl (59 : Int32)] g214) (fun g216 => some (.inl none, g216))) else (z_bV (zF_X5_emit [.inr (.inl (3, 0, 0)), .inl (11 : Int32), .inl (0 : Int32)] g214) (fun g217 => (z_bV (zF_X5_need [.inr (.inl (3, 0, 0)), .inl (59 : Int32)] g217) (fun g218 => some (.inl none, g218)))))))) else (z_bV ((zP5 40 1) [.inr (.inl (3, 0, 0))] g212) (fun g219 => (z_bI (zF_X5_fine [.inr (.inl (3, 0, 0))] g219) (fun r221 g220 => (if r221 = 0 then (z_bV (zF_X5_need [.inr (.inl (3, 0, 0)), .inl (59 : Int32)] g220) (fun g222 => some (.inl none, g222))) else (z_bV (zF_X5_emit [.inr (.inl (3, 0, 0)), .inl (11 : Int32), .inl (0 : Int32)] g220) (fun g223 => (z_bV (zF_X5_need [.inr (.inl (3, 0, 0)), .inl (59 : Int32)] g223) (fun g224 => some (.inl none, g224))))))))))))))) else (z_bV ((zP5 40 2) [.inr (.inl (3, 0, 0))] (z_gI g204 3 0 6 (((g204 3 0).1 6) + (1 : Int32)))) (fun g205 => (z_bI (zF_X5_fine [.inr (.inl (3, 0, 0))] g205) (fun r207 g206 => (if r207 = 0 then (z_bV (zF_X5_need [.inr (.inl (3, 0, 0)), .inl (59 : Int32)] g206) (fun g208 => some (.inl none, g208))) else (z_bV (zF_X5_emit [.inr (.inl (3, 0, 0)), .inl (12 : Int32), .inl (0 : Int32)] g206) (fun g209 => (z_bV (zF_X5_need [.inr (.inl (3, 0, 0)), .inl (59 : Int32)] g209) (fun g210 => some (.inl none, g210))))))))))))))))) else (z_bV (zF_X5_pass [.inr (.inl (3, 0, 0))] g1) (fun g176 => (z_bV (zF_X5_emit [.inr (.inl (3, 0, 0)), .inl (14 : Int32), .inl ((g176 3 0).1 6)] g176) (fun g177 => (if (lg_cmp r2 (762030 : Int64)) = 0 then (z_bV ((zP5 40 2) [.inr (.inl (3, 0, 0))] (z_gI (z_gI g177 3 0 6 (((g177 3 0).1 6) + (1 : Int32))) 3 0 7 (((g177 3 0).1 7) + (1 : Int32)))) (fun g198 => (z_bV (zF_X5_need [.inr (.inl (3, 0, 0)), .inl (40 : Int32)] g198) (fun g199 => (z_bI (zF_X5_fine [.inr (.inl (3, 0, 0))] g199) (fun r201 g200 => (if r201 = 0 then z_run (zM_X5_statement P) zc_X5_statement zk_X5_statement n 146 [(0, .inr (.inl (3, 0, 0))), (4, .inl ((g199 3 0).1 5))] g200 (0, 0) else (z_bV (zF_X5_emit [.inr (.inl (3, 0, 0)), .inl (13 : Int32), .inl (0 : Int32)] g200) (fun g202 => z_run (zM_X5_statement P) zc_X5_statement zk_X5_statement n 146 [(0, .inr (.inl (3, 0, 0))), (4, .inl ((g199 3 0).1 5))] g202 (0, 0)))))))))) else (if (lg_cmp r2 (17076 : Int64)) = 0 then (z_bV ((zP5 40 1) [.inr (.inl (3, 0, 0))] (z_gI g177 3 0 6 (((g177 3 0).1 6) + (1 : Int32)))) (fun g184 => (z_bI (zF_X5_fine [.inr (.inl (3, 0, 0))] g184) (fun r186 g185 => (if r186 = 0 then (z_bI (zF_X5_fine [.inr (.inl (3, 0, 0))] g185) (fun r188 g187 => (if r188 = 0 then (z_bV (zF_X5_need [.inr (.inl (3, 0, 0)), .inl (59 : Int32)] g187) (fun g189 => some (.inl none, g189))) else (z_bV (zF_X5_emit [.inr (.inl (3, 0, 0)), .inl (11 : Int32), .inl (0 : Int32)] g187) (fun g190 => (z_bV (zF_X5_need [.inr (.inl (3, 0, 0)), .inl (59 : Int32)] g190) (fun g191 => some (.inl none, g191)))))))) else (z_bV ((zP5 40 1) [.inr (.inl (3, 0, 0))] g185) (fun g192 => (z_bI (zF_X5_fine [.inr (.inl (3, 0, 0))] g192) (fun r194 g193 => (if r194 = 0 then (z_bV (zF_X5_need [.inr (.inl (3, 0, 0)), .inl (59 : Int32)] g193) (fun g195 => some (.inl none, g195))) else (z_bV (zF_X5_emit [.inr (.inl (3, 0, 0)), .inl (11 : Int32), .inl (0 : Int32)] g193) (fun g196 => (z_bV (zF_X5_need [.inr (.inl (3, 0, 0)), .inl (59 : Int32)] g196) (fun g197 => some (.inl none, g197))))))))))))))) else (z_bV ((zP5 40 2) [.inr (.inl (3, 0, 0))] (z_gI g177 3 0 6 (((g177 3 0).1 6) + (1 : Int32)))) (fun g178 => (z_bI (zF_X5_fine [.inr (.inl (3, 0, 0))] g178) (fun r180 g179 => (if r180 = 0 then (z_bV (zF_X5_need [.inr (.inl (3, 0, 0)), .inl (59 : Int32)] g179) (fun g181 => some (.inl none, g181))) else (z_bV (zF_X5_emit [.inr (.inl (3, 0, 0)), .inl (12 : Int32), .inl (0 : Int32)] g179) (fun g182 => (z_bV (zF_X5_need [.inr (.inl (3, 0, 0)), .inl (59 : Int32)] g182) (fun g183 => some (.inl none, g183))))))))))))))))))) else (if (0 : Int32) = 0 then (z_bV (zF_X5_wrong [.inr (.inl (3, 0, 0)), .inl ((g1 3 0).1 3)] g1) (fun g117 => some (.inl none, g117))) else (if ((g1 3 0).1 6) = (30 : Int32) then (z_bV (zF_X5_wrong [.inr (.inl (3, 0, 0)), .inl ((g1 3 0).1 3)] g1) (fun g118 => some (.inl none, g118))) else (if (lg_cmp r2 (762030 : Int64)) = 0 then (if ((g1 3 0).1 7) = (6 : Int32) then (z_bV (zF_X5_wrong [.inr (.inl (3, 0, 0)), .inl ((g1 3 0).1 3)] g1) (fun g173 => some (.inl none, g173))) else (z_bV (zF_X5_pass [.inr (.inl (3, 0, 0))] g1) (fun g146 => (z_bV (zF_X5_emit [.inr (.inl (3, 0, 0)), .inl (14 : Int32), .inl ((g146 3 0).1 6)] g146) (fun g147 => (if (lg_cmp r2 (762030 : Int64)) = 0 then (z_bV ((zP5 40 2) [.inr (.inl (3, 0, 0))] (z_gI (z_gI g147 3 0 6 (((g147 3 0).1 6) + (1 : Int32))) 3 0 7 (((g147 3 0).1 7) + (1 : Int32)))) (fun g168 => (z_bV (zF_X5_need [.inr (.inl (3, 0, 0)), .inl (40 : Int32)] g168) (fun g169 => (z_bI (zF_X5_fine [.inr (.inl (3, 0, 0))] g169) (fun r171 g170 => (if r171 = 0 then z_run (zM_X5_statement P) zc_X5_statement zk_X5_statement n 146 [(0, .inr (.inl (3, 0, 0))), (4, .inl ((g169 3 0).1 5))] g170 (0, 0) else (z_bV (zF_X5_emit [.inr (.inl (3, 0, 0)), .inl (13 : Int32), .inl (0 : Int32)] g170) (fun g172 => z_run (zM_X5_statement P) zc_X5_statement zk_X5_statement n 146 [(0, .inr (.inl (3, 0, 0))), (4, .inl ((g169 3 0).1 5))] g172 (0, 0)))))))))) else (if (lg_cmp r2 (17076 : Int64)) = 0 then (z_bV ((zP5 40 1) [.inr (.inl (3, 0, 0))] (z_gI g147 3 0 6 (((g147 3 0).1 6) + (1 : Int32)))) (fun g154 => (z_bI (zF_X5_fine [.inr (.inl (3, 0, 0))] g154) (fun r156 g155 => (if r156 = 0 then (z_bI (zF_X5_fine [.inr (.inl (3, 0, 0))] g155) (fun r158 g157 => (if r158 = 0 then (z_bV (zF_X5_need [.inr (.inl (3, 0, 0)), .inl (59 : Int32)] g157) (fun g159 => some (.inl none, g159))) else (z_bV (zF_X5_emit [.inr (.inl (3, 0, 0)), .inl (11 : Int32), .inl (0 : Int32)] g157) (fun g160 => (z_bV (zF_X5_need [.inr (.inl (3, 0, 0)), .inl (59 : Int32)] g160) (fun g161 => some (.inl none, g161)))))))) else (z_bV ((zP5 40 1) [.inr (.inl (3, 0, 0))] g155) (fun g162 => (z_bI (zF_X5_fine [.inr (.inl (3, 0, 0))] g162) (fun r164 g163 => (if r164 = 0 then (z_bV (zF_X5_need [.inr (.inl (3, 0, 0)), .inl (59 : Int32)] g163) (fun g165 => some (.inl none, g165))) else (z_bV (zF_X5_emit [.inr (.inl (3, 0, 0)), .inl (11 : Int32), .inl (0 : Int32)] g163) (fun g166 => (z_bV (zF_X5_need [.inr (.inl (3, 0, 0)), .inl (59 : Int32)] g166) (fun g167 => some (.inl none, g167))))))))))))))) else (z_bV ((zP5 40 2) [.inr (.inl (3, 0, 0))] (z_gI g147 3 0 6 (((g147 3 0).1 6) + (1 : Int32)))) (fun g148 => (z_bI (zF_X5_fine [.inr (.inl (3, 0, 0))] g148) (fun r150 g149 => (if r150 = 0 then (z_bV (zF_X5_need [.inr (.inl (3, 0, 0)), .inl (59 : Int32)] g149) (fun g151 => some (.inl none, g151))) else (z_bV (zF_X5_emit [.inr (.inl (3, 0, 0)), .inl (12 : Int32), .inl (0 : Int32)] g149) (fun g152 => (z_bV (zF_X5_need [.inr (.inl (3, 0, 0)), .inl (59 : Int32)] g152) (fun g153 => some (.inl none, g153))))))))))))))))) else (z_bV (zF_X5_pass [.inr (.inl (3, 0, 0))] g1) (fun g119 => (z_bV (zF_X5_emit [.inr (.inl (3, 0, 0)), .inl (14 : Int32), .inl ((g119 3 0).1 6)] g119) (fun g120 => (if (lg_cmp r2 (762030 : Int64)) = 0 then (z_bV ((zP5 40 2) [.inr (.inl (3, 0, 0))] (z_gI (z_gI g120 3 0 6 (((g120 3 0).1 6) + (1 : Int32))) 3 0 7 (((g120 3 0).1 7) + (1 : Int32)))) (fun g141 => (z_bV (zF_X5_need [.inr (.inl (3, 0, 0)), .inl (40 : Int32)] g141) (fun g142 => (z_bI (zF_X5_fine [.inr (.inl (3, 0, 0))] g142) (fun r144 g143 => (if r144 = 0 then z_run (zM_X5_statement P) zc_X5_statement zk_X5_statement n 146 [(0, .inr (.inl (3, 0, 0))), (4, .inl ((g142 3 0).1 5))] g143 (0, 0) else (z_bV (zF_X5_emit [.inr (.inl (3, 0, 0)), .inl (13 : Int32), .inl (0 : Int32)] g143) (fun g145 => z_run (zM_X5_statement P) zc_X5_statement zk_X5_statement n 146 [(0, .inr (.inl (3, 0, 0))), (4, .inl ((g142 3 0).1 5))] g145 (0, 0)))))))))) else (if (lg_cmp r2 (17076 : Int64)) = 0 then (z_bV ((zP5 40 1) [.inr (.inl (3, 0, 0))] (z_gI g120 3 0 6 (((g120 3 0).1 6) + (1 : Int32)))) (fun g127 => (z_bI (zF_X5_fine [.inr (.inl (3, 0, 0))] g127) (fun r129 g128 => (if r129 = 0 then (z_bI (zF_X5_fine [.inr (.inl (3, 0, 0))] g128) (fun r131 g130 => (if r131 = 0 then (z_bV (zF_X5_need [.inr (.inl (3, 0, 0)), .inl (59 : Int32)] g130) (fun g132 => some (.inl none, g132))) else (z_bV (zF_X5_emit [.inr (.inl (3, 0, 0)), .inl (11 : Int32), .inl (0 : Int32)] g130) (fun g133 => (z_bV (zF_X5_need [.inr (.inl (3, 0, 0)), .inl (59 : Int32)] g133) (fun g134 => some (.inl none, g134)))))))) else (z_bV ((zP5 40 1) [.inr (.inl (3, 0, 0))] g128) (fun g135 => (z_bI (zF_X5_fine [.inr (.inl (3, 0, 0))] g135) (fun r137 g136 => (if r137 = 0 then (z_bV (zF_X5_need [.inr (.inl (3, 0, 0)), .inl (59 : Int32)] g136) (fun g138 => some (.inl none, g138))) else (z_bV (zF_X5_emit [.inr (.inl (3, 0, 0)), .inl (11 : Int32), .inl (0 : Int32)] g136) (fun g139 => (z_bV (zF_X5_need [.inr (.inl (3, 0, 0)), .inl (59 : Int32)] g139) (fun g140 => some (.inl none, g140))))))))))))))) else (z_bV ((zP5 40 2) [.inr (.inl (3, 0, 0))] (z_gI g120 3 0 6 (((g120 3 0).1 6) + (1 : Int32)))) (fun g121 => (z_bI (zF_X5_fine [.inr (.inl (3, 0, 0))] g121) (fun r123 g122 => (if r123 = 0 then (z_bV (zF_X5_need [.inr (.inl (3, 0, 0)), .inl (59 : Int32)] g122) (fun g124 => some (.inl none, g124))) else (z_bV (zF_X5_emit [.inr (.inl (3, 0, 0)), .inl (12 : Int32), .inl (0 : Int32)] g122) (fun g125 => (z_bV (zF_X5_need [.inr (.inl (3, 0, 0)), .inl (59 : Int32)] g125) (fun g126 => some (.inl none, g126)))))))))))))))))))))))) := rfl
set_option maxRecDepth 400000 in
set_option maxHeartbeats 4000000 in
theorem zu_X5_statement_146 (P : Nat → List zVV → zSG → Option zRR) (n : Nat) (x4 : Int32)  (g : zSG) : z_run (zM_X5_statement P) zc_X5_statement zk_X5_statement (n + 1) 146 [(0, .inr (.inl (3, 0, 0))), (4, .inl x4)] g (0, 0) = (z_bI (zF_X5_fine [.inr (.inl (3, 0, 0))] g) (fun r2 g1 => (if r2 = 0 then (z_bV (zF_X5_need [.inr (.inl (3, 0, 0)), .inl (41 : Int32)] g1) (fun g3 => (z_bI (zF_X5_fine [.inr (.inl (3, 0, 0))] g3) (fun r5 g4 => (if r5 = 0 then some (.inl none, (z_gI g4 3 0 7 (((g4 3 0).1 7) - (1 : Int32)))) else (if z_inb x4 500 then some (.inl none, (z_gI (z_gA g4 3 0 11 (upd ((g4 3 0).2 11) (x4).toNatClampNeg ((g4 3 0).1 5))) 3 0 7 (((g4 3 0).1 7) - (1 : Int32)))) else none)))))) else (z_bI (zF_X5_here [.inr (.inl (3, 0, 0))] g1) (fun r7 g6 => (if r7 = (41 : Int32) then (z_bV (zF_X5_need [.inr (.inl (3, 0, 0)), .inl (41 : Int32)] g6) (fun g8 => (z_bI (zF_X5_fine [.inr (.inl (3, 0, 0))] g8) (fun r10 g9 => (if r10 = 0 then some (.inl none, (z_gI g9 3 0 7 (((g9 3 0).1 7) - (1 : Int32)))) else (if z_inb x4 500 then some (.inl none, (z_gI (z_gA g9 3 0 11 (upd ((g9 3 0).2 11) (x4).toNatClampNeg ((g9 3 0).1 5))) 3 0 7 (((g9 3 0).1 7) - (1 : Int32)))) else none)))))) else (z_bV ((P 0) [.inr (.inl (3, 0, 0))] g6) (fun g11 => z_run (zM_X5_statement P) zc_X5_statement zk_X5_statement n 146 [(0, .inr (.inl (3, 0, 0))), (4, .inl x4)] g11 (0, 0))))))))) := rfl
set_option maxRecDepth 400000 in
set_option maxHeartbeats 4000000 in
theorem zu_X5_text_0 (n : Nat) (x1 : Int32) (x2 : Int32) (x3 : Int32)  (g : zSG) : z_run zM_X5_text zc_X5_text zk_X5_text (n + 1) 0 [(0, .inr (.inl (3, 0, 0))), (1, .inl x1), (2, .inl x2), (3, .inl x3)] g (0, 0) = (z_bI (zF_X5_within [.inl x1, .inl (0 : Int32), .inl (1 : Int32)] (z_gI g 3 0 0 (0 : Int32))) (fun r2 g1 => (if r2 = 0 then (z_bI (zF_X5_may [.inr (.inl (3, 0, 0)), .inl (0 : Int32), .inl (1 : Int32)] g1) (fun r4 g3 => (if r4 = 0 then some (.inl (some (.inl (0 : Int32))), g3) else (z_bI (zF_X5_here [.inr (.inl (3, 0, 0))] (z_gI (z_gI (z_gI (z_gI (z_gI (z_gI (z_gI (z_gI g3 3 0 1 (0 : Int32)) 3 0 2 x3) 3 0 3 (0 : Int32)) 3 0 4 (-1 : Int32)) 3 0 5 (0 : Int32)) 3 0 6 (0 : Int32)) 3 0 7 (0 : Int32)) 3 0 8 (0 : Int32))) (fun r6 g5 => z_run zM_X5_text zc_X5_text zk_X5_text n 95 [(0, .inr (.inl (3, 0, 0))), (1, .inl x1), (2, .inl x2)] g5 (0, 0)))))) else (z_bI (zF_X5_within [.inl x2, .inl (0 : Int32), .inl (3 : Int32)] g1) (fun r8 g7 => (if r8 = 0 then (z_bI (zF_X5_may [.inr (.inl (3, 0, 0)), .inl (0 : Int32), .inl (1 : Int32)] g7) (fun r10 g9 => (if r10 = 0 then some (.inl (some (.inl (0 : Int32))), g9) else (z_bI (zF_X5_here [.inr (.inl (3, 0, 0))] (z_gI (z_gI (z_gI (z_gI (z_gI (z_gI (z_gI (z_gI g9 3 0 1 (0 : Int32)) 3 0 2 x3) 3 0 3 (0 : Int32)) 3 0 4 (-1 : Int32)) 3 0 5 (0 : Int32)) 3 0 6 (0 : Int32)) 3 0 7 (0 : Int32)) 3 0 8 (0 : Int32))) (fun r12 g11 => z_run zM_X5_text zc_X5_text zk_X5_text n 95 [(0, .inr (.inl (3, 0, 0))), (1, .inl x1), (2, .inl x2)] g11 (0, 0)))))) else (if x3 < 0 then (z_bI (zF_X5_may [.inr (.inl (3, 0, 0)), .inl (0 : Int32), .inl (1 : Int32)] g7) (fun r14 g13 => (if r14 = 0 then some (.inl (some (.inl (0 : Int32))), g13) else (z_bI (zF_X5_here [.inr (.inl (3, 0, 0))] (z_gI (z_gI (z_gI (z_gI (z_gI (z_gI (z_gI (z_gI g13 3 0 1 (0 : Int32)) 3 0 2 x3) 3 0 3 (0 : Int32)) 3 0 4 (-1 : Int32)) 3 0 5 (0 : Int32)) 3 0 6 (0 : Int32)) 3 0 7 (0 : Int32)) 3 0 8 (0 : Int32))) (fun r16 g15 => z_run zM_X5_text zc_X5_text zk_X5_text n 95 [(0, .inr (.inl (3, 0, 0))), (1, .inl x1), (2, .inl x2)] g15 (0, 0)))))) else (if ((g7 3 0).1 1) < x3 then (z_bI (zF_X5_may [.inr (.inl (3, 0, 0)), .inl (0 : Int32), .inl (1 : Int32)] g7) (fun r18 g17 => (if r18 = 0 then some (.inl (some (.inl (0 : Int32))), g17) else (z_bI (zF_X5_here [.inr (.inl (3, 0, 0))] (z_gI (z_gI (z_gI (z_gI (z_gI (z_gI (z_gI (z_gI g17 3 0 1 (0 : Int32)) 3 0 2 x3) 3 0 3 (0 : Int32)) 3 0 4 (-1 : Int32)) 3 0 5 (0 : Int32)) 3 0 6 (0 : Int32)) 3 0 7 (0 : Int32)) 3 0 8 (0 : Int32))) (fun r20 g19 => z_run zM_X5_text zc_X5_text zk_X5_text n 95 [(0, .inr (.inl (3, 0, 0))), (1, .inl x1), (2, .inl x2)] g19 (0, 0)))))) else (z_bI (zF_X5_may [.inr (.inl (3, 0, 0)), .inl (1 : Int32), .inl (1 : Int32)] g7) (fun r22 g21 => (if r22 = 0 then some (.inl (some (.inl (0 : Int32))), g21) else (z_bI (zF_X5_here [.inr (.inl (3, 0, 0))] (z_gI (z_gI (z_gI (z_gI (z_gI (z_gI (z_gI (z_gI g21 3 0 1 (0 : Int32)) 3 0 2 x3) 3 0 3 (0 : Int32)) 3 0 4 (-1 : Int32)) 3 0 5 (0 : Int32)) 3 0 6 (0 : Int32)) 3 0 7 (0 : Int32)) 3 0 8 (0 : Int32))) (fun r24 g23 => z_run zM_X5_text zc_X5_text zk_X5_text n 95 [(0, .inr (.inl (3, 0, 0))), (1, .inl x1), (2, .inl x2)] g23 (0, 0)))))))))))))) := rfl
set_option maxRecDepth 400000 in
set_option maxHeartbeats 4000000 in
theorem zu_X5_text_95 (n : Nat) (x1 : Int32) (x2 : Int32)  (g : zSG) : z_run zM_X5_text zc_X5_text zk_X5_text (n + 1) 95 [(0, .inr (.inl (3, 0, 0))), (1, .inl x1), (2, .inl x2)] g (0, 0) = (z_bI (zF_X5_fine [.inr (.inl (3, 0, 0))] g) (fun r2 g1 => (if r2 = 0 then (z_bI (zF_X5_fine [.inr (.inl (3, 0, 0))] g1) (fun r4 g3 => (if r4 = 0 then some (.inl (some (.inl ((-2 : Int32) - ((g3 3 0).1 4)))), g3) else z_run zM_X5_text zc_X5_text zk_X5_text n 157 [(0, .inr (.inl (3, 0, 0))), (4, .inl (((4 : Int32) * x1) + x2)), (5, .inl (0 : Int32))] g3 (0, 0)))) else (if ((g1 3 0).1 2) ≤ ((g1 3 0).1 3) then (z_bI (zF_X5_fine [.inr (.inl (3, 0, 0))] g1) (fun r6 g5 => (if r6 = 0 then some (.inl (some (.inl ((-2 : Int32) - ((g5 3 0).1 4)))), g5) else z_run zM_X5_text zc_X5_text zk_X5_text n 157 [(0, .inr (.inl (3, 0, 0))), (4, .inl (((4 : Int32) * x1) + x2)), (5, .inl (0 : Int32))] g5 (0, 0)))) else (z_bV ((zS5 8 0) [.inr (.inl (3, 0, 0))] g1) (fun g7 => (z_bI (zF_X5_fine [.inr (.inl (3, 0, 0))] g7) (fun r9 g8 => (if r9 = 0 then z_run zM_X5_text zc_X5_text zk_X5_text n 95 [(0, .inr (.inl (3, 0, 0))), (1, .inl x1), (2, .inl x2)] g8 (0, 0) else (z_bI (zF_X5_here [.inr (.inl (3, 0, 0))] g8) (fun r11 g10 => z_run zM_X5_text zc_X5_text zk_X5_text n 95 [(0, .inr (.inl (3, 0, 0))), (1, .inl x1), (2, .inl x2)] g10 (0, 0)))))))))))) := rfl
set_option maxRecDepth 400000 in
set_option maxHeartbeats 4000000 in
theorem zu_X5_text_157 (n : Nat) (x4 : Int32) (x5 : Int32)  (g : zSG) : z_run zM_X5_text zc_X5_text zk_X5_text (n + 1) 157 [(0, .inr (.inl (3, 0, 0))), (4, .inl x4), (5, .inl x5)] g (0, 0) = (if ((g 3 0).1 5) ≤ x5 then (if z_inb x4 8 then (if z_inb x4 8 then some (.inl (some (.inl ((g 3 0).1 6))), (z_gA (z_gA g 3 0 14 (upd ((g 3 0).2 14) (x4).toNatClampNeg ((g 3 0).1 5))) 3 0 15 (upd ((g 3 0).2 15) (x4).toNatClampNeg ((g 3 0).1 6)))) else none) else none) else (if z_inb x5 500 then (if z_inb (((500 : Int32) * x4) + x5) 4000 then (if z_inb x5 500 then (if z_inb (((500 : Int32) * x4) + x5) 4000 then z_run zM_X5_text zc_X5_text zk_X5_text n 157 [(0, .inr (.inl (3, 0, 0))), (4, .inl x4), (5, .inl (x5 + (1 : Int32)))] (z_gA (z_gA g 3 0 12 (upd ((g 3 0).2 12) (((500 : Int32) * x4) + x5).toNatClampNeg ((g 3 0).2 10 (x5).toNatClampNeg))) 3 0 13 (upd ((g 3 0).2 13) (((500 : Int32) * x4) + x5).toNatClampNeg ((g 3 0).2 11 (x5).toNatClampNeg))) (0, 0) else none) else none) else none) else none)) := rfl
theorem ze_X5_text (x1 : Int32) (x2 : Int32) (x3 : Int32)  (g : zSG) : zF_X5_text [.inr (.inl (3, 0, 0)), .inl x1, .inl x2, .inl x3] g = z_run zM_X5_text zc_X5_text zk_X5_text 100000 0 [(0, .inr (.inl (3, 0, 0))), (1, .inl x1), (2, .inl x2), (3, .inl x3)] g (0, 0) := z_fn_ok (sh := zs_X5_text) (vs := [.inr (.inl (3, 0, 0)), .inl x1, .inl x2, .inl x3]) (rfl) rfl
set_option maxRecDepth 400000 in
set_option maxHeartbeats 4000000 in
theorem zu_X5_begin_0 (n : Nat) (x1 : Int32) (x2 : Int32)  (g : zSG) : z_run zM_X5_begin zc_X5_begin zk_X5_begin (n + 1) 0 [(0, .inr (.inl (3, 0, 0))), (1, .inl x1), (2, .inl x2)] g (0, 0) = (z_bI (zF_X5_within [.inl x1, .inl (0 : Int32), .inl (7 : Int32)] (z_gI g 3 0 0 (0 : Int32))) (fun r2 g1 => (z_bI (zF_X5_may [.inr (.inl (3, 0, 0)), .inl r2, .inl (1 : Int32)] g1) (fun r4 g3 => (if r4 = 0 then some (.inl (some (.inl (0 : Int32))), g3) else (if z_inb x1 8 then (if z_inb x1 8 then some (.inl (some (.inl ((g3 3 0).2 17 (x1).toNatClampNeg))), (z_gA g3 3 0 17 (upd ((g3 3 0).2 17) (x1).toNatClampNeg x2))) else none) else none)))))) := rfl
theorem ze_X5_begin (x1 : Int32) (x2 : Int32)  (g : zSG) : zF_X5_begin [.inr (.inl (3, 0, 0)), .inl x1, .inl x2] g = z_run zM_X5_begin zc_X5_begin zk_X5_begin 100000 0 [(0, .inr (.inl (3, 0, 0))), (1, .inl x1), (2, .inl x2)] g (0, 0) := z_fn_ok (sh := zs_X5_begin) (vs := [.inr (.inl (3, 0, 0)), .inl x1, .inl x2]) (rfl) rfl
set_option maxRecDepth 400000 in
set_option maxHeartbeats 4000000 in
theorem zu_X5_keep_0 (n : Nat) (x1 : Int32) (x2 : Int32)  (g : zSG) : z_run zM_X5_keep zc_X5_keep zk_X5_keep (n + 1) 0 [(0, .inr (.inl (3, 0, 0))), (1, .inl x1), (2, .inl x2)] g (0, 0) = (z_bI (zF_X5_within [.inl x1, .inl (0 : Int32), .inl (15 : Int32)] (z_gI g 3 0 0 (0 : Int32))) (fun r2 g1 => (z_bI (zF_X5_may [.inr (.inl (3, 0, 0)), .inl r2, .inl (1 : Int32)] g1) (fun r4 g3 => (if r4 = 0 then some (.inl (some (.inl (0 : Int32))), g3) else (if z_inb x1 16 then (if z_inb x1 16 then some (.inl (some (.inl ((g3 3 0).2 18 (x1).toNatClampNeg))), (z_gA g3 3 0 18 (upd ((g3 3 0).2 18) (x1).toNatClampNeg x2))) else none) else none)))))) := rfl
theorem ze_X5_keep (x1 : Int32) (x2 : Int32)  (g : zSG) : zF_X5_keep [.inr (.inl (3, 0, 0)), .inl x1, .inl x2] g = z_run zM_X5_keep zc_X5_keep zk_X5_keep 100000 0 [(0, .inr (.inl (3, 0, 0))), (1, .inl x1), (2, .inl x2)] g (0, 0) := z_fn_ok (sh := zs_X5_keep) (vs := [.inr (.inl (3, 0, 0)), .inl x1, .inl x2]) (rfl) rfl
set_option maxRecDepth 400000 in
set_option maxHeartbeats 4000000 in
theorem zu_X5_ask_0 (n : Nat) (x1 : Int32) (x2 : Int32) (x3 : Int32) (x4 : Int32)  (g : zSG) : z_run zM_X5_ask zc_X5_ask zk_X5_ask (n + 1) 0 [(0, .inr (.inl (3, 0, 0))), (1, .inl x1), (2, .inl x2), (3, .inl x3), (4, .inl x4)] g (0, 0) = (z_bI (zF_X5_within [.inl x1, .inl (0 : Int32), .inl (3 : Int32)] (z_gI g 3 0 0 (0 : Int32))) (fun r2 g1 => (if r2 = 0 then (z_bI (zF_X5_may [.inr (.inl (3, 0, 0)), .inl (0 : Int32), .inl (1 : Int32)] g1) (fun r4 g3 => (if r4 = 0 then some (.inl (some (.inl (0 : Int32))), g3) else (if ((g3 3 0).1 16) = (30 : Int32) then some (.inl (some (.inl (-1 : Int32))), g3) else (if z_inb ((g3 3 0).1 16) 30 then (if z_inb ((g3 3 0).1 16) 30 then (if z_inb ((g3 3 0).1 16) 30 then (if z_inb ((g3 3 0).1 16) 30 then (if z_inb ((g3 3 0).1 16) 30 then some (.inl (some (.inl ((((g3 3 0).1 16) + (1 : Int32)) - (1 : Int32)))), (z_gI (z_gA (z_gA (z_gA (z_gA (z_gA g3 3 0 19 (upd ((g3 3 0).2 19) ((g3 3 0).1 16).toNatClampNeg x1)) 3 0 20 (upd ((g3 3 0).2 20) ((g3 3 0).1 16).toNatClampNeg x2)) 3 0 21 (upd ((g3 3 0).2 21) ((g3 3 0).1 16).toNatClampNeg x3)) 3 0 22 (upd ((g3 3 0).2 22) ((g3 3 0).1 16).toNatClampNeg x4)) 3 0 23 (upd ((g3 3 0).2 23) ((g3 3 0).1 16).toNatClampNeg (-1 : Int32))) 3 0 16 (((g3 3 0).1 16) + (1 : Int32)))) else none) else none) else none) else none) else none))))) else (z_bI (zF_X5_within [.inl x4, .inl (0 : Int32), .inl (100000 : Int32)] g1) (fun r6 g5 => (if r6 = 0 then (z_bI (zF_X5_may [.inr (.inl (3, 0, 0)), .inl (0 : Int32), .inl (1 : Int32)] g5) (fun r8 g7 => (if r8 = 0 then some (.inl (some (.inl (0 : Int32))), g7) else (if ((g7 3 0).1 16) = (30 : Int32) then some (.inl (some (.inl (-1 : Int32))), g7) else (if z_inb ((g7 3 0).1 16) 30 then (if z_inb ((g7 3 0).1 16) 30 then (if z_inb ((g7 3 0).1 16) 30 then (if z_inb ((g7 3 0).1 16) 30 then (if z_inb ((g7 3 0).1 16) 30 then some (.inl (some (.inl ((((g7 3 0).1 16) + (1 : Int32)) - (1 : Int32)))), (z_gI (z_gA (z_gA (z_gA (z_gA (z_gA g7 3 0 19 (upd ((g7 3 0).2 19) ((g7 3 0).1 16).toNatClampNeg x1)) 3 0 20 (upd ((g7 3 0).2 20) ((g7 3 0).1 16).toNatClampNeg x2)) 3 0 21 (upd ((g7 3 0).2 21) ((g7 3 0).1 16).toNatClampNeg x3)) 3 0 22 (upd ((g7 3 0).2 22) ((g7 3 0).1 16).toNatClampNeg x4)) 3 0 23 (upd ((g7 3 0).2 23) ((g7 3 0).1 16).toNatClampNeg (-1 : Int32))) 3 0 16 (((g7 3 0).1 16) + (1 : Int32)))) else none) else none) else none) else none) else none))))) else (z_bI (zF_X5_may [.inr (.inl (3, 0, 0)), .inl (1 : Int32), .inl (1 : Int32)] g5) (fun r10 g9 => (if r10 = 0 then some (.inl (some (.inl (0 : Int32))), g9) else (if ((g9 3 0).1 16) = (30 : Int32) then some (.inl (some (.inl (-1 : Int32))), g9) else (if z_inb ((g9 3 0).1 16) 30 then (if z_inb ((g9 3 0).1 16) 30 then (if z_inb ((g9 3 0).1 16) 30 then (if z_inb ((g9 3 0).1 16) 30 then (if z_inb ((g9 3 0).1 16) 30 then some (.inl (some (.inl ((((g9 3 0).1 16) + (1 : Int32)) - (1 : Int32)))), (z_gI (z_gA (z_gA (z_gA (z_gA (z_gA g9 3 0 19 (upd ((g9 3 0).2 19) ((g9 3 0).1 16).toNatClampNeg x1)) 3 0 20 (upd ((g9 3 0).2 20) ((g9 3 0).1 16).toNatClampNeg x2)) 3 0 21 (upd ((g9 3 0).2 21) ((g9 3 0).1 16).toNatClampNeg x3)) 3 0 22 (upd ((g9 3 0).2 22) ((g9 3 0).1 16).toNatClampNeg x4)) 3 0 23 (upd ((g9 3 0).2 23) ((g9 3 0).1 16).toNatClampNeg (-1 : Int32))) 3 0 16 (((g9 3 0).1 16) + (1 : Int32)))) else none) else none) else none) else none) else none))))))))))) := rfl
theorem ze_X5_ask (x1 : Int32) (x2 : Int32) (x3 : Int32) (x4 : Int32)  (g : zSG) : zF_X5_ask [.inr (.inl (3, 0, 0)), .inl x1, .inl x2, .inl x3, .inl x4] g = z_run zM_X5_ask zc_X5_ask zk_X5_ask 100000 0 [(0, .inr (.inl (3, 0, 0))), (1, .inl x1), (2, .inl x2), (3, .inl x3), (4, .inl x4)] g (0, 0) := z_fn_ok (sh := zs_X5_ask) (vs := [.inr (.inl (3, 0, 0)), .inl x1, .inl x2, .inl x3, .inl x4]) (rfl) rfl
set_option maxRecDepth 400000 in
set_option maxHeartbeats 4000000 in
theorem zu_X5_isAsk_0 (n : Nat) (x1 : Int32)  (g : zSG) : z_run zM_X5_isAsk zc_X5_isAsk zk_X5_isAsk (n + 1) 0 [(0, .inr (.inl (3, 0, 0))), (1, .inl x1)] g (0, 0) = (z_bI (zF_X5_within [.inl x1, .inl (0 : Int32), .inl (((g 3 0).1 16) - (1 : Int32))] g) (fun r2 g1 => (z_bI (zF_X5_may [.inr (.inl (3, 0, 0)), .inl r2, .inl (1 : Int32)] g1) (fun r4 g3 => (if r4 = 0 ∨ r4 = 1 then some (.inl (some (.inl r4)), g3) else none))))) := rfl
theorem ze_X5_isAsk (x1 : Int32)  (g : zSG) : zF_X5_isAsk [.inr (.inl (3, 0, 0)), .inl x1] g = z_run zM_X5_isAsk zc_X5_isAsk zk_X5_isAsk 100000 0 [(0, .inr (.inl (3, 0, 0))), (1, .inl x1)] g (0, 0) := z_fn_ok (sh := zs_X5_isAsk) (vs := [.inr (.inl (3, 0, 0)), .inl x1]) (rfl) rfl
set_option maxRecDepth 400000 in
set_option maxHeartbeats 4000000 in
theorem zu_X5_isVersion_0 (n : Nat) (x0 : Int32)  (g : zSG) : z_run zM_X5_isVersion zc_X5_isVersion zk_X5_isVersion (n + 1) 0 [(0, .inl x0)] g (0, 0) = (if x0 = 0 then (if (1 : Int32) = 0 ∨ (1 : Int32) = 1 then some (.inl (some (.inl (1 : Int32))), g) else none) else (if x0 = (1 : Int32) then (if (1 : Int32) = 0 ∨ (1 : Int32) = 1 then some (.inl (some (.inl (1 : Int32))), g) else none) else (if (0 : Int32) = 0 ∨ (0 : Int32) = 1 then some (.inl (some (.inl (0 : Int32))), g) else none))) := rfl
theorem ze_X5_isVersion (x0 : Int32)  (g : zSG) : zF_X5_isVersion [.inl x0] g = z_run zM_X5_isVersion zc_X5_isVersion zk_X5_isVersion 100000 0 [(0, .inl x0)] g (0, 0) := z_fn_ok (sh := zs_X5_isVersion) (vs := [.inl x0]) (rfl) rfl
set_option maxRecDepth 400000 in
set_option maxHeartbeats 4000000 in
theorem zu_X5_caused_0 (n : Nat) (x1 : Int32) (x2 : Int32) (x3 : Int32)  (g : zSG) : z_run zM_X5_caused zc_X5_caused zk_X5_caused (n + 1) 0 [(0, .inr (.inl (3, 0, 0))), (1, .inl x1), (2, .inl x2), (3, .inl x3)] g (0, 0) = (z_bI (zF_X5_isAsk [.inr (.inl (3, 0, 0)), .inl x1] (z_gI g 3 0 0 (0 : Int32))) (fun r2 g1 => (if r2 = 0 then some (.inl (some (.inl (0 : Int32))), g1) else (if x2 = (-1 : Int32) then (if x1 ≤ x2 then (z_bI (zF_X5_may [.inr (.inl (3, 0, 0)), .inl (0 : Int32), .inl (2 : Int32)] g1) (fun r4 g3 => (if r4 = 0 then some (.inl (some (.inl (0 : Int32))), g3) else (if z_inb x1 30 then (if z_inb x1 30 then some (.inl (some (.inl (1 : Int32))), (z_gA (z_gA g3 3 0 23 (upd ((g3 3 0).2 23) (x1).toNatClampNeg x2)) 3 0 24 (upd ((g3 3 0).2 24) (x1).toNatClampNeg x3))) else none) else none)))) else (z_bI (zF_X5_within [.inl x3, .inl (0 : Int32), .inl (7 : Int32)] g1) (fun r6 g5 => (if r6 = 0 then (z_bI (zF_X5_may [.inr (.inl (3, 0, 0)), .inl (0 : Int32), .inl (2 : Int32)] g5) (fun r8 g7 => (if r8 = 0 then some (.inl (some (.inl (0 : Int32))), g7) else (if z_inb x1 30 then (if z_inb x1 30 then some (.inl (some (.inl (1 : Int32))), (z_gA (z_gA g7 3 0 23 (upd ((g7 3 0).2 23) (x1).toNatClampNeg x2)) 3 0 24 (upd ((g7 3 0).2 24) (x1).toNatClampNeg x3))) else none) else none)))) else (z_bI (zF_X5_may [.inr (.inl (3, 0, 0)), .inl (1 : Int32), .inl (2 : Int32)] g5) (fun r10 g9 => (if r10 = 0 then some (.inl (some (.inl (0 : Int32))), g9) else (if z_inb x1 30 then (if z_inb x1 30 then some (.inl (some (.inl (1 : Int32))), (z_gA (z_gA g9 3 0 23 (upd ((g9 3 0).2 23) (x1).toNatClampNeg x2)) 3 0 24 (upd ((g9 3 0).2 24) (x1).toNatClampNeg x3))) else none) else none)))))))) else (z_bI (zF_X5_isAsk [.inr (.inl (3, 0, 0)), .inl x2] g1) (fun r12 g11 => (if r12 = 0 then some (.inl (some (.inl (0 : Int32))), g11) else (if x1 ≤ x2 then (z_bI (zF_X5_may [.inr (.inl (3, 0, 0)), .inl (0 : Int32), .inl (2 : Int32)] g11) (fun r14 g13 => (if r14 = 0 then some (.inl (some (.inl (0 : Int32))), g13) else (if z_inb x1 30 then (if z_inb x1 30 then some (.inl (some (.inl (1 : Int32))), (z_gA (z_gA g13 3 0 23 (upd ((g13 3 0).2 23) (x1).toNatClampNeg x2)) 3 0 24 (upd ((g13 3 0).2 24) (x1).toNatClampNeg x3))) else none) else none)))) else (z_bI (zF_X5_within [.inl x3, .inl (0 : Int32), .inl (7 : Int32)] g11) (fun r16 g15 => (if r16 = 0 then (z_bI (zF_X5_may [.inr (.inl (3, 0, 0)), .inl (0 : Int32), .inl (2 : Int32)] g15) (fun r18 g17 => (if r18 = 0 then some (.inl (some (.inl (0 : Int32))), g17) else (if z_inb x1 30 then (if z_inb x1 30 then some (.inl (some (.inl (1 : Int32))), (z_gA (z_gA g17 3 0 23 (upd ((g17 3 0).2 23) (x1).toNatClampNeg x2)) 3 0 24 (upd ((g17 3 0).2 24) (x1).toNatClampNeg x3))) else none) else none)))) else (z_bI (zF_X5_may [.inr (.inl (3, 0, 0)), .inl (1 : Int32), .inl (2 : Int32)] g15) (fun r20 g19 => (if r20 = 0 then some (.inl (some (.inl (0 : Int32))), g19) else (if z_inb x1 30 then (if z_inb x1 30 then some (.inl (some (.inl (1 : Int32))), (z_gA (z_gA g19 3 0 23 (upd ((g19 3 0).2 23) (x1).toNatClampNeg x2)) 3 0 24 (upd ((g19 3 0).2 24) (x1).toNatClampNeg x3))) else none) else none))))))))))))))) := rfl
theorem ze_X5_caused (x1 : Int32) (x2 : Int32) (x3 : Int32)  (g : zSG) : zF_X5_caused [.inr (.inl (3, 0, 0)), .inl x1, .inl x2, .inl x3] g = z_run zM_X5_caused zc_X5_caused zk_X5_caused 100000 0 [(0, .inr (.inl (3, 0, 0))), (1, .inl x1), (2, .inl x2), (3, .inl x3)] g (0, 0) := z_fn_ok (sh := zs_X5_caused) (vs := [.inr (.inl (3, 0, 0)), .inl x1, .inl x2, .inl x3]) (rfl) rfl
set_option maxRecDepth 400000 in
set_option maxHeartbeats 4000000 in
theorem zu_X5_findLine_0 (n : Nat)   (g : zSG) : z_run zM_X5_findLine zc_X5_findLine zk_X5_findLine (n + 1) 0 [(0, .inr (.inl (3, 0, 0)))] g (0, 0) = z_run zM_X5_findLine zc_X5_findLine zk_X5_findLine n 7 [(0, .inr (.inl (3, 0, 0))), (1, .inl (0 : Int32))] (z_gI g 3 0 35 (0 : Int32)) (0, 0) := rfl
set_option maxRecDepth 400000 in
set_option maxHeartbeats 4000000 in
theorem zu_X5_findLine_7 (n : Nat) (x1 : Int32)  (g : zSG) : z_run zM_X5_findLine zc_X5_findLine zk_X5_findLine (n + 1) 7 [(0, .inr (.inl (3, 0, 0))), (1, .inl x1)] g (0, 0) = (if ((g 3 0).1 16) ≤ x1 then some (.inl none, g) else z_run zM_X5_findLine zc_X5_findLine zk_X5_findLine n 20 [(0, .inr (.inl (3, 0, 0))), (1, .inl x1), (2, .inl ((g 3 0).1 35))] g (0, 0)) := rfl
set_option maxRecDepth 400000 in
set_option maxHeartbeats 4000000 in
theorem zu_X5_findLine_20 (n : Nat) (x1 : Int32) (x2 : Int32)  (g : zSG) : z_run zM_X5_findLine zc_X5_findLine zk_X5_findLine (n + 1) 20 [(0, .inr (.inl (3, 0, 0))), (1, .inl x1), (2, .inl x2)] g (0, 0) = (if x2 ≤ 0 then (if z_inb x2 30 then z_run zM_X5_findLine zc_X5_findLine zk_X5_findLine n 7 [(0, .inr (.inl (3, 0, 0))), (1, .inl (x1 + (1 : Int32)))] (z_gI (z_gA g 3 0 25 (upd ((g 3 0).2 25) (x2).toNatClampNeg x1)) 3 0 35 (((g 3 0).1 35) + (1 : Int32))) (0, 0) else none) else (if z_inb (x2 - (1 : Int32)) 30 then (if z_inb ((g 3 0).2 25 (x2 - (1 : Int32)).toNatClampNeg) 30 then (if z_inb x1 30 then (if ((g 3 0).2 22 ((g 3 0).2 25 (x2 - (1 : Int32)).toNatClampNeg).toNatClampNeg) ≤ ((g 3 0).2 22 (x1).toNatClampNeg) then (if z_inb x2 30 then z_run zM_X5_findLine zc_X5_findLine zk_X5_findLine n 7 [(0, .inr (.inl (3, 0, 0))), (1, .inl (x1 + (1 : Int32)))] (z_gI (z_gA g 3 0 25 (upd ((g 3 0).2 25) (x2).toNatClampNeg x1)) 3 0 35 (((g 3 0).1 35) + (1 : Int32))) (0, 0) else none) else (if z_inb (x2 - (1 : Int32)) 30 then (if z_inb x2 30 then z_run zM_X5_findLine zc_X5_findLine zk_X5_findLine n 20 [(0, .inr (.inl (3, 0, 0))), (1, .inl x1), (2, .inl (x2 + (-1 : Int32)))] (z_gA g 3 0 25 (upd ((g 3 0).2 25) (x2).toNatClampNeg ((g 3 0).2 25 (x2 - (1 : Int32)).toNatClampNeg))) (0, 0) else none) else none)) else none) else none) else none)) := rfl
theorem ze_X5_findLine   (g : zSG) : zF_X5_findLine [.inr (.inl (3, 0, 0))] g = z_run zM_X5_findLine zc_X5_findLine zk_X5_findLine 100000 0 [(0, .inr (.inl (3, 0, 0)))] g (0, 0) := z_fn_ok (sh := zs_X5_findLine) (vs := [.inr (.inl (3, 0, 0))]) (rfl) rfl
set_option maxRecDepth 400000 in
set_option maxHeartbeats 4000000 in
theorem zu_X5_push_0 (n : Nat) (x1 : Int32)  (g : zSG) : z_run zM_X5_push zc_X5_push zk_X5_push (n + 1) 0 [(0, .inr (.inl (3, 0, 0))), (1, .inl x1)] g (0, 0) = (if z_inb ((g 3 0).1 38) 128 then some (.inl none, (z_gI (z_gA g 3 0 32 (upd ((g 3 0).2 32) ((g 3 0).1 38).toNatClampNeg x1)) 3 0 38 (((g 3 0).1 38) + (1 : Int32)))) else none) := rfl
theorem ze_X5_push (x1 : Int32)  (g : zSG) : zF_X5_push [.inr (.inl (3, 0, 0)), .inl x1] g = z_run zM_X5_push zc_X5_push zk_X5_push 100000 0 [(0, .inr (.inl (3, 0, 0))), (1, .inl x1)] g (0, 0) := z_fn_ok (sh := zs_X5_push) (vs := [.inr (.inl (3, 0, 0)), .inl x1]) (rfl) rfl
set_option maxRecDepth 400000 in
set_option maxHeartbeats 4000000 in
theorem zu_X5_pop_0 (n : Nat)   (g : zSG) : z_run zM_X5_pop zc_X5_pop zk_X5_pop (n + 1) 0 [(0, .inr (.inl (3, 0, 0)))] g (0, 0) = (if z_inb (((g 3 0).1 38) - (1 : Int32)) 128 then some (.inl (some (.inl ((g 3 0).2 32 (((g 3 0).1 38) - (1 : Int32)).toNatClampNeg))), (z_gI g 3 0 38 (((g 3 0).1 38) - (1 : Int32)))) else none) := rfl
theorem ze_X5_pop   (g : zSG) : zF_X5_pop [.inr (.inl (3, 0, 0))] g = z_run zM_X5_pop zc_X5_pop zk_X5_pop 100000 0 [(0, .inr (.inl (3, 0, 0)))] g (0, 0) := z_fn_ok (sh := zs_X5_pop) (vs := [.inr (.inl (3, 0, 0))]) (rfl) rfl
set_option maxRecDepth 400000 in
set_option maxHeartbeats 4000000 in
theorem zu_X5_run_0 (n : Nat) (x1 : Int32) (x2 : Int32) (x3 : Int32)  (g : zSG) : z_run zM_X5_run zc_X5_run zk_X5_run (n + 1) 0 [(0, .inr (.inl (3, 0, 0))), (1, .inl x1), (2, .inl x2), (3, .inl x3)] g (0, 0) = z_run zM_X5_run zc_X5_run zk_X5_run n 3 [(0, .inr (.inl (3, 0, 0))), (1, .inl x1), (2, .inl x2), (3, .inl x3), (4, .inl (0 : Int32))] g (0, 0) := rfl
set_option maxRecDepth 400000 in
set_option maxHeartbeats 4000000 in
theorem zu_X5_run_3 (n : Nat) (x1 : Int32) (x2 : Int32) (x3 : Int32) (x4 : Int32)  (g : zSG) : z_run zM_X5_run zc_X5_run zk_X5_run (n + 1) 3 [(0, .inr (.inl (3, 0, 0))), (1, .inl x1), (2, .inl x2), (3, .inl x3), (4, .inl x4)] g (0, 0) = (if (8 : Int32) ≤ x4 then z_run zM_X5_run zc_X5_run zk_X5_run n 33 [(0, .inr (.inl (3, 0, 0))), (1, .inl x1), (2, .inl x2), (3, .inl x3), (4, .inl (0 : Int32))] g (0, 0) else (if z_inb x4 8 then (if z_inb x4 8 then z_run zM_X5_run zc_X5_run zk_X5_run n 3 [(0, .inr (.inl (3, 0, 0))), (1, .inl x1), (2, .inl x2), (3, .inl x3), (4, .inl (x4 + (1 : Int32)))] (z_gA g 3 0 31 (upd ((g 3 0).2 31) (x4).toNatClampNeg ((g 3 0).2 17 (x4).toNatClampNeg))) (0, 0) else none) else none)) := rfl
set_option maxRecDepth 400000 in
set_option maxHeartbeats 4000000 in
theorem zu_X5_run_33 (n : Nat) (x1 : Int32) (x2 : Int32) (x3 : Int32) (x4 : Int32)  (g : zSG) : z_run zM_X5_run zc_X5_run zk_X5_run (n + 1) 33 [(0, .inr (.inl (3, 0, 0))), (1, .inl x1), (2, .inl x2), (3, .inl x3), (4, .inl x4)] g (0, 0) = (if (240 : Int32) ≤ x4 then z_run zM_X5_run zc_X5_run zk_X5_run n 58 [(0, .inr (.inl (3, 0, 0))), (1, .inl x1), (2, .inl x2), (3, .inl x3), (4, .inl (0 : Int32))] g (0, 0) else (if z_inb x4 240 then z_run zM_X5_run zc_X5_run zk_X5_run n 33 [(0, .inr (.inl (3, 0, 0))), (1, .inl x1), (2, .inl x2), (3, .inl x3), (4, .inl (x4 + (1 : Int32)))] (z_gA g 3 0 33 (upd ((g 3 0).2 33) (x4).toNatClampNeg ((0 : Int32) &&& 1))) (0, 0) else none)) := rfl
set_option maxRecDepth 400000 in
set_option maxHeartbeats 4000000 in
theorem zu_X5_run_58 (n : Nat) (x1 : Int32) (x2 : Int32) (x3 : Int32) (x4 : Int32)  (g : zSG) : z_run zM_X5_run zc_X5_run zk_X5_run (n + 1) 58 [(0, .inr (.inl (3, 0, 0))), (1, .inl x1), (2, .inl x2), (3, .inl x3), (4, .inl x4)] g (0, 0) = (if ((g 3 0).1 16) ≤ x4 then z_run zM_X5_run zc_X5_run zk_X5_run n 94 [(0, .inr (.inl (3, 0, 0))), (1, .inl x1), (2, .inl x2), (4, .inl (0 : Int32))] (z_gI (z_gI g 3 0 36 x3) 3 0 37 (0 : Int32)) (0, 0) else (if z_inb x4 30 then z_run zM_X5_run zc_X5_run zk_X5_run n 58 [(0, .inr (.inl (3, 0, 0))), (1, .inl x1), (2, .inl x2), (3, .inl x3), (4, .inl (x4 + (1 : Int32)))] (z_gA g 3 0 34 (upd ((g 3 0).2 34) (x4).toNatClampNeg ((0 : Int32) &&& 1))) (0, 0) else none)) := rfl
set_option maxRecDepth 400000 in
set_option maxHeartbeats 4000000 in
theorem zu_X5_run_94 (n : Nat) (x1 : Int32) (x2 : Int32) (x4 : Int32)  (g : zSG) : z_run zM_X5_run zc_X5_run zk_X5_run (n + 1) 94 [(0, .inr (.inl (3, 0, 0))), (1, .inl x1), (2, .inl x2), (4, .inl x4)] g (0, 0) = (if ((g 3 0).1 35) ≤ x4 then some (.inl none, g) else (if z_inb x4 30 then (if ((x2 >>> (((g 3 0).2 25 (x4).toNatClampNeg) &&& 31)) &&& (1 : Int32)) = (1 : Int32) then (if z_inb x4 30 then (z_bV (zF_X5_does [.inr (.inl (3, 0, 0)), .inl x1, .inl ((g 3 0).2 25 (x4).toNatClampNeg)] g) (fun g1 => z_run zM_X5_run zc_X5_run zk_X5_run n 94 [(0, .inr (.inl (3, 0, 0))), (1, .inl x1), (2, .inl x2), (4, .inl (x4 + (1 : Int32)))] g1 (0, 0))) else none) else z_run zM_X5_run zc_X5_run zk_X5_run n 94 [(0, .inr (.inl (3, 0, 0))), (1, .inl x1), (2, .inl x2), (4, .inl (x4 + (1 : Int32)))] g (0, 0)) else none)) := rfl
theorem ze_X5_run (x1 : Int32) (x2 : Int32) (x3 : Int32)  (g : zSG) : zF_X5_run [.inr (.inl (3, 0, 0)), .inl x1, .inl x2, .inl x3] g = z_run zM_X5_run zc_X5_run zk_X5_run 100000 0 [(0, .inr (.inl (3, 0, 0))), (1, .inl x1), (2, .inl x2), (3, .inl x3)] g (0, 0) := z_fn_ok (sh := zs_X5_run) (vs := [.inr (.inl (3, 0, 0)), .inl x1, .inl x2, .inl x3]) (rfl) rfl
set_option maxRecDepth 400000 in
set_option maxHeartbeats 4000000 in
theorem zu_X5_runAll_0 (n : Nat) (x1 : Int32) (x2 : Int32)  (g : zSG) : z_run zM_X5_runAll zc_X5_runAll zk_X5_runAll (n + 1) 0 [(0, .inr (.inl (3, 0, 0))), (1, .inl x1), (2, .inl x2)] g (0, 0) = (z_bV (zF_X5_findLine [.inr (.inl (3, 0, 0))] g) (fun g1 => (z_bV (zF_X5_run [.inr (.inl (3, 0, 0)), .inl x1, .inl (((1 : Int32) <<< (((g1 3 0).1 16) &&& 31)) - (1 : Int32)), .inl x2] g1) (fun g2 => some (.inl none, g2))))) := rfl
theorem ze_X5_runAll (x1 : Int32) (x2 : Int32)  (g : zSG) : zF_X5_runAll [.inr (.inl (3, 0, 0)), .inl x1, .inl x2] g = z_run zM_X5_runAll zc_X5_runAll zk_X5_runAll 100000 0 [(0, .inr (.inl (3, 0, 0))), (1, .inl x1), (2, .inl x2)] g (0, 0) := z_fn_ok (sh := zs_X5_runAll) (vs := [.inr (.inl (3, 0, 0)), .inl x1, .inl x2]) (rfl) rfl
set_option maxRecDepth 400000 in
set_option maxHeartbeats 4000000 in
theorem zu_X5_fields_0 (n : Nat) (x1 : Int32) (x2 : Int32)  (g : zSG) : z_run zM_X5_fields zc_X5_fields zk_X5_fields (n + 1) 0 [(0, .inr (.inl (3, 0, 0))), (1, .inl x1), (2, .inl x2)] g (0, 0) = (z_bI (zF_X5_isAsk [.inr (.inl (3, 0, 0)), .inl x2] (z_gI g 3 0 0 (0 : Int32))) (fun r2 g1 => (if r2 = 0 then some (.inl (some (.inl (0 : Int32))), g1) else (z_bI (zF_X5_isVersion [.inl x1] g1) (fun r4 g3 => (z_bI (zF_X5_may [.inr (.inl (3, 0, 0)), .inl r4, .inl (2 : Int32)] g3) (fun r6 g5 => (if r6 = 0 then some (.inl (some (.inl (0 : Int32))), g5) else (z_bV (zF_X5_runAll [.inr (.inl (3, 0, 0)), .inl x1, .inl (0 : Int32)] g5) (fun g7 => (if z_inb x2 30 then some (.inl (some (.inl ((g7 3 0).2 26 (x2).toNatClampNeg))), g7) else none))))))))))) := rfl
theorem ze_X5_fields (x1 : Int32) (x2 : Int32)  (g : zSG) : zF_X5_fields [.inr (.inl (3, 0, 0)), .inl x1, .inl x2] g = z_run zM_X5_fields zc_X5_fields zk_X5_fields 100000 0 [(0, .inr (.inl (3, 0, 0))), (1, .inl x1), (2, .inl x2)] g (0, 0) := z_fn_ok (sh := zs_X5_fields) (vs := [.inr (.inl (3, 0, 0)), .inl x1, .inl x2]) (rfl) rfl
set_option maxRecDepth 400000 in
set_option maxHeartbeats 4000000 in
theorem zu_X5_field_0 (n : Nat) (x1 : Int32) (x2 : Int32) (x3 : Int32)  (g : zSG) : z_run zM_X5_field zc_X5_field zk_X5_field (n + 1) 0 [(0, .inr (.inl (3, 0, 0))), (1, .inl x1), (2, .inl x2), (3, .inl x3)] g (0, 0) = (z_bI (zF_X5_isAsk [.inr (.inl (3, 0, 0)), .inl x2] (z_gI g 3 0 0 (0 : Int32))) (fun r2 g1 => (if r2 = 0 then some (.inl (some (.inl (0 : Int32))), g1) else (z_bI (zF_X5_isVersion [.inl x1] g1) (fun r4 g3 => (z_bI (zF_X5_may [.inr (.inl (3, 0, 0)), .inl r4, .inl (2 : Int32)] g3) (fun r6 g5 => (if r6 = 0 then some (.inl (some (.inl (0 : Int32))), g5) else (z_bV (zF_X5_runAll [.inr (.inl (3, 0, 0)), .inl x1, .inl (0 : Int32)] g5) (fun g7 => (if z_inb x2 30 then (z_bI (zF_X5_within [.inl x3, .inl (0 : Int32), .inl (((g7 3 0).2 26 (x2).toNatClampNeg) - (1 : Int32))] g7) (fun r9 g8 => (if r9 = 0 then some (.inl (some (.inl (0 : Int32))), g8) else (if z_inb (((8 : Int32) * x2) + x3) 240 then some (.inl (some (.inl ((g8 3 0).2 27 (((8 : Int32) * x2) + x3).toNatClampNeg))), g8) else none)))) else none))))))))))) := rfl
theorem ze_X5_field (x1 : Int32) (x2 : Int32) (x3 : Int32)  (g : zSG) : zF_X5_field [.inr (.inl (3, 0, 0)), .inl x1, .inl x2, .inl x3] g = z_run zM_X5_field zc_X5_field zk_X5_field 100000 0 [(0, .inr (.inl (3, 0, 0))), (1, .inl x1), (2, .inl x2), (3, .inl x3)] g (0, 0) := z_fn_ok (sh := zs_X5_field) (vs := [.inr (.inl (3, 0, 0)), .inl x1, .inl x2, .inl x3]) (rfl) rfl
set_option maxRecDepth 400000 in
set_option maxHeartbeats 4000000 in
theorem zu_X5_end_0 (n : Nat) (x1 : Int32) (x2 : Int32)  (g : zSG) : z_run zM_X5_end zc_X5_end zk_X5_end (n + 1) 0 [(0, .inr (.inl (3, 0, 0))), (1, .inl x1), (2, .inl x2)] g (0, 0) = (z_bI (zF_X5_within [.inl x2, .inl (0 : Int32), .inl (7 : Int32)] (z_gI g 3 0 0 (0 : Int32))) (fun r2 g1 => (z_bI (zF_X5_may [.inr (.inl (3, 0, 0)), .inl r2, .inl (1 : Int32)] g1) (fun r4 g3 => (if r4 = 0 then some (.inl (some (.inl (0 : Int32))), g3) else (z_bI (zF_X5_isVersion [.inl x1] g3) (fun r6 g5 => (z_bI (zF_X5_may [.inr (.inl (3, 0, 0)), .inl r6, .inl (2 : Int32)] g5) (fun r8 g7 => (if r8 = 0 then some (.inl (some (.inl (0 : Int32))), g7) else (z_bV (zF_X5_runAll [.inr (.inl (3, 0, 0)), .inl x1, .inl (0 : Int32)] g7) (fun g9 => (if z_inb x2 8 then some (.inl (some (.inl ((g9 3 0).2 31 (x2).toNatClampNeg))), g9) else none))))))))))))) := rfl
theorem ze_X5_end (x1 : Int32) (x2 : Int32)  (g : zSG) : zF_X5_end [.inr (.inl (3, 0, 0)), .inl x1, .inl x2] g = z_run zM_X5_end zc_X5_end zk_X5_end 100000 0 [(0, .inr (.inl (3, 0, 0))), (1, .inl x1), (2, .inl x2)] g (0, 0) := z_fn_ok (sh := zs_X5_end) (vs := [.inr (.inl (3, 0, 0)), .inl x1, .inl x2]) (rfl) rfl
set_option maxRecDepth 400000 in
set_option maxHeartbeats 4000000 in
theorem zu_X5_touched_0 (n : Nat) (x1 : Int32) (x2 : Int32) (x3 : Int32)  (g : zSG) : z_run zM_X5_touched zc_X5_touched zk_X5_touched (n + 1) 0 [(0, .inr (.inl (3, 0, 0))), (1, .inl x1), (2, .inl x2), (3, .inl x3)] g (0, 0) = (z_bI (zF_X5_isAsk [.inr (.inl (3, 0, 0)), .inl x2] (z_gI g 3 0 0 (0 : Int32))) (fun r2 g1 => (if r2 = 0 then some (.inl (some (.inl (0 : Int32))), g1) else (z_bI (zF_X5_isVersion [.inl x1] g1) (fun r4 g3 => (if r4 = 0 then (z_bI (zF_X5_may [.inr (.inl (3, 0, 0)), .inl (0 : Int32), .inl (2 : Int32)] g3) (fun r6 g5 => (if r6 = 0 then some (.inl (some (.inl (0 : Int32))), g5) else (z_bV (zF_X5_runAll [.inr (.inl (3, 0, 0)), .inl x1, .inl (0 : Int32)] g5) (fun g7 => (if x3 = 0 then (if z_inb x2 30 then some (.inl (some (.inl ((g7 3 0).2 28 (x2).toNatClampNeg))), g7) else none) else (if x3 = (1 : Int32) then (if z_inb x2 30 then some (.inl (some (.inl ((g7 3 0).2 29 (x2).toNatClampNeg))), g7) else none) else (if z_inb x2 30 then some (.inl (some (.inl ((g7 3 0).2 30 (x2).toNatClampNeg))), g7) else none)))))))) else (z_bI (zF_X5_within [.inl x3, .inl (0 : Int32), .inl (2 : Int32)] g3) (fun r9 g8 => (if r9 = 0 then (z_bI (zF_X5_may [.inr (.inl (3, 0, 0)), .inl (0 : Int32), .inl (2 : Int32)] g8) (fun r11 g10 => (if r11 = 0 then some (.inl (some (.inl (0 : Int32))), g10) else (z_bV (zF_X5_runAll [.inr (.inl (3, 0, 0)), .inl x1, .inl (0 : Int32)] g10) (fun g12 => (if x3 = 0 then (if z_inb x2 30 then some (.inl (some (.inl ((g12 3 0).2 28 (x2).toNatClampNeg))), g12) else none) else (if x3 = (1 : Int32) then (if z_inb x2 30 then some (.inl (some (.inl ((g12 3 0).2 29 (x2).toNatClampNeg))), g12) else none) else (if z_inb x2 30 then some (.inl (some (.inl ((g12 3 0).2 30 (x2).toNatClampNeg))), g12) else none)))))))) else (z_bI (zF_X5_may [.inr (.inl (3, 0, 0)), .inl (1 : Int32), .inl (2 : Int32)] g8) (fun r14 g13 => (if r14 = 0 then some (.inl (some (.inl (0 : Int32))), g13) else (z_bV (zF_X5_runAll [.inr (.inl (3, 0, 0)), .inl x1, .inl (0 : Int32)] g13) (fun g15 => (if x3 = 0 then (if z_inb x2 30 then some (.inl (some (.inl ((g15 3 0).2 28 (x2).toNatClampNeg))), g15) else none) else (if x3 = (1 : Int32) then (if z_inb x2 30 then some (.inl (some (.inl ((g15 3 0).2 29 (x2).toNatClampNeg))), g15) else none) else (if z_inb x2 30 then some (.inl (some (.inl ((g15 3 0).2 30 (x2).toNatClampNeg))), g15) else none))))))))))))))))) := rfl
theorem ze_X5_touched (x1 : Int32) (x2 : Int32) (x3 : Int32)  (g : zSG) : zF_X5_touched [.inr (.inl (3, 0, 0)), .inl x1, .inl x2, .inl x3] g = z_run zM_X5_touched zc_X5_touched zk_X5_touched 100000 0 [(0, .inr (.inl (3, 0, 0))), (1, .inl x1), (2, .inl x2), (3, .inl x3)] g (0, 0) := z_fn_ok (sh := zs_X5_touched) (vs := [.inr (.inl (3, 0, 0)), .inl x1, .inl x2, .inl x3]) (rfl) rfl
set_option maxRecDepth 400000 in
set_option maxHeartbeats 4000000 in
theorem zu_X5_calls_0 (n : Nat) (x1 : Int32)  (g : zSG) : z_run zM_X5_calls zc_X5_calls zk_X5_calls (n + 1) 0 [(0, .inr (.inl (3, 0, 0))), (1, .inl x1)] g (0, 0) = (z_bI (zF_X5_isVersion [.inl x1] (z_gI g 3 0 0 (0 : Int32))) (fun r2 g1 => (z_bI (zF_X5_may [.inr (.inl (3, 0, 0)), .inl r2, .inl (1 : Int32)] g1) (fun r4 g3 => (if r4 = 0 then some (.inl (some (.inl (0 : Int32))), g3) else (z_bV (zF_X5_runAll [.inr (.inl (3, 0, 0)), .inl x1, .inl (0 : Int32)] g3) (fun g5 => some (.inl (some (.inl ((g5 3 0).1 37))), g5)))))))) := rfl
theorem ze_X5_calls (x1 : Int32)  (g : zSG) : zF_X5_calls [.inr (.inl (3, 0, 0)), .inl x1] g = z_run zM_X5_calls zc_X5_calls zk_X5_calls 100000 0 [(0, .inr (.inl (3, 0, 0))), (1, .inl x1)] g (0, 0) := z_fn_ok (sh := zs_X5_calls) (vs := [.inr (.inl (3, 0, 0)), .inl x1]) (rfl) rfl
set_option maxRecDepth 400000 in
set_option maxHeartbeats 4000000 in
theorem zu_X5_never_0 (n : Nat) (x1 : Int32) (x2 : Int32)  (g : zSG) : z_run zM_X5_never zc_X5_never zk_X5_never (n + 1) 0 [(0, .inr (.inl (3, 0, 0))), (1, .inl x1), (2, .inl x2)] g (0, 0) = (z_bI (zF_X5_isVersion [.inl x1] (z_gI g 3 0 0 (0 : Int32))) (fun r2 g1 => (if r2 = 0 then (z_bI (zF_X5_may [.inr (.inl (3, 0, 0)), .inl (0 : Int32), .inl (1 : Int32)] g1) (fun r4 g3 => (if r4 = 0 then some (.inl (some (.inl (0 : Int32))), g3) else (z_bV (zF_X5_runAll [.inr (.inl (3, 0, 0)), .inl x1, .inl (0 : Int32)] g3) (fun g5 => z_run zM_X5_never zc_X5_never zk_X5_never n 54 [(0, .inr (.inl (3, 0, 0))), (3, .inl (((4 : Int32) * x1) + x2)), (4, .inl (0 : Int32)), (5, .inl (0 : Int32))] g5 (0, 0)))))) else (z_bI (zF_X5_within [.inl x2, .inl (0 : Int32), .inl (3 : Int32)] g1) (fun r7 g6 => (if r7 = 0 then (z_bI (zF_X5_may [.inr (.inl (3, 0, 0)), .inl (0 : Int32), .inl (1 : Int32)] g6) (fun r9 g8 => (if r9 = 0 then some (.inl (some (.inl (0 : Int32))), g8) else (z_bV (zF_X5_runAll [.inr (.inl (3, 0, 0)), .inl x1, .inl (0 : Int32)] g8) (fun g10 => z_run zM_X5_never zc_X5_never zk_X5_never n 54 [(0, .inr (.inl (3, 0, 0))), (3, .inl (((4 : Int32) * x1) + x2)), (4, .inl (0 : Int32)), (5, .inl (0 : Int32))] g10 (0, 0)))))) else (z_bI (zF_X5_may [.inr (.inl (3, 0, 0)), .inl (1 : Int32), .inl (1 : Int32)] g6) (fun r12 g11 => (if r12 = 0 then some (.inl (some (.inl (0 : Int32))), g11) else (z_bV (zF_X5_runAll [.inr (.inl (3, 0, 0)), .inl x1, .inl (0 : Int32)] g11) (fun g13 => z_run zM_X5_never zc_X5_never zk_X5_never n 54 [(0, .inr (.inl (3, 0, 0))), (3, .inl (((4 : Int32) * x1) + x2)), (4, .inl (0 : Int32)), (5, .inl (0 : Int32))] g13 (0, 0)))))))))))) := rfl
set_option maxRecDepth 400000 in
set_option maxHeartbeats 4000000 in
theorem zu_X5_never_54 (n : Nat) (x3 : Int32) (x4 : Int32) (x5 : Int32)  (g : zSG) : z_run zM_X5_never zc_X5_never zk_X5_never (n + 1) 54 [(0, .inr (.inl (3, 0, 0))), (3, .inl x3), (4, .inl x4), (5, .inl x5)] g (0, 0) = (if z_inb x3 8 then (if ((g 3 0).2 15 (x3).toNatClampNeg) ≤ x5 then some (.inl (some (.inl x4)), g) else (if z_inb (((30 : Int32) * x3) + x5) 240 then (if ((g 3 0).2 33 (((30 : Int32) * x3) + x5).toNatClampNeg) = 0 then z_run zM_X5_never zc_X5_never zk_X5_never n 54 [(0, .inr (.inl (3, 0, 0))), (3, .inl x3), (4, .inl (x4 + (1 : Int32))), (5, .inl (x5 + (1 : Int32)))] g (0, 0) else z_run zM_X5_never zc_X5_never zk_X5_never n 54 [(0, .inr (.inl (3, 0, 0))), (3, .inl x3), (4, .inl (x4 + (0 : Int32))), (5, .inl (x5 + (1 : Int32)))] g (0, 0)) else none)) else none) := rfl
theorem ze_X5_never (x1 : Int32) (x2 : Int32)  (g : zSG) : zF_X5_never [.inr (.inl (3, 0, 0)), .inl x1, .inl x2] g = z_run zM_X5_never zc_X5_never zk_X5_never 100000 0 [(0, .inr (.inl (3, 0, 0))), (1, .inl x1), (2, .inl x2)] g (0, 0) := z_fn_ok (sh := zs_X5_never) (vs := [.inr (.inl (3, 0, 0)), .inl x1, .inl x2]) (rfl) rfl
set_option maxRecDepth 400000 in
set_option maxHeartbeats 4000000 in
theorem zu_X5_noise_0 (n : Nat) (x1 : Int32) (x2 : Int32) (x3 : Int32)  (g : zSG) : z_run zM_X5_noise zc_X5_noise zk_X5_noise (n + 1) 0 [(0, .inr (.inl (3, 0, 0))), (1, .inl x1), (2, .inl x2), (3, .inl x3)] g (0, 0) = (z_bI (zF_X5_within [.inl x1, .inl (0 : Int32), .inl (3 : Int32)] (z_gI g 3 0 0 (0 : Int32))) (fun r2 g1 => (if r2 = 0 then (z_bI (zF_X5_may [.inr (.inl (3, 0, 0)), .inl (0 : Int32), .inl (1 : Int32)] g1) (fun r4 g3 => (if r4 = 0 then (if (0 : Int32) = 0 ∨ (0 : Int32) = 1 then some (.inl (some (.inl (0 : Int32))), g3) else none) else (if z_inb (((8 : Int32) * x1) + x2) 32 then (if z_inb (((8 : Int32) * x1) + x2) 32 then (if ((g3 3 0).2 39 (((8 : Int32) * x1) + x2).toNatClampNeg) = 0 ∨ ((g3 3 0).2 39 (((8 : Int32) * x1) + x2).toNatClampNeg) = 1 then some (.inl (some (.inl ((g3 3 0).2 39 (((8 : Int32) * x1) + x2).toNatClampNeg))), (z_gA g3 3 0 39 (upd ((g3 3 0).2 39) (((8 : Int32) * x1) + x2).toNatClampNeg (x3 &&& 1)))) else none) else none) else none)))) else (z_bI (zF_X5_within [.inl x2, .inl (0 : Int32), .inl (7 : Int32)] g1) (fun r6 g5 => (if r6 = 0 then (z_bI (zF_X5_may [.inr (.inl (3, 0, 0)), .inl (0 : Int32), .inl (1 : Int32)] g5) (fun r8 g7 => (if r8 = 0 then (if (0 : Int32) = 0 ∨ (0 : Int32) = 1 then some (.inl (some (.inl (0 : Int32))), g7) else none) else (if z_inb (((8 : Int32) * x1) + x2) 32 then (if z_inb (((8 : Int32) * x1) + x2) 32 then (if ((g7 3 0).2 39 (((8 : Int32) * x1) + x2).toNatClampNeg) = 0 ∨ ((g7 3 0).2 39 (((8 : Int32) * x1) + x2).toNatClampNeg) = 1 then some (.inl (some (.inl ((g7 3 0).2 39 (((8 : Int32) * x1) + x2).toNatClampNeg))), (z_gA g7 3 0 39 (upd ((g7 3 0).2 39) (((8 : Int32) * x1) + x2).toNatClampNeg (x3 &&& 1)))) else none) else none) else none)))) else (z_bI (zF_X5_may [.inr (.inl (3, 0, 0)), .inl (1 : Int32), .inl (1 : Int32)] g5) (fun r10 g9 => (if r10 = 0 then (if (0 : Int32) = 0 ∨ (0 : Int32) = 1 then some (.inl (some (.inl (0 : Int32))), g9) else none) else (if z_inb (((8 : Int32) * x1) + x2) 32 then (if z_inb (((8 : Int32) * x1) + x2) 32 then (if ((g9 3 0).2 39 (((8 : Int32) * x1) + x2).toNatClampNeg) = 0 ∨ ((g9 3 0).2 39 (((8 : Int32) * x1) + x2).toNatClampNeg) = 1 then some (.inl (some (.inl ((g9 3 0).2 39 (((8 : Int32) * x1) + x2).toNatClampNeg))), (z_gA g9 3 0 39 (upd ((g9 3 0).2 39) (((8 : Int32) * x1) + x2).toNatClampNeg (x3 &&& 1)))) else none) else none) else none)))))))))) := rfl
theorem ze_X5_noise (x1 : Int32) (x2 : Int32) (x3 : Int32)  (g : zSG) : zF_X5_noise [.inr (.inl (3, 0, 0)), .inl x1, .inl x2, .inl x3] g = z_run zM_X5_noise zc_X5_noise zk_X5_noise 100000 0 [(0, .inr (.inl (3, 0, 0))), (1, .inl x1), (2, .inl x2), (3, .inl x3)] g (0, 0) := z_fn_ok (sh := zs_X5_noise) (vs := [.inr (.inl (3, 0, 0)), .inl x1, .inl x2, .inl x3]) (rfl) rfl
set_option maxRecDepth 400000 in
set_option maxHeartbeats 4000000 in
theorem zu_X5_keepAnswers_0 (n : Nat)   (g : zSG) : z_run zM_X5_keepAnswers zc_X5_keepAnswers zk_X5_keepAnswers (n + 1) 0 [(0, .inr (.inl (3, 0, 0)))] g (0, 0) = z_run zM_X5_keepAnswers zc_X5_keepAnswers zk_X5_keepAnswers n 2 [(0, .inr (.inl (3, 0, 0))), (1, .inl (0 : Int32))] g (0, 0) := rfl
set_option maxRecDepth 400000 in
set_option maxHeartbeats 4000000 in
theorem zu_X5_keepAnswers_2 (n : Nat) (x1 : Int32)  (g : zSG) : z_run zM_X5_keepAnswers zc_X5_keepAnswers zk_X5_keepAnswers (n + 1) 2 [(0, .inr (.inl (3, 0, 0))), (1, .inl x1)] g (0, 0) = (if ((g 3 0).1 16) ≤ x1 then some (.inl none, g) else (if z_inb x1 30 then (if z_inb x1 30 then z_run zM_X5_keepAnswers zc_X5_keepAnswers zk_X5_keepAnswers n 24 [(0, .inr (.inl (3, 0, 0))), (1, .inl x1), (2, .inl (0 : Int32))] (z_gA g 3 0 40 (upd ((g 3 0).2 40) (x1).toNatClampNeg ((g 3 0).2 26 (x1).toNatClampNeg))) (0, 0) else none) else none)) := rfl
set_option maxRecDepth 400000 in
set_option maxHeartbeats 4000000 in
theorem zu_X5_keepAnswers_24 (n : Nat) (x1 : Int32) (x2 : Int32)  (g : zSG) : z_run zM_X5_keepAnswers zc_X5_keepAnswers zk_X5_keepAnswers (n + 1) 24 [(0, .inr (.inl (3, 0, 0))), (1, .inl x1), (2, .inl x2)] g (0, 0) = (if (8 : Int32) ≤ x2 then z_run zM_X5_keepAnswers zc_X5_keepAnswers zk_X5_keepAnswers n 2 [(0, .inr (.inl (3, 0, 0))), (1, .inl (x1 + (1 : Int32)))] g (0, 0) else (if z_inb (((8 : Int32) * x1) + x2) 240 then (if z_inb (((8 : Int32) * x1) + x2) 240 then z_run zM_X5_keepAnswers zc_X5_keepAnswers zk_X5_keepAnswers n 24 [(0, .inr (.inl (3, 0, 0))), (1, .inl x1), (2, .inl (x2 + (1 : Int32)))] (z_gA g 3 0 41 (upd ((g 3 0).2 41) (((8 : Int32) * x1) + x2).toNatClampNeg ((g 3 0).2 27 (((8 : Int32) * x1) + x2).toNatClampNeg))) (0, 0) else none) else none)) := rfl
theorem ze_X5_keepAnswers   (g : zSG) : zF_X5_keepAnswers [.inr (.inl (3, 0, 0))] g = z_run zM_X5_keepAnswers zc_X5_keepAnswers zk_X5_keepAnswers 100000 0 [(0, .inr (.inl (3, 0, 0)))] g (0, 0) := z_fn_ok (sh := zs_X5_keepAnswers) (vs := [.inr (.inl (3, 0, 0))]) (rfl) rfl
set_option maxRecDepth 400000 in
set_option maxHeartbeats 4000000 in
theorem zu_X5_learn_0 (n : Nat)   (g : zSG) : z_run zM_X5_learn zc_X5_learn zk_X5_learn (n + 1) 0 [(0, .inr (.inl (3, 0, 0)))] g (0, 0) = (z_bV (zF_X5_runAll [.inr (.inl (3, 0, 0)), .inl (0 : Int32), .inl (0 : Int32)] (z_gI g 3 0 0 (0 : Int32))) (fun g1 => (z_bV (zF_X5_keepAnswers [.inr (.inl (3, 0, 0))] g1) (fun g2 => (z_bV (zF_X5_runAll [.inr (.inl (3, 0, 0)), .inl (0 : Int32), .inl (1000000 : Int32)] g2) (fun g3 => z_run zM_X5_learn zc_X5_learn zk_X5_learn n 26 [(0, .inr (.inl (3, 0, 0))), (1, .inl (0 : Int32)), (2, .inl (0 : Int32))] g3 (0, 0))))))) := rfl
set_option maxRecDepth 400000 in
set_option maxHeartbeats 4000000 in
theorem zu_X5_learn_26 (n : Nat) (x1 : Int32) (x2 : Int32)  (g : zSG) : z_run zM_X5_learn zc_X5_learn zk_X5_learn (n + 1) 26 [(0, .inr (.inl (3, 0, 0))), (1, .inl x1), (2, .inl x2)] g (0, 0) = (if ((g 3 0).1 16) ≤ x2 then some (.inl (some (.inl x1)), g) else z_run zM_X5_learn zc_X5_learn zk_X5_learn n 36 [(0, .inr (.inl (3, 0, 0))), (1, .inl x1), (2, .inl x2), (3, .inl (0 : Int32))] g (0, 0)) := rfl
set_option maxRecDepth 400000 in
set_option maxHeartbeats 4000000 in
theorem zu_X5_learn_36 (n : Nat) (x1 : Int32) (x2 : Int32) (x3 : Int32)  (g : zSG) : z_run zM_X5_learn zc_X5_learn zk_X5_learn (n + 1) 36 [(0, .inr (.inl (3, 0, 0))), (1, .inl x1), (2, .inl x2), (3, .inl x3)] g (0, 0) = (if z_inb x2 30 then (if ((g 3 0).2 26 (x2).toNatClampNeg) ≤ x3 then z_run zM_X5_learn zc_X5_learn zk_X5_learn n 26 [(0, .inr (.inl (3, 0, 0))), (1, .inl x1), (2, .inl (x2 + (1 : Int32)))] g (0, 0) else (if z_inb x2 30 then (if ((g 3 0).2 40 (x2).toNatClampNeg) ≤ x3 then z_run zM_X5_learn zc_X5_learn zk_X5_learn n 26 [(0, .inr (.inl (3, 0, 0))), (1, .inl x1), (2, .inl (x2 + (1 : Int32)))] g (0, 0) else (if z_inb (((8 : Int32) * x2) + x3) 240 then (if z_inb (((8 : Int32) * x2) + x3) 240 then (if ((g 3 0).2 27 (((8 : Int32) * x2) + x3).toNatClampNeg) = ((g 3 0).2 41 (((8 : Int32) * x2) + x3).toNatClampNeg) then z_run zM_X5_learn zc_X5_learn zk_X5_learn n 36 [(0, .inr (.inl (3, 0, 0))), (1, .inl x1), (2, .inl x2), (3, .inl (x3 + (1 : Int32)))] g (0, 0) else (if z_inb x2 30 then (if z_inb (((8 : Int32) * ((g 3 0).2 19 (x2).toNatClampNeg)) + x3) 32 then (if ((g 3 0).2 39 (((8 : Int32) * ((g 3 0).2 19 (x2).toNatClampNeg)) + x3).toNatClampNeg) = 0 then (if z_inb x2 30 then (if z_inb (((8 : Int32) * ((g 3 0).2 19 (x2).toNatClampNeg)) + x3) 32 then z_run zM_X5_learn zc_X5_learn zk_X5_learn n 36 [(0, .inr (.inl (3, 0, 0))), (1, .inl (x1 + (1 : Int32))), (2, .inl x2), (3, .inl (x3 + (1 : Int32)))] (z_gA g 3 0 39 (upd ((g 3 0).2 39) (((8 : Int32) * ((g 3 0).2 19 (x2).toNatClampNeg)) + x3).toNatClampNeg ((1 : Int32) &&& 1))) (0, 0) else none) else none) else z_run zM_X5_learn zc_X5_learn zk_X5_learn n 36 [(0, .inr (.inl (3, 0, 0))), (1, .inl x1), (2, .inl x2), (3, .inl (x3 + (1 : Int32)))] g (0, 0)) else none) else none)) else none) else none)) else none)) else none) := rfl
theorem ze_X5_learn   (g : zSG) : zF_X5_learn [.inr (.inl (3, 0, 0))] g = z_run zM_X5_learn zc_X5_learn zk_X5_learn 100000 0 [(0, .inr (.inl (3, 0, 0)))] g (0, 0) := z_fn_ok (sh := zs_X5_learn) (vs := [.inr (.inl (3, 0, 0))]) (rfl) rfl
set_option maxRecDepth 400000 in
set_option maxHeartbeats 4000000 in
theorem zu_X5_unlike_0 (n : Nat) (x1 : Int32)  (g : zSG) : z_run zM_X5_unlike zc_X5_unlike zk_X5_unlike (n + 1) 0 [(0, .inr (.inl (3, 0, 0))), (1, .inl x1)] g (0, 0) = z_run zM_X5_unlike zc_X5_unlike zk_X5_unlike n 2 [(0, .inr (.inl (3, 0, 0))), (1, .inl x1), (2, .inl (0 : Int32))] g (0, 0) := rfl
set_option maxRecDepth 400000 in
set_option maxHeartbeats 4000000 in
theorem zu_X5_unlike_2 (n : Nat) (x1 : Int32) (x2 : Int32)  (g : zSG) : z_run zM_X5_unlike zc_X5_unlike zk_X5_unlike (n + 1) 2 [(0, .inr (.inl (3, 0, 0))), (1, .inl x1), (2, .inl x2)] g (0, 0) = (if z_inb x1 30 then (if ((g 3 0).2 26 (x1).toNatClampNeg) ≤ x2 then (if z_inb x1 30 then (if z_inb x1 30 then (if ((g 3 0).2 26 (x1).toNatClampNeg) = ((g 3 0).2 40 (x1).toNatClampNeg) then some (.inl (some (.inl (-1 : Int32))), g) else some (.inl (some (.inl x2)), g)) else none) else none) else (if z_inb x1 30 then (if ((g 3 0).2 40 (x1).toNatClampNeg) ≤ x2 then (if z_inb x1 30 then (if z_inb x1 30 then (if ((g 3 0).2 26 (x1).toNatClampNeg) = ((g 3 0).2 40 (x1).toNatClampNeg) then some (.inl (some (.inl (-1 : Int32))), g) else some (.inl (some (.inl x2)), g)) else none) else none) else (if z_inb x1 30 then (if z_inb (((8 : Int32) * ((g 3 0).2 19 (x1).toNatClampNeg)) + x2) 32 then (if ((g 3 0).2 39 (((8 : Int32) * ((g 3 0).2 19 (x1).toNatClampNeg)) + x2).toNatClampNeg) = 0 then (if z_inb (((8 : Int32) * x1) + x2) 240 then (if z_inb (((8 : Int32) * x1) + x2) 240 then (if ((g 3 0).2 27 (((8 : Int32) * x1) + x2).toNatClampNeg) = ((g 3 0).2 41 (((8 : Int32) * x1) + x2).toNatClampNeg) then z_run zM_X5_unlike zc_X5_unlike zk_X5_unlike n 2 [(0, .inr (.inl (3, 0, 0))), (1, .inl x1), (2, .inl (x2 + (1 : Int32)))] g (0, 0) else some (.inl (some (.inl x2)), g)) else none) else none) else z_run zM_X5_unlike zc_X5_unlike zk_X5_unlike n 2 [(0, .inr (.inl (3, 0, 0))), (1, .inl x1), (2, .inl (x2 + (1 : Int32)))] g (0, 0)) else none) else none)) else none)) else none) := rfl
theorem ze_X5_unlike (x1 : Int32)  (g : zSG) : zF_X5_unlike [.inr (.inl (3, 0, 0)), .inl x1] g = z_run zM_X5_unlike zc_X5_unlike zk_X5_unlike 100000 0 [(0, .inr (.inl (3, 0, 0))), (1, .inl x1)] g (0, 0) := z_fn_ok (sh := zs_X5_unlike) (vs := [.inr (.inl (3, 0, 0)), .inl x1]) (rfl) rfl
set_option maxRecDepth 400000 in
set_option maxHeartbeats 4000000 in
theorem zu_X5_runBoth_0 (n : Nat) (x1 : Int32)  (g : zSG) : z_run zM_X5_runBoth zc_X5_runBoth zk_X5_runBoth (n + 1) 0 [(0, .inr (.inl (3, 0, 0))), (1, .inl x1)] g (0, 0) = (z_bV (zF_X5_run [.inr (.inl (3, 0, 0)), .inl (0 : Int32), .inl x1, .inl (0 : Int32)] g) (fun g1 => (z_bV (zF_X5_keepAnswers [.inr (.inl (3, 0, 0))] g1) (fun g2 => (z_bV (zF_X5_run [.inr (.inl (3, 0, 0)), .inl (1 : Int32), .inl x1, .inl (0 : Int32)] g2) (fun g3 => some (.inl none, g3))))))) := rfl
theorem ze_X5_runBoth (x1 : Int32)  (g : zSG) : zF_X5_runBoth [.inr (.inl (3, 0, 0)), .inl x1] g = z_run zM_X5_runBoth zc_X5_runBoth zk_X5_runBoth 100000 0 [(0, .inr (.inl (3, 0, 0))), (1, .inl x1)] g (0, 0) := z_fn_ok (sh := zs_X5_runBoth) (vs := [.inr (.inl (3, 0, 0)), .inl x1]) (rfl) rfl
set_option maxRecDepth 400000 in
set_option maxHeartbeats 4000000 in
theorem zu_X5_runBothAll_0 (n : Nat)   (g : zSG) : z_run zM_X5_runBothAll zc_X5_runBothAll zk_X5_runBothAll (n + 1) 0 [(0, .inr (.inl (3, 0, 0)))] g (0, 0) = (z_bV (zF_X5_findLine [.inr (.inl (3, 0, 0))] g) (fun g1 => (z_bV (zF_X5_runBoth [.inr (.inl (3, 0, 0)), .inl (((1 : Int32) <<< (((g1 3 0).1 16) &&& 31)) - (1 : Int32))] g1) (fun g2 => some (.inl none, g2))))) := rfl
theorem ze_X5_runBothAll   (g : zSG) : zF_X5_runBothAll [.inr (.inl (3, 0, 0))] g = z_run zM_X5_runBothAll zc_X5_runBothAll zk_X5_runBothAll 100000 0 [(0, .inr (.inl (3, 0, 0)))] g (0, 0) := z_fn_ok (sh := zs_X5_runBothAll) (vs := [.inr (.inl (3, 0, 0))]) (rfl) rfl
set_option maxRecDepth 400000 in
set_option maxHeartbeats 4000000 in
theorem zu_X5_differs_0 (n : Nat) (x1 : Int32)  (g : zSG) : z_run zM_X5_differs zc_X5_differs zk_X5_differs (n + 1) 0 [(0, .inr (.inl (3, 0, 0))), (1, .inl x1)] g (0, 0) = (z_bI (zF_X5_isAsk [.inr (.inl (3, 0, 0)), .inl x1] (z_gI g 3 0 0 (0 : Int32))) (fun r2 g1 => (if r2 = 0 then some (.inl (some (.inl (0 : Int32))), g1) else (z_bV (zF_X5_runBothAll [.inr (.inl (3, 0, 0))] g1) (fun g3 => (z_bI (zF_X5_unlike [.inr (.inl (3, 0, 0)), .inl x1] g3) (fun r5 g4 => some (.inl (some (.inl r5)), g4)))))))) := rfl
theorem ze_X5_differs (x1 : Int32)  (g : zSG) : zF_X5_differs [.inr (.inl (3, 0, 0)), .inl x1] g = z_run zM_X5_differs zc_X5_differs zk_X5_differs 100000 0 [(0, .inr (.inl (3, 0, 0))), (1, .inl x1)] g (0, 0) := z_fn_ok (sh := zs_X5_differs) (vs := [.inr (.inl (3, 0, 0)), .inl x1]) (rfl) rfl
set_option maxRecDepth 400000 in
set_option maxHeartbeats 4000000 in
theorem zu_X5_findWheres_0 (n : Nat)   (g : zSG) : z_run zM_X5_findWheres zc_X5_findWheres zk_X5_findWheres (n + 1) 0 [(0, .inr (.inl (3, 0, 0)))] g (0, 0) = (z_bV (zF_X5_runBothAll [.inr (.inl (3, 0, 0))] g) (fun g1 => z_run zM_X5_findWheres zc_X5_findWheres zk_X5_findWheres n 6 [(0, .inr (.inl (3, 0, 0))), (1, .inl (0 : Int32))] g1 (0, 0))) := rfl
set_option maxRecDepth 400000 in
set_option maxHeartbeats 4000000 in
theorem zu_X5_findWheres_6 (n : Nat) (x1 : Int32)  (g : zSG) : z_run zM_X5_findWheres zc_X5_findWheres zk_X5_findWheres (n + 1) 6 [(0, .inr (.inl (3, 0, 0))), (1, .inl x1)] g (0, 0) = (if ((g 3 0).1 16) ≤ x1 then some (.inl none, g) else (z_bI (zF_X5_unlike [.inr (.inl (3, 0, 0)), .inl x1] g) (fun r2 g1 => (if z_inb x1 30 then z_run zM_X5_findWheres zc_X5_findWheres zk_X5_findWheres n 6 [(0, .inr (.inl (3, 0, 0))), (1, .inl (x1 + (1 : Int32)))] (z_gA g1 3 0 42 (upd ((g1 3 0).2 42) (x1).toNatClampNeg r2)) (0, 0) else none)))) := rfl
theorem ze_X5_findWheres   (g : zSG) : zF_X5_findWheres [.inr (.inl (3, 0, 0))] g = z_run zM_X5_findWheres zc_X5_findWheres zk_X5_findWheres 100000 0 [(0, .inr (.inl (3, 0, 0)))] g (0, 0) := z_fn_ok (sh := zs_X5_findWheres) (vs := [.inr (.inl (3, 0, 0))]) (rfl) rfl
set_option maxRecDepth 400000 in
set_option maxHeartbeats 4000000 in
theorem zu_X5_isLike_0 (n : Nat) (x1 : Int32) (x2 : Int32)  (g : zSG) : z_run zM_X5_isLike zc_X5_isLike zk_X5_isLike (n + 1) 0 [(0, .inr (.inl (3, 0, 0))), (1, .inl x1), (2, .inl x2)] g (0, 0) = (if z_inb x1 30 then (if ((g 3 0).2 42 (x1).toNatClampNeg) = (-1 : Int32) then (if (0 : Int32) = 0 ∨ (0 : Int32) = 1 then some (.inl (some (.inl (0 : Int32))), g) else none) else (if z_inb x1 30 then (if z_inb x2 30 then (if ((g 3 0).2 19 (x1).toNatClampNeg) = ((g 3 0).2 19 (x2).toNatClampNeg) then (if z_inb x1 30 then (if z_inb x2 30 then (if ((g 3 0).2 42 (x1).toNatClampNeg) = ((g 3 0).2 42 (x2).toNatClampNeg) then (if (1 : Int32) = 0 ∨ (1 : Int32) = 1 then some (.inl (some (.inl (1 : Int32))), g) else none) else (if (0 : Int32) = 0 ∨ (0 : Int32) = 1 then some (.inl (some (.inl (0 : Int32))), g) else none)) else none) else none) else (if (0 : Int32) = 0 ∨ (0 : Int32) = 1 then some (.inl (some (.inl (0 : Int32))), g) else none)) else none) else none)) else none) := rfl
theorem ze_X5_isLike (x1 : Int32) (x2 : Int32)  (g : zSG) : zF_X5_isLike [.inr (.inl (3, 0, 0)), .inl x1, .inl x2] g = z_run zM_X5_isLike zc_X5_isLike zk_X5_isLike 100000 0 [(0, .inr (.inl (3, 0, 0))), (1, .inl x1), (2, .inl x2)] g (0, 0) := z_fn_ok (sh := zs_X5_isLike) (vs := [.inr (.inl (3, 0, 0)), .inl x1, .inl x2]) (rfl) rfl
set_option maxRecDepth 400000 in
set_option maxHeartbeats 4000000 in
theorem zu_X5_isLowest_0 (n : Nat) (x1 : Int32)  (g : zSG) : z_run zM_X5_isLowest zc_X5_isLowest zk_X5_isLowest (n + 1) 0 [(0, .inr (.inl (3, 0, 0))), (1, .inl x1)] g (0, 0) = (if z_inb x1 30 then (if ((g 3 0).2 42 (x1).toNatClampNeg) = (-1 : Int32) then (if (0 : Int32) = 0 ∨ (0 : Int32) = 1 then some (.inl (some (.inl (0 : Int32))), g) else none) else z_run zM_X5_isLowest zc_X5_isLowest zk_X5_isLowest n 14 [(0, .inr (.inl (3, 0, 0))), (1, .inl x1), (2, .inl (0 : Int32))] g (0, 0)) else none) := rfl
set_option maxRecDepth 400000 in
set_option maxHeartbeats 4000000 in
theorem zu_X5_isLowest_14 (n : Nat) (x1 : Int32) (x2 : Int32)  (g : zSG) : z_run zM_X5_isLowest zc_X5_isLowest zk_X5_isLowest (n + 1) 14 [(0, .inr (.inl (3, 0, 0))), (1, .inl x1), (2, .inl x2)] g (0, 0) = (if x1 ≤ x2 then (if (1 : Int32) = 0 ∨ (1 : Int32) = 1 then some (.inl (some (.inl (1 : Int32))), g) else none) else (z_bI (zF_X5_isLike [.inr (.inl (3, 0, 0)), .inl x2, .inl x1] g) (fun r2 g1 => (if r2 = 0 then z_run zM_X5_isLowest zc_X5_isLowest zk_X5_isLowest n 14 [(0, .inr (.inl (3, 0, 0))), (1, .inl x1), (2, .inl (x2 + (1 : Int32)))] g1 (0, 0) else (if (0 : Int32) = 0 ∨ (0 : Int32) = 1 then some (.inl (some (.inl (0 : Int32))), g1) else none))))) := rfl
theorem ze_X5_isLowest (x1 : Int32)  (g : zSG) : zF_X5_isLowest [.inr (.inl (3, 0, 0)), .inl x1] g = z_run zM_X5_isLowest zc_X5_isLowest zk_X5_isLowest 100000 0 [(0, .inr (.inl (3, 0, 0))), (1, .inl x1)] g (0, 0) := z_fn_ok (sh := zs_X5_isLowest) (vs := [.inr (.inl (3, 0, 0)), .inl x1]) (rfl) rfl
set_option maxRecDepth 400000 in
set_option maxHeartbeats 4000000 in
theorem zu_X5_shapes_0 (n : Nat)   (g : zSG) : z_run zM_X5_shapes zc_X5_shapes zk_X5_shapes (n + 1) 0 [(0, .inr (.inl (3, 0, 0)))] g (0, 0) = (z_bV (zF_X5_findWheres [.inr (.inl (3, 0, 0))] (z_gI g 3 0 0 (0 : Int32))) (fun g1 => z_run zM_X5_shapes zc_X5_shapes zk_X5_shapes n 13 [(0, .inr (.inl (3, 0, 0))), (1, .inl (0 : Int32)), (2, .inl (0 : Int32))] g1 (0, 0))) := rfl
set_option maxRecDepth 400000 in
set_option maxHeartbeats 4000000 in
theorem zu_X5_shapes_13 (n : Nat) (x1 : Int32) (x2 : Int32)  (g : zSG) : z_run zM_X5_shapes zc_X5_shapes zk_X5_shapes (n + 1) 13 [(0, .inr (.inl (3, 0, 0))), (1, .inl x1), (2, .inl x2)] g (0, 0) = (if ((g 3 0).1 16) ≤ x2 then some (.inl (some (.inl x1)), g) else (z_bI (zF_X5_isLowest [.inr (.inl (3, 0, 0)), .inl x2] g) (fun r2 g1 => (if r2 = 0 then z_run zM_X5_shapes zc_X5_shapes zk_X5_shapes n 13 [(0, .inr (.inl (3, 0, 0))), (1, .inl (x1 + (0 : Int32))), (2, .inl (x2 + (1 : Int32)))] g1 (0, 0) else z_run zM_X5_shapes zc_X5_shapes zk_X5_shapes n 13 [(0, .inr (.inl (3, 0, 0))), (1, .inl (x1 + (1 : Int32))), (2, .inl (x2 + (1 : Int32)))] g1 (0, 0))))) := rfl
theorem ze_X5_shapes   (g : zSG) : zF_X5_shapes [.inr (.inl (3, 0, 0))] g = z_run zM_X5_shapes zc_X5_shapes zk_X5_shapes 100000 0 [(0, .inr (.inl (3, 0, 0)))] g (0, 0) := z_fn_ok (sh := zs_X5_shapes) (vs := [.inr (.inl (3, 0, 0))]) (rfl) rfl
set_option maxRecDepth 400000 in
set_option maxHeartbeats 4000000 in
theorem zu_X5_shape_0 (n : Nat) (x1 : Int32) (x2 : Int32)  (g : zSG) : z_run zM_X5_shape zc_X5_shape zk_X5_shape (n + 1) 0 [(0, .inr (.inl (3, 0, 0))), (1, .inl x1), (2, .inl x2)] g (0, 0) = (z_bI (zF_X5_within [.inl x2, .inl (0 : Int32), .inl (3 : Int32)] (z_gI g 3 0 0 (0 : Int32))) (fun r2 g1 => (z_bI (zF_X5_may [.inr (.inl (3, 0, 0)), .inl r2, .inl (1 : Int32)] g1) (fun r4 g3 => (if r4 = 0 then some (.inl (some (.inl (0 : Int32))), g3) else (z_bV (zF_X5_findWheres [.inr (.inl (3, 0, 0))] g3) (fun g5 => z_run zM_X5_shape zc_X5_shape zk_X5_shape n 30 [(0, .inr (.inl (3, 0, 0))), (1, .inl x1), (2, .inl x2), (3, .inl (0 : Int32)), (4, .inl (0 : Int32))] g5 (0, 0)))))))) := rfl
set_option maxRecDepth 400000 in
set_option maxHeartbeats 4000000 in
theorem zu_X5_shape_30 (n : Nat) (x1 : Int32) (x2 : Int32) (x3 : Int32) (x4 : Int32)  (g : zSG) : z_run zM_X5_shape zc_X5_shape zk_X5_shape (n + 1) 30 [(0, .inr (.inl (3, 0, 0))), (1, .inl x1), (2, .inl x2), (3, .inl x3), (4, .inl x4)] g (0, 0) = (if ((g 3 0).1 16) ≤ x4 then some (.inl (some (.inl (-1 : Int32))), g) else (z_bI (zF_X5_isLowest [.inr (.inl (3, 0, 0)), .inl x4] g) (fun r2 g1 => (if r2 = 0 then z_run zM_X5_shape zc_X5_shape zk_X5_shape n 30 [(0, .inr (.inl (3, 0, 0))), (1, .inl x1), (2, .inl x2), (3, .inl x3), (4, .inl (x4 + (1 : Int32)))] g1 (0, 0) else (if x3 = x1 then z_run zM_X5_shape zc_X5_shape zk_X5_shape n 62 [(0, .inr (.inl (3, 0, 0))), (2, .inl x2), (4, .inl x4), (5, .inl (0 : Int32)), (6, .inl (0 : Int32))] g1 (0, 0) else z_run zM_X5_shape zc_X5_shape zk_X5_shape n 30 [(0, .inr (.inl (3, 0, 0))), (1, .inl x1), (2, .inl x2), (3, .inl (x3 + (1 : Int32))), (4, .inl (x4 + (1 : Int32)))] g1 (0, 0)))))) := rfl
set_option maxRecDepth 400000 in
set_option maxHeartbeats 4000000 in
theorem zu_X5_shape_62 (n : Nat) (x2 : Int32) (x4 : Int32) (x5 : Int32) (x6 : Int32)  (g : zSG) : z_run zM_X5_shape zc_X5_shape zk_X5_shape (n + 1) 62 [(0, .inr (.inl (3, 0, 0))), (2, .inl x2), (4, .inl x4), (5, .inl x5), (6, .inl x6)] g (0, 0) = (if ((g 3 0).1 16) ≤ x6 then (if x2 = 0 then (if z_inb x4 30 then some (.inl (some (.inl ((g 3 0).2 19 (x4).toNatClampNeg))), g) else none) else (if x2 = (1 : Int32) then (if z_inb x4 30 then some (.inl (some (.inl ((g 3 0).2 42 (x4).toNatClampNeg))), g) else none) else (if x2 = (2 : Int32) then some (.inl (some (.inl x5)), g) else some (.inl (some (.inl x4)), g)))) else (z_bI (zF_X5_isLike [.inr (.inl (3, 0, 0)), .inl x4, .inl x6] g) (fun r2 g1 => (if r2 = 0 then z_run zM_X5_shape zc_X5_shape zk_X5_shape n 62 [(0, .inr (.inl (3, 0, 0))), (2, .inl x2), (4, .inl x4), (5, .inl (x5 + (0 : Int32))), (6, .inl (x6 + (1 : Int32)))] g1 (0, 0) else z_run zM_X5_shape zc_X5_shape zk_X5_shape n 62 [(0, .inr (.inl (3, 0, 0))), (2, .inl x2), (4, .inl x4), (5, .inl (x5 + (1 : Int32))), (6, .inl (x6 + (1 : Int32)))] g1 (0, 0))))) := rfl
theorem ze_X5_shape (x1 : Int32) (x2 : Int32)  (g : zSG) : zF_X5_shape [.inr (.inl (3, 0, 0)), .inl x1, .inl x2] g = z_run zM_X5_shape zc_X5_shape zk_X5_shape 100000 0 [(0, .inr (.inl (3, 0, 0))), (1, .inl x1), (2, .inl x2)] g (0, 0) := z_fn_ok (sh := zs_X5_shape) (vs := [.inr (.inl (3, 0, 0)), .inl x1, .inl x2]) (rfl) rfl
set_option maxRecDepth 400000 in
set_option maxHeartbeats 4000000 in
theorem zu_X5_areTouching_0 (n : Nat) (x1 : Int32) (x2 : Int32)  (g : zSG) : z_run zM_X5_areTouching zc_X5_areTouching zk_X5_areTouching (n + 1) 0 [(0, .inr (.inl (3, 0, 0))), (1, .inl x1), (2, .inl x2)] g (0, 0) = (if x1 = x2 then (if (0 : Int32) = 0 ∨ (0 : Int32) = 1 then some (.inl (some (.inl (0 : Int32))), g) else none) else (if z_inb x1 30 then (if z_inb x2 30 then (if z_inb x2 30 then (if (((g 3 0).2 29 (x1).toNatClampNeg) &&& (((g 3 0).2 28 (x2).toNatClampNeg) ||| ((g 3 0).2 29 (x2).toNatClampNeg))) = 0 then (if z_inb x2 30 then (if z_inb x1 30 then (if z_inb x1 30 then (if (((g 3 0).2 29 (x2).toNatClampNeg) &&& (((g 3 0).2 28 (x1).toNatClampNeg) ||| ((g 3 0).2 29 (x1).toNatClampNeg))) = 0 then (if (0 : Int32) = 0 then (if z_inb x1 30 then (if ((g 3 0).2 23 (x1).toNatClampNeg) = x2 then (if (1 : Int32) = 0 ∨ (1 : Int32) = 1 then some (.inl (some (.inl (1 : Int32))), g) else none) else (if z_inb x2 30 then (if ((g 3 0).2 23 (x2).toNatClampNeg) = x1 then (if (1 : Int32) = 0 ∨ (1 : Int32) = 1 then some (.inl (some (.inl (1 : Int32))), g) else none) else (if (0 : Int32) = 0 ∨ (0 : Int32) = 1 then some (.inl (some (.inl (0 : Int32))), g) else none)) else none)) else none) else (if (1 : Int32) = 0 ∨ (1 : Int32) = 1 then some (.inl (some (.inl (1 : Int32))), g) else none)) else (if (1 : Int32) = 0 then (if z_inb x1 30 then (if ((g 3 0).2 23 (x1).toNatClampNeg) = x2 then (if (1 : Int32) = 0 ∨ (1 : Int32) = 1 then some (.inl (some (.inl (1 : Int32))), g) else none) else (if z_inb x2 30 then (if ((g 3 0).2 23 (x2).toNatClampNeg) = x1 then (if (1 : Int32) = 0 ∨ (1 : Int32) = 1 then some (.inl (some (.inl (1 : Int32))), g) else none) else (if (0 : Int32) = 0 ∨ (0 : Int32) = 1 then some (.inl (some (.inl (0 : Int32))), g) else none)) else none)) else none) else (if (1 : Int32) = 0 ∨ (1 : Int32) = 1 then some (.inl (some (.inl (1 : Int32))), g) else none))) else none) else none) else none) else (if (1 : Int32) = 0 then (if z_inb x1 30 then (if ((g 3 0).2 23 (x1).toNatClampNeg) = x2 then (if (1 : Int32) = 0 ∨ (1 : Int32) = 1 then some (.inl (some (.inl (1 : Int32))), g) else none) else (if z_inb x2 30 then (if ((g 3 0).2 23 (x2).toNatClampNeg) = x1 then (if (1 : Int32) = 0 ∨ (1 : Int32) = 1 then some (.inl (some (.inl (1 : Int32))), g) else none) else (if (0 : Int32) = 0 ∨ (0 : Int32) = 1 then some (.inl (some (.inl (0 : Int32))), g) else none)) else none)) else none) else (if (1 : Int32) = 0 ∨ (1 : Int32) = 1 then some (.inl (some (.inl (1 : Int32))), g) else none))) else none) else none) else none)) := rfl
theorem ze_X5_areTouching (x1 : Int32) (x2 : Int32)  (g : zSG) : zF_X5_areTouching [.inr (.inl (3, 0, 0)), .inl x1, .inl x2] g = z_run zM_X5_areTouching zc_X5_areTouching zk_X5_areTouching 100000 0 [(0, .inr (.inl (3, 0, 0))), (1, .inl x1), (2, .inl x2)] g (0, 0) := z_fn_ok (sh := zs_X5_areTouching) (vs := [.inr (.inl (3, 0, 0)), .inl x1, .inl x2]) (rfl) rfl
set_option maxRecDepth 400000 in
set_option maxHeartbeats 4000000 in
theorem zu_X5_touch_0 (n : Nat) (x1 : Int32) (x2 : Int32)  (g : zSG) : z_run zM_X5_touch zc_X5_touch zk_X5_touch (n + 1) 0 [(0, .inr (.inl (3, 0, 0))), (1, .inl x1), (2, .inl x2)] g (0, 0) = (z_bI (zF_X5_isAsk [.inr (.inl (3, 0, 0)), .inl x1] (z_gI g 3 0 0 (0 : Int32))) (fun r2 g1 => (if r2 = 0 then (if (0 : Int32) = 0 ∨ (0 : Int32) = 1 then some (.inl (some (.inl (0 : Int32))), g1) else none) else (z_bI (zF_X5_isAsk [.inr (.inl (3, 0, 0)), .inl x2] g1) (fun r4 g3 => (if r4 = 0 then (if (0 : Int32) = 0 ∨ (0 : Int32) = 1 then some (.inl (some (.inl (0 : Int32))), g3) else none) else (z_bV (zF_X5_runAll [.inr (.inl (3, 0, 0)), .inl (0 : Int32), .inl (0 : Int32)] g3) (fun g5 => (z_bI (zF_X5_areTouching [.inr (.inl (3, 0, 0)), .inl x1, .inl x2] g5) (fun r7 g6 => (if r7 = 0 ∨ r7 = 1 then some (.inl (some (.inl r7)), g6) else none))))))))))) := rfl
theorem ze_X5_touch (x1 : Int32) (x2 : Int32)  (g : zSG) : zF_X5_touch [.inr (.inl (3, 0, 0)), .inl x1, .inl x2] g = z_run zM_X5_touch zc_X5_touch zk_X5_touch 100000 0 [(0, .inr (.inl (3, 0, 0))), (1, .inl x1), (2, .inl x2)] g (0, 0) := z_fn_ok (sh := zs_X5_touch) (vs := [.inr (.inl (3, 0, 0)), .inl x1, .inl x2]) (rfl) rfl
set_option maxRecDepth 400000 in
set_option maxHeartbeats 4000000 in
theorem zu_X5_free_0 (n : Nat) (x1 : Int32)  (g : zSG) : z_run zM_X5_free zc_X5_free zk_X5_free (n + 1) 0 [(0, .inr (.inl (3, 0, 0))), (1, .inl x1)] g (0, 0) = (z_bI (zF_X5_isAsk [.inr (.inl (3, 0, 0)), .inl x1] (z_gI g 3 0 0 (0 : Int32))) (fun r2 g1 => (if r2 = 0 then some (.inl (some (.inl (0 : Int32))), g1) else (z_bV (zF_X5_runAll [.inr (.inl (3, 0, 0)), .inl (0 : Int32), .inl (0 : Int32)] g1) (fun g3 => z_run zM_X5_free zc_X5_free zk_X5_free n 25 [(0, .inr (.inl (3, 0, 0))), (1, .inl x1), (2, .inl (0 : Int32)), (3, .inl (0 : Int32))] g3 (0, 0)))))) := rfl
set_option maxRecDepth 400000 in
set_option maxHeartbeats 4000000 in
theorem zu_X5_free_25 (n : Nat) (x1 : Int32) (x2 : Int32) (x3 : Int32)  (g : zSG) : z_run zM_X5_free zc_X5_free zk_X5_free (n + 1) 25 [(0, .inr (.inl (3, 0, 0))), (1, .inl x1), (2, .inl x2), (3, .inl x3)] g (0, 0) = (if ((g 3 0).1 16) ≤ x3 then some (.inl (some (.inl x2)), g) else (if x3 = x1 then z_run zM_X5_free zc_X5_free zk_X5_free n 25 [(0, .inr (.inl (3, 0, 0))), (1, .inl x1), (2, .inl (x2 + (0 : Int32))), (3, .inl (x3 + (1 : Int32)))] g (0, 0) else (z_bI (zF_X5_areTouching [.inr (.inl (3, 0, 0)), .inl x1, .inl x3] g) (fun r2 g1 => (if r2 = 0 then z_run zM_X5_free zc_X5_free zk_X5_free n 25 [(0, .inr (.inl (3, 0, 0))), (1, .inl x1), (2, .inl (x2 + (1 : Int32))), (3, .inl (x3 + (1 : Int32)))] g1 (0, 0) else z_run zM_X5_free zc_X5_free zk_X5_free n 25 [(0, .inr (.inl (3, 0, 0))), (1, .inl x1), (2, .inl (x2 + (0 : Int32))), (3, .inl (x3 + (1 : Int32)))] g1 (0, 0)))))) := rfl
theorem ze_X5_free (x1 : Int32)  (g : zSG) : zF_X5_free [.inr (.inl (3, 0, 0)), .inl x1] g = z_run zM_X5_free zc_X5_free zk_X5_free 100000 0 [(0, .inr (.inl (3, 0, 0))), (1, .inl x1)] g (0, 0) := z_fn_ok (sh := zs_X5_free) (vs := [.inr (.inl (3, 0, 0)), .inl x1]) (rfl) rfl
set_option maxRecDepth 400000 in
set_option maxHeartbeats 4000000 in
theorem zu_X5_findSmall_0 (n : Nat) (x1 : Int32)  (g : zSG) : z_run zM_X5_findSmall zc_X5_findSmall zk_X5_findSmall (n + 1) 0 [(0, .inr (.inl (3, 0, 0))), (1, .inl x1)] g (0, 0) = (z_bV (zF_X5_runBothAll [.inr (.inl (3, 0, 0))] g) (fun g1 => (z_bI (zF_X5_unlike [.inr (.inl (3, 0, 0)), .inl x1] g1) (fun r3 g2 => (if r3 = (-1 : Int32) then (if (0 : Int32) = 0 ∨ (0 : Int32) = 1 then some (.inl (some (.inl (0 : Int32))), g2) else none) else z_run zM_X5_findSmall zc_X5_findSmall zk_X5_findSmall n 17 [(0, .inr (.inl (3, 0, 0))), (1, .inl x1), (2, .inl (0 : Int32))] g2 (0, 0)))))) := rfl
set_option maxRecDepth 400000 in
set_option maxHeartbeats 4000000 in
theorem zu_X5_findSmall_17 (n : Nat) (x1 : Int32) (x2 : Int32)  (g : zSG) : z_run zM_X5_findSmall zc_X5_findSmall zk_X5_findSmall (n + 1) 17 [(0, .inr (.inl (3, 0, 0))), (1, .inl x1), (2, .inl x2)] g (0, 0) = (if z_inb x2 30 then (if ((g 3 0).2 25 (x2).toNatClampNeg) = x1 then (if x2 ≤ (10 : Int32) then z_run zM_X5_findSmall zc_X5_findSmall zk_X5_findSmall n 68 [(0, .inr (.inl (3, 0, 0))), (1, .inl x1), (3, .inl ((1 : Int32) <<< (x1 &&& 31))), (4, .inl (0 : Int32))] (z_gI (z_gI g 3 0 45 (0 : Int32)) 3 0 46 (x2 - (0 : Int32))) (0, 0) else z_run zM_X5_findSmall zc_X5_findSmall zk_X5_findSmall n 68 [(0, .inr (.inl (3, 0, 0))), (1, .inl x1), (3, .inl ((1 : Int32) <<< (x1 &&& 31))), (4, .inl (0 : Int32))] (z_gI (z_gI g 3 0 45 (x2 - (10 : Int32))) 3 0 46 (x2 - (x2 - (10 : Int32)))) (0, 0)) else z_run zM_X5_findSmall zc_X5_findSmall zk_X5_findSmall n 17 [(0, .inr (.inl (3, 0, 0))), (1, .inl x1), (2, .inl (x2 + (1 : Int32)))] g (0, 0)) else none) := rfl
set_option maxRecDepth 400000 in
set_option maxHeartbeats 4000000 in
theorem zu_X5_findSmall_68 (n : Nat) (x1 : Int32) (x3 : Int32) (x4 : Int32)  (g : zSG) : z_run zM_X5_findSmall zc_X5_findSmall zk_X5_findSmall (n + 1) 68 [(0, .inr (.inl (3, 0, 0))), (1, .inl x1), (3, .inl x3), (4, .inl x4)] g (0, 0) = (if ((g 3 0).1 45) ≤ x4 then z_run zM_X5_findSmall zc_X5_findSmall zk_X5_findSmall n 116 [(0, .inr (.inl (3, 0, 0))), (1, .inl x1), (3, .inl x3), (4, .inl (((1 : Int32) <<< (((g 3 0).1 46) &&& 31)) - (1 : Int32)))] (z_gI (z_gI g 3 0 43 (11 : Int32)) 3 0 44 (0 : Int32)) (0, 0) else (if z_inb x4 30 then z_run zM_X5_findSmall zc_X5_findSmall zk_X5_findSmall n 68 [(0, .inr (.inl (3, 0, 0))), (1, .inl x1), (3, .inl (x3 ||| ((1 : Int32) <<< (((g 3 0).2 25 (x4).toNatClampNeg) &&& 31)))), (4, .inl (x4 + (1 : Int32)))] g (0, 0) else none)) := rfl
set_option maxRecDepth 400000 in
set_option maxHeartbeats 4000000 in
theorem zu_X5_findSmall_116 (n : Nat) (x1 : Int32) (x3 : Int32) (x4 : Int32)  (g : zSG) : z_run zM_X5_findSmall zc_X5_findSmall zk_X5_findSmall (n + 1) 116 [(0, .inr (.inl (3, 0, 0))), (1, .inl x1), (3, .inl x3), (4, .inl x4)] g (0, 0) = (if x4 < 0 then (if (1 : Int32) = 0 ∨ (1 : Int32) = 1 then some (.inl (some (.inl (1 : Int32))), g) else none) else z_run zM_X5_findSmall zc_X5_findSmall zk_X5_findSmall n 130 [(0, .inr (.inl (3, 0, 0))), (1, .inl x1), (3, .inl x3), (4, .inl x4), (5, .inl x3), (6, .inl (0 : Int32)), (7, .inl (0 : Int32))] g (0, 0)) := rfl
set_option maxRecDepth 400000 in
set_option maxHeartbeats 4000000 in
theorem zu_X5_findSmall_130 (n : Nat) (x1 : Int32) (x3 : Int32) (x4 : Int32) (x5 : Int32) (x6 : Int32) (x7 : Int32)  (g : zSG) : z_run zM_X5_findSmall zc_X5_findSmall zk_X5_findSmall (n + 1) 130 [(0, .inr (.inl (3, 0, 0))), (1, .inl x1), (3, .inl x3), (4, .inl x4), (5, .inl x5), (6, .inl x6), (7, .inl x7)] g (0, 0) = (if ((g 3 0).1 46) ≤ x7 then (if x6 < ((g 3 0).1 43) then (z_bV (zF_X5_runBoth [.inr (.inl (3, 0, 0)), .inl x5] g) (fun g1 => (z_bI (zF_X5_unlike [.inr (.inl (3, 0, 0)), .inl x1] g1) (fun r3 g2 => (if r3 = (-1 : Int32) then z_run zM_X5_findSmall zc_X5_findSmall zk_X5_findSmall n 116 [(0, .inr (.inl (3, 0, 0))), (1, .inl x1), (3, .inl x3), (4, .inl (x4 + (-1 : Int32)))] g2 (0, 0) else z_run zM_X5_findSmall zc_X5_findSmall zk_X5_findSmall n 116 [(0, .inr (.inl (3, 0, 0))), (1, .inl x1), (3, .inl x3), (4, .inl (x4 + (-1 : Int32)))] (z_gI (z_gI g2 3 0 43 x6) 3 0 44 x4) (0, 0)))))) else z_run zM_X5_findSmall zc_X5_findSmall zk_X5_findSmall n 116 [(0, .inr (.inl (3, 0, 0))), (1, .inl x1), (3, .inl x3), (4, .inl (x4 + (-1 : Int32)))] g (0, 0)) else (if ((x4 >>> (((((g 3 0).1 46) - (1 : Int32)) - x7) &&& 31)) &&& (1 : Int32)) = 0 then z_run zM_X5_findSmall zc_X5_findSmall zk_X5_findSmall n 130 [(0, .inr (.inl (3, 0, 0))), (1, .inl x1), (3, .inl x3), (4, .inl x4), (5, .inl x5), (6, .inl x6), (7, .inl (x7 + (1 : Int32)))] g (0, 0) else (if z_inb (((g 3 0).1 45) + x7) 30 then z_run zM_X5_findSmall zc_X5_findSmall zk_X5_findSmall n 130 [(0, .inr (.inl (3, 0, 0))), (1, .inl x1), (3, .inl x3), (4, .inl x4), (5, .inl (x5 ||| ((1 : Int32) <<< (((g 3 0).2 25 (((g 3 0).1 45) + x7).toNatClampNeg) &&& 31)))), (6, .inl (x6 + (1 : Int32))), (7, .inl (x7 + (1 : Int32)))] g (0, 0) else none))) := rfl
theorem ze_X5_findSmall (x1 : Int32)  (g : zSG) : zF_X5_findSmall [.inr (.inl (3, 0, 0)), .inl x1] g = z_run zM_X5_findSmall zc_X5_findSmall zk_X5_findSmall 100000 0 [(0, .inr (.inl (3, 0, 0))), (1, .inl x1)] g (0, 0) := z_fn_ok (sh := zs_X5_findSmall) (vs := [.inr (.inl (3, 0, 0)), .inl x1]) (rfl) rfl
set_option maxRecDepth 400000 in
set_option maxHeartbeats 4000000 in
theorem zu_X5_small_0 (n : Nat) (x1 : Int32)  (g : zSG) : z_run zM_X5_small zc_X5_small zk_X5_small (n + 1) 0 [(0, .inr (.inl (3, 0, 0))), (1, .inl x1)] g (0, 0) = (z_bI (zF_X5_isAsk [.inr (.inl (3, 0, 0)), .inl x1] (z_gI g 3 0 0 (0 : Int32))) (fun r2 g1 => (if r2 = 0 then some (.inl (some (.inl (0 : Int32))), g1) else (z_bI (zF_X5_findSmall [.inr (.inl (3, 0, 0)), .inl x1] g1) (fun r4 g3 => (if r4 = 0 then some (.inl (some (.inl (-1 : Int32))), g3) else some (.inl (some (.inl ((g3 3 0).1 43))), g3))))))) := rfl
theorem ze_X5_small (x1 : Int32)  (g : zSG) : zF_X5_small [.inr (.inl (3, 0, 0)), .inl x1] g = z_run zM_X5_small zc_X5_small zk_X5_small 100000 0 [(0, .inr (.inl (3, 0, 0))), (1, .inl x1)] g (0, 0) := z_fn_ok (sh := zs_X5_small) (vs := [.inr (.inl (3, 0, 0)), .inl x1]) (rfl) rfl
set_option maxRecDepth 400000 in
set_option maxHeartbeats 4000000 in
theorem zu_X5_smallest_0 (n : Nat) (x1 : Int32) (x2 : Int32)  (g : zSG) : z_run zM_X5_smallest zc_X5_smallest zk_X5_smallest (n + 1) 0 [(0, .inr (.inl (3, 0, 0))), (1, .inl x1), (2, .inl x2)] g (0, 0) = (z_bI (zF_X5_isAsk [.inr (.inl (3, 0, 0)), .inl x1] (z_gI g 3 0 0 (0 : Int32))) (fun r2 g1 => (if r2 = 0 then (if ((g1 3 0).1 0) = 0 then some (.inl (some (.inl (-1 : Int32))), g1) else some (.inl (some (.inl (0 : Int32))), g1)) else (z_bI (zF_X5_findSmall [.inr (.inl (3, 0, 0)), .inl x1] g1) (fun r4 g3 => (if r4 = 0 then (if ((g3 3 0).1 0) = 0 then some (.inl (some (.inl (-1 : Int32))), g3) else some (.inl (some (.inl (0 : Int32))), g3)) else z_run zM_X5_smallest zc_X5_smallest zk_X5_smallest n 39 [(0, .inr (.inl (3, 0, 0))), (2, .inl x2), (3, .inl (0 : Int32)), (4, .inl (0 : Int32))] g3 (0, 0))))))) := rfl
set_option maxRecDepth 400000 in
set_option maxHeartbeats 4000000 in
theorem zu_X5_smallest_39 (n : Nat) (x2 : Int32) (x3 : Int32) (x4 : Int32)  (g : zSG) : z_run zM_X5_smallest zc_X5_smallest zk_X5_smallest (n + 1) 39 [(0, .inr (.inl (3, 0, 0))), (2, .inl x2), (3, .inl x3), (4, .inl x4)] g (0, 0) = (if ((g 3 0).1 46) ≤ x4 then some (.inl (some (.inl (-1 : Int32))), g) else (if ((((g 3 0).1 44) >>> (((((g 3 0).1 46) - (1 : Int32)) - x4) &&& 31)) &&& (1 : Int32)) = 0 then z_run zM_X5_smallest zc_X5_smallest zk_X5_smallest n 39 [(0, .inr (.inl (3, 0, 0))), (2, .inl x2), (3, .inl x3), (4, .inl (x4 + (1 : Int32)))] g (0, 0) else (if x3 = x2 then (if z_inb (((g 3 0).1 45) + x4) 30 then some (.inl (some (.inl ((g 3 0).2 25 (((g 3 0).1 45) + x4).toNatClampNeg))), g) else none) else z_run zM_X5_smallest zc_X5_smallest zk_X5_smallest n 39 [(0, .inr (.inl (3, 0, 0))), (2, .inl x2), (3, .inl (x3 + (1 : Int32))), (4, .inl (x4 + (1 : Int32)))] g (0, 0)))) := rfl
theorem ze_X5_smallest (x1 : Int32) (x2 : Int32)  (g : zSG) : zF_X5_smallest [.inr (.inl (3, 0, 0)), .inl x1, .inl x2] g = z_run zM_X5_smallest zc_X5_smallest zk_X5_smallest 100000 0 [(0, .inr (.inl (3, 0, 0))), (1, .inl x1), (2, .inl x2)] g (0, 0) := z_fn_ok (sh := zs_X5_smallest) (vs := [.inr (.inl (3, 0, 0)), .inl x1, .inl x2]) (rfl) rfl
set_option maxRecDepth 400000 in
set_option maxHeartbeats 4000000 in
theorem zu_X5_lag_0 (n : Nat) (x1 : Int32) (x2 : Int32) (x3 : Int32)  (g : zSG) : z_run zM_X5_lag zc_X5_lag zk_X5_lag (n + 1) 0 [(0, .inr (.inl (3, 0, 0))), (1, .inl x1), (2, .inl x2), (3, .inl x3)] g (0, 0) = (z_bI (zF_X5_isVersion [.inl x1] (z_gI g 3 0 0 (0 : Int32))) (fun r2 g1 => (if r2 = 0 then (z_bI (zF_X5_may [.inr (.inl (3, 0, 0)), .inl (0 : Int32), .inl (1 : Int32)] g1) (fun r4 g3 => (if r4 = 0 then some (.inl (some (.inl (0 : Int32))), g3) else (z_bV (zF_X5_runAll [.inr (.inl (3, 0, 0)), .inl x1, .inl (0 : Int32)] g3) (fun g5 => z_run zM_X5_lag zc_X5_lag zk_X5_lag n 64 [(0, .inr (.inl (3, 0, 0))), (2, .inl x2), (3, .inl x3), (4, .inl (0 : Int32)), (5, .inl (0 : Int32)), (6, .inl (0 : Int32))] g5 (0, 0)))))) else (z_bI (zF_X5_within [.inl x2, .inl (1 : Int32), .inl (1000 : Int32)] g1) (fun r7 g6 => (if r7 = 0 then (z_bI (zF_X5_may [.inr (.inl (3, 0, 0)), .inl (0 : Int32), .inl (1 : Int32)] g6) (fun r9 g8 => (if r9 = 0 then some (.inl (some (.inl (0 : Int32))), g8) else (z_bV (zF_X5_runAll [.inr (.inl (3, 0, 0)), .inl x1, .inl (0 : Int32)] g8) (fun g10 => z_run zM_X5_lag zc_X5_lag zk_X5_lag n 64 [(0, .inr (.inl (3, 0, 0))), (2, .inl x2), (3, .inl x3), (4, .inl (0 : Int32)), (5, .inl (0 : Int32)), (6, .inl (0 : Int32))] g10 (0, 0)))))) else (z_bI (zF_X5_within [.inl x3, .inl (1 : Int32), .inl (1000 : Int32)] g6) (fun r12 g11 => (if r12 = 0 then (z_bI (zF_X5_may [.inr (.inl (3, 0, 0)), .inl (0 : Int32), .inl (1 : Int32)] g11) (fun r14 g13 => (if r14 = 0 then some (.inl (some (.inl (0 : Int32))), g13) else (z_bV (zF_X5_runAll [.inr (.inl (3, 0, 0)), .inl x1, .inl (0 : Int32)] g13) (fun g15 => z_run zM_X5_lag zc_X5_lag zk_X5_lag n 64 [(0, .inr (.inl (3, 0, 0))), (2, .inl x2), (3, .inl x3), (4, .inl (0 : Int32)), (5, .inl (0 : Int32)), (6, .inl (0 : Int32))] g15 (0, 0)))))) else (z_bI (zF_X5_may [.inr (.inl (3, 0, 0)), .inl (1 : Int32), .inl (1 : Int32)] g11) (fun r17 g16 => (if r17 = 0 then some (.inl (some (.inl (0 : Int32))), g16) else (z_bV (zF_X5_runAll [.inr (.inl (3, 0, 0)), .inl x1, .inl (0 : Int32)] g16) (fun g18 => z_run zM_X5_lag zc_X5_lag zk_X5_lag n 64 [(0, .inr (.inl (3, 0, 0))), (2, .inl x2), (3, .inl x3), (4, .inl (0 : Int32)), (5, .inl (0 : Int32)), (6, .inl (0 : Int32))] g18 (0, 0))))))))))))))) := rfl
set_option maxRecDepth 400000 in
set_option maxHeartbeats 4000000 in
theorem zu_X5_lag_64 (n : Nat) (x2 : Int32) (x3 : Int32) (x4 : Int32) (x5 : Int32) (x6 : Int32)  (g : zSG) : z_run zM_X5_lag zc_X5_lag zk_X5_lag (n + 1) 64 [(0, .inr (.inl (3, 0, 0))), (2, .inl x2), (3, .inl x3), (4, .inl x4), (5, .inl x5), (6, .inl x6)] g (0, 0) = (if ((g 3 0).1 35) ≤ x6 then some (.inl (some (.inl x5)), g) else (if z_inb x6 30 then (if z_inb ((g 3 0).2 25 (x6).toNatClampNeg) 30 then (if x3 = 0 then none else (if ((((g 3 0).2 22 ((g 3 0).2 25 (x6).toNatClampNeg).toNatClampNeg) * x2) / x3) ≤ x4 then (if (x4 - ((((g 3 0).2 22 ((g 3 0).2 25 (x6).toNatClampNeg).toNatClampNeg) * x2) / x3)) ≤ x5 then (if z_inb x6 30 then (if z_inb ((g 3 0).2 25 (x6).toNatClampNeg) 30 then (if ((g 3 0).2 30 ((g 3 0).2 25 (x6).toNatClampNeg).toNatClampNeg) ≤ (1 : Int32) then z_run zM_X5_lag zc_X5_lag zk_X5_lag n 64 [(0, .inr (.inl (3, 0, 0))), (2, .inl x2), (3, .inl x3), (4, .inl (x4 + (1 : Int32))), (5, .inl x5), (6, .inl (x6 + (1 : Int32)))] g (0, 0) else (if z_inb x6 30 then (if z_inb ((g 3 0).2 25 (x6).toNatClampNeg) 30 then z_run zM_X5_lag zc_X5_lag zk_X5_lag n 64 [(0, .inr (.inl (3, 0, 0))), (2, .inl x2), (3, .inl x3), (4, .inl (x4 + ((g 3 0).2 30 ((g 3 0).2 25 (x6).toNatClampNeg).toNatClampNeg))), (5, .inl x5), (6, .inl (x6 + (1 : Int32)))] g (0, 0) else none) else none)) else none) else none) else (if z_inb x6 30 then (if z_inb ((g 3 0).2 25 (x6).toNatClampNeg) 30 then (if ((g 3 0).2 30 ((g 3 0).2 25 (x6).toNatClampNeg).toNatClampNeg) ≤ (1 : Int32) then z_run zM_X5_lag zc_X5_lag zk_X5_lag n 64 [(0, .inr (.inl (3, 0, 0))), (2, .inl x2), (3, .inl x3), (4, .inl (x4 + (1 : Int32))), (5, .inl (x4 - ((((g 3 0).2 22 ((g 3 0).2 25 (x6).toNatClampNeg).toNatClampNeg) * x2) / x3))), (6, .inl (x6 + (1 : Int32)))] g (0, 0) else (if z_inb x6 30 then (if z_inb ((g 3 0).2 25 (x6).toNatClampNeg) 30 then z_run zM_X5_lag zc_X5_lag zk_X5_lag n 64 [(0, .inr (.inl (3, 0, 0))), (2, .inl x2), (3, .inl x3), (4, .inl (x4 + ((g 3 0).2 30 ((g 3 0).2 25 (x6).toNatClampNeg).toNatClampNeg))), (5, .inl (x4 - ((((g 3 0).2 22 ((g 3 0).2 25 (x6).toNatClampNeg).toNatClampNeg) * x2) / x3))), (6, .inl (x6 + (1 : Int32)))] g (0, 0) else none) else none)) else none) else none)) else (if (((((g 3 0).2 22 ((g 3 0).2 25 (x6).toNatClampNeg).toNatClampNeg) * x2) / x3) - ((((g 3 0).2 22 ((g 3 0).2 25 (x6).toNatClampNeg).toNatClampNeg) * x2) / x3)) ≤ x5 then (if z_inb x6 30 then (if z_inb ((g 3 0).2 25 (x6).toNatClampNeg) 30 then (if ((g 3 0).2 30 ((g 3 0).2 25 (x6).toNatClampNeg).toNatClampNeg) ≤ (1 : Int32) then z_run zM_X5_lag zc_X5_lag zk_X5_lag n 64 [(0, .inr (.inl (3, 0, 0))), (2, .inl x2), (3, .inl x3), (4, .inl (((((g 3 0).2 22 ((g 3 0).2 25 (x6).toNatClampNeg).toNatClampNeg) * x2) / x3) + (1 : Int32))), (5, .inl x5), (6, .inl (x6 + (1 : Int32)))] g (0, 0) else (if z_inb x6 30 then (if z_inb ((g 3 0).2 25 (x6).toNatClampNeg) 30 then z_run zM_X5_lag zc_X5_lag zk_X5_lag n 64 [(0, .inr (.inl (3, 0, 0))), (2, .inl x2), (3, .inl x3), (4, .inl (((((g 3 0).2 22 ((g 3 0).2 25 (x6).toNatClampNeg).toNatClampNeg) * x2) / x3) + ((g 3 0).2 30 ((g 3 0).2 25 (x6).toNatClampNeg).toNatClampNeg))), (5, .inl x5), (6, .inl (x6 + (1 : Int32)))] g (0, 0) else none) else none)) else none) else none) else (if z_inb x6 30 then (if z_inb ((g 3 0).2 25 (x6).toNatClampNeg) 30 then (if ((g 3 0).2 30 ((g 3 0).2 25 (x6).toNatClampNeg).toNatClampNeg) ≤ (1 : Int32) then z_run zM_X5_lag zc_X5_lag zk_X5_lag n 64 [(0, .inr (.inl (3, 0, 0))), (2, .inl x2), (3, .inl x3), (4, .inl (((((g 3 0).2 22 ((g 3 0).2 25 (x6).toNatClampNeg).toNatClampNeg) * x2) / x3) + (1 : Int32))), (5, .inl (((((g 3 0).2 22 ((g 3 0).2 25 (x6).toNatClampNeg).toNatClampNeg) * x2) / x3) - ((((g 3 0).2 22 ((g 3 0).2 25 (x6).toNatClampNeg).toNatClampNeg) * x2) / x3))), (6, .inl (x6 + (1 : Int32)))] g (0, 0) else (if z_inb x6 30 then (if z_inb ((g 3 0).2 25 (x6).toNatClampNeg) 30 then z_run zM_X5_lag zc_X5_lag zk_X5_lag n 64 [(0, .inr (.inl (3, 0, 0))), (2, .inl x2), (3, .inl x3), (4, .inl (((((g 3 0).2 22 ((g 3 0).2 25 (x6).toNatClampNeg).toNatClampNeg) * x2) / x3) + ((g 3 0).2 30 ((g 3 0).2 25 (x6).toNatClampNeg).toNatClampNeg))), (5, .inl (((((g 3 0).2 22 ((g 3 0).2 25 (x6).toNatClampNeg).toNatClampNeg) * x2) / x3) - ((((g 3 0).2 22 ((g 3 0).2 25 (x6).toNatClampNeg).toNatClampNeg) * x2) / x3))), (6, .inl (x6 + (1 : Int32)))] g (0, 0) else none) else none)) else none) else none)))) else none) else none)) := rfl
theorem ze_X5_lag (x1 : Int32) (x2 : Int32) (x3 : Int32)  (g : zSG) : zF_X5_lag [.inr (.inl (3, 0, 0)), .inl x1, .inl x2, .inl x3] g = z_run zM_X5_lag zc_X5_lag zk_X5_lag 100000 0 [(0, .inr (.inl (3, 0, 0))), (1, .inl x1), (2, .inl x2), (3, .inl x3)] g (0, 0) := z_fn_ok (sh := zs_X5_lag) (vs := [.inr (.inl (3, 0, 0)), .inl x1, .inl x2, .inl x3]) (rfl) rfl
set_option maxRecDepth 400000 in
set_option maxHeartbeats 4000000 in
theorem zu_X5_count_0 (n : Nat) (x1 : Int32)  (g : zSG) : z_run zM_X5_count zc_X5_count zk_X5_count (n + 1) 0 [(0, .inr (.inl (3, 0, 0))), (1, .inl x1)] g (0, 0) = (if x1.toInt = 0 then some (.inl (some (.inl ((g 3 0).1 16))), (z_gI g 3 0 0 (0 : Int32))) else (if x1.toInt = 1 then z_run zM_X5_count zc_X5_count zk_X5_count n 45 [(0, .inr (.inl (3, 0, 0))), (2, .inl (0 : Int32)), (3, .inl (0 : Int32))] (z_gI g 3 0 0 (0 : Int32)) (0, 0) else (if x1.toInt = 2 then some (.inl (some (.inl ((g 3 0).1 1))), (z_gI g 3 0 0 (0 : Int32))) else (if x1.toInt = 3 then z_run zM_X5_count zc_X5_count zk_X5_count n 85 [(0, .inr (.inl (3, 0, 0))), (2, .inl (0 : Int32)), (3, .inl (0 : Int32))] (z_gI g 3 0 0 (0 : Int32)) (0, 0) else some (.inl (some (.inl (-1 : Int32))), (z_gI g 3 0 0 (0 : Int32))))))) := rfl
set_option maxRecDepth 400000 in
set_option maxHeartbeats 4000000 in
theorem zu_X5_count_45 (n : Nat) (x2 : Int32) (x3 : Int32)  (g : zSG) : z_run zM_X5_count zc_X5_count zk_X5_count (n + 1) 45 [(0, .inr (.inl (3, 0, 0))), (2, .inl x2), (3, .inl x3)] g (0, 0) = (if (32 : Int32) ≤ x3 then some (.inl (some (.inl x2)), g) else (if z_inb x3 32 then (if ((g 3 0).2 39 (x3).toNatClampNeg) = 0 then z_run zM_X5_count zc_X5_count zk_X5_count n 45 [(0, .inr (.inl (3, 0, 0))), (2, .inl (x2 + (0 : Int32))), (3, .inl (x3 + (1 : Int32)))] g (0, 0) else z_run zM_X5_count zc_X5_count zk_X5_count n 45 [(0, .inr (.inl (3, 0, 0))), (2, .inl (x2 + (1 : Int32))), (3, .inl (x3 + (1 : Int32)))] g (0, 0)) else none)) := rfl
set_option maxRecDepth 400000 in
set_option maxHeartbeats 4000000 in
theorem zu_X5_count_85 (n : Nat) (x2 : Int32) (x3 : Int32)  (g : zSG) : z_run zM_X5_count zc_X5_count zk_X5_count (n + 1) 85 [(0, .inr (.inl (3, 0, 0))), (2, .inl x2), (3, .inl x3)] g (0, 0) = (if (8 : Int32) ≤ x3 then some (.inl (some (.inl x2)), g) else (if z_inb x3 8 then z_run zM_X5_count zc_X5_count zk_X5_count n 85 [(0, .inr (.inl (3, 0, 0))), (2, .inl (x2 + ((g 3 0).2 15 (x3).toNatClampNeg))), (3, .inl (x3 + (1 : Int32)))] g (0, 0) else none)) := rfl
theorem ze_X5_count (x1 : Int32)  (g : zSG) : zF_X5_count [.inr (.inl (3, 0, 0)), .inl x1] g = z_run zM_X5_count zc_X5_count zk_X5_count 100000 0 [(0, .inr (.inl (3, 0, 0))), (1, .inl x1)] g (0, 0) := z_fn_ok (sh := zs_X5_count) (vs := [.inr (.inl (3, 0, 0)), .inl x1]) (rfl) rfl
end
section
set_option maxRecDepth 400000 in
set_option maxHeartbeats 4000000 in
theorem zu_X5_does_0 (n : Nat) (x1 : Int32) (x2 : Int32)  (g : zSG) : z_run zM_X5_does zc_X5_does zk_X5_does (n + 1) 0 [(0, .inr (.inl (3, 0, 0))), (1, .inl x1), (2, .inl x2)] g (0, 0) = (if z_inb x2 30 then (if z_inb x2 30 then (if z_inb x2 30 then (if ((g 3 0).2 23 (x2).toNatClampNeg) = (-1 : Int32) then (if z_inb x2 30 then (if z_inb x2 30 then (if z_inb x2 30 then (if z_inb x2 30 then (if z_inb x2 30 then z_run zM_X5_does zc_X5_does zk_X5_does n 121 [(0, .inr (.inl (3, 0, 0))), (2, .inl x2), (3, .inl (((4 : Int32) * x1) + ((g 3 0).2 19 (x2).toNatClampNeg))), (4, .inl ((g 3 0).2 20 (x2).toNatClampNeg)), (6, .inl (0 : Int32))] (z_gI (z_gA (z_gA (z_gA (z_gA (z_gA g 3 0 26 (upd ((g 3 0).2 26) (x2).toNatClampNeg (0 : Int32))) 3 0 28 (upd ((g 3 0).2 28) (x2).toNatClampNeg (0 : Int32))) 3 0 29 (upd ((g 3 0).2 29) (x2).toNatClampNeg (0 : Int32))) 3 0 30 (upd ((g 3 0).2 30) (x2).toNatClampNeg (0 : Int32))) 3 0 34 (upd ((g 3 0).2 34) (x2).toNatClampNeg ((1 : Int32) &&& 1))) 3 0 38 (0 : Int32)) (0, 0) else none) else none) else none) else none) else none) else (if z_inb ((g 3 0).2 23 (x2).toNatClampNeg) 30 then (if ((g 3 0).2 34 ((g 3 0).2 23 (x2).toNatClampNeg).toNatClampNeg) = 0 then (if z_inb x2 30 then (if z_inb x2 30 then (if z_inb x2 30 then (if z_inb x2 30 then (if z_inb x2 30 then z_run zM_X5_does zc_X5_does zk_X5_does n 121 [(0, .inr (.inl (3, 0, 0))), (2, .inl x2), (3, .inl (((4 : Int32) * x1) + ((g 3 0).2 19 (x2).toNatClampNeg))), (4, .inl ((g 3 0).2 20 (x2).toNatClampNeg)), (6, .inl (0 : Int32))] (z_gI (z_gA (z_gA (z_gA (z_gA (z_gA g 3 0 26 (upd ((g 3 0).2 26) (x2).toNatClampNeg (0 : Int32))) 3 0 28 (upd ((g 3 0).2 28) (x2).toNatClampNeg (0 : Int32))) 3 0 29 (upd ((g 3 0).2 29) (x2).toNatClampNeg (0 : Int32))) 3 0 30 (upd ((g 3 0).2 30) (x2).toNatClampNeg (0 : Int32))) 3 0 34 (upd ((g 3 0).2 34) (x2).toNatClampNeg ((1 : Int32) &&& 1))) 3 0 38 (0 : Int32)) (0, 0) else none) else none) else none) else none) else none) else (if z_inb x2 30 then (if z_inb ((g 3 0).2 23 (x2).toNatClampNeg) 30 then (if ((g 3 0).2 26 ((g 3 0).2 23 (x2).toNatClampNeg).toNatClampNeg) ≤ ((g 3 0).2 24 (x2).toNatClampNeg) then (if z_inb x2 30 then (if z_inb x2 30 then (if z_inb x2 30 then (if z_inb x2 30 then (if z_inb x2 30 then z_run zM_X5_does zc_X5_does zk_X5_does n 121 [(0, .inr (.inl (3, 0, 0))), (2, .inl x2), (3, .inl (((4 : Int32) * x1) + ((g 3 0).2 19 (x2).toNatClampNeg))), (4, .inl ((g 3 0).2 20 (x2).toNatClampNeg)), (6, .inl (0 : Int32))] (z_gI (z_gA (z_gA (z_gA (z_gA (z_gA g 3 0 26 (upd ((g 3 0).2 26) (x2).toNatClampNeg (0 : Int32))) 3 0 28 (upd ((g 3 0).2 28) (x2).toNatClampNeg (0 : Int32))) 3 0 29 (upd ((g 3 0).2 29) (x2).toNatClampNeg (0 : Int32))) 3 0 30 (upd ((g 3 0).2 30) (x2).toNatClampNeg (0 : Int32))) 3 0 34 (upd ((g 3 0).2 34) (x2).toNatClampNeg ((1 : Int32) &&& 1))) 3 0 38 (0 : Int32)) (0, 0) else none) else none) else none) else none) else none) else (if z_inb x2 30 then (if z_inb (((8 : Int32) * ((g 3 0).2 23 (x2).toNatClampNeg)) + ((g 3 0).2 24 (x2).toNatClampNeg)) 240 then (if z_inb x2 30 then (if z_inb x2 30 then (if z_inb x2 30 then (if z_inb x2 30 then (if z_inb x2 30 then z_run zM_X5_does zc_X5_does zk_X5_does n 121 [(0, .inr (.inl (3, 0, 0))), (2, .inl x2), (3, .inl (((4 : Int32) * x1) + ((g 3 0).2 19 (x2).toNatClampNeg))), (4, .inl ((g 3 0).2 27 (((8 : Int32) * ((g 3 0).2 23 (x2).toNatClampNeg)) + ((g 3 0).2 24 (x2).toNatClampNeg)).toNatClampNeg)), (6, .inl (0 : Int32))] (z_gI (z_gA (z_gA (z_gA (z_gA (z_gA g 3 0 26 (upd ((g 3 0).2 26) (x2).toNatClampNeg (0 : Int32))) 3 0 28 (upd ((g 3 0).2 28) (x2).toNatClampNeg (0 : Int32))) 3 0 29 (upd ((g 3 0).2 29) (x2).toNatClampNeg (0 : Int32))) 3 0 30 (upd ((g 3 0).2 30) (x2).toNatClampNeg (0 : Int32))) 3 0 34 (upd ((g 3 0).2 34) (x2).toNatClampNeg ((1 : Int32) &&& 1))) 3 0 38 (0 : Int32)) (0, 0) else none) else none) else none) else none) else none) else none) else none)) else none) else none)) else none)) else none) else none) else none) := rfl
set_option maxRecDepth 400000 in
set_option maxHeartbeats 4000000 in
theorem zu_X5_does_121 (n : Nat) (x2 : Int32) (x3 : Int32) (x4 : Int32) (x6 : Int32)  (g : zSG) : z_run zM_X5_does zc_X5_does zk_X5_does (n + 1) 121 [(0, .inr (.inl (3, 0, 0))), (2, .inl x2), (3, .inl x3), (4, .inl x4), (6, .inl x6)] g (0, 0) = (if z_inb x3 8 then (if ((g 3 0).2 14 (x3).toNatClampNeg) ≤ x6 then some (.inl none, g) else (if z_inb (((500 : Int32) * x3) + x6) 4000 then (if z_inb (((500 : Int32) * x3) + x6) 4000 then (if ((g 3 0).2 12 (((500 : Int32) * x3) + x6).toNatClampNeg) = 0 then (z_bV (zF_X5_push [.inr (.inl (3, 0, 0)), .inl ((g 3 0).2 13 (((500 : Int32) * x3) + x6).toNatClampNeg)] g) (fun g29 => z_run zM_X5_does zc_X5_does zk_X5_does n 121 [(0, .inr (.inl (3, 0, 0))), (2, .inl x2), (3, .inl x3), (4, .inl x4), (6, .inl (x6 + (1 : Int32)))] g29 (0, 0))) else (if ((g 3 0).2 12 (((500 : Int32) * x3) + x6).toNatClampNeg) = (1 : Int32) then (z_bV (zF_X5_push [.inr (.inl (3, 0, 0)), .inl x4] g) (fun g28 => z_run zM_X5_does zc_X5_does zk_X5_does n 121 [(0, .inr (.inl (3, 0, 0))), (2, .inl x2), (3, .inl x3), (4, .inl x4), (6, .inl (x6 + (1 : Int32)))] g28 (0, 0))) else (if ((g 3 0).2 12 (((500 : Int32) * x3) + x6).toNatClampNeg) = (2 : Int32) then (if z_inb x2 30 then (z_bV (zF_X5_push [.inr (.inl (3, 0, 0)), .inl ((g 3 0).2 21 (x2).toNatClampNeg)] g) (fun g27 => z_run zM_X5_does zc_X5_does zk_X5_does n 121 [(0, .inr (.inl (3, 0, 0))), (2, .inl x2), (3, .inl x3), (4, .inl x4), (6, .inl (x6 + (1 : Int32)))] g27 (0, 0))) else none) else (if ((g 3 0).2 12 (((500 : Int32) * x3) + x6).toNatClampNeg) = (3 : Int32) then (z_bV (zF_X5_push [.inr (.inl (3, 0, 0)), .inl (((g 3 0).1 36) + (1 : Int32))] (z_gI g 3 0 36 (((g 3 0).1 36) + (1 : Int32)))) (fun g26 => z_run zM_X5_does zc_X5_does zk_X5_does n 121 [(0, .inr (.inl (3, 0, 0))), (2, .inl x2), (3, .inl x3), (4, .inl x4), (6, .inl (x6 + (1 : Int32)))] g26 (0, 0))) else (if ((g 3 0).2 12 (((500 : Int32) * x3) + x6).toNatClampNeg) = (4 : Int32) then (z_bI (zF_X5_pop [.inr (.inl (3, 0, 0))] g) (fun r24 g23 => (if z_inb x2 30 then (if z_inb x2 30 then (if z_inb (r24 &&& (7 : Int32)) 8 then (z_bV (zF_X5_push [.inr (.inl (3, 0, 0)), .inl ((g23 3 0).2 31 (r24 &&& (7 : Int32)).toNatClampNeg)] (z_gA g23 3 0 28 (upd ((g23 3 0).2 28) (x2).toNatClampNeg (((g23 3 0).2 28 (x2).toNatClampNeg) ||| ((1 : Int32) <<< ((r24 &&& (7 : Int32)) &&& 31)))))) (fun g25 => z_run zM_X5_does zc_X5_does zk_X5_does n 121 [(0, .inr (.inl (3, 0, 0))), (2, .inl x2), (3, .inl x3), (4, .inl x4), (6, .inl (x6 + (1 : Int32)))] g25 (0, 0))) else none) else none) else none))) else (if ((g 3 0).2 12 (((500 : Int32) * x3) + x6).toNatClampNeg) = (5 : Int32) then (z_bI (zF_X5_pop [.inr (.inl (3, 0, 0))] (z_gI g 3 0 37 (((g 3 0).1 37) + (1 : Int32)))) (fun r21 g20 => (if z_inb (r21 &&& (15 : Int32)) 16 then (z_bV (zF_X5_push [.inr (.inl (3, 0, 0)), .inl ((g20 3 0).2 18 (r21 &&& (15 : Int32)).toNatClampNeg)] g20) (fun g22 => z_run zM_X5_does zc_X5_does zk_X5_does n 121 [(0, .inr (.inl (3, 0, 0))), (2, .inl x2), (3, .inl x3), (4, .inl x4), (6, .inl (x6 + (1 : Int32)))] g22 (0, 0))) else none))) else (if ((g 3 0).2 12 (((500 : Int32) * x3) + x6).toNatClampNeg) = (11 : Int32) then (z_bI (zF_X5_pop [.inr (.inl (3, 0, 0))] g) (fun r17 g16 => (z_bI (zF_X5_pop [.inr (.inl (3, 0, 0))] g16) (fun r19 g18 => (if z_inb (r19 &&& (7 : Int32)) 8 then (if z_inb x2 30 then (if z_inb x2 30 then z_run zM_X5_does zc_X5_does zk_X5_does n 121 [(0, .inr (.inl (3, 0, 0))), (2, .inl x2), (3, .inl x3), (4, .inl x4), (6, .inl (x6 + (1 : Int32)))] (z_gA (z_gA g18 3 0 31 (upd ((g18 3 0).2 31) (r19 &&& (7 : Int32)).toNatClampNeg r17)) 3 0 29 (upd ((g18 3 0).2 29) (x2).toNatClampNeg (((g18 3 0).2 29 (x2).toNatClampNeg) ||| ((1 : Int32) <<< ((r19 &&& (7 : Int32)) &&& 31))))) (0, 0) else none) else none) else none))))) else (if ((g 3 0).2 12 (((500 : Int32) * x3) + x6).toNatClampNeg) = (12 : Int32) then (z_bI (zF_X5_pop [.inr (.inl (3, 0, 0))] g) (fun r15 g14 => (if z_inb x2 30 then (if (8 : Int32) ≤ ((g14 3 0).2 26 (x2).toNatClampNeg) then z_run zM_X5_does zc_X5_does zk_X5_does n 121 [(0, .inr (.inl (3, 0, 0))), (2, .inl x2), (3, .inl x3), (4, .inl x4), (6, .inl (x6 + (1 : Int32)))] g14 (0, 0) else (if z_inb x2 30 then (if z_inb (((8 : Int32) * x2) + ((g14 3 0).2 26 (x2).toNatClampNeg)) 240 then (if z_inb x2 30 then (if z_inb x2 30 then z_run zM_X5_does zc_X5_does zk_X5_does n 121 [(0, .inr (.inl (3, 0, 0))), (2, .inl x2), (3, .inl x3), (4, .inl x4), (6, .inl (x6 + (1 : Int32)))] (z_gA (z_gA g14 3 0 27 (upd ((g14 3 0).2 27) (((8 : Int32) * x2) + ((g14 3 0).2 26 (x2).toNatClampNeg)).toNatClampNeg r15)) 3 0 26 (upd ((g14 3 0).2 26) (x2).toNatClampNeg (((g14 3 0).2 26 (x2).toNatClampNeg) + (1 : Int32)))) (0, 0) else none) else none) else none) else none)) else none))) else (if ((g 3 0).2 12 (((500 : Int32) * x3) + x6).toNatClampNeg) = (13 : Int32) then (z_bI (zF_X5_pop [.inr (.inl (3, 0, 0))] g) (fun r13 g12 => (if r13 = 0 then z_run zM_X5_does zc_X5_does zk_X5_does n 121 [(0, .inr (.inl (3, 0, 0))), (2, .inl x2), (3, .inl x3), (4, .inl x4), (6, .inl ((g 3 0).2 13 (((500 : Int32) * x3) + x6).toNatClampNeg))] g12 (0, 0) else z_run zM_X5_does zc_X5_does zk_X5_does n 121 [(0, .inr (.inl (3, 0, 0))), (2, .inl x2), (3, .inl x3), (4, .inl x4), (6, .inl (x6 + (1 : Int32)))] g12 (0, 0)))) else (if ((g 3 0).2 12 (((500 : Int32) * x3) + x6).toNatClampNeg) = (14 : Int32) then (if z_inb x2 30 then (if z_inb x2 30 then (if z_inb (((30 : Int32) * x3) + ((g 3 0).2 13 (((500 : Int32) * x3) + x6).toNatClampNeg)) 240 then z_run zM_X5_does zc_X5_does zk_X5_does n 121 [(0, .inr (.inl (3, 0, 0))), (2, .inl x2), (3, .inl x3), (4, .inl x4), (6, .inl (x6 + (1 : Int32)))] (z_gA (z_gA g 3 0 30 (upd ((g 3 0).2 30) (x2).toNatClampNeg (((g 3 0).2 30 (x2).toNatClampNeg) + (1 : Int32)))) 3 0 33 (upd ((g 3 0).2 33) (((30 : Int32) * x3) + ((g 3 0).2 13 (((500 : Int32) * x3) + x6).toNatClampNeg)).toNatClampNeg ((1 : Int32) &&& 1))) (0, 0) else none) else none) else none) else (z_bI (zF_X5_pop [.inr (.inl (3, 0, 0))] g) (fun r2 g1 => (z_bI (zF_X5_pop [.inr (.inl (3, 0, 0))] g1) (fun r4 g3 => (if ((g 3 0).2 12 (((500 : Int32) * x3) + x6).toNatClampNeg) = (6 : Int32) then (z_bV (zF_X5_push [.inr (.inl (3, 0, 0)), .inl (r4 + r2)] g3) (fun g11 => z_run zM_X5_does zc_X5_does zk_X5_does n 121 [(0, .inr (.inl (3, 0, 0))), (2, .inl x2), (3, .inl x3), (4, .inl x4), (6, .inl (x6 + (1 : Int32)))] g11 (0, 0))) else (if ((g 3 0).2 12 (((500 : Int32) * x3) + x6).toNatClampNeg) = (7 : Int32) then (z_bV (zF_X5_push [.inr (.inl (3, 0, 0)), .inl (r4 - r2)] g3) (fun g10 => z_run zM_X5_does zc_X5_does zk_X5_does n 121 [(0, .inr (.inl (3, 0, 0))), (2, .inl x2), (3, .inl x3), (4, .inl x4), (6, .inl (x6 + (1 : Int32)))] g10 (0, 0))) else (if ((g 3 0).2 12 (((500 : Int32) * x3) + x6).toNatClampNeg) = (8 : Int32) then (z_bV (zF_X5_push [.inr (.inl (3, 0, 0)), .inl (r4 * r2)] g3) (fun g9 => z_run zM_X5_does zc_X5_does zk_X5_does n 121 [(0, .inr (.inl (3, 0, 0))), (2, .inl x2), (3, .inl x3), (4, .inl x4), (6, .inl (x6 + (1 : Int32)))] g9 (0, 0))) else (if ((g 3 0).2 12 (((500 : Int32) * x3) + x6).toNatClampNeg) = (9 : Int32) then (if r2 ≤ r4 then (z_bV (zF_X5_push [.inr (.inl (3, 0, 0)), .inl (0 : Int32)] g3) (fun g7 => z_run zM_X5_does zc_X5_does zk_X5_does n 121 [(0, .inr (.inl (3, 0, 0))), (2, .inl x2), (3, .inl x3), (4, .inl x4), (6, .inl (x6 + (1 : Int32)))] g7 (0, 0))) else (z_bV (zF_X5_push [.inr (.inl (3, 0, 0)), .inl (1 : Int32)] g3) (fun g8 => z_run zM_X5_does zc_X5_does zk_X5_does n 121 [(0, .inr (.inl (3, 0, 0))), (2, .inl x2), (3, .inl x3), (4, .inl x4), (6, .inl (x6 + (1 : Int32)))] g8 (0, 0)))) else (if r4 = r2 then (z_bV (zF_X5_push [.inr (.inl (3, 0, 0)), .inl (1 : Int32)] g3) (fun g6 => z_run zM_X5_does zc_X5_does zk_X5_does n 121 [(0, .inr (.inl (3, 0, 0))), (2, .inl x2), (3, .inl x3), (4, .inl x4), (6, .inl (x6 + (1 : Int32)))] g6 (0, 0))) else (z_bV (zF_X5_push [.inr (.inl (3, 0, 0)), .inl (0 : Int32)] g3) (fun g5 => z_run zM_X5_does zc_X5_does zk_X5_does n 121 [(0, .inr (.inl (3, 0, 0))), (2, .inl x2), (3, .inl x3), (4, .inl x4), (6, .inl (x6 + (1 : Int32)))] g5 (0, 0)))))))))))))))))))))) else none) else none)) else none) := rfl
theorem ze_X5_does (x1 : Int32) (x2 : Int32)  (g : zSG) : zF_X5_does [.inr (.inl (3, 0, 0)), .inl x1, .inl x2] g = z_run zM_X5_does zc_X5_does zk_X5_does 100000 0 [(0, .inr (.inl (3, 0, 0))), (1, .inl x1), (2, .inl x2)] g (0, 0) := z_fn_ok (sh := zs_X5_does) (vs := [.inr (.inl (3, 0, 0)), .inl x1, .inl x2]) (rfl) rfl
end
