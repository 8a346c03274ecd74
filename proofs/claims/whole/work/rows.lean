section
-- ===== PART A: goes FIRST, ahead of the names: the tables' words, and 'selects' of the private methods out of them =====
/-- a private method of a class that the tables say can be made, by its rows of tables_1 -/
def lw_okq (q : MethodName × Nat) : Prop := (q.1.cls ≠ "java/lang/invoke/MethodHandle" ∧ q.1.cls ≠ "java/lang/invoke/VarHandle") ∧ Cond.instantiable q.1.cls q.2 ∈ tables_1 ∧ Cond.privateMethod q.1 ∈ tables_1 ∧ Cond.instanceMethod q.1 ∈ tables_1
theorem lw_p0 : lw_okq (⟨"MiddleScale", "rowsLeft", "()LMiddleScale$RowSet;"⟩, 15) := ⟨⟨by decide +kernel, by decide +kernel⟩, List.mem_of_getElem? (i := 31) (by decide +kernel), List.mem_of_getElem? (i := 296) (by decide +kernel), List.mem_of_getElem? (i := 297) (by decide +kernel)⟩
theorem lw_p1 : lw_okq (⟨"MiddleScale", "allRows", "()LMiddleScale$AllRows;"⟩, 15) := ⟨⟨by decide +kernel, by decide +kernel⟩, List.mem_of_getElem? (i := 31) (by decide +kernel), List.mem_of_getElem? (i := 300) (by decide +kernel), List.mem_of_getElem? (i := 301) (by decide +kernel)⟩
theorem lw_p2 : lw_okq (⟨"MiddleScale$AllRows", "put", "(I[I)V"⟩, 9) := ⟨⟨by decide +kernel, by decide +kernel⟩, List.mem_of_getElem? (i := 309) (by decide +kernel), List.mem_of_getElem? (i := 402) (by decide +kernel), List.mem_of_getElem? (i := 403) (by decide +kernel)⟩
theorem lw_p3 : lw_okq (⟨"MiddleScale$AllRows", "turnToNext", "([I)V"⟩, 9) := ⟨⟨by decide +kernel, by decide +kernel⟩, List.mem_of_getElem? (i := 309) (by decide +kernel), List.mem_of_getElem? (i := 406) (by decide +kernel), List.mem_of_getElem? (i := 407) (by decide +kernel)⟩
theorem lw_p4 : lw_okq (⟨"MiddleScale$AllRows", "fillHeavier", "(II)V"⟩, 9) := ⟨⟨by decide +kernel, by decide +kernel⟩, List.mem_of_getElem? (i := 309) (by decide +kernel), List.mem_of_getElem? (i := 413) (by decide +kernel), List.mem_of_getElem? (i := 414) (by decide +kernel)⟩
theorem lw_p5 : lw_okq (⟨"MiddleScale$Layings", "fillSets", "()V"⟩, 9) := ⟨⟨by decide +kernel, by decide +kernel⟩, List.mem_of_getElem? (i := 317) (by decide +kernel), List.mem_of_getElem? (i := 421) (by decide +kernel), List.mem_of_getElem? (i := 422) (by decide +kernel)⟩
theorem lw_p6 : lw_okq (⟨"MiddleScale$Layings", "turned", "(I)I"⟩, 9) := ⟨⟨by decide +kernel, by decide +kernel⟩, List.mem_of_getElem? (i := 317) (by decide +kernel), List.mem_of_getElem? (i := 428) (by decide +kernel), List.mem_of_getElem? (i := 429) (by decide +kernel)⟩
theorem lw_p7 : lw_okq (⟨"MiddleScale$Layings", "fillRising", "(LMiddleScale$AllRows;II[J)V"⟩, 9) := ⟨⟨by decide +kernel, by decide +kernel⟩, List.mem_of_getElem? (i := 317) (by decide +kernel), List.mem_of_getElem? (i := 435) (by decide +kernel), List.mem_of_getElem? (i := 436) (by decide +kernel)⟩
theorem lw_p8 : lw_okq (⟨"MiddleScale$Fitting", "borne", "(LMiddleScale$Store;III)J"⟩, 1) := ⟨⟨by decide +kernel, by decide +kernel⟩, List.mem_of_getElem? (i := 147) (by decide +kernel), List.mem_of_getElem? (i := 485) (by decide +kernel), List.mem_of_getElem? (i := 486) (by decide +kernel)⟩
theorem lw_p9 : lw_okq (⟨"MiddleScale", "rowsAtEnd", "(I)I"⟩, 15) := ⟨⟨by decide +kernel, by decide +kernel⟩, List.mem_of_getElem? (i := 31) (by decide +kernel), List.mem_of_getElem? (i := 521) (by decide +kernel), List.mem_of_getElem? (i := 522) (by decide +kernel)⟩
theorem lw_p10 : lw_okq (⟨"MiddleScale$Fitting", "proofOf", "([LMiddleScale$RowSet;IIII)I"⟩, 1) := ⟨⟨by decide +kernel, by decide +kernel⟩, List.mem_of_getElem? (i := 147) (by decide +kernel), List.mem_of_getElem? (i := 594) (by decide +kernel), List.mem_of_getElem? (i := 595) (by decide +kernel)⟩
theorem lw_p11 : lw_okq (⟨"MiddleScale", "sizeWithout", "(I)I"⟩, 15) := ⟨⟨by decide +kernel, by decide +kernel⟩, List.mem_of_getElem? (i := 31) (by decide +kernel), List.mem_of_getElem? (i := 607) (by decide +kernel), List.mem_of_getElem? (i := 608) (by decide +kernel)⟩
theorem lw_p12 : lw_okq (⟨"MiddleScale", "mayRise", "(I)I"⟩, 15) := ⟨⟨by decide +kernel, by decide +kernel⟩, List.mem_of_getElem? (i := 31) (by decide +kernel), List.mem_of_getElem? (i := 616) (by decide +kernel), List.mem_of_getElem? (i := 617) (by decide +kernel)⟩
theorem lw_p13 : lw_okq (⟨"MiddleScale", "walked", "(II)I"⟩, 15) := ⟨⟨by decide +kernel, by decide +kernel⟩, List.mem_of_getElem? (i := 31) (by decide +kernel), List.mem_of_getElem? (i := 636) (by decide +kernel), List.mem_of_getElem? (i := 637) (by decide +kernel)⟩
theorem lw_p14 : lw_okq (⟨"MiddleScale$Walk", "go", "(LMiddleScale$AllRows;LMiddleScale$Layings;[LMiddleScale$RowSet;II)V"⟩, 3) := ⟨⟨by decide +kernel, by decide +kernel⟩, List.mem_of_getElem? (i := 186) (by decide +kernel), List.mem_of_getElem? (i := 648) (by decide +kernel), List.mem_of_getElem? (i := 649) (by decide +kernel)⟩
theorem lw_p15 : lw_okq (⟨"MiddleScale$Layings", "evenSpread", "(I)I"⟩, 9) := ⟨⟨by decide +kernel, by decide +kernel⟩, List.mem_of_getElem? (i := 317) (by decide +kernel), List.mem_of_getElem? (i := 671) (by decide +kernel), List.mem_of_getElem? (i := 672) (by decide +kernel)⟩
def lw_privs_1 : List (MethodName × Nat) := [(⟨"MiddleScale", "rowsLeft", "()LMiddleScale$RowSet;"⟩, 15), (⟨"MiddleScale", "allRows", "()LMiddleScale$AllRows;"⟩, 15), (⟨"MiddleScale$AllRows", "put", "(I[I)V"⟩, 9), (⟨"MiddleScale$AllRows", "turnToNext", "([I)V"⟩, 9), (⟨"MiddleScale$AllRows", "fillHeavier", "(II)V"⟩, 9), (⟨"MiddleScale$Layings", "fillSets", "()V"⟩, 9), (⟨"MiddleScale$Layings", "turned", "(I)I"⟩, 9), (⟨"MiddleScale$Layings", "fillRising", "(LMiddleScale$AllRows;II[J)V"⟩, 9), (⟨"MiddleScale$Fitting", "borne", "(LMiddleScale$Store;III)J"⟩, 1), (⟨"MiddleScale", "rowsAtEnd", "(I)I"⟩, 15), (⟨"MiddleScale$Fitting", "proofOf", "([LMiddleScale$RowSet;IIII)I"⟩, 1), (⟨"MiddleScale", "sizeWithout", "(I)I"⟩, 15), (⟨"MiddleScale", "mayRise", "(I)I"⟩, 15), (⟨"MiddleScale", "walked", "(II)I"⟩, 15), (⟨"MiddleScale$Walk", "go", "(LMiddleScale$AllRows;LMiddleScale$Layings;[LMiddleScale$RowSet;II)V"⟩, 3), (⟨"MiddleScale$Layings", "evenSpread", "(I)I"⟩, 9)]
theorem lw_r1 : ∀ q ∈ lw_privs_1, lw_okq q := List.forall_mem_cons.mpr ⟨lw_p0, List.forall_mem_cons.mpr ⟨lw_p1, List.forall_mem_cons.mpr ⟨lw_p2, List.forall_mem_cons.mpr ⟨lw_p3, List.forall_mem_cons.mpr ⟨lw_p4, List.forall_mem_cons.mpr ⟨lw_p5, List.forall_mem_cons.mpr ⟨lw_p6, List.forall_mem_cons.mpr ⟨lw_p7, List.forall_mem_cons.mpr ⟨lw_p8, List.forall_mem_cons.mpr ⟨lw_p9, List.forall_mem_cons.mpr ⟨lw_p10, List.forall_mem_cons.mpr ⟨lw_p11, List.forall_mem_cons.mpr ⟨lw_p12, List.forall_mem_cons.mpr ⟨lw_p13, List.forall_mem_cons.mpr ⟨lw_p14, List.forall_mem_cons.mpr ⟨lw_p15, fun _ h => absurd h List.not_mem_nil⟩⟩⟩⟩⟩⟩⟩⟩⟩⟩⟩⟩⟩⟩⟩⟩
theorem lw_p16 : lw_okq (⟨"MiddleScale$Reader", "skipBlanks", "()V"⟩, 6) := ⟨⟨by decide +kernel, by decide +kernel⟩, List.mem_of_getElem? (i := 39) (by decide +kernel), List.mem_of_getElem? (i := 764) (by decide +kernel), List.mem_of_getElem? (i := 765) (by decide +kernel)⟩
theorem lw_p17 : lw_okq (⟨"MiddleScale$Reader", "readLine", "(I)Z"⟩, 6) := ⟨⟨by decide +kernel, by decide +kernel⟩, List.mem_of_getElem? (i := 39) (by decide +kernel), List.mem_of_getElem? (i := 772) (by decide +kernel), List.mem_of_getElem? (i := 773) (by decide +kernel)⟩
theorem lw_p18 : lw_okq (⟨"MiddleScale$Reader", "refuse", "(I)Z"⟩, 6) := ⟨⟨by decide +kernel, by decide +kernel⟩, List.mem_of_getElem? (i := 39) (by decide +kernel), List.mem_of_getElem? (i := 776) (by decide +kernel), List.mem_of_getElem? (i := 777) (by decide +kernel)⟩
theorem lw_p19 : lw_okq (⟨"MiddleScale$Reader", "readWord", "(Ljava/lang/String;)Z"⟩, 6) := ⟨⟨by decide +kernel, by decide +kernel⟩, List.mem_of_getElem? (i := 39) (by decide +kernel), List.mem_of_getElem? (i := 781) (by decide +kernel), List.mem_of_getElem? (i := 782) (by decide +kernel)⟩
theorem lw_p20 : lw_okq (⟨"MiddleScale$Reader", "readThings", "()Z"⟩, 6) := ⟨⟨by decide +kernel, by decide +kernel⟩, List.mem_of_getElem? (i := 39) (by decide +kernel), List.mem_of_getElem? (i := 836) (by decide +kernel), List.mem_of_getElem? (i := 837) (by decide +kernel)⟩
theorem lw_p21 : lw_okq (⟨"MiddleScale$Reader", "readNumber", "(II)I"⟩, 6) := ⟨⟨by decide +kernel, by decide +kernel⟩, List.mem_of_getElem? (i := 39) (by decide +kernel), List.mem_of_getElem? (i := 840) (by decide +kernel), List.mem_of_getElem? (i := 841) (by decide +kernel)⟩
theorem lw_p22 : lw_okq (⟨"MiddleScale$Reader", "readScale", "()Z"⟩, 6) := ⟨⟨by decide +kernel, by decide +kernel⟩, List.mem_of_getElem? (i := 39) (by decide +kernel), List.mem_of_getElem? (i := 853) (by decide +kernel), List.mem_of_getElem? (i := 854) (by decide +kernel)⟩
theorem lw_p23 : lw_okq (⟨"MiddleScale$Reader", "readKind", "()I"⟩, 6) := ⟨⟨by decide +kernel, by decide +kernel⟩, List.mem_of_getElem? (i := 39) (by decide +kernel), List.mem_of_getElem? (i := 857) (by decide +kernel), List.mem_of_getElem? (i := 858) (by decide +kernel)⟩
theorem lw_p24 : lw_okq (⟨"MiddleScale$Reader", "readWeight", "()Z"⟩, 6) := ⟨⟨by decide +kernel, by decide +kernel⟩, List.mem_of_getElem? (i := 39) (by decide +kernel), List.mem_of_getElem? (i := 869) (by decide +kernel), List.mem_of_getElem? (i := 870) (by decide +kernel)⟩
theorem lw_p25 : lw_okq (⟨"MiddleScale$Reader", "readNote", "()Z"⟩, 6) := ⟨⟨by decide +kernel, by decide +kernel⟩, List.mem_of_getElem? (i := 39) (by decide +kernel), List.mem_of_getElem? (i := 874) (by decide +kernel), List.mem_of_getElem? (i := 875) (by decide +kernel)⟩
theorem lw_p26 : lw_okq (⟨"MiddleScale$Reader", "readThing", "(IZ)I"⟩, 6) := ⟨⟨by decide +kernel, by decide +kernel⟩, List.mem_of_getElem? (i := 39) (by decide +kernel), List.mem_of_getElem? (i := 879) (by decide +kernel), List.mem_of_getElem? (i := 880) (by decide +kernel)⟩
theorem lw_p27 : lw_okq (⟨"MiddleScale$Reader", "goesOn", "()Z"⟩, 6) := ⟨⟨by decide +kernel, by decide +kernel⟩, List.mem_of_getElem? (i := 39) (by decide +kernel), List.mem_of_getElem? (i := 889) (by decide +kernel), List.mem_of_getElem? (i := 890) (by decide +kernel)⟩
theorem lw_p28 : lw_okq (⟨"java/lang/Throwable", "fillInStackTrace", "(I)Ljava/lang/Throwable;"⟩, 6) := ⟨⟨by decide +kernel, by decide +kernel⟩, List.mem_of_getElem? (i := 933) (by decide +kernel), List.mem_of_getElem? (i := 931) (by decide +kernel), List.mem_of_getElem? (i := 932) (by decide +kernel)⟩
theorem lw_p29 : lw_okq (⟨"MiddleScale", "needThing", "(I)V"⟩, 15) := ⟨⟨by decide +kernel, by decide +kernel⟩, List.mem_of_getElem? (i := 31) (by decide +kernel), List.mem_of_getElem? (i := 1026) (by decide +kernel), List.mem_of_getElem? (i := 1027) (by decide +kernel)⟩
theorem lw_p30 : lw_okq (⟨"MiddleScale", "needScale", "(I)V"⟩, 15) := ⟨⟨by decide +kernel, by decide +kernel⟩, List.mem_of_getElem? (i := 31) (by decide +kernel), List.mem_of_getElem? (i := 1058) (by decide +kernel), List.mem_of_getElem? (i := 1059) (by decide +kernel)⟩
theorem lw_p31 : lw_okq (⟨"MiddleScale", "needLoad", "(II)V"⟩, 15) := ⟨⟨by decide +kernel, by decide +kernel⟩, List.mem_of_getElem? (i := 31) (by decide +kernel), List.mem_of_getElem? (i := 1063) (by decide +kernel), List.mem_of_getElem? (i := 1064) (by decide +kernel)⟩
def lw_privs_2 : List (MethodName × Nat) := [(⟨"MiddleScale$Reader", "skipBlanks", "()V"⟩, 6), (⟨"MiddleScale$Reader", "readLine", "(I)Z"⟩, 6), (⟨"MiddleScale$Reader", "refuse", "(I)Z"⟩, 6), (⟨"MiddleScale$Reader", "readWord", "(Ljava/lang/String;)Z"⟩, 6), (⟨"MiddleScale$Reader", "readThings", "()Z"⟩, 6), (⟨"MiddleScale$Reader", "readNumber", "(II)I"⟩, 6), (⟨"MiddleScale$Reader", "readScale", "()Z"⟩, 6), (⟨"MiddleScale$Reader", "readKind", "()I"⟩, 6), (⟨"MiddleScale$Reader", "readWeight", "()Z"⟩, 6), (⟨"MiddleScale$Reader", "readNote", "()Z"⟩, 6), (⟨"MiddleScale$Reader", "readThing", "(IZ)I"⟩, 6), (⟨"MiddleScale$Reader", "goesOn", "()Z"⟩, 6), (⟨"java/lang/Throwable", "fillInStackTrace", "(I)Ljava/lang/Throwable;"⟩, 6), (⟨"MiddleScale", "needThing", "(I)V"⟩, 15), (⟨"MiddleScale", "needScale", "(I)V"⟩, 15), (⟨"MiddleScale", "needLoad", "(II)V"⟩, 15)]
theorem lw_r2 : ∀ q ∈ lw_privs_2, lw_okq q := List.forall_mem_cons.mpr ⟨lw_p16, List.forall_mem_cons.mpr ⟨lw_p17, List.forall_mem_cons.mpr ⟨lw_p18, List.forall_mem_cons.mpr ⟨lw_p19, List.forall_mem_cons.mpr ⟨lw_p20, List.forall_mem_cons.mpr ⟨lw_p21, List.forall_mem_cons.mpr ⟨lw_p22, List.forall_mem_cons.mpr ⟨lw_p23, List.forall_mem_cons.mpr ⟨lw_p24, List.forall_mem_cons.mpr ⟨lw_p25, List.forall_mem_cons.mpr ⟨lw_p26, List.forall_mem_cons.mpr ⟨lw_p27, List.forall_mem_cons.mpr ⟨lw_p28, List.forall_mem_cons.mpr ⟨lw_p29, List.forall_mem_cons.mpr ⟨lw_p30, List.forall_mem_cons.mpr ⟨lw_p31, fun _ h => absurd h List.not_mem_nil⟩⟩⟩⟩⟩⟩⟩⟩⟩⟩⟩⟩⟩⟩⟩⟩
theorem lw_p32 : lw_okq (⟨"MiddleScale", "needNote", "(I)V"⟩, 15) := ⟨⟨by decide +kernel, by decide +kernel⟩, List.mem_of_getElem? (i := 31) (by decide +kernel), List.mem_of_getElem? (i := 1093) (by decide +kernel), List.mem_of_getElem? (i := 1094) (by decide +kernel)⟩
theorem lw_p33 : lw_okq (⟨"MiddleScale", "toldRow", "()I"⟩, 15) := ⟨⟨by decide +kernel, by decide +kernel⟩, List.mem_of_getElem? (i := 31) (by decide +kernel), List.mem_of_getElem? (i := 1143) (by decide +kernel), List.mem_of_getElem? (i := 1144) (by decide +kernel)⟩
theorem lw_p34 : lw_okq (⟨"MiddleScale", "needThree", "(I)V"⟩, 15) := ⟨⟨by decide +kernel, by decide +kernel⟩, List.mem_of_getElem? (i := 31) (by decide +kernel), List.mem_of_getElem? (i := 1163) (by decide +kernel), List.mem_of_getElem? (i := 1164) (by decide +kernel)⟩
theorem lw_p35 : lw_okq (⟨"MiddleScale", "rowsHeavier", "(II)I"⟩, 15) := ⟨⟨by decide +kernel, by decide +kernel⟩, List.mem_of_getElem? (i := 31) (by decide +kernel), List.mem_of_getElem? (i := 1175) (by decide +kernel), List.mem_of_getElem? (i := 1176) (by decide +kernel)⟩
theorem lw_p36 : lw_okq (⟨"MiddleScale", "sizeHadRisen", "(II)I"⟩, 15) := ⟨⟨by decide +kernel, by decide +kernel⟩, List.mem_of_getElem? (i := 31) (by decide +kernel), List.mem_of_getElem? (i := 1196) (by decide +kernel), List.mem_of_getElem? (i := 1197) (by decide +kernel)⟩
theorem lw_p37 : lw_okq (⟨"MiddleScale$AllRows", "swapsBetween", "(II)I"⟩, 9) := ⟨⟨by decide +kernel, by decide +kernel⟩, List.mem_of_getElem? (i := 309) (by decide +kernel), List.mem_of_getElem? (i := 1212) (by decide +kernel), List.mem_of_getElem? (i := 1213) (by decide +kernel)⟩
theorem lw_p38 : lw_okq (⟨"MiddleScale", "layingsOf", "(I)LMiddleScale$Layings;"⟩, 15) := ⟨⟨by decide +kernel, by decide +kernel⟩, List.mem_of_getElem? (i := 31) (by decide +kernel), List.mem_of_getElem? (i := 1234) (by decide +kernel), List.mem_of_getElem? (i := 1235) (by decide +kernel)⟩
theorem lw_p39 : lw_okq (⟨"MiddleScale$Learner", "canLearn", "(LMiddleScale$AllRows;LMiddleScale$Layings;[LMiddleScale$RowSet;II)Z"⟩, 1) := ⟨⟨by decide +kernel, by decide +kernel⟩, List.mem_of_getElem? (i := 205) (by decide +kernel), List.mem_of_getElem? (i := 1264) (by decide +kernel), List.mem_of_getElem? (i := 1265) (by decide +kernel)⟩
theorem lw_p40 : lw_okq (⟨"MiddleScale$Learner", "isEnough", "(LMiddleScale$AllRows;LMiddleScale$Layings;[LMiddleScale$RowSet;III)Z"⟩, 1) := ⟨⟨by decide +kernel, by decide +kernel⟩, List.mem_of_getElem? (i := 205) (by decide +kernel), List.mem_of_getElem? (i := 1281) (by decide +kernel), List.mem_of_getElem? (i := 1282) (by decide +kernel)⟩
theorem lw_p41 : lw_okq (⟨"MiddleScale$Sorter", "lift", "(LMiddleScale$Store;III)I"⟩, 2) := ⟨⟨by decide +kernel, by decide +kernel⟩, List.mem_of_getElem? (i := 215) (by decide +kernel), List.mem_of_getElem? (i := 1331) (by decide +kernel), List.mem_of_getElem? (i := 1332) (by decide +kernel)⟩
theorem lw_p42 : lw_okq (⟨"MiddleScale$Sorter", "placeOf", "(LMiddleScale$Store;I)I"⟩, 2) := ⟨⟨by decide +kernel, by decide +kernel⟩, List.mem_of_getElem? (i := 215) (by decide +kernel), List.mem_of_getElem? (i := 1336) (by decide +kernel), List.mem_of_getElem? (i := 1337) (by decide +kernel)⟩
theorem lw_p43 : lw_okq (⟨"MiddleScale", "play", "(LMiddleScale$RowSet;III)I"⟩, 15) := ⟨⟨by decide +kernel, by decide +kernel⟩, List.mem_of_getElem? (i := 31) (by decide +kernel), List.mem_of_getElem? (i := 1356) (by decide +kernel), List.mem_of_getElem? (i := 1357) (by decide +kernel)⟩
theorem lw_p44 : lw_okq (⟨"MiddleScaleModel", "uses", "()V"⟩, 39) := ⟨⟨by decide +kernel, by decide +kernel⟩, List.mem_of_getElem? (i := 1414) (by decide +kernel), List.mem_of_getElem? (i := 1566) (by decide +kernel), List.mem_of_getElem? (i := 1567) (by decide +kernel)⟩
theorem lw_p45 : lw_okq (⟨"MiddleScaleModel", "readAll", "()Z"⟩, 39) := ⟨⟨by decide +kernel, by decide +kernel⟩, List.mem_of_getElem? (i := 1414) (by decide +kernel), List.mem_of_getElem? (i := 1570) (by decide +kernel), List.mem_of_getElem? (i := 1571) (by decide +kernel)⟩
theorem lw_p46 : lw_okq (⟨"MiddleScaleModel", "blanks", "()V"⟩, 39) := ⟨⟨by decide +kernel, by decide +kernel⟩, List.mem_of_getElem? (i := 1414) (by decide +kernel), List.mem_of_getElem? (i := 1574) (by decide +kernel), List.mem_of_getElem? (i := 1575) (by decide +kernel)⟩
theorem lw_p47 : lw_okq (⟨"MiddleScaleModel", "isAt", "(II)Z"⟩, 39) := ⟨⟨by decide +kernel, by decide +kernel⟩, List.mem_of_getElem? (i := 1414) (by decide +kernel), List.mem_of_getElem? (i := 1578) (by decide +kernel), List.mem_of_getElem? (i := 1579) (by decide +kernel)⟩
def lw_privs_3 : List (MethodName × Nat) := [(⟨"MiddleScale", "needNote", "(I)V"⟩, 15), (⟨"MiddleScale", "toldRow", "()I"⟩, 15), (⟨"MiddleScale", "needThree", "(I)V"⟩, 15), (⟨"MiddleScale", "rowsHeavier", "(II)I"⟩, 15), (⟨"MiddleScale", "sizeHadRisen", "(II)I"⟩, 15), (⟨"MiddleScale$AllRows", "swapsBetween", "(II)I"⟩, 9), (⟨"MiddleScale", "layingsOf", "(I)LMiddleScale$Layings;"⟩, 15), (⟨"MiddleScale$Learner", "canLearn", "(LMiddleScale$AllRows;LMiddleScale$Layings;[LMiddleScale$RowSet;II)Z"⟩, 1), (⟨"MiddleScale$Learner", "isEnough", "(LMiddleScale$AllRows;LMiddleScale$Layings;[LMiddleScale$RowSet;III)Z"⟩, 1), (⟨"MiddleScale$Sorter", "lift", "(LMiddleScale$Store;III)I"⟩, 2), (⟨"MiddleScale$Sorter", "placeOf", "(LMiddleScale$Store;I)I"⟩, 2), (⟨"MiddleScale", "play", "(LMiddleScale$RowSet;III)I"⟩, 15), (⟨"MiddleScaleModel", "uses", "()V"⟩, 39), (⟨"MiddleScaleModel", "readAll", "()Z"⟩, 39), (⟨"MiddleScaleModel", "blanks", "()V"⟩, 39), (⟨"MiddleScaleModel", "isAt", "(II)Z"⟩, 39)]
theorem lw_r3 : ∀ q ∈ lw_privs_3, lw_okq q := List.forall_mem_cons.mpr ⟨lw_p32, List.forall_mem_cons.mpr ⟨lw_p33, List.forall_mem_cons.mpr ⟨lw_p34, List.forall_mem_cons.mpr ⟨lw_p35, List.forall_mem_cons.mpr ⟨lw_p36, List.forall_mem_cons.mpr ⟨lw_p37, List.forall_mem_cons.mpr ⟨lw_p38, List.forall_mem_cons.mpr ⟨lw_p39, List.forall_mem_cons.mpr ⟨lw_p40, List.forall_mem_cons.mpr ⟨lw_p41, List.forall_mem_cons.mpr ⟨lw_p42, List.forall_mem_cons.mpr ⟨lw_p43, List.forall_mem_cons.mpr ⟨lw_p44, List.forall_mem_cons.mpr ⟨lw_p45, List.forall_mem_cons.mpr ⟨lw_p46, List.forall_mem_cons.mpr ⟨lw_p47, fun _ h => absurd h List.not_mem_nil⟩⟩⟩⟩⟩⟩⟩⟩⟩⟩⟩⟩⟩⟩⟩⟩
theorem lw_p48 : lw_okq (⟨"MiddleScaleModel", "readLine", "(I)Z"⟩, 39) := ⟨⟨by decide +kernel, by decide +kernel⟩, List.mem_of_getElem? (i := 1414) (by decide +kernel), List.mem_of_getElem? (i := 1582) (by decide +kernel), List.mem_of_getElem? (i := 1583) (by decide +kernel)⟩
theorem lw_p49 : lw_okq (⟨"MiddleScaleModel", "letters", "()V"⟩, 39) := ⟨⟨by decide +kernel, by decide +kernel⟩, List.mem_of_getElem? (i := 1414) (by decide +kernel), List.mem_of_getElem? (i := 1586) (by decide +kernel), List.mem_of_getElem? (i := 1587) (by decide +kernel)⟩
theorem lw_p50 : lw_okq (⟨"MiddleScaleModel", "isWord", "(Ljava/lang/String;)Z"⟩, 39) := ⟨⟨by decide +kernel, by decide +kernel⟩, List.mem_of_getElem? (i := 1414) (by decide +kernel), List.mem_of_getElem? (i := 1591) (by decide +kernel), List.mem_of_getElem? (i := 1592) (by decide +kernel)⟩
theorem lw_p51 : lw_okq (⟨"MiddleScaleModel", "readThings", "()Z"⟩, 39) := ⟨⟨by decide +kernel, by decide +kernel⟩, List.mem_of_getElem? (i := 1414) (by decide +kernel), List.mem_of_getElem? (i := 1597) (by decide +kernel), List.mem_of_getElem? (i := 1598) (by decide +kernel)⟩
theorem lw_p52 : lw_okq (⟨"MiddleScaleModel", "number", "(II)I"⟩, 39) := ⟨⟨by decide +kernel, by decide +kernel⟩, List.mem_of_getElem? (i := 1414) (by decide +kernel), List.mem_of_getElem? (i := 1601) (by decide +kernel), List.mem_of_getElem? (i := 1602) (by decide +kernel)⟩
theorem lw_p53 : lw_okq (⟨"MiddleScaleModel", "readScale", "()Z"⟩, 39) := ⟨⟨by decide +kernel, by decide +kernel⟩, List.mem_of_getElem? (i := 1414) (by decide +kernel), List.mem_of_getElem? (i := 1609) (by decide +kernel), List.mem_of_getElem? (i := 1610) (by decide +kernel)⟩
theorem lw_p54 : lw_okq (⟨"MiddleScaleModel", "readNote", "()Z"⟩, 39) := ⟨⟨by decide +kernel, by decide +kernel⟩, List.mem_of_getElem? (i := 1414) (by decide +kernel), List.mem_of_getElem? (i := 1617) (by decide +kernel), List.mem_of_getElem? (i := 1618) (by decide +kernel)⟩
theorem lw_p55 : lw_okq (⟨"MiddleScaleModel", "drafted", "()I"⟩, 39) := ⟨⟨by decide +kernel, by decide +kernel⟩, List.mem_of_getElem? (i := 1414) (by decide +kernel), List.mem_of_getElem? (i := 1624) (by decide +kernel), List.mem_of_getElem? (i := 1625) (by decide +kernel)⟩
theorem lw_p56 : lw_okq (⟨"MiddleScaleModel", "throwsIf", "(ZI)Z"⟩, 39) := ⟨⟨by decide +kernel, by decide +kernel⟩, List.mem_of_getElem? (i := 1414) (by decide +kernel), List.mem_of_getElem? (i := 1630) (by decide +kernel), List.mem_of_getElem? (i := 1631) (by decide +kernel)⟩
theorem lw_p57 : lw_okq (⟨"MiddleScaleModel", "notes", "()I"⟩, 39) := ⟨⟨by decide +kernel, by decide +kernel⟩, List.mem_of_getElem? (i := 1414) (by decide +kernel), List.mem_of_getElem? (i := 1641) (by decide +kernel), List.mem_of_getElem? (i := 1642) (by decide +kernel)⟩
theorem lw_p58 : lw_okq (⟨"MiddleScaleModel", "noThing", "(I)Z"⟩, 39) := ⟨⟨by decide +kernel, by decide +kernel⟩, List.mem_of_getElem? (i := 1414) (by decide +kernel), List.mem_of_getElem? (i := 1653) (by decide +kernel), List.mem_of_getElem? (i := 1654) (by decide +kernel)⟩
theorem lw_p59 : lw_okq (⟨"MiddleScaleModel", "things", "()I"⟩, 39) := ⟨⟨by decide +kernel, by decide +kernel⟩, List.mem_of_getElem? (i := 1414) (by decide +kernel), List.mem_of_getElem? (i := 1657) (by decide +kernel), List.mem_of_getElem? (i := 1658) (by decide +kernel)⟩
theorem lw_p60 : lw_okq (⟨"MiddleScaleModel", "noScale", "(I)Z"⟩, 39) := ⟨⟨by decide +kernel, by decide +kernel⟩, List.mem_of_getElem? (i := 1414) (by decide +kernel), List.mem_of_getElem? (i := 1665) (by decide +kernel), List.mem_of_getElem? (i := 1666) (by decide +kernel)⟩
theorem lw_p61 : lw_okq (⟨"MiddleScaleModel", "isNoSet", "(II)Z"⟩, 39) := ⟨⟨by decide +kernel, by decide +kernel⟩, List.mem_of_getElem? (i := 1414) (by decide +kernel), List.mem_of_getElem? (i := 1669) (by decide +kernel), List.mem_of_getElem? (i := 1670) (by decide +kernel)⟩
theorem lw_p62 : lw_okq (⟨"MiddleScaleModel", "pans", "(I)I"⟩, 39) := ⟨⟨by decide +kernel, by decide +kernel⟩, List.mem_of_getElem? (i := 1414) (by decide +kernel), List.mem_of_getElem? (i := 1674) (by decide +kernel), List.mem_of_getElem? (i := 1675) (by decide +kernel)⟩
theorem lw_p63 : lw_okq (⟨"MiddleScaleModel", "ofScale", "(II)I"⟩, 39) := ⟨⟨by decide +kernel, by decide +kernel⟩, List.mem_of_getElem? (i := 1414) (by decide +kernel), List.mem_of_getElem? (i := 1678) (by decide +kernel), List.mem_of_getElem? (i := 1679) (by decide +kernel)⟩
def lw_privs_4 : List (MethodName × Nat) := [(⟨"MiddleScaleModel", "readLine", "(I)Z"⟩, 39), (⟨"MiddleScaleModel", "letters", "()V"⟩, 39), (⟨"MiddleScaleModel", "isWord", "(Ljava/lang/String;)Z"⟩, 39), (⟨"MiddleScaleModel", "readThings", "()Z"⟩, 39), (⟨"MiddleScaleModel", "number", "(II)I"⟩, 39), (⟨"MiddleScaleModel", "readScale", "()Z"⟩, 39), (⟨"MiddleScaleModel", "readNote", "()Z"⟩, 39), (⟨"MiddleScaleModel", "drafted", "()I"⟩, 39), (⟨"MiddleScaleModel", "throwsIf", "(ZI)Z"⟩, 39), (⟨"MiddleScaleModel", "notes", "()I"⟩, 39), (⟨"MiddleScaleModel", "noThing", "(I)Z"⟩, 39), (⟨"MiddleScaleModel", "things", "()I"⟩, 39), (⟨"MiddleScaleModel", "noScale", "(I)Z"⟩, 39), (⟨"MiddleScaleModel", "isNoSet", "(II)Z"⟩, 39), (⟨"MiddleScaleModel", "pans", "(I)I"⟩, 39), (⟨"MiddleScaleModel", "ofScale", "(II)I"⟩, 39)]
theorem lw_r4 : ∀ q ∈ lw_privs_4, lw_okq q := List.forall_mem_cons.mpr ⟨lw_p48, List.forall_mem_cons.mpr ⟨lw_p49, List.forall_mem_cons.mpr ⟨lw_p50, List.forall_mem_cons.mpr ⟨lw_p51, List.forall_mem_cons.mpr ⟨lw_p52, List.forall_mem_cons.mpr ⟨lw_p53, List.forall_mem_cons.mpr ⟨lw_p54, List.forall_mem_cons.mpr ⟨lw_p55, List.forall_mem_cons.mpr ⟨lw_p56, List.forall_mem_cons.mpr ⟨lw_p57, List.forall_mem_cons.mpr ⟨lw_p58, List.forall_mem_cons.mpr ⟨lw_p59, List.forall_mem_cons.mpr ⟨lw_p60, List.forall_mem_cons.mpr ⟨lw_p61, List.forall_mem_cons.mpr ⟨lw_p62, List.forall_mem_cons.mpr ⟨lw_p63, fun _ h => absurd h List.not_mem_nil⟩⟩⟩⟩⟩⟩⟩⟩⟩⟩⟩⟩⟩⟩⟩⟩
theorem lw_p64 : lw_okq (⟨"MiddleScaleModel", "truly", "(II)I"⟩, 39) := ⟨⟨by decide +kernel, by decide +kernel⟩, List.mem_of_getElem? (i := 1414) (by decide +kernel), List.mem_of_getElem? (i := 1682) (by decide +kernel), List.mem_of_getElem? (i := 1683) (by decide +kernel)⟩
theorem lw_p65 : lw_okq (⟨"MiddleScaleModel", "outweighs", "(II)Z"⟩, 39) := ⟨⟨by decide +kernel, by decide +kernel⟩, List.mem_of_getElem? (i := 1414) (by decide +kernel), List.mem_of_getElem? (i := 1686) (by decide +kernel), List.mem_of_getElem? (i := 1687) (by decide +kernel)⟩
theorem lw_p66 : lw_okq (⟨"MiddleScaleModel", "noNote", "(I)Z"⟩, 39) := ⟨⟨by decide +kernel, by decide +kernel⟩, List.mem_of_getElem? (i := 1414) (by decide +kernel), List.mem_of_getElem? (i := 1701) (by decide +kernel), List.mem_of_getElem? (i := 1702) (by decide +kernel)⟩
theorem lw_p67 : lw_okq (⟨"MiddleScaleModel", "ofNote", "(II)I"⟩, 39) := ⟨⟨by decide +kernel, by decide +kernel⟩, List.mem_of_getElem? (i := 1414) (by decide +kernel), List.mem_of_getElem? (i := 1705) (by decide +kernel), List.mem_of_getElem? (i := 1706) (by decide +kernel)⟩
theorem lw_p68 : lw_okq (⟨"MiddleScaleModel", "drops", "(I)V"⟩, 39) := ⟨⟨by decide +kernel, by decide +kernel⟩, List.mem_of_getElem? (i := 1414) (by decide +kernel), List.mem_of_getElem? (i := 1713) (by decide +kernel), List.mem_of_getElem? (i := 1714) (by decide +kernel)⟩
theorem lw_p69 : lw_okq (⟨"MiddleScaleModel", "leaves", "()V"⟩, 39) := ⟨⟨by decide +kernel, by decide +kernel⟩, List.mem_of_getElem? (i := 1414) (by decide +kernel), List.mem_of_getElem? (i := 1721) (by decide +kernel), List.mem_of_getElem? (i := 1722) (by decide +kernel)⟩
theorem lw_p70 : lw_okq (⟨"MiddleScaleModel", "fills", "()V"⟩, 39) := ⟨⟨by decide +kernel, by decide +kernel⟩, List.mem_of_getElem? (i := 1414) (by decide +kernel), List.mem_of_getElem? (i := 1725) (by decide +kernel), List.mem_of_getElem? (i := 1726) (by decide +kernel)⟩
theorem lw_p71 : lw_okq (⟨"MiddleScaleModel", "follows", "(III)Z"⟩, 39) := ⟨⟨by decide +kernel, by decide +kernel⟩, List.mem_of_getElem? (i := 1414) (by decide +kernel), List.mem_of_getElem? (i := 1729) (by decide +kernel), List.mem_of_getElem? (i := 1730) (by decide +kernel)⟩
theorem lw_p72 : lw_okq (⟨"MiddleScaleModel", "fitsAll", "(II)Z"⟩, 39) := ⟨⟨by decide +kernel, by decide +kernel⟩, List.mem_of_getElem? (i := 1414) (by decide +kernel), List.mem_of_getElem? (i := 1733) (by decide +kernel), List.mem_of_getElem? (i := 1734) (by decide +kernel)⟩
theorem lw_p73 : lw_okq (⟨"MiddleScaleModel", "fitsNote", "(II)Z"⟩, 39) := ⟨⟨by decide +kernel, by decide +kernel⟩, List.mem_of_getElem? (i := 1414) (by decide +kernel), List.mem_of_getElem? (i := 1737) (by decide +kernel), List.mem_of_getElem? (i := 1738) (by decide +kernel)⟩
theorem lw_p74 : lw_okq (⟨"MiddleScaleModel", "riser", "(III)I"⟩, 39) := ⟨⟨by decide +kernel, by decide +kernel⟩, List.mem_of_getElem? (i := 1414) (by decide +kernel), List.mem_of_getElem? (i := 1741) (by decide +kernel), List.mem_of_getElem? (i := 1742) (by decide +kernel)⟩
theorem lw_p75 : lw_okq (⟨"MiddleScaleModel", "at", "(II)I"⟩, 39) := ⟨⟨by decide +kernel, by decide +kernel⟩, List.mem_of_getElem? (i := 1414) (by decide +kernel), List.mem_of_getElem? (i := 1745) (by decide +kernel), List.mem_of_getElem? (i := 1746) (by decide +kernel)⟩
theorem lw_p76 : lw_okq (⟨"MiddleScaleModel", "rowAt", "(II)I"⟩, 39) := ⟨⟨by decide +kernel, by decide +kernel⟩, List.mem_of_getElem? (i := 1414) (by decide +kernel), List.mem_of_getElem? (i := 1753) (by decide +kernel), List.mem_of_getElem? (i := 1754) (by decide +kernel)⟩
theorem lw_p77 : lw_okq (⟨"MiddleScaleModel", "tapedRow", "()I"⟩, 39) := ⟨⟨by decide +kernel, by decide +kernel⟩, List.mem_of_getElem? (i := 1414) (by decide +kernel), List.mem_of_getElem? (i := 1761) (by decide +kernel), List.mem_of_getElem? (i := 1762) (by decide +kernel)⟩
theorem lw_p78 : lw_okq (⟨"MiddleScaleModel", "isNoThree", "(I)Z"⟩, 39) := ⟨⟨by decide +kernel, by decide +kernel⟩, List.mem_of_getElem? (i := 1414) (by decide +kernel), List.mem_of_getElem? (i := 1769) (by decide +kernel), List.mem_of_getElem? (i := 1770) (by decide +kernel)⟩
theorem lw_p79 : lw_okq (⟨"MiddleScaleModel", "heavierIn", "(II)I"⟩, 39) := ⟨⟨by decide +kernel, by decide +kernel⟩, List.mem_of_getElem? (i := 1414) (by decide +kernel), List.mem_of_getElem? (i := 1777) (by decide +kernel), List.mem_of_getElem? (i := 1778) (by decide +kernel)⟩
def lw_privs_5 : List (MethodName × Nat) := [(⟨"MiddleScaleModel", "truly", "(II)I"⟩, 39), (⟨"MiddleScaleModel", "outweighs", "(II)Z"⟩, 39), (⟨"MiddleScaleModel", "noNote", "(I)Z"⟩, 39), (⟨"MiddleScaleModel", "ofNote", "(II)I"⟩, 39), (⟨"MiddleScaleModel", "drops", "(I)V"⟩, 39), (⟨"MiddleScaleModel", "leaves", "()V"⟩, 39), (⟨"MiddleScaleModel", "fills", "()V"⟩, 39), (⟨"MiddleScaleModel", "follows", "(III)Z"⟩, 39), (⟨"MiddleScaleModel", "fitsAll", "(II)Z"⟩, 39), (⟨"MiddleScaleModel", "fitsNote", "(II)Z"⟩, 39), (⟨"MiddleScaleModel", "riser", "(III)I"⟩, 39), (⟨"MiddleScaleModel", "at", "(II)I"⟩, 39), (⟨"MiddleScaleModel", "rowAt", "(II)I"⟩, 39), (⟨"MiddleScaleModel", "tapedRow", "()I"⟩, 39), (⟨"MiddleScaleModel", "isNoThree", "(I)Z"⟩, 39), (⟨"MiddleScaleModel", "heavierIn", "(II)I"⟩, 39)]
theorem lw_r5 : ∀ q ∈ lw_privs_5, lw_okq q := List.forall_mem_cons.mpr ⟨lw_p64, List.forall_mem_cons.mpr ⟨lw_p65, List.forall_mem_cons.mpr ⟨lw_p66, List.forall_mem_cons.mpr ⟨lw_p67, List.forall_mem_cons.mpr ⟨lw_p68, List.forall_mem_cons.mpr ⟨lw_p69, List.forall_mem_cons.mpr ⟨lw_p70, List.forall_mem_cons.mpr ⟨lw_p71, List.forall_mem_cons.mpr ⟨lw_p72, List.forall_mem_cons.mpr ⟨lw_p73, List.forall_mem_cons.mpr ⟨lw_p74, List.forall_mem_cons.mpr ⟨lw_p75, List.forall_mem_cons.mpr ⟨lw_p76, List.forall_mem_cons.mpr ⟨lw_p77, List.forall_mem_cons.mpr ⟨lw_p78, List.forall_mem_cons.mpr ⟨lw_p79, fun _ h => absurd h List.not_mem_nil⟩⟩⟩⟩⟩⟩⟩⟩⟩⟩⟩⟩⟩⟩⟩⟩
theorem lw_p80 : lw_okq (⟨"MiddleScaleModel", "placeOf", "(II)I"⟩, 39) := ⟨⟨by decide +kernel, by decide +kernel⟩, List.mem_of_getElem? (i := 1414) (by decide +kernel), List.mem_of_getElem? (i := 1781) (by decide +kernel), List.mem_of_getElem? (i := 1782) (by decide +kernel)⟩
theorem lw_p81 : lw_okq (⟨"MiddleScaleModel", "endsNow", "()I"⟩, 39) := ⟨⟨by decide +kernel, by decide +kernel⟩, List.mem_of_getElem? (i := 1414) (by decide +kernel), List.mem_of_getElem? (i := 1793) (by decide +kernel), List.mem_of_getElem? (i := 1794) (by decide +kernel)⟩
theorem lw_p82 : lw_okq (⟨"MiddleScaleModel", "endsOf", "(I)I"⟩, 39) := ⟨⟨by decide +kernel, by decide +kernel⟩, List.mem_of_getElem? (i := 1414) (by decide +kernel), List.mem_of_getElem? (i := 1797) (by decide +kernel), List.mem_of_getElem? (i := 1798) (by decide +kernel)⟩
theorem lw_p83 : lw_okq (⟨"MiddleScaleModel", "listsSets", "(I)V"⟩, 39) := ⟨⟨by decide +kernel, by decide +kernel⟩, List.mem_of_getElem? (i := 1414) (by decide +kernel), List.mem_of_getElem? (i := 1809) (by decide +kernel), List.mem_of_getElem? (i := 1810) (by decide +kernel)⟩
theorem lw_p84 : lw_okq (⟨"MiddleScaleModel", "chosenBits", "(I)I"⟩, 39) := ⟨⟨by decide +kernel, by decide +kernel⟩, List.mem_of_getElem? (i := 1414) (by decide +kernel), List.mem_of_getElem? (i := 1813) (by decide +kernel), List.mem_of_getElem? (i := 1814) (by decide +kernel)⟩
theorem lw_p85 : lw_okq (⟨"MiddleScaleModel", "chooses", "(II)Z"⟩, 39) := ⟨⟨by decide +kernel, by decide +kernel⟩, List.mem_of_getElem? (i := 1414) (by decide +kernel), List.mem_of_getElem? (i := 1817) (by decide +kernel), List.mem_of_getElem? (i := 1818) (by decide +kernel)⟩
theorem lw_p86 : lw_okq (⟨"MiddleScaleModel", "gooseNow", "()I"⟩, 39) := ⟨⟨by decide +kernel, by decide +kernel⟩, List.mem_of_getElem? (i := 1414) (by decide +kernel), List.mem_of_getElem? (i := 1825) (by decide +kernel), List.mem_of_getElem? (i := 1826) (by decide +kernel)⟩
theorem lw_p87 : lw_okq (⟨"MiddleScaleModel", "centreNow", "()I"⟩, 39) := ⟨⟨by decide +kernel, by decide +kernel⟩, List.mem_of_getElem? (i := 1414) (by decide +kernel), List.mem_of_getElem? (i := 1833) (by decide +kernel), List.mem_of_getElem? (i := 1834) (by decide +kernel)⟩
theorem lw_p88 : lw_okq (⟨"MiddleScaleModel", "isKnown", "(I)Z"⟩, 39) := ⟨⟨by decide +kernel, by decide +kernel⟩, List.mem_of_getElem? (i := 1414) (by decide +kernel), List.mem_of_getElem? (i := 1841) (by decide +kernel), List.mem_of_getElem? (i := 1842) (by decide +kernel)⟩
theorem lw_p89 : lw_okq (⟨"MiddleScaleModel", "areMirrors", "(II)Z"⟩, 39) := ⟨⟨by decide +kernel, by decide +kernel⟩, List.mem_of_getElem? (i := 1414) (by decide +kernel), List.mem_of_getElem? (i := 1845) (by decide +kernel), List.mem_of_getElem? (i := 1846) (by decide +kernel)⟩
theorem lw_p90 : lw_okq (⟨"MiddleScaleModel", "finds", "()V"⟩, 39) := ⟨⟨by decide +kernel, by decide +kernel⟩, List.mem_of_getElem? (i := 1414) (by decide +kernel), List.mem_of_getElem? (i := 1853) (by decide +kernel), List.mem_of_getElem? (i := 1854) (by decide +kernel)⟩
theorem lw_p91 : lw_okq (⟨"MiddleScaleModel", "isAgainst", "(I)Z"⟩, 39) := ⟨⟨by decide +kernel, by decide +kernel⟩, List.mem_of_getElem? (i := 1414) (by decide +kernel), List.mem_of_getElem? (i := 1857) (by decide +kernel), List.mem_of_getElem? (i := 1858) (by decide +kernel)⟩
theorem lw_p92 : lw_okq (⟨"MiddleScaleModel", "hasRows", "(I)Z"⟩, 39) := ⟨⟨by decide +kernel, by decide +kernel⟩, List.mem_of_getElem? (i := 1414) (by decide +kernel), List.mem_of_getElem? (i := 1869) (by decide +kernel), List.mem_of_getElem? (i := 1870) (by decide +kernel)⟩
theorem lw_p93 : lw_okq (⟨"MiddleScaleModel", "turned", "(II)I"⟩, 39) := ⟨⟨by decide +kernel, by decide +kernel⟩, List.mem_of_getElem? (i := 1414) (by decide +kernel), List.mem_of_getElem? (i := 1893) (by decide +kernel), List.mem_of_getElem? (i := 1894) (by decide +kernel)⟩
theorem lw_p94 : lw_okq (⟨"MiddleScaleModel", "lays", "(III)V"⟩, 39) := ⟨⟨by decide +kernel, by decide +kernel⟩, List.mem_of_getElem? (i := 1414) (by decide +kernel), List.mem_of_getElem? (i := 1905) (by decide +kernel), List.mem_of_getElem? (i := 1906) (by decide +kernel)⟩
theorem lw_p95 : lw_okq (⟨"MiddleScaleModel", "nextOf", "(II)I"⟩, 39) := ⟨⟨by decide +kernel, by decide +kernel⟩, List.mem_of_getElem? (i := 1414) (by decide +kernel), List.mem_of_getElem? (i := 1914) (by decide +kernel), List.mem_of_getElem? (i := 1915) (by decide +kernel)⟩
def lw_privs_6 : List (MethodName × Nat) := [(⟨"MiddleScaleModel", "placeOf", "(II)I"⟩, 39), (⟨"MiddleScaleModel", "endsNow", "()I"⟩, 39), (⟨"MiddleScaleModel", "endsOf", "(I)I"⟩, 39), (⟨"MiddleScaleModel", "listsSets", "(I)V"⟩, 39), (⟨"MiddleScaleModel", "chosenBits", "(I)I"⟩, 39), (⟨"MiddleScaleModel", "chooses", "(II)Z"⟩, 39), (⟨"MiddleScaleModel", "gooseNow", "()I"⟩, 39), (⟨"MiddleScaleModel", "centreNow", "()I"⟩, 39), (⟨"MiddleScaleModel", "isKnown", "(I)Z"⟩, 39), (⟨"MiddleScaleModel", "areMirrors", "(II)Z"⟩, 39), (⟨"MiddleScaleModel", "finds", "()V"⟩, 39), (⟨"MiddleScaleModel", "isAgainst", "(I)Z"⟩, 39), (⟨"MiddleScaleModel", "hasRows", "(I)Z"⟩, 39), (⟨"MiddleScaleModel", "turned", "(II)I"⟩, 39), (⟨"MiddleScaleModel", "lays", "(III)V"⟩, 39), (⟨"MiddleScaleModel", "nextOf", "(II)I"⟩, 39)]
theorem lw_r6 : ∀ q ∈ lw_privs_6, lw_okq q := List.forall_mem_cons.mpr ⟨lw_p80, List.forall_mem_cons.mpr ⟨lw_p81, List.forall_mem_cons.mpr ⟨lw_p82, List.forall_mem_cons.mpr ⟨lw_p83, List.forall_mem_cons.mpr ⟨lw_p84, List.forall_mem_cons.mpr ⟨lw_p85, List.forall_mem_cons.mpr ⟨lw_p86, List.forall_mem_cons.mpr ⟨lw_p87, List.forall_mem_cons.mpr ⟨lw_p88, List.forall_mem_cons.mpr ⟨lw_p89, List.forall_mem_cons.mpr ⟨lw_p90, List.forall_mem_cons.mpr ⟨lw_p91, List.forall_mem_cons.mpr ⟨lw_p92, List.forall_mem_cons.mpr ⟨lw_p93, List.forall_mem_cons.mpr ⟨lw_p94, List.forall_mem_cons.mpr ⟨lw_p95, fun _ h => absurd h List.not_mem_nil⟩⟩⟩⟩⟩⟩⟩⟩⟩⟩⟩⟩⟩⟩⟩⟩
theorem lw_p96 : lw_okq (⟨"MiddleScaleModel", "learns", "(II)I"⟩, 39) := ⟨⟨by decide +kernel, by decide +kernel⟩, List.mem_of_getElem? (i := 1414) (by decide +kernel), List.mem_of_getElem? (i := 1922) (by decide +kernel), List.mem_of_getElem? (i := 1923) (by decide +kernel)⟩
theorem lw_p97 : lw_okq (⟨"MiddleScaleModel", "plainly", "(III)I"⟩, 39) := ⟨⟨by decide +kernel, by decide +kernel⟩, List.mem_of_getElem? (i := 1414) (by decide +kernel), List.mem_of_getElem? (i := 1926) (by decide +kernel), List.mem_of_getElem? (i := 1927) (by decide +kernel)⟩
theorem lw_p98 : lw_okq (⟨"MiddleScaleModel", "isIdle", "(II)Z"⟩, 39) := ⟨⟨by decide +kernel, by decide +kernel⟩, List.mem_of_getElem? (i := 1414) (by decide +kernel), List.mem_of_getElem? (i := 1934) (by decide +kernel), List.mem_of_getElem? (i := 1935) (by decide +kernel)⟩
theorem lw_p99 : lw_okq (⟨"MiddleScaleModel", "parts", "(IIII)V"⟩, 39) := ⟨⟨by decide +kernel, by decide +kernel⟩, List.mem_of_getElem? (i := 1414) (by decide +kernel), List.mem_of_getElem? (i := 1945) (by decide +kernel), List.mem_of_getElem? (i := 1946) (by decide +kernel)⟩
theorem lw_p100 : lw_okq (⟨"MiddleScaleModel", "walks", "(II)V"⟩, 39) := ⟨⟨by decide +kernel, by decide +kernel⟩, List.mem_of_getElem? (i := 1414) (by decide +kernel), List.mem_of_getElem? (i := 1957) (by decide +kernel), List.mem_of_getElem? (i := 1958) (by decide +kernel)⟩
theorem lw_p101 : lw_okq (⟨"MiddleScaleModel", "arrives", "(III)V"⟩, 39) := ⟨⟨by decide +kernel, by decide +kernel⟩, List.mem_of_getElem? (i := 1414) (by decide +kernel), List.mem_of_getElem? (i := 1961) (by decide +kernel), List.mem_of_getElem? (i := 1962) (by decide +kernel)⟩
theorem lw_p102 : lw_okq (⟨"MiddleScaleModel", "isPlaced", "(II)Z"⟩, 39) := ⟨⟨by decide +kernel, by decide +kernel⟩, List.mem_of_getElem? (i := 1414) (by decide +kernel), List.mem_of_getElem? (i := 1965) (by decide +kernel), List.mem_of_getElem? (i := 1966) (by decide +kernel)⟩
theorem lw_p103 : lw_okq (⟨"MiddleScaleModel", "laidFor", "(II)I"⟩, 39) := ⟨⟨by decide +kernel, by decide +kernel⟩, List.mem_of_getElem? (i := 1414) (by decide +kernel), List.mem_of_getElem? (i := 1969) (by decide +kernel), List.mem_of_getElem? (i := 1970) (by decide +kernel)⟩
theorem lw_p104 : lw_okq (⟨"MiddleScaleModel", "takesNext", "()V"⟩, 39) := ⟨⟨by decide +kernel, by decide +kernel⟩, List.mem_of_getElem? (i := 1414) (by decide +kernel), List.mem_of_getElem? (i := 1989) (by decide +kernel), List.mem_of_getElem? (i := 1990) (by decide +kernel)⟩
theorem lw_p105 : lw_okq (⟨"MiddleScaleModel", "laysThree", "(III)I"⟩, 39) := ⟨⟨by decide +kernel, by decide +kernel⟩, List.mem_of_getElem? (i := 1414) (by decide +kernel), List.mem_of_getElem? (i := 2005) (by decide +kernel), List.mem_of_getElem? (i := 2006) (by decide +kernel)⟩
theorem lw_p106 : lw_okq (⟨"MiddleScaleModel", "comesAt", "(II)I"⟩, 39) := ⟨⟨by decide +kernel, by decide +kernel⟩, List.mem_of_getElem? (i := 1414) (by decide +kernel), List.mem_of_getElem? (i := 2009) (by decide +kernel), List.mem_of_getElem? (i := 2010) (by decide +kernel)⟩
theorem lw_p107 : lw_okq (⟨"MiddleScaleModel", "draw", "()I"⟩, 39) := ⟨⟨by decide +kernel, by decide +kernel⟩, List.mem_of_getElem? (i := 1414) (by decide +kernel), List.mem_of_getElem? (i := 2021) (by decide +kernel), List.mem_of_getElem? (i := 2022) (by decide +kernel)⟩
theorem lw_p108 : lw_okq (⟨"MiddleScaleModel", "trueRow", "()I"⟩, 39) := ⟨⟨by decide +kernel, by decide +kernel⟩, List.mem_of_getElem? (i := 1414) (by decide +kernel), List.mem_of_getElem? (i := 2029) (by decide +kernel), List.mem_of_getElem? (i := 2030) (by decide +kernel)⟩
theorem lw_p109 : lw_okq (⟨"MiddleScaleModel", "mirrorOf", "(I)I"⟩, 39) := ⟨⟨by decide +kernel, by decide +kernel⟩, List.mem_of_getElem? (i := 1414) (by decide +kernel), List.mem_of_getElem? (i := 2037) (by decide +kernel), List.mem_of_getElem? (i := 2038) (by decide +kernel)⟩
def lw_privs_7 : List (MethodName × Nat) := [(⟨"MiddleScaleModel", "learns", "(II)I"⟩, 39), (⟨"MiddleScaleModel", "plainly", "(III)I"⟩, 39), (⟨"MiddleScaleModel", "isIdle", "(II)Z"⟩, 39), (⟨"MiddleScaleModel", "parts", "(IIII)V"⟩, 39), (⟨"MiddleScaleModel", "walks", "(II)V"⟩, 39), (⟨"MiddleScaleModel", "arrives", "(III)V"⟩, 39), (⟨"MiddleScaleModel", "isPlaced", "(II)Z"⟩, 39), (⟨"MiddleScaleModel", "laidFor", "(II)I"⟩, 39), (⟨"MiddleScaleModel", "takesNext", "()V"⟩, 39), (⟨"MiddleScaleModel", "laysThree", "(III)I"⟩, 39), (⟨"MiddleScaleModel", "comesAt", "(II)I"⟩, 39), (⟨"MiddleScaleModel", "draw", "()I"⟩, 39), (⟨"MiddleScaleModel", "trueRow", "()I"⟩, 39), (⟨"MiddleScaleModel", "mirrorOf", "(I)I"⟩, 39)]
theorem lw_r7 : ∀ q ∈ lw_privs_7, lw_okq q := List.forall_mem_cons.mpr ⟨lw_p96, List.forall_mem_cons.mpr ⟨lw_p97, List.forall_mem_cons.mpr ⟨lw_p98, List.forall_mem_cons.mpr ⟨lw_p99, List.forall_mem_cons.mpr ⟨lw_p100, List.forall_mem_cons.mpr ⟨lw_p101, List.forall_mem_cons.mpr ⟨lw_p102, List.forall_mem_cons.mpr ⟨lw_p103, List.forall_mem_cons.mpr ⟨lw_p104, List.forall_mem_cons.mpr ⟨lw_p105, List.forall_mem_cons.mpr ⟨lw_p106, List.forall_mem_cons.mpr ⟨lw_p107, List.forall_mem_cons.mpr ⟨lw_p108, List.forall_mem_cons.mpr ⟨lw_p109, fun _ h => absurd h List.not_mem_nil⟩⟩⟩⟩⟩⟩⟩⟩⟩⟩⟩⟩⟩⟩
def lw_privs : List (MethodName × Nat) := lw_privs_1 ++ (lw_privs_2 ++ (lw_privs_3 ++ (lw_privs_4 ++ (lw_privs_5 ++ (lw_privs_6 ++ (lw_privs_7))))))
def lw_tbl : List Cond := k2_sels lw_privs ++ tables_1
theorem lw_privs_ok : ∀ q ∈ lw_privs, lw_okq q := by
  show ∀ q ∈ lw_privs_1 ++ (lw_privs_2 ++ (lw_privs_3 ++ (lw_privs_4 ++ (lw_privs_5 ++ (lw_privs_6 ++ (lw_privs_7)))))), lw_okq q
  exact List.forall_mem_append.mpr ⟨lw_r1, List.forall_mem_append.mpr ⟨lw_r2, List.forall_mem_append.mpr ⟨lw_r3, List.forall_mem_append.mpr ⟨lw_r4, List.forall_mem_append.mpr ⟨lw_r5, List.forall_mem_append.mpr ⟨lw_r6, lw_r7⟩⟩⟩⟩⟩⟩
end
section
/-! ===== BEGIN words of one list among another's, by their places ===== -/
theorem goodIn_r {big : List Cond} (ws : List Cond) (ps : List Nat) (hp : ws = ps.filterMap (fun i => big[i]?)) (h : ws.all goodWord = true) : GoodIn big ws := by
  intro w hw
  have h1 := List.all_eq_true.mp h w hw
  rw [hp] at hw
  obtain ⟨i, -, hi⟩ := List.mem_filterMap.mp hw
  have hm : w ∈ big := by first | exact List.mem_of_getElem? hi | exact List.getElem?_mem hi
  exact ⟨hm, good_of_word h1⟩
theorem goodIn_app {big a b : List Cond} (ha : GoodIn big a) (hb : GoodIn big b) : GoodIn big (a ++ b) := fun w h => (List.mem_append.mp h).elim (ha w) (hb w)
theorem goodIn_ca {big a b : List Cond} {c : Cond} (ha : GoodIn big (c :: a)) (hb : GoodIn big b) : GoodIn big (c :: (a ++ b)) := fun w h => (List.mem_cons.mp h).elim (fun e => ha w (List.mem_cons.mpr (Or.inl e))) (fun h => (List.mem_append.mp h).elim (fun h => ha w (List.mem_cons.mpr (Or.inr h))) (hb w))
theorem goodIn_sub {big ws : List Cond} (hm : ∀ w ∈ ws, w ∈ big) (h : ws.all goodWord = true) : GoodIn big ws := fun w hw => ⟨hm w hw, good_of_word (List.all_eq_true.mp h w hw)⟩
/-! ===== END ===== -/

/-! ===== BEGIN exceptions that leave a method, and their catching by the caller (launches without stack traces) ===== -/
section VXA
/-! The laws vx_back, vx_callV, vx_callS, vx_callSW, vx_throw0, vx_throwS follow proofs of the library, with one case more: JvmDerived/Free/Laws.lean (Back.of_free), Shelf42/LK1.lean (callV, callS), Shelf/KitTraced.lean (throwNew0V, throwNewS). -/
/-- where a method has thrown q: the class by its name, the cell, what was written, the world -/
def vx_T (XC : String → State → State → Prop) (st : State) (q : Addr) (t : State) (mc ms : Nat) (free : Addr → Prop) : Prop :=
  ∃ (E : String) (ce : Cell) (L : List Loc), XC E st t ∧ t.heap[q]? = some ce ∧ ce.vm = .none ∧ st.vm.findClass E = some ce.cls ∧ st.WarmedH t.vm ∧ st.sameButNew ({ t with vm := st.vm } : State) L mc ms ∧ ∀ z ∈ L, free z.base
def vx_Q (Qc : Array Value → State → Outcome → State → Prop) (XC : String → State → State → Prop) (mc ms : Nat) (free : Addr → Prop) : Array Value → State → Outcome → State → Prop := fun a st o t =>
  (Qc a st o t ∧ ∃ L, FrameEnd st o t L mc ms ∧ ∀ q ∈ L, free q.base) ∨ ∃ q, o = .threw q ∧ vx_T XC st q t mc ms free
/-- a callee that returns or throws -/
def vx_Met (l : Launch) (y : MethodName) (ws : List Cond) (rm : Room) (Pc : Array Value → State → Prop) (Qc : Array Value → State → Outcome → State → Prop) (XC : String → State → State → Prop) (mc ms : Nat) (free : Addr → Prop) : Prop :=
  MetFree l y (headSpec ws rm) Pc (fun _ _ _ _ _ => True) (vx_Q Qc XC mc ms free)
def vx_Post (XC : String → State → State → Prop) (mc ms : Nat) (free : Addr → Prop) : Pt → Array Value → Addr → Pt → Prop := fun A a q B =>
  ∃ (g : JFrame) (mk : MethodId) (t : State) (L : List Loc) (E : String) (ce : Cell), B.U.heap = t.heap ∧ B.U.vm = t.vm ∧ XC E (A.U.calling g mk a) t ∧ t.heap[q]? = some ce ∧ ce.vm = .none ∧ A.U.vm.findClass E = some ce.cls ∧ B.locs = A.locs ++ L ∧ (∀ z ∈ L, free z.base) ∧ B.cells = A.cells + mc ∧ B.slots = A.slots + ms
def vx_Back (l : Launch) (R : Room) (p : Program) (e : Env) (below : List Frame) (s : State) (sargs : Array Value) (y : MethodName) (len W9 : Nat)
    (Pre : Pt → Array Value → Prop) (Post : Pt → Array Value → Option Value → Pt → Prop) (PostX : Pt → Array Value → Addr → Pt → Prop) : Prop :=
  ∀ (m : MethodId) (meth : Method) (c : Code) (A : Pt) (g : JFrame) (ig : Instr) (mk : MethodId) (a : Array Value),
    Stand p l e R s m sargs below meth c A.U A.locs A.cells A.slots → g.method = m → g.locals.size = c.maxLocals → decode c.code g.pc = .ok (ig, len) →
    2 * g.monitorRoom + (g.stack.map fun v => v.category).sum ≤ W9 → A.U.methodNamed? y = some mk → Pre A a →
    (∃ (v : Option Value) (B : Pt), Stand p l e R s m sargs below meth c B.U B.locs B.cells B.slots ∧ Post A a v B ∧
      Steps p.tables e below (doInvoke e (A.U.setTop g) [] mk a).1 (B.U.setTop { g with pc := g.pc + len, stack := v.toList ++ g.stack })) ∨
    (∃ (q : Addr) (B : Pt), Stand p l e R s m sargs below meth c B.U B.locs B.cells B.slots ∧ PostX A a q B ∧
      Steps p.tables e below (doInvoke e (A.U.setTop g) [] mk a).1 ((B.U.setTop g).pushFrame (.throwing q)))
section Payer
variable {l : Launch} {R : Room} {p : Program} {e : Env} {below : List Frame} {s : State} {sargs : Array Value} {y : MethodName} {len W9 : Nat}
theorem vx_back {ws : List Cond} {rm : Room} {Pc : Array Value → State → Prop} {Qc : Array Value → State → Outcome → State → Prop} {XC : String → State → State → Prop} {mc ms : Nat} {free : Addr → Prop} {bytes : ByteArray} {maxL : Nat} {ret : Option FieldType}
    (hM : vx_Met l y ws rm Pc Qc XC mc ms free) (hblind : FrameBlind Pc) (hrc : rm.cells = mc) (hrs : rm.slots = ms)
    (hframes : rm.frames + 1 ≤ R.frames) (hlocals : W9 + (maxL + 11) + rm.locals ≤ R.locals)
    (hws : ∀ w ∈ ws, ∀ a' U, s.WarmedH U.vm → w.before a' U = true) (hcode : Cond.code y bytes maxL ret ∈ ws) (hinit : ∀ a' U, s.WarmedH U.vm → (Cond.initialized y.cls).before a' U = true) :
    vx_Back l R p e below s sargs y len W9 (PreOf R mc ms Pc) (PostOf Qc mc ms free) (vx_Post XC mc ms free) := by
  intro m meth c A g ig mk a X hg hsize hdg hW hn hp
  have h1 : (headSpec ws rm).pre.before a A.U = true := atoms_intro fun w hw => hws w hw _ _ X.warmed
  have h2 : (Cond.code y bytes maxL ret).before a A.U = true := hws _ hcode _ _ X.warmed
  have h3 : (Cond.initialized y.cls).before a A.U = true := hinit _ _ X.warmed
  have h4 : A.cells + (headSpec ws rm).room.cells ≤ R.cells := by rw [show (headSpec ws rm).room.cells = mc from hrc]; exact hp.1
  have h5 : A.slots + (headSpec ws rm).room.slots ≤ R.slots := by rw [show (headSpec ws rm).room.slots = ms from hrs]; exact hp.2.1
  have hPc : Pc a (A.U.calling g mk a) := hblind _ _ _ _ hp.2.2
  obtain ⟨U, Ls, c0, s0⟩ := A
  dsimp only [Pt.U, Pt.locs, Pt.cells, Pt.slots] at h1 h2 h3 h4 h5 X hn hPc ⊢
  obtain ⟨methY, cY, hmY, hcY, -, hlY, -, -, -, -⟩ := Cond.code_spec hn h2
  obtain ⟨kY, hkY, -⟩ := className_of_methodNamed hn
  have hinitY : kY.init = .initialized := Cond.initialized_spec (findClass_of_methodNamed hn) hkY h3
  have h : At U g.method c below := by rw [hg]; exact X.here
  have hlocals9 : W9 + (maxL + 11) + (headSpec ws rm).room.locals ≤ R.locals := hlocals
  have happ : (headSpec ws rm).appliesLoose y e.platform (U.calling g mk a) = true :=
    Spec.appliesLoose_calling (g := g) h hdg hn hkY hinitY
      (X.room_calling (g := g) (R' := (headSpec ws rm).room) hsize hmY hcY hframes (by rw [hlY]; omega) h4 h5) h1
  obtain ⟨mid, hmid⟩ := h.above
  have hfr : (U.setTop g).frames = (.java g :: mid) ++ below := by rw [State.frames_setTop' g h.top, hmid]; rfl
  obtain ⟨o, s₂, hsteps, -, hend, hq⟩ := Steps.callFree hM p X.admits X.cas X.clock (acts := []) hfr happ hPc trivial
  have hq' : vx_Q Qc XC mc ms free a (U.calling g mk a) o s₂ := hq
  rw [State.frames_setTop' g h.top] at hend
  obtain ⟨g₀, hg0⟩ := Option.isSome_iff_exists.mp h.top
  obtain ⟨r, hr⟩ := State.topJava?_eq_some.mp hg0
  have hr' : (({ U with heap := s₂.heap, slotsUsed := s₂.slotsUsed } : State).setVm s₂.vm).frames = .java g₀ :: r := hr
  rcases hq' with ⟨hqc, L, hfe, hL⟩ | ⟨q, rfl, E, ce, L, hx, hce, hcv, hcl, hW₂, hsm, hL⟩
  · obtain ⟨⟨v, rfl⟩, hW₂, e2, q2, q3, q4, q5, q6⟩ := id hfe
    have e3 : s₂ = ({ (U.calling g mk a).setFrames s₂.frames with heap := s₂.heap, slotsUsed := s₂.slotsUsed } : State).setVm s₂.vm := by
      have : s₂ = ({ s₂ with vm := (U.calling g mk a).vm } : State).setVm s₂.vm := rfl
      rw [e2] at this
      exact this
    obtain ⟨c₂, i₂, len₂, hc₂, hd₂, hf₂⟩ := hend
    have hW' : U.WarmedH s₂.vm := hW₂
    have hcc : c₂ = c := by
      have h1 : s₂.code? g.method = U.code? g.method := by
        rw [State.code?_eq, State.code?_eq, hW'.alike.method?]
      exact Option.some.inj (hc₂.symm.trans (h1.trans h.code))
    subst hcc
    have hlen : len₂ = len := by rw [hdg] at hd₂; cases hd₂; rfl
    subst hlen
    have hs₂ : s₂ = (({ U with heap := s₂.heap, slotsUsed := s₂.slotsUsed } : State).setVm s₂.vm).setTop { g with pc := g.pc + len₂, stack := v.toList ++ g.stack } := by
      refine e3.trans ?_
      rw [hf₂, State.calling_eq h.top, State.setFrames_setFrames, State.setTop_of_frames _ hr', hr]
      rfl
    have hsame : U.sameButNew ({ U with heap := s₂.heap, slotsUsed := s₂.slotsUsed } : State) L mc ms := by
      refine ⟨?_, q2, q3, q4, q5, q6⟩
      obtain ⟨t, ht, -⟩ := State.frames_cons hr
      show ({ U with heap := s₂.heap, slotsUsed := s₂.slotsUsed } : State) = { U.setFrames U.frames with heap := s₂.heap, slotsUsed := s₂.slotsUsed }
      rw [State.setFrames_self ht]
    subst hg
    refine Or.inl ⟨v, ⟨(({ U with heap := s₂.heap, slotsUsed := s₂.slotsUsed } : State).setVm s₂.vm), Ls ++ L, c0 + mc, s0 + ms⟩,
      ⟨X.admits, X.cas, X.clock, X.frames, X.room, X.hears, X.method, X.code, (X.here.setHeapUsed s₂.heap s₂.slotsUsed).setVm hW'.alike, X.tail, State.WarmedH.trans X.warmed hW', X.limits, X.bytes, X.same.trans (hsame.setVm s.vm)⟩,
      ⟨g, mk, s₂, L, rfl, rfl, hqc, rfl, hL, rfl, rfl⟩, ?_⟩
    show Steps p.tables e below _ ((({ U with heap := s₂.heap, slotsUsed := s₂.slotsUsed } : State).setVm s₂.vm).setTop { g with pc := g.pc + len₂, stack := v.toList ++ g.stack })
    rw [← hs₂]
    exact hsteps
  · obtain ⟨e2, q2, q3, q4, q5, q6⟩ := id hsm
    have e3 : s₂ = ({ (U.calling g mk a).setFrames s₂.frames with heap := s₂.heap, slotsUsed := s₂.slotsUsed } : State).setVm s₂.vm := by
      have : s₂ = ({ s₂ with vm := (U.calling g mk a).vm } : State).setVm s₂.vm := rfl
      rw [e2] at this
      exact this
    have hf₂ : s₂.frames = .throwing q :: .java g :: U.frames.tail := hend
    have hW' : U.WarmedH s₂.vm := hW₂
    have hs₂ : s₂ = ((({ U with heap := s₂.heap, slotsUsed := s₂.slotsUsed } : State).setVm s₂.vm).setTop g).pushFrame (.throwing q) := by
      refine e3.trans ?_
      rw [hf₂, State.calling_eq h.top, State.setFrames_setFrames, State.pushFrame, State.frames_setTop _ hr', State.setTop_of_frames _ hr', State.setFrames_setFrames, hr]
      rfl
    have hsame : U.sameButNew ({ U with heap := s₂.heap, slotsUsed := s₂.slotsUsed } : State) L mc ms := by
      refine ⟨?_, q2, q3, q4, q5, q6⟩
      obtain ⟨t, ht, -⟩ := State.frames_cons hr
      show ({ U with heap := s₂.heap, slotsUsed := s₂.slotsUsed } : State) = { U.setFrames U.frames with heap := s₂.heap, slotsUsed := s₂.slotsUsed }
      rw [State.setFrames_self ht]
    subst hg
    refine Or.inr ⟨q, ⟨(({ U with heap := s₂.heap, slotsUsed := s₂.slotsUsed } : State).setVm s₂.vm), Ls ++ L, c0 + mc, s0 + ms⟩,
      ⟨X.admits, X.cas, X.clock, X.frames, X.room, X.hears, X.method, X.code, (X.here.setHeapUsed s₂.heap s₂.slotsUsed).setVm hW'.alike, X.tail, State.WarmedH.trans X.warmed hW', X.limits, X.bytes, X.same.trans (hsame.setVm s.vm)⟩,
      ⟨g, mk, s₂, L, E, ce, rfl, rfl, hx, hce, hcv, hcl, rfl, hL, rfl, rfl⟩, ?_⟩
    show Steps p.tables e below _ (((({ U with heap := s₂.heap, slotsUsed := s₂.slotsUsed } : State).setVm s₂.vm).setTop g).pushFrame (.throwing q))
    rw [← hs₂]
    exact hsteps
end Payer
section Calls
variable {p : Program} {l : Launch} {e : Env} {R : Room} {s : State} {m : MethodId} {args : Array Value} {below : List Frame} {meth : Method} {c : Code} {T : State} {locs : List Loc} {cells slots : Nat}
theorem vx_callV (X : Stand p l e R s m args below meth c T locs cells slots) (hexec : p.tables.exec = Jvm.exec) {own C : String} {index : Nat} {y : MethodName} {bytes : ByteArray} {maxL : Nat} {ret : Option FieldType}
    (hown : s.vm.findClass own = some m.cls) (hlink : (Cond.methodLink own index y).before args s = true) (hinst : (Cond.instanceMethod y).before args s = true) (hsel : (Cond.selects C y y).before args s = true)
    (hcode : (Cond.code y bytes maxL ret).before args s = true) (hy : y.cls ≠ "java/lang/invoke/MethodHandle" ∧ y.cls ≠ "java/lang/invoke/VarHandle")
    {W9 : Nat} {Pre : Pt → Array Value → Prop} {Post : Pt → Array Value → Option Value → Pt → Prop} {PostX : Pt → Array Value → Addr → Pt → Prop} (hK : vx_Back l R p e below s args y 3 W9 Pre Post PostX)
    {b : Addr} {cellB : Cell} (hcell : T.heap[b]? = some cellB) (hobj : cellB.vm.isStatics = false) (hcls : s.vm.findClass C = some cellB.cls)
    {g : JFrame} (hg : g.method = m) (hsize : g.locals.size = c.maxLocals) {argsL rest : List Value} (hlen : ∀ sig, parseMethodDescriptor y.desc = some sig → argsL.length = sig.parameters.length)
    (hstack : g.stack = argsL.reverse ++ .ref b :: rest) (hW : 2 * g.monitorRoom + (rest.map fun v => v.category).sum ≤ W9) (hdg : decode c.code g.pc = .ok (.invokevirtual index, 3))
    (hpre : ∀ vm₁, s.WarmedH vm₁ → Pre ⟨T.setVm vm₁, locs, cells, slots⟩ (Value.ref b :: argsL).toArray) :
    (∃ (v : Option Value) (vm₁ : Vm) (B : Pt), s.WarmedH vm₁ ∧ Stand p l e R s m args below meth c B.U B.locs B.cells B.slots ∧ Post ⟨T.setVm vm₁, locs, cells, slots⟩ (Value.ref b :: argsL).toArray v B ∧
      ∀ target, Steps p.tables e below (B.U.setTop { g with pc := g.pc + 3, stack := v.toList ++ rest }) target → Steps p.tables e below (T.setTop g) target) ∨
    (∃ (q : Addr) (vm₁ : Vm) (B : Pt), s.WarmedH vm₁ ∧ Stand p l e R s m args below meth c B.U B.locs B.cells B.slots ∧ PostX ⟨T.setVm vm₁, locs, cells, slots⟩ (Value.ref b :: argsL).toArray q B ∧
      Steps p.tables e below (T.setTop g) ((B.U.setTop { g with stack := rest }).pushFrame (.throwing q))) := by
  obtain ⟨mk, methM, hnamed, hmethM, hstM, habM⟩ := Cond.instanceMethod_spec hinst
  obtain ⟨methM', cM, hmethM', -, -, -, -, -, -, hsigM⟩ := Cond.code_spec hnamed hcode
  cases hmethM.symm.trans hmethM'
  obtain ⟨c2, r2, m2, q1, q2, q3, q4, kP, hkP, hkPi⟩ := Cond.selects_spec hsel
  cases hcls.symm.trans q1
  cases (State.methodFound?_of_named hnamed hy).symm.trans q2
  cases hnamed.symm.trans q3
  have hselP : selectMethod e.platform s.vm cellB.cls mk = .method mk := by rw [Launch.admits_selectMethod X.admits]; exact q4
  obtain ⟨vm₁, X₁, hstep₁⟩ := X.invokevirtual hexec hown hlink hnamed hmethM hstM hkP hkPi hy (a := b) (cell := cellB) hcell
    (fun z h => by rw [h] at hobj; cases hobj) hselP hmethM habM hkP hkPi (g := g) hg (argsL := argsL) (rest := rest) (hlen _ hsigM) hstack hdg
  rcases hK m meth c ⟨T.setVm vm₁, locs, cells, slots⟩ { g with stack := rest } (.invokevirtual index) mk (Value.ref b :: argsL).toArray X₁ hg hsize hdg hW (X₁.named hnamed) (hpre vm₁ X₁.warmed) with ⟨v, B, X', hpost, hsteps⟩ | ⟨q, B, X', hpost, hsteps⟩
  · exact Or.inl ⟨v, vm₁, B, X₁.warmed, X', hpost, fun target h => hstep₁ _ fun acts => by rw [doInvoke_state]; exact hsteps.trans h⟩
  · exact Or.inr ⟨q, vm₁, B, X₁.warmed, X', hpost, hstep₁ _ fun acts => by rw [doInvoke_state]; exact hsteps⟩
theorem vx_callS (X : Stand p l e R s m args below meth c T locs cells slots) (hexec : p.tables.exec = Jvm.exec) {own : String} {index : Nat} {y : MethodName} {bytes : ByteArray} {maxL : Nat} {ret : Option FieldType}
    (hown : s.vm.findClass own = some m.cls) (hlink : (Cond.methodLink own index y).before args s = true) (hstat : (Cond.static y).before args s = true) (hinit : (Cond.initialized y.cls).before args s = true)
    (hcode : (Cond.code y bytes maxL ret).before args s = true) (hy : y.cls ≠ "java/lang/invoke/MethodHandle" ∧ y.cls ≠ "java/lang/invoke/VarHandle")
    {W9 : Nat} {Pre : Pt → Array Value → Prop} {Post : Pt → Array Value → Option Value → Pt → Prop} {PostX : Pt → Array Value → Addr → Pt → Prop} (hK : vx_Back l R p e below s args y 3 W9 Pre Post PostX)
    {g : JFrame} (hg : g.method = m) (hsize : g.locals.size = c.maxLocals) {argsL rest : List Value} (hlen : ∀ sig, parseMethodDescriptor y.desc = some sig → argsL.length = sig.parameters.length)
    (hstack : g.stack = argsL.reverse ++ rest) (hW : 2 * g.monitorRoom + (rest.map fun v => v.category).sum ≤ W9) (hdg : decode c.code g.pc = .ok (.invokestatic index, 3))
    (hpre : ∀ vm₁, s.WarmedH vm₁ → Pre ⟨T.setVm vm₁, locs, cells, slots⟩ argsL.toArray) :
    (∃ (v : Option Value) (vm₁ : Vm) (B : Pt), s.WarmedH vm₁ ∧ Stand p l e R s m args below meth c B.U B.locs B.cells B.slots ∧ Post ⟨T.setVm vm₁, locs, cells, slots⟩ argsL.toArray v B ∧
      ∀ target, Steps p.tables e below (B.U.setTop { g with pc := g.pc + 3, stack := v.toList ++ rest }) target → Steps p.tables e below (T.setTop g) target) ∨
    (∃ (q : Addr) (vm₁ : Vm) (B : Pt), s.WarmedH vm₁ ∧ Stand p l e R s m args below meth c B.U B.locs B.cells B.slots ∧ PostX ⟨T.setVm vm₁, locs, cells, slots⟩ argsL.toArray q B ∧
      Steps p.tables e below (T.setTop g) ((B.U.setTop { g with stack := rest }).pushFrame (.throwing q))) := by
  obtain ⟨mk, hnamed⟩ := Cond.code_named hcode
  obtain ⟨methM, cM, hmethM, -, -, -, -, -, -, hsigM⟩ := Cond.code_spec hnamed hcode
  have hstatic : methM.isStatic = true := Cond.static_spec hnamed hmethM hstat
  obtain ⟨kP, hkP, -⟩ := className_of_methodNamed hnamed
  have hinitP : kP.init = .initialized := Cond.initialized_spec (findClass_of_methodNamed hnamed) hkP hinit
  obtain ⟨vm₁, X₁, hstep₁⟩ := X.invokestatic hexec hown hlink hnamed hmethM hstatic hkP hinitP hy (g := g) hg (argsL := argsL) (rest := rest) (hlen _ hsigM) hstack hdg
  rcases hK m meth c ⟨T.setVm vm₁, locs, cells, slots⟩ { g with stack := rest } (.invokestatic index) mk argsL.toArray X₁ hg hsize hdg hW (X₁.named hnamed) (hpre vm₁ X₁.warmed) with ⟨v, B, X', hpost, hsteps⟩ | ⟨q, B, X', hpost, hsteps⟩
  · exact Or.inl ⟨v, vm₁, B, X₁.warmed, X', hpost, fun target h => hstep₁ _ fun acts => by rw [doInvoke_state]; exact hsteps.trans h⟩
  · exact Or.inr ⟨q, vm₁, B, X₁.warmed, X', hpost, hstep₁ _ fun acts => by rw [doInvoke_state]; exact hsteps⟩
end Calls
theorem vx_cls {s : State} {T : State} {vm₁ : Vm} {E : String} {k : ClassId} (hW : s.WarmedH vm₁) (h : (T.setVm vm₁).vm.findClass E = some k) : s.vm.findClass E = some k := by
  have h1 : vm₁.findClass E = some k := h
  rw [hW.alike.findClass] at h1
  exact h1
/-- the method's frame g, with q thrown over it -/
def vx_W (p : Program) (l : Launch) (e : Env) (R : Room) (s : State) (m : MethodId) (args : Array Value) (below : List Frame) (meth : Method) (c : Code) (H : Heap) (locs : List Loc) (cells slots : Nat) (Q : State → Prop) (g : JFrame) (q : Addr) : Prop :=
  ∀ T : State, T.heap = H → Stand p l e R s m args below meth c T locs cells slots → ∃ t, Steps p.tables e below ((T.setTop g).pushFrame (.throwing q)) t ∧ Q t
def vx_Run (p : Program) (l : Launch) (e : Env) (R : Room) (s : State) (m : MethodId) (args : Array Value) (below : List Frame) (meth : Method) (c : Code) (H : Heap) (locs : List Loc) (cells slots mc ms : Nat) (g : JFrame) (rest : List Value) (Qa : State → Outcome → State → Prop) (XC : String → State → State → Prop) (free : Addr → Prop) : Prop :=
  ∀ T : State, T.heap = H → Stand p l e R s m args below meth c T locs cells slots →
    (∃ (v : Option Value) (st₀ t T' : State) (L : List Loc), st₀.heap = H ∧ Stand p l e R s m args below meth c T' (locs ++ L) (cells + mc) (slots + ms) ∧ (∀ q ∈ L, free q.base) ∧ T'.heap = t.heap ∧ T'.vm = t.vm ∧ Qa st₀ (.returned v) t ∧
      Goes p e below T g T' { g with pc := g.pc + 3, stack := v.toList ++ rest }) ∨
    (∃ (q : Addr) (st₀ t T' : State) (L : List Loc) (E : String) (ce : Cell), st₀.heap = H ∧ Stand p l e R s m args below meth c T' (locs ++ L) (cells + mc) (slots + ms) ∧ (∀ z ∈ L, free z.base) ∧ T'.heap = t.heap ∧ T'.vm = t.vm ∧ XC E st₀ t ∧ t.heap[q]? = some ce ∧ ce.vm = .none ∧ s.vm.findClass E = some ce.cls ∧
      Steps p.tables e below (T.setTop g) ((T'.setTop { g with stack := rest }).pushFrame (.throwing q)))
def vx_X {S : Type} (px : S → Prop) (B : String → S → State → Prop) (A : Nat → Prop) : String → State → State → Prop := fun E st t => ∃ u : S, px u ∧ B E u t ∧ va_F A st t
section Runs
variable {p : Program} {l : Launch} {e : Env} {R : Room} {s : State} {m : MethodId} {args : Array Value} {below : List Frame} {meth : Method} {c : Code} {H : Heap} {locs : List Loc} {cells slots : Nat}
variable {y : MethodName} {bytes cc : ByteArray} {maxL nL mc ms n index : Nat} {ret : Option FieldType} {ws : List Cond} {rm : Room} {Pc : Array Value → State → Prop} {Qc : Array Value → State → Outcome → State → Prop} {XC : String → State → State → Prop} {free : Addr → Prop} {Ts : List Cond} {own C : String} {b : Addr} {As rest : List Value} {g : JFrame}
theorem vx_callBack (cb : CallB R s args own index y bytes maxL ret ws rm mc ms n) (hM : vx_Met l y ws rm Pc Qc XC mc ms free) (hbl : FrameBlind Pc) : vx_Back l R p e below s args y 3 8 (PreOf R mc ms Pc) (PostOf Qc mc ms free) (vx_Post XC mc ms free) := by
  obtain ⟨hrc, hrs, hfr, hlo, hws, hcw, -, hini, -⟩ := cb
  exact vx_back (bytes := bytes) (maxL := maxL) (ret := ret) hM hbl hrc hrs hfr hlo hws hcw (fun a' U hW => word_at hW (Or.inl (by first | rfl | simp [Cond.onTables, Cond.keeps, Cond.steady])) hini)
theorem vx_runV (S : CallFix p m c cc nL s args Ts own) (hM : vx_Met l y ws rm Pc Qc XC mc ms free) (cw : CallW R s args own C index y bytes maxL ret ws rm mc ms n) (hp : PreV s H C b Pc As)
    (hg : g.method = m) (hn : As.length = n) (hsize : g.locals.size = nL) (hstack : g.stack = As.reverse ++ .ref b :: rest) (hW : 2 * g.monitorRoom + (rest.map fun v => v.category).sum ≤ 8) (hdg : decode cc g.pc = .ok (.invokevirtual index, 3)) (hf : cells + mc ≤ R.cells ∧ slots + ms ≤ R.slots) :
    vx_Run p l e R s m args below meth c H locs cells slots mc ms g rest (Qc (Value.ref b :: As).toArray) XC free := by
  have hK : vx_Back l R p e below s args y 3 8 (PreOf R mc ms Pc) (PostOf Qc mc ms free) (vx_Post XC mc ms free) := vx_callBack cw.1 hM hp.1
  obtain ⟨⟨-, -, -, -, -, -, hcode, -, hy, hlen, hl⟩, hin, hse⟩ := cw
  obtain ⟨hx, hb, hml, ho, -⟩ := S
  obtain ⟨-, ⟨cellB, hcB, hoB, hclB⟩, hPc⟩ := hp
  intro T hT X
  rcases vx_callV X hx (C := C) (bytes := bytes) (maxL := maxL) (ret := ret) ho hl hin hse hcode hy hK (by rw [hT]; exact hcB) hoB hclB hg (hsize.trans hml.symm) (argsL := As) (rest := rest) (fun sig h => hn.trans (hlen sig h)) hstack hW (by rw [hb]; exact hdg)
    (fun vm₁ hW₁ => ⟨hf.1, hf.2, hPc (T.setVm vm₁) hT hW₁⟩) with ⟨v, vm₁, ⟨U', l2, c2, s2⟩, hW₁, X', ⟨g', mk, t, L, e1, e2, hq, h1, hL, h2, h3⟩, st⟩ | ⟨q, vm₁, ⟨U', l2, c2, s2⟩, hW₁, X', ⟨g', mk, t, L, E, ce, e1, e2, hq, hce, hcv, hcl, h1, hL, h2, h3⟩, st⟩
  · dsimp only [Pt.U, Pt.locs, Pt.cells, Pt.slots] at X' e1 e2 h1 h2 h3 st
    subst h1; subst h2; subst h3
    exact Or.inl ⟨v, (T.setVm vm₁).calling g' mk (Value.ref b :: As).toArray, t, U', L, hT, X', hL, e1, e2, hq, st⟩
  · dsimp only [Pt.U, Pt.locs, Pt.cells, Pt.slots] at X' e1 e2 h1 h2 h3 st hcl
    subst h1; subst h2; subst h3
    exact Or.inr ⟨q, (T.setVm vm₁).calling g' mk (Value.ref b :: As).toArray, t, U', L, E, ce, hT, X', hL, e1, e2, hq, hce, hcv, vx_cls hW₁ hcl, st⟩
theorem vx_runS (S : CallFix p m c cc nL s args Ts own) (hM : vx_Met l y ws rm Pc Qc XC mc ms free) (cw : CallB R s args own index y bytes maxL ret ws rm mc ms n ∧ (Cond.static y).before args s = true) (hp : PreS s H Pc As)
    (hg : g.method = m) (hn : As.length = n) (hsize : g.locals.size = nL) (hstack : g.stack = As.reverse ++ rest) (hW : 2 * g.monitorRoom + (rest.map fun v => v.category).sum ≤ 8) (hdg : decode cc g.pc = .ok (.invokestatic index, 3)) (hf : cells + mc ≤ R.cells ∧ slots + ms ≤ R.slots) :
    vx_Run p l e R s m args below meth c H locs cells slots mc ms g rest (Qc As.toArray) XC free := by
  have hK : vx_Back l R p e below s args y 3 8 (PreOf R mc ms Pc) (PostOf Qc mc ms free) (vx_Post XC mc ms free) := vx_callBack cw.1 hM hp.1
  obtain ⟨⟨-, -, -, -, -, -, hcode, hini, hy, hlen, hl⟩, hstt⟩ := cw
  obtain ⟨hx, hb, hml, ho, -⟩ := S
  intro T hT X
  rcases vx_callS X hx (bytes := bytes) (maxL := maxL) (ret := ret) ho hl hstt hini hcode hy hK hg (hsize.trans hml.symm) (argsL := As) (rest := rest) (fun sig h => hn.trans (hlen sig h)) hstack hW (by rw [hb]; exact hdg)
    (fun vm₁ hW₁ => ⟨hf.1, hf.2, hp.2 (T.setVm vm₁) hT hW₁⟩) with ⟨v, vm₁, ⟨U', l2, c2, s2⟩, hW₁, X', ⟨g', mk, t, L, e1, e2, hq, h1, hL, h2, h3⟩, st⟩ | ⟨q, vm₁, ⟨U', l2, c2, s2⟩, hW₁, X', ⟨g', mk, t, L, E, ce, e1, e2, hq, hce, hcv, hcl, h1, hL, h2, h3⟩, st⟩
  · dsimp only [Pt.U, Pt.locs, Pt.cells, Pt.slots] at X' e1 e2 h1 h2 h3 st
    subst h1; subst h2; subst h3
    exact Or.inl ⟨v, (T.setVm vm₁).calling g' mk As.toArray, t, U', L, hT, X', hL, e1, e2, hq, st⟩
  · dsimp only [Pt.U, Pt.locs, Pt.cells, Pt.slots] at X' e1 e2 h1 h2 h3 st hcl
    subst h1; subst h2; subst h3
    exact Or.inr ⟨q, (T.setVm vm₁).calling g' mk As.toArray, t, U', L, E, ce, hT, X', hL, e1, e2, hq, hce, hcv, vx_cls hW₁ hcl, st⟩
end Runs
section Rows
variable {p : Program} {l : Launch} {e : Env} {R : Room} {s : State} {m : MethodId} {args : Array Value} {below : List Frame} {meth : Method} {c : Code} {H : Heap} {locs : List Loc} {cells slots : Nat} {Q : State → Prop}
variable {mc ms : Nat} {free : Addr → Prop} {A0 A1 : Nat → Prop} {H0 : Heap} {a : Array Value} {pc : Nat} {ls : Array Slot} {st0 rest : List Value}
theorem vx_keep {st₀ t T' : State} {L : List Loc} (h0 : st₀.heap = H) (e1 : T'.heap = t.heap) (hS : va_S A0 H0 H locs) (hA : ∀ q, q < H.size → A1 q → A0 q) (hf : ∀ q, free q → A0 q) (hL : ∀ q ∈ L, free q.base) (hF : va_F A1 st₀ t) :
    H.size ≤ T'.heap.size ∧ (∀ q : Nat, q < H.size → ¬ A1 q → T'.heap[q]? = H[q]?) ∧ va_S A0 H0 T'.heap (locs ++ L) := by
  obtain ⟨hz, hk⟩ := hF
  rw [h0] at hz hk
  exact ⟨by rw [e1]; exact hz, fun q h1 h2 => by rw [e1]; exact hk q h1 h2,
    ⟨Nat.le_trans hS.1 (by rw [e1]; exact hz), fun q h1 h2 => by rw [e1, hk q (Nat.lt_of_lt_of_le h1 hS.1) (fun z => h2 (hA q (Nat.lt_of_lt_of_le h1 hS.1) z))]; exact hS.2.1 q h1 h2, fun q hq => by
      rcases List.mem_append.mp hq with h | h
      · exact hS.2.2 q h
      · exact hf _ (hL q h)⟩⟩
theorem vx_calli {S SX : Type} {post : Int32 → S → Prop} {px : SX → Prop} {B : S → State → Prop} {BX : String → SX → State → Prop} {AX : Nat → Prop} (hr : vx_Run p l e R s m args below meth c H locs cells slots mc ms (F0 m pc ls st0) rest (va_Qi post B A1 a) (vx_X px BX AX) free) (hS : va_S A0 H0 H locs) (hA : ∀ q, q < H.size → A1 q → A0 q) (hf : ∀ q, free q → A0 q) (hAX : ∀ q, q < H.size → AX q → A0 q)
    (kx : ∀ (E : String) (ce : Cell) (q9 : Addr) (u : SX) (t : State) (H1 : Heap) (locs1 : List Loc), t.heap = H1 → s.vm.Alike t.vm → px u → BX E u t → H.size ≤ H1.size → (∀ q : Nat, q < H.size → ¬ AX q → H1[q]? = H[q]?) → va_S A0 H0 H1 locs1 → H1[q9]? = some ce → ce.vm = .none → s.vm.findClass E = some ce.cls → vx_W p l e R s m args below meth c H1 locs1 (cells + mc) (slots + ms) Q (F0 m pc ls rest) q9)
    (kk : ∀ (r : Int32) (u : S) (t : State) (H1 : Heap) (locs1 : List Loc), t.heap = H1 → s.vm.Alike t.vm → post r u → B u t → H.size ≤ H1.size → (∀ q : Nat, q < H.size → ¬ A1 q → H1[q]? = H[q]?) → va_S A0 H0 H1 locs1 → W p l e R s m args below meth c H1 locs1 (cells + mc) (slots + ms) Q (F0 m (pc + 3) ls (.int r :: rest))) : W p l e R s m args below meth c H locs cells slots Q (F0 m pc ls st0) := by
  intro T hT X
  rcases hr T hT X with ⟨v, st₀, t, T', L, h0, X', hL, e1, e2, ⟨⟨r, u, hv, hp, hb⟩, hF⟩, st⟩ | ⟨q, st₀, t, T', L, E, ce, h0, X', hL, e1, e2, ⟨u, hp, hb, hF⟩, hce, hcv, hcl, st⟩
  · cases hv
    obtain ⟨k1, k2, k3⟩ := vx_keep h0 e1 hS hA hf hL hF
    obtain ⟨t2, a1, b1⟩ := kk r u t T'.heap (locs ++ L) e1.symm (by rw [← e2]; exact X'.warmed.alike) hp hb k1 k2 k3 T' rfl X'
    exact ⟨t2, st t2 a1, b1⟩
  · obtain ⟨k1, k2, k3⟩ := vx_keep h0 e1 hS hAX hf hL hF
    obtain ⟨t2, a1, b1⟩ := kx E ce q u t T'.heap (locs ++ L) e1.symm (by rw [← e2]; exact X'.warmed.alike) hp hb k1 k2 k3 (by rw [e1]; exact hce) hcv hcl T' rfl X'
    exact ⟨t2, st.trans a1, b1⟩
theorem vx_calll {S SX : Type} {post : Int64 → S → Prop} {px : SX → Prop} {B : S → State → Prop} {BX : String → SX → State → Prop} {AX : Nat → Prop} (hr : vx_Run p l e R s m args below meth c H locs cells slots mc ms (F0 m pc ls st0) rest (va_Ql post B A1 a) (vx_X px BX AX) free) (hS : va_S A0 H0 H locs) (hA : ∀ q, q < H.size → A1 q → A0 q) (hf : ∀ q, free q → A0 q) (hAX : ∀ q, q < H.size → AX q → A0 q)
    (kx : ∀ (E : String) (ce : Cell) (q9 : Addr) (u : SX) (t : State) (H1 : Heap) (locs1 : List Loc), t.heap = H1 → s.vm.Alike t.vm → px u → BX E u t → H.size ≤ H1.size → (∀ q : Nat, q < H.size → ¬ AX q → H1[q]? = H[q]?) → va_S A0 H0 H1 locs1 → H1[q9]? = some ce → ce.vm = .none → s.vm.findClass E = some ce.cls → vx_W p l e R s m args below meth c H1 locs1 (cells + mc) (slots + ms) Q (F0 m pc ls rest) q9)
    (kk : ∀ (r : Int64) (u : S) (t : State) (H1 : Heap) (locs1 : List Loc), t.heap = H1 → s.vm.Alike t.vm → post r u → B u t → H.size ≤ H1.size → (∀ q : Nat, q < H.size → ¬ A1 q → H1[q]? = H[q]?) → va_S A0 H0 H1 locs1 → W p l e R s m args below meth c H1 locs1 (cells + mc) (slots + ms) Q (F0 m (pc + 3) ls (.long r :: rest))) : W p l e R s m args below meth c H locs cells slots Q (F0 m pc ls st0) := by
  intro T hT X
  rcases hr T hT X with ⟨v, st₀, t, T', L, h0, X', hL, e1, e2, ⟨⟨r, u, hv, hp, hb⟩, hF⟩, st⟩ | ⟨q, st₀, t, T', L, E, ce, h0, X', hL, e1, e2, ⟨u, hp, hb, hF⟩, hce, hcv, hcl, st⟩
  · cases hv
    obtain ⟨k1, k2, k3⟩ := vx_keep h0 e1 hS hA hf hL hF
    obtain ⟨t2, a1, b1⟩ := kk r u t T'.heap (locs ++ L) e1.symm (by rw [← e2]; exact X'.warmed.alike) hp hb k1 k2 k3 T' rfl X'
    exact ⟨t2, st t2 a1, b1⟩
  · obtain ⟨k1, k2, k3⟩ := vx_keep h0 e1 hS hAX hf hL hF
    obtain ⟨t2, a1, b1⟩ := kx E ce q u t T'.heap (locs ++ L) e1.symm (by rw [← e2]; exact X'.warmed.alike) hp hb k1 k2 k3 (by rw [e1]; exact hce) hcv hcl T' rfl X'
    exact ⟨t2, st.trans a1, b1⟩
theorem vx_callf {S SX : Type} {post : UInt32 → S → Prop} {px : SX → Prop} {B : S → State → Prop} {BX : String → SX → State → Prop} {AX : Nat → Prop} (hr : vx_Run p l e R s m args below meth c H locs cells slots mc ms (F0 m pc ls st0) rest (va_Qf post B A1 a) (vx_X px BX AX) free) (hS : va_S A0 H0 H locs) (hA : ∀ q, q < H.size → A1 q → A0 q) (hf : ∀ q, free q → A0 q) (hAX : ∀ q, q < H.size → AX q → A0 q)
    (kx : ∀ (E : String) (ce : Cell) (q9 : Addr) (u : SX) (t : State) (H1 : Heap) (locs1 : List Loc), t.heap = H1 → s.vm.Alike t.vm → px u → BX E u t → H.size ≤ H1.size → (∀ q : Nat, q < H.size → ¬ AX q → H1[q]? = H[q]?) → va_S A0 H0 H1 locs1 → H1[q9]? = some ce → ce.vm = .none → s.vm.findClass E = some ce.cls → vx_W p l e R s m args below meth c H1 locs1 (cells + mc) (slots + ms) Q (F0 m pc ls rest) q9)
    (kk : ∀ (r : UInt32) (u : S) (t : State) (H1 : Heap) (locs1 : List Loc), t.heap = H1 → s.vm.Alike t.vm → post r u → B u t → H.size ≤ H1.size → (∀ q : Nat, q < H.size → ¬ A1 q → H1[q]? = H[q]?) → va_S A0 H0 H1 locs1 → W p l e R s m args below meth c H1 locs1 (cells + mc) (slots + ms) Q (F0 m (pc + 3) ls (.float r :: rest))) : W p l e R s m args below meth c H locs cells slots Q (F0 m pc ls st0) := by
  intro T hT X
  rcases hr T hT X with ⟨v, st₀, t, T', L, h0, X', hL, e1, e2, ⟨⟨r, u, hv, hp, hb⟩, hF⟩, st⟩ | ⟨q, st₀, t, T', L, E, ce, h0, X', hL, e1, e2, ⟨u, hp, hb, hF⟩, hce, hcv, hcl, st⟩
  · cases hv
    obtain ⟨k1, k2, k3⟩ := vx_keep h0 e1 hS hA hf hL hF
    obtain ⟨t2, a1, b1⟩ := kk r u t T'.heap (locs ++ L) e1.symm (by rw [← e2]; exact X'.warmed.alike) hp hb k1 k2 k3 T' rfl X'
    exact ⟨t2, st t2 a1, b1⟩
  · obtain ⟨k1, k2, k3⟩ := vx_keep h0 e1 hS hAX hf hL hF
    obtain ⟨t2, a1, b1⟩ := kx E ce q u t T'.heap (locs ++ L) e1.symm (by rw [← e2]; exact X'.warmed.alike) hp hb k1 k2 k3 (by rw [e1]; exact hce) hcv hcl T' rfl X'
    exact ⟨t2, st.trans a1, b1⟩
theorem vx_calld {S SX : Type} {post : UInt64 → S → Prop} {px : SX → Prop} {B : S → State → Prop} {BX : String → SX → State → Prop} {AX : Nat → Prop} (hr : vx_Run p l e R s m args below meth c H locs cells slots mc ms (F0 m pc ls st0) rest (va_Qd post B A1 a) (vx_X px BX AX) free) (hS : va_S A0 H0 H locs) (hA : ∀ q, q < H.size → A1 q → A0 q) (hf : ∀ q, free q → A0 q) (hAX : ∀ q, q < H.size → AX q → A0 q)
    (kx : ∀ (E : String) (ce : Cell) (q9 : Addr) (u : SX) (t : State) (H1 : Heap) (locs1 : List Loc), t.heap = H1 → s.vm.Alike t.vm → px u → BX E u t → H.size ≤ H1.size → (∀ q : Nat, q < H.size → ¬ AX q → H1[q]? = H[q]?) → va_S A0 H0 H1 locs1 → H1[q9]? = some ce → ce.vm = .none → s.vm.findClass E = some ce.cls → vx_W p l e R s m args below meth c H1 locs1 (cells + mc) (slots + ms) Q (F0 m pc ls rest) q9)
    (kk : ∀ (r : UInt64) (u : S) (t : State) (H1 : Heap) (locs1 : List Loc), t.heap = H1 → s.vm.Alike t.vm → post r u → B u t → H.size ≤ H1.size → (∀ q : Nat, q < H.size → ¬ A1 q → H1[q]? = H[q]?) → va_S A0 H0 H1 locs1 → W p l e R s m args below meth c H1 locs1 (cells + mc) (slots + ms) Q (F0 m (pc + 3) ls (.double r :: rest))) : W p l e R s m args below meth c H locs cells slots Q (F0 m pc ls st0) := by
  intro T hT X
  rcases hr T hT X with ⟨v, st₀, t, T', L, h0, X', hL, e1, e2, ⟨⟨r, u, hv, hp, hb⟩, hF⟩, st⟩ | ⟨q, st₀, t, T', L, E, ce, h0, X', hL, e1, e2, ⟨u, hp, hb, hF⟩, hce, hcv, hcl, st⟩
  · cases hv
    obtain ⟨k1, k2, k3⟩ := vx_keep h0 e1 hS hA hf hL hF
    obtain ⟨t2, a1, b1⟩ := kk r u t T'.heap (locs ++ L) e1.symm (by rw [← e2]; exact X'.warmed.alike) hp hb k1 k2 k3 T' rfl X'
    exact ⟨t2, st t2 a1, b1⟩
  · obtain ⟨k1, k2, k3⟩ := vx_keep h0 e1 hS hAX hf hL hF
    obtain ⟨t2, a1, b1⟩ := kx E ce q u t T'.heap (locs ++ L) e1.symm (by rw [← e2]; exact X'.warmed.alike) hp hb k1 k2 k3 (by rw [e1]; exact hce) hcv hcl T' rfl X'
    exact ⟨t2, st.trans a1, b1⟩
theorem vx_callv {S SX : Type} {post : S → Prop} {px : SX → Prop} {B : S → State → Prop} {BX : String → SX → State → Prop} {AX : Nat → Prop} (hr : vx_Run p l e R s m args below meth c H locs cells slots mc ms (F0 m pc ls st0) rest (va_Qv post B A1 a) (vx_X px BX AX) free) (hS : va_S A0 H0 H locs) (hA : ∀ q, q < H.size → A1 q → A0 q) (hf : ∀ q, free q → A0 q) (hAX : ∀ q, q < H.size → AX q → A0 q)
    (kx : ∀ (E : String) (ce : Cell) (q9 : Addr) (u : SX) (t : State) (H1 : Heap) (locs1 : List Loc), t.heap = H1 → s.vm.Alike t.vm → px u → BX E u t → H.size ≤ H1.size → (∀ q : Nat, q < H.size → ¬ AX q → H1[q]? = H[q]?) → va_S A0 H0 H1 locs1 → H1[q9]? = some ce → ce.vm = .none → s.vm.findClass E = some ce.cls → vx_W p l e R s m args below meth c H1 locs1 (cells + mc) (slots + ms) Q (F0 m pc ls rest) q9)
    (kk : ∀ (u : S) (t : State) (H1 : Heap) (locs1 : List Loc), t.heap = H1 → s.vm.Alike t.vm → post u → B u t → H.size ≤ H1.size → (∀ q : Nat, q < H.size → ¬ A1 q → H1[q]? = H[q]?) → va_S A0 H0 H1 locs1 → W p l e R s m args below meth c H1 locs1 (cells + mc) (slots + ms) Q (F0 m (pc + 3) ls (rest))) : W p l e R s m args below meth c H locs cells slots Q (F0 m pc ls st0) := by
  intro T hT X
  rcases hr T hT X with ⟨v, st₀, t, T', L, h0, X', hL, e1, e2, ⟨⟨u, hv, hp, hb⟩, hF⟩, st⟩ | ⟨q, st₀, t, T', L, E, ce, h0, X', hL, e1, e2, ⟨u, hp, hb, hF⟩, hce, hcv, hcl, st⟩
  · cases hv
    obtain ⟨k1, k2, k3⟩ := vx_keep h0 e1 hS hA hf hL hF
    obtain ⟨t2, a1, b1⟩ := kk u t T'.heap (locs ++ L) e1.symm (by rw [← e2]; exact X'.warmed.alike) hp hb k1 k2 k3 T' rfl X'
    exact ⟨t2, st t2 a1, b1⟩
  · obtain ⟨k1, k2, k3⟩ := vx_keep h0 e1 hS hAX hf hL hF
    obtain ⟨t2, a1, b1⟩ := kx E ce q u t T'.heap (locs ++ L) e1.symm (by rw [← e2]; exact X'.warmed.alike) hp hb k1 k2 k3 (by rw [e1]; exact hce) hcv hcl T' rfl X'
    exact ⟨t2, st.trans a1, b1⟩
/-- caught by the row x of this method's table; the rows ahead don't take it -/
theorem vx_catch {own name : String} {E : String} {ce : Cell} {q : Addr} (hown : s.vm.findClass own = some m.cls) (pre : List ExceptionTableEntry) (x : ExceptionTableEntry) (suf : List ExceptionTableEntry) (hsplit : c.exceptionTable.toList = pre ++ x :: suf)
    (hpass : ∀ z ∈ pre, covers z pc = false ∨ (z.catchType ≠ 0 ∧ ∃ nm : String, (Cond.classLink own z.catchType nm).before args s = true ∧ va_Nc E nm s)) (hx : covers x pc = true) (h0 : x.catchType ≠ 0)
    (hlink : (Cond.classLink own x.catchType name).before args s = true) (hcast : (Cond.castable E name).before args s = true) (hcell : H[q]? = some ce) (hv : ce.vm = .none) (hcl : s.vm.findClass E = some ce.cls)
    (kk : W p l e R s m args below meth c H locs cells slots Q (F0 m x.handlerPc ls [.ref q])) : vx_W p l e R s m args below meth c H locs cells slots Q (F0 m pc ls rest) q := by
  intro T hT X
  have hpl : e.platform.magicAccessors = ({} : Platform).magicAccessors := by rw [X.admits.platform]
  obtain ⟨c3, c4, hc3, hc4, hasg⟩ := Cond.castable_spec hcast
  cases Option.some.inj (hc3.symm.trans hcl)
  obtain ⟨c5, hc5, hcl5⟩ := Cond.classLink_spec hown hlink e.platform hpl
  cases Option.some.inj (hc4.symm.trans hc5)
  obtain ⟨vm', X', st⟩ := X.thenCaughtThrough q (g := F0 m pc ls rest) rfl (Steps.refl _) (by rw [hT]; exact hcell) (by rw [hv]; rfl) (by obtain ⟨k9, h9, -⟩ := Vm.findClass_spec hcl; exact ⟨k9, h9⟩) pre x suf hsplit
    (fun z hz => by
      rcases hpass z hz with h | ⟨hz0, nm, hl1, hn1⟩
      · exact Or.inl h
      · obtain ⟨c6, hc6, hcl6⟩ := Cond.classLink_spec hown hl1 e.platform hpl
        obtain ⟨a8, b8, h1, h2, h3⟩ := hn1
        cases Option.some.inj (h1.symm.trans hcl)
        cases Option.some.inj (h2.symm.trans hc6)
        exact Or.inr ⟨hz0, _, hcl6, h3⟩) hx (Or.inr ⟨h0, c4, hcl5, hasg⟩)
  obtain ⟨t, a1, b1⟩ := kk (T.setVm vm') hT X'
  exact ⟨t, st.trans a1, b1⟩
end Rows
section Ends
variable {p : Program} {l : Launch} {e : Env} {R : Room} {s : State} {m : MethodId} {args : Array Value} {below : List Frame} {meth : Method} {c : Code} {H : Heap} {locs : List Loc} {cells slots : Nat} {Q : State → Prop}
variable {mc ms : Nat} {free : Addr → Prop} {A0 A1 : Nat → Prop} {H0 : Heap} {a : Array Value} {ls : Array Slot} {st0 rest : List Value}
variable {Qc : Array Value → State → Outcome → State → Prop} {XC : String → State → State → Prop}
/-- what a body that may throw owes at its end -/
def vx_MQ (below : List Frame) (Qc : Array Value → State → Outcome → State → Prop) (XC : String → State → State → Prop) (a : Array Value) (s : State) (mc ms : Nat) (free : Addr → Prop) : State → Prop := fun t =>
  ∃ o, t.status = .running ∧ Ended t below o ∧ vx_Q Qc XC mc ms free a s o t
theorem vx_ret {g : JFrame} {mc ms : Nat} (k : W p l e R s m args below meth c H locs cells slots (MQ below Qc args s mc ms free) g) : W p l e R s m args below meth c H locs cells slots (vx_MQ below Qc XC args s mc ms free) g := by
  intro T hT X
  obtain ⟨t, a1, o, b1, b2, b3, b4⟩ := k T hT X
  exact ⟨t, a1, o, b1, b2, Or.inl ⟨b3, b4⟩⟩
/-- not caught here: it goes on to the caller -/
theorem vx_widen {g : JFrame} {q : Addr} {k n : Nat} (h1 : cells ≤ k) (h2 : slots ≤ n) (kk : vx_W p l e R s m args below meth c H locs k n Q g q) : vx_W p l e R s m args below meth c H locs cells slots Q g q := fun T hT X => kk T hT (stand_widen X h1 h2)
theorem vx_out {pc : Nat} {E : String} {ce : Cell} {q : Addr} {mc ms : Nat} (hout : ∀ x ∈ c.exceptionTable.toList, covers x pc = false) (hlocks : meth.locks = false) (hcell : H[q]? = some ce) (hv : ce.vm = .none) (hcl : s.vm.findClass E = some ce.cls)
    (hx : ∀ t : State, t.heap = H → s.vm.Alike t.vm → XC E s t) (hf : ∀ z ∈ locs, free z.base) (hc : cells ≤ mc) (hs : slots ≤ ms) :
    vx_W p l e R s m args below meth c H locs cells slots (vx_MQ below Qc XC args s mc ms free) (F0 m pc ls rest) q := by
  intro T hT X
  obtain ⟨st1, hrun, hend, hW, hsm⟩ := X.leaveThrown q (g := F0 m pc ls rest) rfl rfl rfl hout hlocks
  have hcell9 : (T.setFrames (.throwing q :: below)).heap[q]? = some ce := by
    show T.heap[q]? = some ce
    rw [hT]; exact hcell
  exact ⟨_, st1, .threw q, hrun, hend, Or.inr ⟨q, rfl, E, ce, locs, hx _ hT hW.alike, hcell9, hv, hcl, hW, hsm.mono hc hs, hf⟩⟩
theorem vx_frame {U : State} {k n : Nat} (h : s.sameButNew ({ U with vm := s.vm } : State) locs k n) : s.heap.size ≤ U.heap.size ∧ ∀ q : Nat, q < s.heap.size → (∀ z ∈ locs, z.base ≠ q) → U.heap[q]? = s.heap[q]? := by
  obtain ⟨-, h2, -, -, -, h6⟩ := h
  refine ⟨h2, fun q hq hz => ?_⟩
  obtain ⟨c9, e1, e2, e3, e4⟩ := h6 q _ (Array.getElem?_eq_getElem hq)
  have hs : c9.slots = (s.heap[q]).slots := Array.ext_getElem? fun i => e4 i fun hm => hz _ hm rfl
  have h9 : c9 = s.heap[q] := by
    rw [hs] at e2
    exact e2
  have e5 : U.heap[q]? = some c9 := e1
  rw [e5, h9, Array.getElem?_eq_getElem hq]
/-- the words of a throw but the four that speak of the heap -/
def vx_no (w : Cond) : Bool := decide (w ≠ .isRef (.static Bundle.tN "UNASSIGNED_STACK" Bundle.steD)) && decide (w ≠ .isRef (.static Bundle.tN "SUPPRESSED_SENTINEL" Bundle.listD)) && decide (w ≠ .laysStatic Bundle.tN "UNASSIGNED_STACK" Bundle.steD) && decide (w ≠ .laysStatic Bundle.tN "SUPPRESSED_SENTINEL" Bundle.listD)
def vx_at0 (own : String) (ic : Nat) (X : String) (names : List String) : List Cond := (Bundle.ownAtoms0 own ic X names).filter vx_no
def vx_atS (own : String) (ic : Nat) (X : String) (names : List String) : List Cond := (Bundle.ownAtoms own ic X names).filter vx_no
/-- a word that the tables alone decide, or a good one -/
def vx_ot (w : Cond) : Bool := w.onTables || goodWord w
theorem vx_ot_at {args a' : Array Value} {s U : State} {w : Cond} (hW : s.WarmedH U.vm) (hvm : s.vm = U.vm) (hg : vx_ot w = true) (h : w.before args s = true) : w.before a' U = true := by
  simp only [vx_ot, Bool.or_eq_true] at hg
  rcases hg with hg | hg
  · exact va_tabs hg hvm h
  · exact word_at hW (good_of_word hg) h
/-- a list's words: the good ones out of the method's own list, the others by premises of their own -/
theorem vx_hat {args : Array Value} {s : State} {L B : List Cond} (h1 : ∀ w ∈ L.filter goodWord, w.before args s = true) (h2 : ∀ w ∈ L.filter (fun w => !goodWord w), w ∈ B) (h3 : ∀ w ∈ B, w.before args s = true) : ∀ w ∈ L, w.before args s = true := by
  intro w hw
  by_cases g : goodWord w = true
  · exact h1 w (List.mem_filter.mpr ⟨hw, g⟩)
  · refine h3 w (h2 w (List.mem_filter.mpr ⟨hw, ?_⟩))
    show (!goodWord w) = true
    cases hgw : goodWord w
    · rfl
    · exact absurd hgw g
theorem vx_c {args : Array Value} {s : State} {w : Cond} {B : List Cond} (h : w.before args s = true) (t : ∀ w ∈ B, w.before args s = true) : ∀ w' ∈ w :: B, w'.before args s = true := fun w' h' => (List.mem_cons.mp h').elim (fun e => by rw [e]; exact h) (t w')
theorem vx_n {args : Array Value} {s : State} : ∀ w ∈ ([] : List Cond), w.before args s = true := fun _ h => nomatch h
theorem vx_own {args : Array Value} {s : State} {L : List Cond} (h1 : ∀ w ∈ L.filter vx_no, w.before args s = true)
    (hU : (Cond.isRef (.static Bundle.tN "UNASSIGNED_STACK" Bundle.steD)).before args s = true) (hN : (Cond.isRef (.static Bundle.tN "SUPPRESSED_SENTINEL" Bundle.listD)).before args s = true)
    (lU : (Cond.laysStatic Bundle.tN "UNASSIGNED_STACK" Bundle.steD).before args s = true) (lN : (Cond.laysStatic Bundle.tN "SUPPRESSED_SENTINEL" Bundle.listD).before args s = true) : ∀ w ∈ L, w.before args s = true := by
  intro w hw
  by_cases e1 : w = .isRef (.static Bundle.tN "UNASSIGNED_STACK" Bundle.steD)
  · rw [e1]; exact hU
  · by_cases e2 : w = .isRef (.static Bundle.tN "SUPPRESSED_SENTINEL" Bundle.listD)
    · rw [e2]; exact hN
    · by_cases e3 : w = .laysStatic Bundle.tN "UNASSIGNED_STACK" Bundle.steD
      · rw [e3]; exact lU
      · by_cases e4 : w = .laysStatic Bundle.tN "SUPPRESSED_SENTINEL" Bundle.listD
        · rw [e4]; exact lN
        · exact h1 w (List.mem_filter.mpr ⟨hw, by unfold vx_no; rw [decide_eq_true e1, decide_eq_true e2, decide_eq_true e3, decide_eq_true e4]; rfl⟩)
/-- where a static field lies, its class's statics cell in H -/
def vx_L (C n d : String) (A : Nat → Prop) (U : State) (H : Heap) : Prop := ∃ (c : ClassId) (k : Class) (i : Nat) (f : Field) (a : Nat) (cell : Cell), U.vm.findClass C = some c ∧ U.fieldFound? C n d = some (c, k, i, f) ∧ f.isStatic = true ∧ k.statics = some a ∧ H[a]? = some cell ∧ cell.vm.isStatics = true ∧ cell.cls = c ∧ f.slot < cell.slots.size ∧ k.staticTypes[f.slot]? = some f.type ∧ ¬ A a
theorem vx_L.moved {C n d : String} {A : Nat → Prop} {u U : State} {H : Heap} (hvm : u.vm.Alike U.vm) (h : vx_L C n d A u H) : vx_L C n d A U H := by
  obtain ⟨c, k, i, f, a, cell, h1, h2, h3, h4, h5, h6, h7, h8, h9, h10⟩ := h
  obtain ⟨k', hi', he⟩ := State.fieldFound?_setVm hvm h2
  exact ⟨c, k', i, f, a, cell, by rw [hvm.findClass]; exact h1, hi', h3, by rw [he]; exact h4, h5, h6, h7, h8, by rw [he]; exact h9, h10⟩
theorem vx_L.kept {C n d : String} {A : Nat → Prop} {U : State} {H H1 : Heap} (h : vx_L C n d A U H) (hq : ∀ a : Nat, a < H.size → ¬ A a → H1[a]? = H[a]?) : vx_L C n d A U H1 := by
  obtain ⟨c, k, i, f, a, cell, h1, h2, h3, h4, h5, h6, h7, h8, h9, h10⟩ := h
  exact ⟨c, k, i, f, a, cell, h1, h2, h3, h4, by rw [hq a (Array.getElem?_eq_some_iff.mp h5).1 h10]; exact h5, h6, h7, h8, h9, h10⟩
theorem vx_L.narrow {C n d : String} {A B : Nat → Prop} {U : State} {H : Heap} (h : vx_L C n d A U H) (hAB : ∀ q, B q → A q) : vx_L C n d B U H := by
  obtain ⟨c, k, i, f, a, cell, h1, h2, h3, h4, h5, h6, h7, h8, h9, h10⟩ := h
  exact ⟨c, k, i, f, a, cell, h1, h2, h3, h4, h5, h6, h7, h8, h9, fun z => h10 (hAB _ z)⟩
theorem vx_L.word {C n d : String} {A : Nat → Prop} {s : State} {args : Array Value} (h : vx_L C n d A s s.heap) : (Cond.laysStatic C n d).before args s = true := by
  obtain ⟨c, k, i, f, a, cell, h1, h2, h3, h4, h5, h6, h7, h8, h9, -⟩ := h
  show (Cond.laysStatic C n d).holds args s none s [] = true
  exact Cond.laysStatic_of h1 h2 h3 h4 h5 h6 h7 h8 h9
/-- .. and what it holds: null or some reference -/
def vx_Zq (C n d : String) (A : Nat → Prop) (U : State) (H : Heap) : Prop := va_Zq C n d A U H ∧ vx_L C n d A U H
theorem vx_Zq.moved {C n d : String} {A : Nat → Prop} {u U : State} {H : Heap} (hvm : u.vm.Alike U.vm) (h : vx_Zq C n d A u H) : vx_Zq C n d A U H := ⟨va_Zq.moved hvm h.1, vx_L.moved hvm h.2⟩
theorem vx_Zq.kept {C n d : String} {A : Nat → Prop} {U : State} {H H1 : Heap} (h : vx_Zq C n d A U H) (hq : ∀ a : Nat, a < H.size → ¬ A a → H1[a]? = H[a]?) : vx_Zq C n d A U H1 := ⟨va_Zq.kept h.1 hq, vx_L.kept h.2 hq⟩
theorem vx_Zq.narrow {C n d : String} {A B : Nat → Prop} {U : State} {H : Heap} (h : vx_Zq C n d A U H) (hAB : ∀ q, B q → A q) : vx_Zq C n d B U H := ⟨va_Zq.narrow h.1 hAB, vx_L.narrow h.2 hAB⟩
theorem vx_Zqof {args : Array Value} {s : State} {C n d : String} {A : Nat → Prop} (hl : (Cond.laysStatic C n d).before args s = true) (hini : (Cond.initialized C).before args s = true) (h : (Cond.isRef (.static C n d)).before args s = true) (hA : ∀ a : Nat, a < s.heap.size → ¬ A a) : vx_Zq C n d A s s.heap := by
  refine ⟨va_Zqof hl hini h hA, ?_⟩
  obtain ⟨c, k, i, f, a, cell, h1, h2, h3, h4, h5, h6, h7, h8, h9⟩ := Cond.laysStatic_spec hl
  exact ⟨c, k, i, f, a, cell, h1, h2, h3, h4, h5, h6, h7, h8, h9, hA a (Array.getElem?_eq_some_iff.mp h5).1⟩
theorem vx_isRef {C n d : String} {v : Value} {A : Nat → Prop} {s : State} {args : Array Value} (h : va_Z C n d v A s s.heap) (hv : v.isRef = true) : (Cond.isRef (.static C n d)).before args s = true := by
  obtain ⟨cf, kf, fi, f, a, cell, h1, h2, h3, h4, h5, h6, h7, -⟩ := h
  have he : (Term.static C n d).eval args s none [] s = some v := by
    simp [Term.eval, State.fieldNamed?, h1, h2, h4, h5, h6, h7]
  simp only [Cond.before, Cond.holds, Cond.value, he]
  cases v <;> simp_all [Value.isRef]
theorem vx_isRefq {C n d : String} {A : Nat → Prop} {s : State} {args : Array Value} (h : va_Zq C n d A s s.heap) : (Cond.isRef (.static C n d)).before args s = true := by
  rcases h with h | ⟨t, h⟩
  · exact vx_isRef h rfl
  · exact vx_isRef h rfl
/-- the same frame, seen from here: as if the method were called anew in this heap -/
theorem vx_rebase {T : State} (X : Stand p l e R s m args below meth c T locs cells slots) {R' : Room} (hf : R'.frames ≤ R.frames) (hl : R'.locals ≤ R.locals) (hc : cells + R'.cells ≤ R.cells) (hs : slots + R'.slots ≤ R.slots) :
    Stand p l e R' ((T.setVm s.vm).setFrames (.invoking m args :: below)) m args below meth c T [] 0 0 := by
  have htop : (T.setVm s.vm).topJava?.isSome := X.here.top
  have hF : ((T.setVm s.vm).setFrames (.invoking m args :: below)).frames = .invoking m args :: below := State.frames_setFrames _ (State.cur_lt_of_top htop)
  obtain ⟨g₀, hg0⟩ := Option.isSome_iff_exists.mp htop
  obtain ⟨r, hr⟩ := State.topJava?_eq_some.mp hg0
  have hl9 : e.platform.stackLimits (T.setVm s.vm).me = e.platform.stackLimits s.me := X.limits
  have hb9 : (T.setVm s.vm).me.stackBytes = s.me.stackBytes := X.bytes
  refine ⟨X.admits, X.cas, X.clock, hF, ?_, X.hears, X.method, X.code, X.here, X.tail, X.warmed, ?_, ?_, ?_⟩
  · have h := X.room
    have hU : ((T.setVm s.vm).setFrames (.invoking m args :: below)).localsInUse = s.localsInUse := by
      rw [State.localsInUse_invoking hF (meth := meth) (c := c) X.method X.code, State.localsInUse_invoking X.frames X.method X.code]
    simp only [State.hasRoom, Bool.and_eq_true, decide_eq_true_eq] at h ⊢
    obtain ⟨⟨⟨⟨h1, h2, h3, h4, h5, h6⟩, h7⟩, h8⟩, h9⟩ := h
    rw [X.frames, List.length_cons] at h2 h3
    have q1 := X.heapSize
    have q2 := X.used
    simp only [hF, hU, List.length_cons, State.stackLimits_setFrames, State.stackBytes_setFrames, hl9, hb9]
    refine ⟨⟨⟨⟨by omega, by omega, by omega, by omega, by omega, h6⟩, ?_⟩, ?_⟩, X.book⟩
    · show T.heap.size + R'.cells ≤ e.platform.maxCells
      omega
    · show T.slotsUsed + R'.slots ≤ e.platform.maxSlots
      omega
  · rw [State.stackLimits_setFrames]; rfl
  · rw [State.stackBytes_setFrames]; rfl
  · refine ⟨?_, Nat.le_refl _, Nat.le_refl _, ?_, ?_, fun a c9 h9 => ⟨c9, h9, rfl, rfl, fun _ _ => rfl⟩⟩
    · obtain ⟨t, ht, -⟩ := State.frames_cons hr
      show T.setVm s.vm = { ((T.setVm s.vm).setFrames (.invoking m args :: below)).setFrames (T.setVm s.vm).frames with heap := T.heap, slotsUsed := T.slotsUsed }
      rw [State.setFrames_setFrames, State.setFrames_self ht]
      rfl
    · show T.slotsUsed = T.slotsUsed + ((T.heap.toList.drop T.heap.size).map (·.slots.size)).sum
      rw [List.drop_eq_nil_of_le (Nat.le_of_eq Array.length_toList)]
      rfl
    · show ((T.heap.toList.drop T.heap.size).map (·.slots.size)).sum ≤ 0
      rw [List.drop_eq_nil_of_le (Nat.le_of_eq Array.length_toList)]
      exact Nat.le_refl _
/-- 'throw new E()': new; dup; invokespecial; athrow -/
theorem vx_throw0 {cc : ByteArray} {pc : Nat} (hexec : p.tables.exec = Jvm.exec) (hb : c.code = cc) (hl : l.stackTraces = false) {own cls : String} {names : List String} {ik ic mc ms : Nat} {A : Nat → Prop}
    (hown : s.vm.findClass own = some m.cls) (hcls : Bundle.fit cls = true) (hnames : ∀ n ∈ names, Bundle.fit n = true)
    (hk : (Cond.classLink own ik cls).before args s = true) (hini : (Cond.initialized cls).before args s = true) (hat : ∀ w ∈ vx_at0 own ic cls names, w.before args s = true)
    (hgood : ∀ w ∈ Cond.classLink own ik cls :: Cond.initialized cls :: vx_at0 own ic cls names, vx_ot w = true)
    (hU : vx_Zq Bundle.tN "UNASSIGNED_STACK" Bundle.steD A s s.heap) (hN : vx_Zq Bundle.tN "SUPPRESSED_SENTINEL" Bundle.listD A s s.heap) (hS : va_S A s.heap H locs) (hsize : ls.size = c.maxLocals)
    (d0 : decode cc pc = .ok (.new ik, 3)) (d3 : decode cc (pc + 3) = .ok (.dup, 1)) (d4 : decode cc (pc + 4) = .ok (.invokespecial ic, 3)) (d7 : decode cc (pc + 7) = .ok (.athrow, 1))
    (hout : ∀ x ∈ c.exceptionTable.toList, covers x (pc + 7) = false)
    (hRframes : names.length + 3 < R.frames) (hRlocals : (rest.map fun v => v.category).sum + (13 * (names.length + 1) + 42) ≤ R.locals) (hRcells : cells + 1 ≤ R.cells) (hRslots : slots + 6 ≤ R.slots) (hlocks : meth.locks = false)
    (hx : ∀ t : State, s.vm.Alike t.vm → H.size ≤ t.heap.size → (∀ q : Nat, q < H.size → t.heap[q]? = H[q]?) → XC cls s t)
    (hf : ∀ z ∈ locs, free z.base) (hc : cells + 1 ≤ mc) (hs : slots + 6 ≤ ms) :
    W p l e R s m args below meth c H locs cells slots (vx_MQ below Qc XC args s mc ms free) (F0 m pc ls rest) := by
  intro T hT X
  have htr : e.platform.stackTraces = false := (show e.platform.stackTraces = l.stackTraces by rw [X.admits.platform]).trans hl
  have Y := vx_rebase X (R' := { frames := R.frames, locals := R.locals, cells := 1, slots := 6 }) (Nat.le_refl _) (Nat.le_refl _) hRcells hRslots
  obtain ⟨s', hA⟩ : ∃ z, z = (T.setVm s.vm).setFrames (.invoking m args :: below) := ⟨_, rfl⟩
  rw [← hA] at Y
  have hvm : s'.vm = s.vm := by rw [hA]; rfl
  have hhp : s'.heap = H := by rw [hA]; exact hT
  have hW0 : s.WarmedH s'.vm := by rw [hvm]; exact State.WarmedH.refl s
  have hat' : ∀ w ∈ vx_at0 own ic cls names, w.before args s' = true := fun w hw => vx_ot_at hW0 hvm.symm (hgood w (List.mem_cons_of_mem _ (List.mem_cons_of_mem _ hw))) (hat w hw)
  have hk' : (Cond.classLink own ik cls).before args s' = true := vx_ot_at hW0 hvm.symm (hgood _ List.mem_cons_self) hk
  have hini' : (Cond.initialized cls).before args s' = true := vx_ot_at hW0 hvm.symm (hgood _ (List.mem_cons_of_mem _ List.mem_cons_self)) hini
  have hU' : vx_Zq Bundle.tN "UNASSIGNED_STACK" Bundle.steD A s' s'.heap := by rw [hhp]; exact vx_Zq.moved hW0.alike (hU.kept hS.2.1)
  have hN' : vx_Zq Bundle.tN "SUPPRESSED_SENTINEL" Bundle.listD A s' s'.heap := by rw [hhp]; exact vx_Zq.moved hW0.alike (hN.kept hS.2.1)
  have h : ∀ w ∈ Bundle.ownAtoms0 own ic cls names, w.before args s' = true := vx_own hat' (vx_isRefq hU'.1) (vx_isRefq hN'.1) hU'.2.word hN'.2.word
  have hown' : s'.vm.findClass own = some m.cls := by rw [hvm]; exact hown
  have hins : (Cond.instantiable cls 6).before args s' = true := h _ (by simp [Bundle.ownAtoms0])
  obtain ⟨vm₁, cX, kX, hfX, hkX, -, -, X₁, st1⟩ := Y.newCold hexec (own := own) (C := cls) (index := ik) (n := 6) hown' hk' hins hini'
    (g := F0 m pc ls rest) rfl (by rw [hb]; exact d0) (Nat.le_refl _) (Nat.le_refl _)
  generalize hT1 : (T.setVm vm₁).pushCell { cls := cX, slots := kX.instanceTypes.map defaultValue, vm := .none } = T1 at X₁ st1
  have hcat : (Value.ref T.heap.size).category = 1 := rfl
  have hcellA : T1.heap[T.heap.size]? = some (freshCell cX kX) := by rw [← hT1]; exact State.heap_pushCell_size _ _
  have d3' : decode c.code (pc + 3) = .ok (.dup, 1) := by rw [hb]; exact d3
  obtain ⟨U, hsteps, hrun, hend, hW, hsame, ce, hce, hO⟩ := X₁.ctorThrow0 hexec htr (own := own) (cls := cls) (names := names) (ic := ic) hown' hcls hnames h (fun x hx => nomatch hx) hfX hkX hcellA (by rw [hhp, hT]; exact Nat.le_refl _)
    (g := { method := m, pc := pc + 4, locals := ls, stack := .ref T.heap.size :: .ref T.heap.size :: rest, locked := none }) rfl hsize rfl rfl (rest := rest) rfl
    (by rw [hb]; exact d4) (by rw [hb]; exact d7) hout hRframes (by simp only [List.map_cons, List.sum_cons, hcat]; omega) hlocks
  obtain ⟨f1, f2⟩ := vx_frame hsame
  rw [hhp] at f1 f2
  have hWs : s.WarmedH U.vm := State.WarmedH.trans hW0 hW
  have hcl : s.vm.findClass cls = some ce.cls := by
    have h9 := hO.cls
    rw [hvm] at h9
    exact h9
  have hall : s.sameButNew ({ U with vm := s.vm } : State) locs mc ms := by
    subst hA
    obtain ⟨e1, e2⟩ := hsame
    rw [State.setFrames_setFrames] at e1
    have h2 : (T.setVm s.vm).sameButNew ({ U with vm := s.vm } : State) [] (0 + 1) (0 + 6) := ⟨e1, e2⟩
    have h3 := X.same.trans h2
    rw [List.append_nil] at h3
    exact h3.mono hc hs
  refine ⟨U, ?_, .threw T.heap.size, hrun, hend, Or.inr ⟨T.heap.size, rfl, cls, ce, locs, hx U hWs.alike f1 (fun q hq => f2 q hq (fun z hz => nomatch hz)), hce, hO.vm, hcl, hWs, hall, hf⟩⟩
  refine st1 _ ?_
  show Steps p.tables e below (T1.setTop { method := m, pc := pc + 3, locals := ls, stack := .ref T.heap.size :: rest, locked := none }) _
  jvm_step X₁.here [X₁.here.top, hexec, d3', Value.category]
  exact hsteps
/-- 'throw new E("text")': new; dup; ldc; invokespecial; athrow -/
theorem vx_throwS {cc : ByteArray} {pc : Nat} (hexec : p.tables.exec = Jvm.exec) (hb : c.code = cc) (hl : l.stackTraces = false) {own cls text : String} {names : List String} {ik is ic mc ms sa : Nat} {A : Nat → Prop}
    (hown : s.vm.findClass own = some m.cls) (hcls : Bundle.fit cls = true) (hnames : ∀ n ∈ names, Bundle.fit n = true)
    (hk : (Cond.classLink own ik cls).before args s = true) (hini : (Cond.initialized cls).before args s = true) (hstr : vk_R own is text sa s) (hat : ∀ w ∈ vx_atS own ic cls names, w.before args s = true)
    (hgood : ∀ w ∈ Cond.classLink own ik cls :: Cond.initialized cls :: vx_atS own ic cls names, vx_ot w = true)
    (hU : vx_Zq Bundle.tN "UNASSIGNED_STACK" Bundle.steD A s s.heap) (hN : vx_Zq Bundle.tN "SUPPRESSED_SENTINEL" Bundle.listD A s s.heap) (hS : va_S A s.heap H locs) (hsize : ls.size = c.maxLocals)
    (d0 : decode cc pc = .ok (.new ik, 3)) (d3 : decode cc (pc + 3) = .ok (.dup, 1)) (d4 : decode cc (pc + 4) = .ok (.ldc is, 2)) (d6 : decode cc (pc + 6) = .ok (.invokespecial ic, 3)) (d9 : decode cc (pc + 9) = .ok (.athrow, 1))
    (hout : ∀ x ∈ c.exceptionTable.toList, covers x (pc + 9) = false)
    (hRframes : names.length + 3 < R.frames) (hRlocals : (rest.map fun v => v.category).sum + (13 * (names.length + 1) + 43) ≤ R.locals) (hRcells : cells + 1 ≤ R.cells) (hRslots : slots + 6 ≤ R.slots) (hlocks : meth.locks = false)
    (hx : ∀ t : State, s.vm.Alike t.vm → t.heap.size = H.size + 1 → (∀ q : Nat, q < H.size → t.heap[q]? = H[q]?) → XC cls s t)
    (hf : ∀ z ∈ locs, free z.base) (hc : cells + 1 ≤ mc) (hs : slots + 6 ≤ ms) :
    W p l e R s m args below meth c H locs cells slots (vx_MQ below Qc XC args s mc ms free) (F0 m pc ls rest) := by
  intro T hT X
  have htr : e.platform.stackTraces = false := (show e.platform.stackTraces = l.stackTraces by rw [X.admits.platform]).trans hl
  have Y := vx_rebase X (R' := { frames := R.frames, locals := R.locals, cells := 1, slots := 6 }) (Nat.le_refl _) (Nat.le_refl _) hRcells hRslots
  obtain ⟨s', hA⟩ : ∃ z, z = (T.setVm s.vm).setFrames (.invoking m args :: below) := ⟨_, rfl⟩
  rw [← hA] at Y
  have hvm : s'.vm = s.vm := by rw [hA]; rfl
  have hhp : s'.heap = H := by rw [hA]; exact hT
  have hW0 : s.WarmedH s'.vm := by rw [hvm]; exact State.WarmedH.refl s
  have hat' : ∀ w ∈ vx_atS own ic cls names, w.before args s' = true := fun w hw => vx_ot_at hW0 hvm.symm (hgood w (List.mem_cons_of_mem _ (List.mem_cons_of_mem _ hw))) (hat w hw)
  have hk' : (Cond.classLink own ik cls).before args s' = true := vx_ot_at hW0 hvm.symm (hgood _ List.mem_cons_self) hk
  have hini' : (Cond.initialized cls).before args s' = true := vx_ot_at hW0 hvm.symm (hgood _ (List.mem_cons_of_mem _ List.mem_cons_self)) hini
  have hU' : vx_Zq Bundle.tN "UNASSIGNED_STACK" Bundle.steD A s' s'.heap := by rw [hhp]; exact vx_Zq.moved hW0.alike (hU.kept hS.2.1)
  have hN' : vx_Zq Bundle.tN "SUPPRESSED_SENTINEL" Bundle.listD A s' s'.heap := by rw [hhp]; exact vx_Zq.moved hW0.alike (hN.kept hS.2.1)
  have h : ∀ w ∈ Bundle.ownAtoms own ic cls names, w.before args s' = true := vx_own hat' (vx_isRefq hU'.1) (vx_isRefq hN'.1) hU'.2.word hN'.2.word
  have hown' : s'.vm.findClass own = some m.cls := by rw [hvm]; exact hown
  have hins : (Cond.instantiable cls 6).before args s' = true := h _ (by simp [Bundle.ownAtoms])
  obtain ⟨vm₁, cX, kX, hfX, hkX, -, -, X₁, st1⟩ := Y.newCold hexec (own := own) (C := cls) (index := ik) (n := 6) hown' hk' hins hini'
    (g := F0 m pc ls rest) rfl (by rw [hb]; exact d0) (Nat.le_refl _) (Nat.le_refl _)
  generalize hT1 : (T.setVm vm₁).pushCell { cls := cX, slots := kX.instanceTypes.map defaultValue, vm := .none } = T1 at X₁ st1
  have hcat : (Value.ref T.heap.size).category = 1 := rfl
  have hcellA : T1.heap[T.heap.size]? = some (freshCell cX kX) := by rw [← hT1]; exact State.heap_pushCell_size _ _
  have d3' : decode c.code (pc + 3) = .ok (.dup, 1) := by rw [hb]; exact d3
  have d4' : decode c.code (pc + 4) = .ok (.ldc is, 2) := by rw [hb]; exact d4
  have hstr' : vk_R own is text sa s' := vk_R.warm hW0 hstr
  obtain ⟨U, hsteps, hrun, hend, hW, hsame, ce, hce, hO⟩ := X₁.ctorThrowS hexec htr (own := own) (cls := cls) (names := names) (ic := ic) hown' hcls hnames h (fun x hx => nomatch hx) hfX hkX hcellA (by rw [hhp, hT]; exact Nat.le_refl _) (msg := .ref sa) rfl
    (g := { method := m, pc := pc + 6, locals := ls, stack := .ref sa :: .ref T.heap.size :: .ref T.heap.size :: rest, locked := none }) rfl hsize rfl rfl (rest := rest) rfl
    (by rw [hb]; exact d6) (by rw [hb]; exact d9) hout hRframes (by simp only [List.map_cons, List.sum_cons, hcat]; omega) hlocks
  obtain ⟨f1, f2⟩ := vx_frame hsame
  rw [hhp] at f1 f2
  have hWs : s.WarmedH U.vm := State.WarmedH.trans hW0 hW
  have hcl : s.vm.findClass cls = some ce.cls := by
    have h9 := hO.cls
    rw [hvm] at h9
    exact h9
  have hall : s.sameButNew ({ U with vm := s.vm } : State) locs mc ms := by
    subst hA
    obtain ⟨e1, e2⟩ := hsame
    rw [State.setFrames_setFrames] at e1
    have h2 : (T.setVm s.vm).sameButNew ({ U with vm := s.vm } : State) [] (0 + 1) (0 + 6) := ⟨e1, e2⟩
    have h3 := X.same.trans h2
    rw [List.append_nil] at h3
    exact h3.mono hc hs
  refine ⟨U, ?_, .threw T.heap.size, hrun, hend, Or.inr ⟨T.heap.size, rfl, cls, ce, locs, hx U hWs.alike (by have h7 := (Array.getElem?_eq_some_iff.mp hce).1; have h8 := hsame.2.2.1; have h9 : ({ U with vm := s'.vm } : State).heap.size = U.heap.size := rfl; rw [hT] at h7; rw [h9, hhp] at h8; omega) (fun q hq => f2 q hq (fun z hz => nomatch hz)), hce, hO.vm, hcl, hWs, hall, hf⟩⟩
  refine st1 _ ?_
  show Steps p.tables e below (T1.setTop { method := m, pc := pc + 3, locals := ls, stack := .ref T.heap.size :: rest, locked := none }) _
  jvm_step X₁.here [X₁.here.top, hexec, d3', Value.category]
  exact X₁.ldcString hexec (own := own) (text := text) (index := is) (a := sa) hown' hstr'.1 hstr'.2
    (g := { method := m, pc := pc + 4, locals := ls, stack := .ref T.heap.size :: .ref T.heap.size :: rest, locked := none }) rfl d4' _ hsteps
/-- 'throw new E("text")', the text by a wide index -/
theorem vx_throwSW {cc : ByteArray} {pc : Nat} (hexec : p.tables.exec = Jvm.exec) (hb : c.code = cc) (hl : l.stackTraces = false) {own cls text : String} {names : List String} {ik is ic mc ms sa : Nat} {A : Nat → Prop}
    (hown : s.vm.findClass own = some m.cls) (hcls : Bundle.fit cls = true) (hnames : ∀ n ∈ names, Bundle.fit n = true)
    (hk : (Cond.classLink own ik cls).before args s = true) (hini : (Cond.initialized cls).before args s = true) (hstr : vk_R own is text sa s) (hat : ∀ w ∈ vx_atS own ic cls names, w.before args s = true)
    (hgood : ∀ w ∈ Cond.classLink own ik cls :: Cond.initialized cls :: vx_atS own ic cls names, vx_ot w = true)
    (hU : vx_Zq Bundle.tN "UNASSIGNED_STACK" Bundle.steD A s s.heap) (hN : vx_Zq Bundle.tN "SUPPRESSED_SENTINEL" Bundle.listD A s s.heap) (hS : va_S A s.heap H locs) (hsize : ls.size = c.maxLocals)
    (d0 : decode cc pc = .ok (.new ik, 3)) (d3 : decode cc (pc + 3) = .ok (.dup, 1)) (d4 : decode cc (pc + 4) = .ok (.ldc_w is, 3)) (d7 : decode cc (pc + 7) = .ok (.invokespecial ic, 3)) (d10 : decode cc (pc + 10) = .ok (.athrow, 1))
    (hout : ∀ x ∈ c.exceptionTable.toList, covers x (pc + 10) = false)
    (hRframes : names.length + 3 < R.frames) (hRlocals : (rest.map fun v => v.category).sum + (13 * (names.length + 1) + 43) ≤ R.locals) (hRcells : cells + 1 ≤ R.cells) (hRslots : slots + 6 ≤ R.slots) (hlocks : meth.locks = false)
    (hx : ∀ t : State, s.vm.Alike t.vm → t.heap.size = H.size + 1 → (∀ q : Nat, q < H.size → t.heap[q]? = H[q]?) → XC cls s t)
    (hf : ∀ z ∈ locs, free z.base) (hc : cells + 1 ≤ mc) (hs : slots + 6 ≤ ms) :
    W p l e R s m args below meth c H locs cells slots (vx_MQ below Qc XC args s mc ms free) (F0 m pc ls rest) := by
  intro T hT X
  have htr : e.platform.stackTraces = false := (show e.platform.stackTraces = l.stackTraces by rw [X.admits.platform]).trans hl
  have Y := vx_rebase X (R' := { frames := R.frames, locals := R.locals, cells := 1, slots := 6 }) (Nat.le_refl _) (Nat.le_refl _) hRcells hRslots
  obtain ⟨s', hA⟩ : ∃ z, z = (T.setVm s.vm).setFrames (.invoking m args :: below) := ⟨_, rfl⟩
  rw [← hA] at Y
  have hvm : s'.vm = s.vm := by rw [hA]; rfl
  have hhp : s'.heap = H := by rw [hA]; exact hT
  have hW0 : s.WarmedH s'.vm := by rw [hvm]; exact State.WarmedH.refl s
  have hat' : ∀ w ∈ vx_atS own ic cls names, w.before args s' = true := fun w hw => vx_ot_at hW0 hvm.symm (hgood w (List.mem_cons_of_mem _ (List.mem_cons_of_mem _ hw))) (hat w hw)
  have hk' : (Cond.classLink own ik cls).before args s' = true := vx_ot_at hW0 hvm.symm (hgood _ List.mem_cons_self) hk
  have hini' : (Cond.initialized cls).before args s' = true := vx_ot_at hW0 hvm.symm (hgood _ (List.mem_cons_of_mem _ List.mem_cons_self)) hini
  have hU' : vx_Zq Bundle.tN "UNASSIGNED_STACK" Bundle.steD A s' s'.heap := by rw [hhp]; exact vx_Zq.moved hW0.alike (hU.kept hS.2.1)
  have hN' : vx_Zq Bundle.tN "SUPPRESSED_SENTINEL" Bundle.listD A s' s'.heap := by rw [hhp]; exact vx_Zq.moved hW0.alike (hN.kept hS.2.1)
  have h : ∀ w ∈ Bundle.ownAtoms own ic cls names, w.before args s' = true := vx_own hat' (vx_isRefq hU'.1) (vx_isRefq hN'.1) hU'.2.word hN'.2.word
  have hown' : s'.vm.findClass own = some m.cls := by rw [hvm]; exact hown
  have hins : (Cond.instantiable cls 6).before args s' = true := h _ (by simp [Bundle.ownAtoms])
  obtain ⟨vm₁, cX, kX, hfX, hkX, -, -, X₁, st1⟩ := Y.newCold hexec (own := own) (C := cls) (index := ik) (n := 6) hown' hk' hins hini'
    (g := F0 m pc ls rest) rfl (by rw [hb]; exact d0) (Nat.le_refl _) (Nat.le_refl _)
  generalize hT1 : (T.setVm vm₁).pushCell { cls := cX, slots := kX.instanceTypes.map defaultValue, vm := .none } = T1 at X₁ st1
  have hcat : (Value.ref T.heap.size).category = 1 := rfl
  have hcellA : T1.heap[T.heap.size]? = some (freshCell cX kX) := by rw [← hT1]; exact State.heap_pushCell_size _ _
  have d3' : decode c.code (pc + 3) = .ok (.dup, 1) := by rw [hb]; exact d3
  have d4' : decode c.code (pc + 4) = .ok (.ldc_w is, 3) := by rw [hb]; exact d4
  have hstr' : vk_R own is text sa s' := vk_R.warm hW0 hstr
  obtain ⟨U, hsteps, hrun, hend, hW, hsame, ce, hce, hO⟩ := X₁.ctorThrowS hexec htr (own := own) (cls := cls) (names := names) (ic := ic) hown' hcls hnames h (fun x hx => nomatch hx) hfX hkX hcellA (by rw [hhp, hT]; exact Nat.le_refl _) (msg := .ref sa) rfl
    (g := { method := m, pc := pc + 7, locals := ls, stack := .ref sa :: .ref T.heap.size :: .ref T.heap.size :: rest, locked := none }) rfl hsize rfl rfl (rest := rest) rfl
    (by rw [hb]; exact d7) (by rw [hb]; exact d10) hout hRframes (by simp only [List.map_cons, List.sum_cons, hcat]; omega) hlocks
  obtain ⟨f1, f2⟩ := vx_frame hsame
  rw [hhp] at f1 f2
  have hWs : s.WarmedH U.vm := State.WarmedH.trans hW0 hW
  have hcl : s.vm.findClass cls = some ce.cls := by
    have h9 := hO.cls
    rw [hvm] at h9
    exact h9
  have hall : s.sameButNew ({ U with vm := s.vm } : State) locs mc ms := by
    subst hA
    obtain ⟨e1, e2⟩ := hsame
    rw [State.setFrames_setFrames] at e1
    have h2 : (T.setVm s.vm).sameButNew ({ U with vm := s.vm } : State) [] (0 + 1) (0 + 6) := ⟨e1, e2⟩
    have h3 := X.same.trans h2
    rw [List.append_nil] at h3
    exact h3.mono hc hs
  refine ⟨U, ?_, .threw T.heap.size, hrun, hend, Or.inr ⟨T.heap.size, rfl, cls, ce, locs, hx U hWs.alike (by have h7 := (Array.getElem?_eq_some_iff.mp hce).1; have h8 := hsame.2.2.1; have h9 : ({ U with vm := s'.vm } : State).heap.size = U.heap.size := rfl; rw [hT] at h7; rw [h9, hhp] at h8; omega) (fun q hq => f2 q hq (fun z hz => nomatch hz)), hce, hO.vm, hcl, hWs, hall, hf⟩⟩
  refine st1 _ ?_
  show Steps p.tables e below (T1.setTop { method := m, pc := pc + 3, locals := ls, stack := .ref T.heap.size :: rest, locked := none }) _
  jvm_step X₁.here [X₁.here.top, hexec, d3', Value.category]
  exact X₁.ldcStringW hexec (own := own) (text := text) (index := is) (a := sa) hown' hstr'.1 hstr'.2
    (g := { method := m, pc := pc + 4, locals := ls, stack := .ref T.heap.size :: .ref T.heap.size :: rest, locked := none }) rfl d4' _ hsteps
end Ends
section Bodies
variable {l : Launch}
theorem vx_ofW {y : MethodName} {ws ws' : List Cond} {rm : Room} {Pc : Array Value → State → Prop} {Qc : Array Value → State → Outcome → State → Prop} {XC : String → State → State → Prop} {mc ms : Nat} {free : Addr → Prop} {cc : ByteArray} {maxL : Nat} {ret : Option FieldType}
    (hy : plainName y.cls = true) (hw : ws = Cond.code y cc maxL ret :: ws')
    (body : ∀ p e s m args below meth c s₁, BodyLoose p l y (headSpec ws rm) cc maxL ret e s m args below meth c s₁ → c.maxLocals = maxL → (∀ x ∈ c.exceptionTable.toList, False) → Pc args s →
      W p l e (headSpec ws rm).room s m args below meth c s.heap [] 0 0 (vx_MQ below Qc XC args s mc ms free) (entryFrame m args maxL)) : vx_Met l y ws rm Pc Qc XC mc ms free := by
  refine MetFree.of_bodyS (code := cc) (maxLocals := maxL) (ret := ret) hy ?_ ?_
  · intro args s m h hn
    obtain ⟨meth, c, h1, h2, h3, h4, h5, h6, -, -⟩ := Cond.code_spec hn (atoms_spec (ws := ws) h _ (by rw [hw]; exact List.mem_cons_self))
    exact ⟨meth, c, h1, h2, h3, h4, h5, h6⟩
  · intro p e s m args below meth c s₁ B hml hP _
    have hh0 : s₁.heap = s.heap := by rw [B.state]; rfl
    have ht : ∀ x ∈ c.exceptionTable.toList, False := by
      obtain ⟨meth9, c9, h1, h2, -, -, -, -, h7, -⟩ := Cond.code_spec B.named (atoms_spec (ws := ws) B.pre _ (by rw [hw]; exact List.mem_cons_self))
      cases Option.some.inj (h1.symm.trans B.method)
      cases Option.some.inj (h2.symm.trans (Stand.of_body B).code)
      intro x hx
      rw [Array.isEmpty_iff.mp h7] at hx
      cases hx
    obtain ⟨t, a1, o, b1, b2, b3⟩ := body p e s m args below meth c s₁ B hml ht hP s₁ hh0 (Stand.of_body B)
    exact ⟨t, o, a1, b1, b2, b3⟩
/-- the table of a body with handlers -/
theorem vx_table {p : Program} {x y : MethodName} {S : Spec} {cc bytes : ByteArray} {maxL maxL' : Nat} {ret ret' : Option FieldType} {e : Env} {s s₁ : State} {m : MethodId} {args : Array Value} {below : List Frame} {meth : Method} {c : Code} {hh : List (Nat × Nat × Nat × Nat)}
    (B : BodyLoose p l y S cc maxL ret e s m args below meth c s₁) (h : (Cond.codeWith y bytes maxL' ret' hh).before args s = true) : c.exceptionTable.toList = tableOf hh := by
  obtain ⟨m9, meth9, c9, hn9, h1, h2, -, -, h6, -⟩ := Cond.codeWith_spec h
  cases Option.some.inj (hn9.symm.trans B.named)
  cases Option.some.inj (h1.symm.trans B.method)
  cases Option.some.inj (h2.symm.trans (Stand.of_body B).code)
  rw [← h6, table_eq]
end Bodies
end VXA
/-! ===== END ===== -/
/-! ===== BEGIN a static call of a method with an exception table ===== -/
section VXS
variable {p : Program} {l : Launch} {e : Env} {R : Room} {s : State} {m : MethodId} {args : Array Value} {below : List Frame} {meth : Method} {c : Code} {T : State} {H : Heap} {locs : List Loc} {cells slots : Nat}
abbrev vx_CSW (R : Room) (s : State) (args : Array Value) (own : String) (index : Nat) (y : MethodName) (bytes : ByteArray) (maxL : Nat) (ret : Option FieldType) (hh : List (Nat × Nat × Nat × Nat)) (ws : List Cond) (rm : Room) (mc ms n : Nat) : Prop :=
  (rm.cells = mc ∧ rm.slots = ms ∧ rm.frames + 1 ≤ R.frames ∧ 8 + (maxL + 11) + rm.locals ≤ R.locals ∧ (∀ w ∈ ws, ∀ (a' : Array Value) (U : State), s.WarmedH U.vm → w.before a' U = true) ∧ Cond.codeWith y bytes maxL ret hh ∈ ws) ∧
  (Cond.codeWith y bytes maxL ret hh).before args s = true ∧ (Cond.initialized y.cls).before args s = true ∧ (y.cls ≠ "java/lang/invoke/MethodHandle" ∧ y.cls ≠ "java/lang/invoke/VarHandle") ∧
  (∀ sig, parseMethodDescriptor y.desc = some sig → n = sig.parameters.length) ∧ (Cond.methodLink own index y).before args s = true ∧ (Cond.static y).before args s = true
theorem vx_cwSW {own : String} {index maxL mc ms : Nat} {y : MethodName} {bytes : ByteArray} {ret : Option FieldType} {hh : List (Nat × Nat × Nat × Nat)} {Ts ws ws' : List Cond} {rm : Room} (n : Nat) (ht : ∀ w ∈ Ts, w.before args s = true) (hT : GoodIn Ts (va_wsS own index y ws)) (hw : ws = Cond.codeWith y bytes maxL ret hh :: ws') (hrc : rm.cells = mc) (hrs : rm.slots = ms)
    (hd : y.cls ≠ "java/lang/invoke/MethodHandle" ∧ y.cls ≠ "java/lang/invoke/VarHandle" ∧ (parseMethodDescriptor y.desc).map (fun d => d.parameters.length) = some n) (hR : rm.frames + 1 ≤ R.frames ∧ 8 + (maxL + 11) + rm.locals ≤ R.locals) :
    vx_CSW R s args own index y bytes maxL ret hh ws rm mc ms n := by
  have ok : ∀ w ∈ va_wsS own index y ws, w.before args s = true := fun w h => ht w (hT w h).1
  have hG : GoodIn Ts ws := fun w h => hT w (by unfold va_wsS; exact List.mem_append_right _ h)
  have hc : Cond.codeWith y bytes maxL ret hh ∈ ws := by rw [hw]; exact List.mem_cons_self
  refine ⟨⟨hrc, hrs, hR.1, hR.2, pay_in ht hG, hc⟩, ht _ (hG _ hc).1, ok _ (by simp [va_wsS]), ⟨hd.1, hd.2.1⟩, fun sig h => ?_, ok _ (by simp [va_wsS]), ok _ (by simp [va_wsS])⟩
  have h2 := hd.2.2
  rw [h] at h2
  exact (Option.some.inj h2).symm
theorem vx_callSW (X : Stand p l e R s m args below meth c T locs cells slots) (hexec : p.tables.exec = Jvm.exec) {own : String} {index : Nat} {y : MethodName} {bytes : ByteArray} {maxL : Nat} {ret : Option FieldType} {hh : List (Nat × Nat × Nat × Nat)}
    (hown : s.vm.findClass own = some m.cls) (hlink : (Cond.methodLink own index y).before args s = true) (hstat : (Cond.static y).before args s = true) (hinit : (Cond.initialized y.cls).before args s = true)
    (hcode : (Cond.codeWith y bytes maxL ret hh).before args s = true) (hy : y.cls ≠ "java/lang/invoke/MethodHandle" ∧ y.cls ≠ "java/lang/invoke/VarHandle")
    {W9 : Nat} {Pre : Pt → Array Value → Prop} {Post : Pt → Array Value → Option Value → Pt → Prop} (hK : Back l R p e below s args y 3 W9 Pre Post)
    {g : JFrame} (hg : g.method = m) (hsize : g.locals.size = c.maxLocals) {argsL rest : List Value} (hlen : ∀ sig, parseMethodDescriptor y.desc = some sig → argsL.length = sig.parameters.length)
    (hstack : g.stack = argsL.reverse ++ rest) (hW : 2 * g.monitorRoom + (rest.map fun v => v.category).sum ≤ W9) (hdg : decode c.code g.pc = .ok (.invokestatic index, 3))
    (hpre : ∀ vm₁, s.WarmedH vm₁ → Pre ⟨T.setVm vm₁, locs, cells, slots⟩ argsL.toArray) :
    ∃ (v : Option Value) (vm₁ : Vm) (B : Pt), s.WarmedH vm₁ ∧ Stand p l e R s m args below meth c B.U B.locs B.cells B.slots ∧ Post ⟨T.setVm vm₁, locs, cells, slots⟩ argsL.toArray v B ∧
      ∀ target, Steps p.tables e below (B.U.setTop { g with pc := g.pc + 3, stack := v.toList ++ rest }) target → Steps p.tables e below (T.setTop g) target := by
  obtain ⟨mk, methM, cM, hnamed, hmethM, -, -, -, -, -, -, hsigM⟩ := Cond.codeWith_spec hcode
  have hstatic : methM.isStatic = true := Cond.static_spec hnamed hmethM hstat
  obtain ⟨kP, hkP, -⟩ := className_of_methodNamed hnamed
  have hinitP : kP.init = .initialized := Cond.initialized_spec (findClass_of_methodNamed hnamed) hkP hinit
  obtain ⟨vm₁, X₁, hstep₁⟩ := X.invokestatic hexec hown hlink hnamed hmethM hstatic hkP hinitP hy (g := g) hg (argsL := argsL) (rest := rest) (hlen _ hsigM) hstack hdg
  obtain ⟨v, B, X', hpost, hsteps⟩ := hK m meth c ⟨T.setVm vm₁, locs, cells, slots⟩ { g with stack := rest } (.invokestatic index) mk argsL.toArray X₁ hg hsize hdg hW (X₁.named hnamed) (hpre vm₁ X₁.warmed)
  exact ⟨v, vm₁, B, X₁.warmed, X', hpost, fun target h => hstep₁ _ fun acts => by rw [doInvoke_state]; exact hsteps.trans h⟩
theorem vx_runSW {y : MethodName} {bytes cc : ByteArray} {maxL nL mc ms n index : Nat} {ret : Option FieldType} {hh : List (Nat × Nat × Nat × Nat)} {ws : List Cond} {rm : Room} {Pc : Array Value → State → Prop} {Qc : Array Value → State → Outcome → State → Prop} {free : Addr → Prop} {Ts : List Cond} {own : String} {As rest : List Value} {g : JFrame}
    (S : CallFix p m c cc nL s args Ts own) (hM : Met l y ws rm Pc Qc mc ms free) (cw : vx_CSW R s args own index y bytes maxL ret hh ws rm mc ms n) (hp : PreS s H Pc As)
    (hg : g.method = m) (hn : As.length = n) (hsize : g.locals.size = nL) (hstack : g.stack = As.reverse ++ rest) (hW : 2 * g.monitorRoom + (rest.map fun v => v.category).sum ≤ 8) (hdg : decode cc g.pc = .ok (.invokestatic index, 3)) (hf : cells + mc ≤ R.cells ∧ slots + ms ≤ R.slots) :
    va_Run p l e R s m args below meth c H locs cells slots mc ms g rest (Qc As.toArray) (free) := by
  obtain ⟨⟨hrc, hrs, hfr, hlo, hws, hcw⟩, hcode, hini, hy, hlen, hl, hstt⟩ := cw
  have hK : Back l R p e below s args y 3 8 (PreOf R mc ms Pc) (PostOf Qc mc ms free) := va_backW (hh := hh) (bytes := bytes) (maxL := maxL) (ret := ret) hM hp.1 hrc hrs hfr hlo hws hcw (fun a' U hW => word_at hW (Or.inl (by first | rfl | simp [Cond.onTables, Cond.keeps, Cond.steady])) hini)
  obtain ⟨hx, hb, hml, ho, -⟩ := S
  intro T hT X
  obtain ⟨v, vm₁, ⟨U', l2, c2, s2⟩, hW₁, X', ⟨g', mk, t, L, e1, e2, hq, h1, hL, h2, h3⟩, st⟩ := vx_callSW X hx (hh := hh) (bytes := bytes) (maxL := maxL) (ret := ret) ho hl hstt hini hcode hy hK hg (hsize.trans hml.symm) (argsL := As) (rest := rest) (fun sig h => hn.trans (hlen sig h)) hstack hW (by rw [hb]; exact hdg)
    (fun vm₁ hW₁ => ⟨hf.1, hf.2, hp.2 (T.setVm vm₁) hT hW₁⟩)
  dsimp only [Pt.U, Pt.locs, Pt.cells, Pt.slots] at X' e1 e2 h1 h2 h3 st
  subst h1; subst h2; subst h3
  exact ⟨v, (T.setVm vm₁).calling g' mk As.toArray, t, U', L, hT, X', hL, e1, e2, hq, st⟩
/-- not caught here, past rows that name other classes: it goes on to the caller -/
theorem vx_outP {p : Program} {l : Launch} {e : Env} {R : Room} {s : State} {m : MethodId} {args : Array Value} {below : List Frame} {meth : Method} {c : Code} {H : Heap} {locs : List Loc} {cells slots : Nat} {free : Addr → Prop} {ls : Array Slot} {rest : List Value} {Qc : Array Value → State → Outcome → State → Prop} {XC : String → State → State → Prop}
    {pc : Nat} {own E : String} {ce : Cell} {q : Addr} {mc ms : Nat} (hown : s.vm.findClass own = some m.cls) (hlocks : meth.locks = false)
    (hpass : ∀ z ∈ c.exceptionTable.toList, covers z pc = false ∨ (z.catchType ≠ 0 ∧ ∃ nm : String, (Cond.classLink own z.catchType nm).before args s = true ∧ va_Nc E nm s)) (hcell : H[q]? = some ce) (hv : ce.vm = .none) (hcl : s.vm.findClass E = some ce.cls)
    (hx : ∀ t : State, t.heap = H → s.vm.Alike t.vm → XC E s t) (hf : ∀ z ∈ locs, free z.base) (hc : cells ≤ mc) (hs : slots ≤ ms) :
    vx_W p l e R s m args below meth c H locs cells slots (vx_MQ below Qc XC args s mc ms free) (F0 m pc ls rest) q := by
  intro T hT X
  have hpl : e.platform.magicAccessors = ({} : Platform).magicAccessors := by rw [X.admits.platform]
  obtain ⟨vm', hW', X', st⟩ := X.outThrough hlocks q (g := F0 m pc ls rest) rfl rfl rfl (cell := ce) (by rw [hT]; exact hcell) (by rw [hv]; rfl)
    (by obtain ⟨k9, h9, -⟩ := Vm.findClass_spec hcl; exact ⟨k9, h9⟩) (fun z hz => by
      rcases hpass z hz with h | ⟨hz0, nm, hl1, hn1⟩
      · exact Or.inl h
      · obtain ⟨c6, hc6, hcl6⟩ := Cond.classLink_spec hown hl1 e.platform hpl
        obtain ⟨a8, b8, h1, h2, h3⟩ := hn1
        cases Option.some.inj (h1.symm.trans hcl)
        cases Option.some.inj (h2.symm.trans hc6)
        exact Or.inr ⟨hz0, _, hcl6, h3⟩)
  obtain ⟨g₀, hfr⟩ := X'.frames_eq
  have hcell9 : ((T.setVm vm').setFrames (.throwing q :: below)).heap[q]? = some ce := by
    show T.heap[q]? = some ce
    rw [hT]; exact hcell
  have hend : Ended ((T.setVm vm').setFrames (.throwing q :: below)) below (.threw q) := State.frames_setFrames _ (State.cur_lt_of_frames hfr)
  refine ⟨(T.setVm vm').setFrames (.throwing q :: below), ?_, .threw q, X'.here.running, hend, Or.inr ⟨q, rfl, E, ce, locs, hx _ hT (X'.ends _).1.alike, hcell9, hv, hcl, (X'.ends _).1, (X'.ends _).2.mono hc hs, hf⟩⟩
  rw [X.pushThrowing_eq]
  exact st
/-- a thing of a world lies in the heap -/
theorem vx_lt {D : va_G} {cl : List vw_C} {ws : va_W} {H1 : Heap} (h : va_P D cl ws H1) {k : Nat} {q : Nat × va_E} (hk : ws[k]? = some q) : q.1 < H1.size := (h k q hk).lt
end VXS
/-! ===== END ===== -/
/-! ===== BEGIN methods with a table of their own: called by a name, returning or throwing ===== -/
section VXH
/-! vx_backW, vx_callVX, vx_callSX, vx_callVW, vx_runVW, vx_runVX, vx_runSX, vx_ofWH follow the same proofs as their sisters above (Free/Laws.lean, Shelf42/LK1.lean); vx_outP calls Shelf42/NT130.lean (outThrough). -/
section
variable {l : Launch} {R : Room} {p : Program} {e : Env} {below : List Frame} {s : State} {sargs : Array Value} {y : MethodName} {len W9 : Nat}
theorem vx_backW {ws : List Cond} {rm : Room} {Pc : Array Value → State → Prop} {Qc : Array Value → State → Outcome → State → Prop} {XC : String → State → State → Prop} {mc ms : Nat} {free : Addr → Prop} {bytes : ByteArray} {maxL : Nat} {ret : Option FieldType} {hh : List (Nat × Nat × Nat × Nat)}
    (hM : vx_Met l y ws rm Pc Qc XC mc ms free) (hblind : FrameBlind Pc) (hrc : rm.cells = mc) (hrs : rm.slots = ms)
    (hframes : rm.frames + 1 ≤ R.frames) (hlocals : W9 + (maxL + 11) + rm.locals ≤ R.locals)
    (hws : ∀ w ∈ ws, ∀ a' U, s.WarmedH U.vm → w.before a' U = true) (hcode : Cond.codeWith y bytes maxL ret hh ∈ ws) (hinit : ∀ a' U, s.WarmedH U.vm → (Cond.initialized y.cls).before a' U = true) :
    vx_Back l R p e below s sargs y len W9 (PreOf R mc ms Pc) (PostOf Qc mc ms free) (vx_Post XC mc ms free) := by
  intro m meth c A g ig mk a X hg hsize hdg hW hn hp
  have h1 : (headSpec ws rm).pre.before a A.U = true := atoms_intro fun w hw => hws w hw _ _ X.warmed
  have h2 : (Cond.codeWith y bytes maxL ret hh).before a A.U = true := hws _ hcode _ _ X.warmed
  have h3 : (Cond.initialized y.cls).before a A.U = true := hinit _ _ X.warmed
  have h4 : A.cells + (headSpec ws rm).room.cells ≤ R.cells := by rw [show (headSpec ws rm).room.cells = mc from hrc]; exact hp.1
  have h5 : A.slots + (headSpec ws rm).room.slots ≤ R.slots := by rw [show (headSpec ws rm).room.slots = ms from hrs]; exact hp.2.1
  have hPc : Pc a (A.U.calling g mk a) := hblind _ _ _ _ hp.2.2
  obtain ⟨U, Ls, c0, s0⟩ := A
  dsimp only [Pt.U, Pt.locs, Pt.cells, Pt.slots] at h1 h2 h3 h4 h5 X hn hPc ⊢
  obtain ⟨m9, methY, cY, hn9, hmY, hcY, -, hlY, -⟩ := Cond.codeWith_spec h2
  cases Option.some.inj (hn9.symm.trans hn)
  obtain ⟨kY, hkY, -⟩ := className_of_methodNamed hn
  have hinitY : kY.init = .initialized := Cond.initialized_spec (findClass_of_methodNamed hn) hkY h3
  have h : At U g.method c below := by rw [hg]; exact X.here
  have hlocals9 : W9 + (maxL + 11) + (headSpec ws rm).room.locals ≤ R.locals := hlocals
  have happ : (headSpec ws rm).appliesLoose y e.platform (U.calling g mk a) = true :=
    Spec.appliesLoose_calling (g := g) h hdg hn hkY hinitY
      (X.room_calling (g := g) (R' := (headSpec ws rm).room) hsize hmY hcY hframes (by rw [hlY]; omega) h4 h5) h1
  obtain ⟨mid, hmid⟩ := h.above
  have hfr : (U.setTop g).frames = (.java g :: mid) ++ below := by rw [State.frames_setTop' g h.top, hmid]; rfl
  obtain ⟨o, s₂, hsteps, -, hend, hq⟩ := Steps.callFree hM p X.admits X.cas X.clock (acts := []) hfr happ hPc trivial
  have hq' : vx_Q Qc XC mc ms free a (U.calling g mk a) o s₂ := hq
  rw [State.frames_setTop' g h.top] at hend
  obtain ⟨g₀, hg0⟩ := Option.isSome_iff_exists.mp h.top
  obtain ⟨r, hr⟩ := State.topJava?_eq_some.mp hg0
  have hr' : (({ U with heap := s₂.heap, slotsUsed := s₂.slotsUsed } : State).setVm s₂.vm).frames = .java g₀ :: r := hr
  rcases hq' with ⟨hqc, L, hfe, hL⟩ | ⟨q, rfl, E, ce, L, hx, hce, hcv, hcl, hW₂, hsm, hL⟩
  · obtain ⟨⟨v, rfl⟩, hW₂, e2, q2, q3, q4, q5, q6⟩ := id hfe
    have e3 : s₂ = ({ (U.calling g mk a).setFrames s₂.frames with heap := s₂.heap, slotsUsed := s₂.slotsUsed } : State).setVm s₂.vm := by
      have : s₂ = ({ s₂ with vm := (U.calling g mk a).vm } : State).setVm s₂.vm := rfl
      rw [e2] at this
      exact this
    obtain ⟨c₂, i₂, len₂, hc₂, hd₂, hf₂⟩ := hend
    have hW' : U.WarmedH s₂.vm := hW₂
    have hcc : c₂ = c := by
      have h1 : s₂.code? g.method = U.code? g.method := by
        rw [State.code?_eq, State.code?_eq, hW'.alike.method?]
      exact Option.some.inj (hc₂.symm.trans (h1.trans h.code))
    subst hcc
    have hlen : len₂ = len := by rw [hdg] at hd₂; cases hd₂; rfl
    subst hlen
    have hs₂ : s₂ = (({ U with heap := s₂.heap, slotsUsed := s₂.slotsUsed } : State).setVm s₂.vm).setTop { g with pc := g.pc + len₂, stack := v.toList ++ g.stack } := by
      refine e3.trans ?_
      rw [hf₂, State.calling_eq h.top, State.setFrames_setFrames, State.setTop_of_frames _ hr', hr]
      rfl
    have hsame : U.sameButNew ({ U with heap := s₂.heap, slotsUsed := s₂.slotsUsed } : State) L mc ms := by
      refine ⟨?_, q2, q3, q4, q5, q6⟩
      obtain ⟨t, ht, -⟩ := State.frames_cons hr
      show ({ U with heap := s₂.heap, slotsUsed := s₂.slotsUsed } : State) = { U.setFrames U.frames with heap := s₂.heap, slotsUsed := s₂.slotsUsed }
      rw [State.setFrames_self ht]
    subst hg
    refine Or.inl ⟨v, ⟨(({ U with heap := s₂.heap, slotsUsed := s₂.slotsUsed } : State).setVm s₂.vm), Ls ++ L, c0 + mc, s0 + ms⟩,
      ⟨X.admits, X.cas, X.clock, X.frames, X.room, X.hears, X.method, X.code, (X.here.setHeapUsed s₂.heap s₂.slotsUsed).setVm hW'.alike, X.tail, State.WarmedH.trans X.warmed hW', X.limits, X.bytes, X.same.trans (hsame.setVm s.vm)⟩,
      ⟨g, mk, s₂, L, rfl, rfl, hqc, rfl, hL, rfl, rfl⟩, ?_⟩
    show Steps p.tables e below _ ((({ U with heap := s₂.heap, slotsUsed := s₂.slotsUsed } : State).setVm s₂.vm).setTop { g with pc := g.pc + len₂, stack := v.toList ++ g.stack })
    rw [← hs₂]
    exact hsteps
  · obtain ⟨e2, q2, q3, q4, q5, q6⟩ := id hsm
    have e3 : s₂ = ({ (U.calling g mk a).setFrames s₂.frames with heap := s₂.heap, slotsUsed := s₂.slotsUsed } : State).setVm s₂.vm := by
      have : s₂ = ({ s₂ with vm := (U.calling g mk a).vm } : State).setVm s₂.vm := rfl
      rw [e2] at this
      exact this
    have hf₂ : s₂.frames = .throwing q :: .java g :: U.frames.tail := hend
    have hW' : U.WarmedH s₂.vm := hW₂
    have hs₂ : s₂ = ((({ U with heap := s₂.heap, slotsUsed := s₂.slotsUsed } : State).setVm s₂.vm).setTop g).pushFrame (.throwing q) := by
      refine e3.trans ?_
      rw [hf₂, State.calling_eq h.top, State.setFrames_setFrames, State.pushFrame, State.frames_setTop _ hr', State.setTop_of_frames _ hr', State.setFrames_setFrames, hr]
      rfl
    have hsame : U.sameButNew ({ U with heap := s₂.heap, slotsUsed := s₂.slotsUsed } : State) L mc ms := by
      refine ⟨?_, q2, q3, q4, q5, q6⟩
      obtain ⟨t, ht, -⟩ := State.frames_cons hr
      show ({ U with heap := s₂.heap, slotsUsed := s₂.slotsUsed } : State) = { U.setFrames U.frames with heap := s₂.heap, slotsUsed := s₂.slotsUsed }
      rw [State.setFrames_self ht]
    subst hg
    refine Or.inr ⟨q, ⟨(({ U with heap := s₂.heap, slotsUsed := s₂.slotsUsed } : State).setVm s₂.vm), Ls ++ L, c0 + mc, s0 + ms⟩,
      ⟨X.admits, X.cas, X.clock, X.frames, X.room, X.hears, X.method, X.code, (X.here.setHeapUsed s₂.heap s₂.slotsUsed).setVm hW'.alike, X.tail, State.WarmedH.trans X.warmed hW', X.limits, X.bytes, X.same.trans (hsame.setVm s.vm)⟩,
      ⟨g, mk, s₂, L, E, ce, rfl, rfl, hx, hce, hcv, hcl, rfl, hL, rfl, rfl⟩, ?_⟩
    show Steps p.tables e below _ (((({ U with heap := s₂.heap, slotsUsed := s₂.slotsUsed } : State).setVm s₂.vm).setTop g).pushFrame (.throwing q))
    rw [← hs₂]
    exact hsteps
end
variable {p : Program} {l : Launch} {e : Env} {R : Room} {s : State} {m : MethodId} {args : Array Value} {below : List Frame} {meth : Method} {c : Code} {T : State} {H : Heap} {locs : List Loc} {cells slots : Nat}
theorem vx_callVX (X : Stand p l e R s m args below meth c T locs cells slots) (hexec : p.tables.exec = Jvm.exec) {own C : String} {index : Nat} {y : MethodName} {bytes : ByteArray} {maxL : Nat} {ret : Option FieldType} {hh : List (Nat × Nat × Nat × Nat)}
    (hown : s.vm.findClass own = some m.cls) (hlink : (Cond.methodLink own index y).before args s = true) (hinst : (Cond.instanceMethod y).before args s = true) (hsel : (Cond.selects C y y).before args s = true)
    (hcode : (Cond.codeWith y bytes maxL ret hh).before args s = true) (hy : y.cls ≠ "java/lang/invoke/MethodHandle" ∧ y.cls ≠ "java/lang/invoke/VarHandle")
    {W9 : Nat} {Pre : Pt → Array Value → Prop} {Post : Pt → Array Value → Option Value → Pt → Prop} {PostX : Pt → Array Value → Addr → Pt → Prop} (hK : vx_Back l R p e below s args y 3 W9 Pre Post PostX)
    {b : Addr} {cellB : Cell} (hcell : T.heap[b]? = some cellB) (hobj : cellB.vm.isStatics = false) (hcls : s.vm.findClass C = some cellB.cls)
    {g : JFrame} (hg : g.method = m) (hsize : g.locals.size = c.maxLocals) {argsL rest : List Value} (hlen : ∀ sig, parseMethodDescriptor y.desc = some sig → argsL.length = sig.parameters.length)
    (hstack : g.stack = argsL.reverse ++ .ref b :: rest) (hW : 2 * g.monitorRoom + (rest.map fun v => v.category).sum ≤ W9) (hdg : decode c.code g.pc = .ok (.invokevirtual index, 3))
    (hpre : ∀ vm₁, s.WarmedH vm₁ → Pre ⟨T.setVm vm₁, locs, cells, slots⟩ (Value.ref b :: argsL).toArray) :
    (∃ (v : Option Value) (vm₁ : Vm) (B : Pt), s.WarmedH vm₁ ∧ Stand p l e R s m args below meth c B.U B.locs B.cells B.slots ∧ Post ⟨T.setVm vm₁, locs, cells, slots⟩ (Value.ref b :: argsL).toArray v B ∧
      ∀ target, Steps p.tables e below (B.U.setTop { g with pc := g.pc + 3, stack := v.toList ++ rest }) target → Steps p.tables e below (T.setTop g) target) ∨
    (∃ (q : Addr) (vm₁ : Vm) (B : Pt), s.WarmedH vm₁ ∧ Stand p l e R s m args below meth c B.U B.locs B.cells B.slots ∧ PostX ⟨T.setVm vm₁, locs, cells, slots⟩ (Value.ref b :: argsL).toArray q B ∧
      Steps p.tables e below (T.setTop g) ((B.U.setTop { g with stack := rest }).pushFrame (.throwing q))) := by
  obtain ⟨mk, methM, hnamed, hmethM, hstM, habM⟩ := Cond.instanceMethod_spec hinst
  obtain ⟨m8, methM', cM, hn8, hmethM', -, -, -, -, -, -, hsigM⟩ := Cond.codeWith_spec hcode
  cases Option.some.inj (hn8.symm.trans hnamed)
  cases hmethM.symm.trans hmethM'
  obtain ⟨c2, r2, m2, q1, q2, q3, q4, kP, hkP, hkPi⟩ := Cond.selects_spec hsel
  cases hcls.symm.trans q1
  cases (State.methodFound?_of_named hnamed hy).symm.trans q2
  cases hnamed.symm.trans q3
  have hselP : selectMethod e.platform s.vm cellB.cls mk = .method mk := by rw [Launch.admits_selectMethod X.admits]; exact q4
  obtain ⟨vm₁, X₁, hstep₁⟩ := X.invokevirtual hexec hown hlink hnamed hmethM hstM hkP hkPi hy (a := b) (cell := cellB) hcell
    (fun z h => by rw [h] at hobj; cases hobj) hselP hmethM habM hkP hkPi (g := g) hg (argsL := argsL) (rest := rest) (hlen _ hsigM) hstack hdg
  rcases hK m meth c ⟨T.setVm vm₁, locs, cells, slots⟩ { g with stack := rest } (.invokevirtual index) mk (Value.ref b :: argsL).toArray X₁ hg hsize hdg hW (X₁.named hnamed) (hpre vm₁ X₁.warmed) with ⟨v, B, X', hpost, hsteps⟩ | ⟨q, B, X', hpost, hsteps⟩
  · exact Or.inl ⟨v, vm₁, B, X₁.warmed, X', hpost, fun target h => hstep₁ _ fun acts => by rw [doInvoke_state]; exact hsteps.trans h⟩
  · exact Or.inr ⟨q, vm₁, B, X₁.warmed, X', hpost, hstep₁ _ fun acts => by rw [doInvoke_state]; exact hsteps⟩
theorem vx_callSX (X : Stand p l e R s m args below meth c T locs cells slots) (hexec : p.tables.exec = Jvm.exec) {own : String} {index : Nat} {y : MethodName} {bytes : ByteArray} {maxL : Nat} {ret : Option FieldType} {hh : List (Nat × Nat × Nat × Nat)}
    (hown : s.vm.findClass own = some m.cls) (hlink : (Cond.methodLink own index y).before args s = true) (hstat : (Cond.static y).before args s = true) (hinit : (Cond.initialized y.cls).before args s = true)
    (hcode : (Cond.codeWith y bytes maxL ret hh).before args s = true) (hy : y.cls ≠ "java/lang/invoke/MethodHandle" ∧ y.cls ≠ "java/lang/invoke/VarHandle")
    {W9 : Nat} {Pre : Pt → Array Value → Prop} {Post : Pt → Array Value → Option Value → Pt → Prop} {PostX : Pt → Array Value → Addr → Pt → Prop} (hK : vx_Back l R p e below s args y 3 W9 Pre Post PostX)
    {g : JFrame} (hg : g.method = m) (hsize : g.locals.size = c.maxLocals) {argsL rest : List Value} (hlen : ∀ sig, parseMethodDescriptor y.desc = some sig → argsL.length = sig.parameters.length)
    (hstack : g.stack = argsL.reverse ++ rest) (hW : 2 * g.monitorRoom + (rest.map fun v => v.category).sum ≤ W9) (hdg : decode c.code g.pc = .ok (.invokestatic index, 3))
    (hpre : ∀ vm₁, s.WarmedH vm₁ → Pre ⟨T.setVm vm₁, locs, cells, slots⟩ argsL.toArray) :
    (∃ (v : Option Value) (vm₁ : Vm) (B : Pt), s.WarmedH vm₁ ∧ Stand p l e R s m args below meth c B.U B.locs B.cells B.slots ∧ Post ⟨T.setVm vm₁, locs, cells, slots⟩ argsL.toArray v B ∧
      ∀ target, Steps p.tables e below (B.U.setTop { g with pc := g.pc + 3, stack := v.toList ++ rest }) target → Steps p.tables e below (T.setTop g) target) ∨
    (∃ (q : Addr) (vm₁ : Vm) (B : Pt), s.WarmedH vm₁ ∧ Stand p l e R s m args below meth c B.U B.locs B.cells B.slots ∧ PostX ⟨T.setVm vm₁, locs, cells, slots⟩ argsL.toArray q B ∧
      Steps p.tables e below (T.setTop g) ((B.U.setTop { g with stack := rest }).pushFrame (.throwing q))) := by
  obtain ⟨mk, methM, cM, hnamed, hmethM, -, -, -, -, -, -, hsigM⟩ := Cond.codeWith_spec hcode
  have hstatic : methM.isStatic = true := Cond.static_spec hnamed hmethM hstat
  obtain ⟨kP, hkP, -⟩ := className_of_methodNamed hnamed
  have hinitP : kP.init = .initialized := Cond.initialized_spec (findClass_of_methodNamed hnamed) hkP hinit
  obtain ⟨vm₁, X₁, hstep₁⟩ := X.invokestatic hexec hown hlink hnamed hmethM hstatic hkP hinitP hy (g := g) hg (argsL := argsL) (rest := rest) (hlen _ hsigM) hstack hdg
  rcases hK m meth c ⟨T.setVm vm₁, locs, cells, slots⟩ { g with stack := rest } (.invokestatic index) mk argsL.toArray X₁ hg hsize hdg hW (X₁.named hnamed) (hpre vm₁ X₁.warmed) with ⟨v, B, X', hpost, hsteps⟩ | ⟨q, B, X', hpost, hsteps⟩
  · exact Or.inl ⟨v, vm₁, B, X₁.warmed, X', hpost, fun target h => hstep₁ _ fun acts => by rw [doInvoke_state]; exact hsteps.trans h⟩
  · exact Or.inr ⟨q, vm₁, B, X₁.warmed, X', hpost, hstep₁ _ fun acts => by rw [doInvoke_state]; exact hsteps⟩
theorem vx_callVW (X : Stand p l e R s m args below meth c T locs cells slots) (hexec : p.tables.exec = Jvm.exec) {own C : String} {index : Nat} {y : MethodName} {bytes : ByteArray} {maxL : Nat} {ret : Option FieldType} {hh : List (Nat × Nat × Nat × Nat)}
    (hown : s.vm.findClass own = some m.cls) (hlink : (Cond.methodLink own index y).before args s = true) (hinst : (Cond.instanceMethod y).before args s = true) (hsel : (Cond.selects C y y).before args s = true)
    (hcode : (Cond.codeWith y bytes maxL ret hh).before args s = true) (hy : y.cls ≠ "java/lang/invoke/MethodHandle" ∧ y.cls ≠ "java/lang/invoke/VarHandle")
    {W9 : Nat} {Pre : Pt → Array Value → Prop} {Post : Pt → Array Value → Option Value → Pt → Prop} (hK : Back l R p e below s args y 3 W9 Pre Post)
    {b : Addr} {cellB : Cell} (hcell : T.heap[b]? = some cellB) (hobj : cellB.vm.isStatics = false) (hcls : s.vm.findClass C = some cellB.cls)
    {g : JFrame} (hg : g.method = m) (hsize : g.locals.size = c.maxLocals) {argsL rest : List Value} (hlen : ∀ sig, parseMethodDescriptor y.desc = some sig → argsL.length = sig.parameters.length)
    (hstack : g.stack = argsL.reverse ++ .ref b :: rest) (hW : 2 * g.monitorRoom + (rest.map fun v => v.category).sum ≤ W9) (hdg : decode c.code g.pc = .ok (.invokevirtual index, 3))
    (hpre : ∀ vm₁, s.WarmedH vm₁ → Pre ⟨T.setVm vm₁, locs, cells, slots⟩ (Value.ref b :: argsL).toArray) :
    ∃ (v : Option Value) (vm₁ : Vm) (B : Pt), s.WarmedH vm₁ ∧ Stand p l e R s m args below meth c B.U B.locs B.cells B.slots ∧ Post ⟨T.setVm vm₁, locs, cells, slots⟩ (Value.ref b :: argsL).toArray v B ∧
      ∀ target, Steps p.tables e below (B.U.setTop { g with pc := g.pc + 3, stack := v.toList ++ rest }) target → Steps p.tables e below (T.setTop g) target := by
  obtain ⟨mk, methM, hnamed, hmethM, hstM, habM⟩ := Cond.instanceMethod_spec hinst
  obtain ⟨m8, methM', cM, hn8, hmethM', -, -, -, -, -, -, hsigM⟩ := Cond.codeWith_spec hcode
  cases Option.some.inj (hn8.symm.trans hnamed)
  cases hmethM.symm.trans hmethM'
  obtain ⟨c2, r2, m2, q1, q2, q3, q4, kP, hkP, hkPi⟩ := Cond.selects_spec hsel
  cases hcls.symm.trans q1
  cases (State.methodFound?_of_named hnamed hy).symm.trans q2
  cases hnamed.symm.trans q3
  have hselP : selectMethod e.platform s.vm cellB.cls mk = .method mk := by rw [Launch.admits_selectMethod X.admits]; exact q4
  obtain ⟨vm₁, X₁, hstep₁⟩ := X.invokevirtual hexec hown hlink hnamed hmethM hstM hkP hkPi hy (a := b) (cell := cellB) hcell
    (fun z h => by rw [h] at hobj; cases hobj) hselP hmethM habM hkP hkPi (g := g) hg (argsL := argsL) (rest := rest) (hlen _ hsigM) hstack hdg
  obtain ⟨v, B, X', hpost, hsteps⟩ := hK m meth c ⟨T.setVm vm₁, locs, cells, slots⟩ { g with stack := rest } (.invokevirtual index) mk (Value.ref b :: argsL).toArray X₁ hg hsize hdg hW (X₁.named hnamed) (hpre vm₁ X₁.warmed)
  exact ⟨v, vm₁, B, X₁.warmed, X', hpost, fun target h => hstep₁ _ fun acts => by rw [doInvoke_state]; exact hsteps.trans h⟩
abbrev vx_CVW (R : Room) (s : State) (args : Array Value) (own C : String) (index : Nat) (y : MethodName) (bytes : ByteArray) (maxL : Nat) (ret : Option FieldType) (hh : List (Nat × Nat × Nat × Nat)) (ws : List Cond) (rm : Room) (mc ms n : Nat) : Prop :=
  (rm.cells = mc ∧ rm.slots = ms ∧ rm.frames + 1 ≤ R.frames ∧ 8 + (maxL + 11) + rm.locals ≤ R.locals ∧ (∀ w ∈ ws, ∀ (a' : Array Value) (U : State), s.WarmedH U.vm → w.before a' U = true) ∧ Cond.codeWith y bytes maxL ret hh ∈ ws) ∧
  (Cond.codeWith y bytes maxL ret hh).before args s = true ∧ (Cond.initialized y.cls).before args s = true ∧ (y.cls ≠ "java/lang/invoke/MethodHandle" ∧ y.cls ≠ "java/lang/invoke/VarHandle") ∧
  (∀ sig, parseMethodDescriptor y.desc = some sig → n = sig.parameters.length) ∧ (Cond.methodLink own index y).before args s = true ∧ (Cond.instanceMethod y).before args s = true ∧ (Cond.selects C y y).before args s = true
theorem vx_cwVW {own C : String} {index maxL mc ms : Nat} {y : MethodName} {bytes : ByteArray} {ret : Option FieldType} {hh : List (Nat × Nat × Nat × Nat)} {Ts ws ws' : List Cond} {rm : Room} (n : Nat) (ht : ∀ w ∈ Ts, w.before args s = true) (hT : GoodIn Ts (wsV own index C y ws)) (hw : ws = Cond.codeWith y bytes maxL ret hh :: ws') (hrc : rm.cells = mc) (hrs : rm.slots = ms)
    (hd : y.cls = C ∧ y.cls ≠ "java/lang/invoke/MethodHandle" ∧ y.cls ≠ "java/lang/invoke/VarHandle" ∧ (parseMethodDescriptor y.desc).map (fun d => d.parameters.length) = some n) (hR : rm.frames + 1 ≤ R.frames ∧ 8 + (maxL + 11) + rm.locals ≤ R.locals) :
    vx_CVW R s args own C index y bytes maxL ret hh ws rm mc ms n := by
  obtain ⟨hC, hd⟩ := hd
  subst hC
  have ok : ∀ w ∈ wsV own index y.cls y ws, w.before args s = true := fun w h => ht w (hT w h).1
  have hG : GoodIn Ts ws := fun w h => hT w (by unfold wsV; exact List.mem_append_right _ h)
  have hc : Cond.codeWith y bytes maxL ret hh ∈ ws := by rw [hw]; exact List.mem_cons_self
  refine ⟨⟨hrc, hrs, hR.1, hR.2, pay_in ht hG, hc⟩, ht _ (hG _ hc).1, ok _ (by simp [wsV]), ⟨hd.1, hd.2.1⟩, fun sig h => ?_, ok _ (by simp [wsV]), ok _ (by simp [wsV]), ok _ (by simp [wsV])⟩
  have h2 := hd.2.2
  rw [h] at h2
  exact (Option.some.inj h2).symm
theorem vx_runVW {y : MethodName} {bytes cc : ByteArray} {maxL nL mc ms n index : Nat} {ret : Option FieldType} {hh : List (Nat × Nat × Nat × Nat)} {ws : List Cond} {rm : Room} {Pc : Array Value → State → Prop} {Qc : Array Value → State → Outcome → State → Prop} {free : Addr → Prop} {Ts : List Cond} {own C : String} {b : Addr} {As rest : List Value} {g : JFrame}
    (S : CallFix p m c cc nL s args Ts own) (hM : Met l y ws rm Pc Qc mc ms free) (cw : vx_CVW R s args own C index y bytes maxL ret hh ws rm mc ms n) (hp : PreV s H C b Pc As)
    (hg : g.method = m) (hn : As.length = n) (hsize : g.locals.size = nL) (hstack : g.stack = As.reverse ++ .ref b :: rest) (hW : 2 * g.monitorRoom + (rest.map fun v => v.category).sum ≤ 8) (hdg : decode cc g.pc = .ok (.invokevirtual index, 3)) (hf : cells + mc ≤ R.cells ∧ slots + ms ≤ R.slots) :
    va_Run p l e R s m args below meth c H locs cells slots mc ms g rest (Qc (Value.ref b :: As).toArray) free := by
  obtain ⟨⟨hrc, hrs, hfr, hlo, hws, hcw⟩, hcode, hini, hy, hlen, hl, hin, hse⟩ := cw
  have hK : Back l R p e below s args y 3 8 (PreOf R mc ms Pc) (PostOf Qc mc ms free) := va_backW (hh := hh) (bytes := bytes) (maxL := maxL) (ret := ret) hM hp.1 hrc hrs hfr hlo hws hcw (fun a' U hW => word_at hW (Or.inl (by first | rfl | simp [Cond.onTables, Cond.keeps, Cond.steady])) hini)
  obtain ⟨hx, hb, hml, ho, -⟩ := S
  obtain ⟨-, ⟨cellB, hcB, hoB, hclB⟩, hPc⟩ := hp
  intro T hT X
  obtain ⟨v, vm₁, ⟨U', l2, c2, s2⟩, hW₁, X', ⟨g', mk, t, L, e1, e2, hq, h1, hL, h2, h3⟩, st⟩ := vx_callVW X hx (C := C) (hh := hh) (bytes := bytes) (maxL := maxL) (ret := ret) ho hl hin hse hcode hy hK (by rw [hT]; exact hcB) hoB hclB hg (hsize.trans hml.symm) (argsL := As) (rest := rest) (fun sig h => hn.trans (hlen sig h)) hstack hW (by rw [hb]; exact hdg)
    (fun vm₁ hW₁ => ⟨hf.1, hf.2, hPc (T.setVm vm₁) hT hW₁⟩)
  dsimp only [Pt.U, Pt.locs, Pt.cells, Pt.slots] at X' e1 e2 h1 h2 h3 st
  subst h1; subst h2; subst h3
  exact ⟨v, (T.setVm vm₁).calling g' mk (Value.ref b :: As).toArray, t, U', L, hT, X', hL, e1, e2, hq, st⟩
section
variable {y : MethodName} {bytes cc : ByteArray} {maxL nL mc ms n index : Nat} {ret : Option FieldType} {ws : List Cond} {rm : Room} {Pc : Array Value → State → Prop} {Qc : Array Value → State → Outcome → State → Prop} {XC : String → State → State → Prop} {free : Addr → Prop} {Ts : List Cond} {own C : String} {b : Addr} {As rest : List Value} {g : JFrame}
theorem vx_runVX {hh : List (Nat × Nat × Nat × Nat)} (S : CallFix p m c cc nL s args Ts own) (hM : vx_Met l y ws rm Pc Qc XC mc ms free) (cw : vx_CVW R s args own C index y bytes maxL ret hh ws rm mc ms n) (hp : PreV s H C b Pc As)
    (hg : g.method = m) (hn : As.length = n) (hsize : g.locals.size = nL) (hstack : g.stack = As.reverse ++ .ref b :: rest) (hW : 2 * g.monitorRoom + (rest.map fun v => v.category).sum ≤ 8) (hdg : decode cc g.pc = .ok (.invokevirtual index, 3)) (hf : cells + mc ≤ R.cells ∧ slots + ms ≤ R.slots) :
    vx_Run p l e R s m args below meth c H locs cells slots mc ms g rest (Qc (Value.ref b :: As).toArray) XC free := by
  obtain ⟨⟨hrc, hrs, hfr, hlo, hws, hcw⟩, hcode, hini, hy, hlen, hl, hin, hse⟩ := cw
  have hK : vx_Back l R p e below s args y 3 8 (PreOf R mc ms Pc) (PostOf Qc mc ms free) (vx_Post XC mc ms free) := vx_backW (hh := hh) (bytes := bytes) (maxL := maxL) (ret := ret) hM hp.1 hrc hrs hfr hlo hws hcw (fun a' U hW => word_at hW (Or.inl (by first | rfl | simp [Cond.onTables, Cond.keeps, Cond.steady])) hini)
  obtain ⟨hx, hb, hml, ho, -⟩ := S
  obtain ⟨-, ⟨cellB, hcB, hoB, hclB⟩, hPc⟩ := hp
  intro T hT X
  rcases vx_callVX X hx (C := C) (hh := hh) (bytes := bytes) (maxL := maxL) (ret := ret) ho hl hin hse hcode hy hK (by rw [hT]; exact hcB) hoB hclB hg (hsize.trans hml.symm) (argsL := As) (rest := rest) (fun sig h => hn.trans (hlen sig h)) hstack hW (by rw [hb]; exact hdg)
    (fun vm₁ hW₁ => ⟨hf.1, hf.2, hPc (T.setVm vm₁) hT hW₁⟩) with ⟨v, vm₁, ⟨U', l2, c2, s2⟩, hW₁, X', ⟨g', mk, t, L, e1, e2, hq, h1, hL, h2, h3⟩, st⟩ | ⟨q, vm₁, ⟨U', l2, c2, s2⟩, hW₁, X', ⟨g', mk, t, L, E, ce, e1, e2, hq, hce, hcv, hcl, h1, hL, h2, h3⟩, st⟩
  · dsimp only [Pt.U, Pt.locs, Pt.cells, Pt.slots] at X' e1 e2 h1 h2 h3 st
    subst h1; subst h2; subst h3
    exact Or.inl ⟨v, (T.setVm vm₁).calling g' mk (Value.ref b :: As).toArray, t, U', L, hT, X', hL, e1, e2, hq, st⟩
  · dsimp only [Pt.U, Pt.locs, Pt.cells, Pt.slots] at X' e1 e2 h1 h2 h3 st hcl
    subst h1; subst h2; subst h3
    exact Or.inr ⟨q, (T.setVm vm₁).calling g' mk (Value.ref b :: As).toArray, t, U', L, E, ce, hT, X', hL, e1, e2, hq, hce, hcv, vx_cls hW₁ hcl, st⟩
theorem vx_runSX {hh : List (Nat × Nat × Nat × Nat)} (S : CallFix p m c cc nL s args Ts own) (hM : vx_Met l y ws rm Pc Qc XC mc ms free) (cw : vx_CSW R s args own index y bytes maxL ret hh ws rm mc ms n) (hp : PreS s H Pc As)
    (hg : g.method = m) (hn : As.length = n) (hsize : g.locals.size = nL) (hstack : g.stack = As.reverse ++ rest) (hW : 2 * g.monitorRoom + (rest.map fun v => v.category).sum ≤ 8) (hdg : decode cc g.pc = .ok (.invokestatic index, 3)) (hf : cells + mc ≤ R.cells ∧ slots + ms ≤ R.slots) :
    vx_Run p l e R s m args below meth c H locs cells slots mc ms g rest (Qc As.toArray) XC free := by
  obtain ⟨⟨hrc, hrs, hfr, hlo, hws, hcw⟩, hcode, hini, hy, hlen, hl, hstt⟩ := cw
  have hK : vx_Back l R p e below s args y 3 8 (PreOf R mc ms Pc) (PostOf Qc mc ms free) (vx_Post XC mc ms free) := vx_backW (hh := hh) (bytes := bytes) (maxL := maxL) (ret := ret) hM hp.1 hrc hrs hfr hlo hws hcw (fun a' U hW => word_at hW (Or.inl (by first | rfl | simp [Cond.onTables, Cond.keeps, Cond.steady])) hini)
  obtain ⟨hx, hb, hml, ho, -⟩ := S
  intro T hT X
  rcases vx_callSX X hx (hh := hh) (bytes := bytes) (maxL := maxL) (ret := ret) ho hl hstt hini hcode hy hK hg (hsize.trans hml.symm) (argsL := As) (rest := rest) (fun sig h => hn.trans (hlen sig h)) hstack hW (by rw [hb]; exact hdg)
    (fun vm₁ hW₁ => ⟨hf.1, hf.2, hp.2 (T.setVm vm₁) hT hW₁⟩) with ⟨v, vm₁, ⟨U', l2, c2, s2⟩, hW₁, X', ⟨g', mk, t, L, e1, e2, hq, h1, hL, h2, h3⟩, st⟩ | ⟨q, vm₁, ⟨U', l2, c2, s2⟩, hW₁, X', ⟨g', mk, t, L, E, ce, e1, e2, hq, hce, hcv, hcl, h1, hL, h2, h3⟩, st⟩
  · dsimp only [Pt.U, Pt.locs, Pt.cells, Pt.slots] at X' e1 e2 h1 h2 h3 st
    subst h1; subst h2; subst h3
    exact Or.inl ⟨v, (T.setVm vm₁).calling g' mk As.toArray, t, U', L, hT, X', hL, e1, e2, hq, st⟩
  · dsimp only [Pt.U, Pt.locs, Pt.cells, Pt.slots] at X' e1 e2 h1 h2 h3 st hcl
    subst h1; subst h2; subst h3
    exact Or.inr ⟨q, (T.setVm vm₁).calling g' mk As.toArray, t, U', L, E, ce, hT, X', hL, e1, e2, hq, hce, hcv, vx_cls hW₁ hcl, st⟩
end
end VXH
theorem vx_ofWH {l : Launch} {y : MethodName} {ws ws' : List Cond} {rm : Room} {Pc : Array Value → State → Prop} {Qc : Array Value → State → Outcome → State → Prop} {XC : String → State → State → Prop} {mc ms : Nat} {free : Addr → Prop} {cc : ByteArray} {maxL : Nat} {ret : Option FieldType} {hh : List (Nat × Nat × Nat × Nat)}
    (hy : plainName y.cls = true) (hw : ws = Cond.codeWith y cc maxL ret hh :: ws')
    (body : ∀ p e s m args below meth c s₁, BodyLoose p l y (headSpec ws rm) cc maxL ret e s m args below meth c s₁ → c.maxLocals = maxL → Pc args s →
      W p l e (headSpec ws rm).room s m args below meth c s.heap [] 0 0 (vx_MQ below Qc XC args s mc ms free) (entryFrame m args maxL)) : vx_Met l y ws rm Pc Qc XC mc ms free := by
  refine MetFree.of_bodyS (code := cc) (maxLocals := maxL) (ret := ret) hy ?_ ?_
  · intro args s m h hn
    obtain ⟨m9, meth, c, hn9, h1, h2, h3, h4, -, h5, h6, -⟩ := Cond.codeWith_spec (atoms_spec (ws := ws) h _ (by rw [hw]; exact List.mem_cons_self))
    cases hn.symm.trans hn9
    exact ⟨meth, c, h1, h2, h3, h4, h5, h6⟩
  · intro p e s m args below meth c s₁ B hml hP _
    have hh0 : s₁.heap = s.heap := by rw [B.state]; rfl
    obtain ⟨t, a1, o, b1, b2, b3⟩ := body p e s m args below meth c s₁ B hml hP s₁ hh0 (Stand.of_body B)
    exact ⟨t, o, a1, b1, b2, b3⟩
/-! ===== END ===== -/
end
section
def RX0 : String := "MiddleScale$AllRows"
def TX0 : u_T := fun k => match k with
  | 0 => ("MiddleScale$AllRows", "things", "I", true)
  | 1 => ("MiddleScale$AllRows", "size", "I", true)
  | 2 => ("MiddleScale$AllRows", "words", "I", true)
  | 3 => ("MiddleScale$AllRows", "whole", "[J", true)
  | 4 => ("MiddleScale$AllRows", "rows", "[I", true)
  | 5 => ("MiddleScale$AllRows", "list", "[I", true)
  | 6 => ("MiddleScale$AllRows", "standings", "[[J", true)
  | 7 => ("MiddleScale$AllRows", "heavier", "[[J", true)
  | _ => ("MiddleScale$AllRows", "byKind", "[LMiddleScale$Layings;", true)
def tyX0 : Nat → FieldType := fun k => match k with
  | 0 => .int
  | 1 => .int
  | 2 => .int
  | 3 => .array .long
  | 4 => .array .int
  | 5 => .array .int
  | 6 => .array (.array .long)
  | 7 => .array (.array .long)
  | _ => .array (.object "MiddleScale$Layings")
theorem nmX0 : ∀ a, a < 9 → ∀ b, b < 9 → a ≠ b → (TX0 a).2.1 ≠ (TX0 b).2.1 := by decide +kernel
theorem tyX0_ok : ∀ k, k < 9 → parseFieldDescriptor (TX0 k).2.2.1 = some (tyX0 k) := by decide +kernel
abbrev cX0_init : ByteArray := prog_2_method_1_code
def yX0_init : MethodName := ⟨RX0, "<init>", "(I)V"⟩
abbrev cX0_fill : ByteArray := prog_2_method_2_code
def yX0_fill : MethodName := ⟨RX0, "fill", "()V"⟩
abbrev cX0_put : ByteArray := prog_2_method_3_code
def yX0_put : MethodName := ⟨RX0, "put", "(I[I)V"⟩
abbrev cX0_turnToNext : ByteArray := prog_2_method_4_code
def yX0_turnToNext : MethodName := ⟨RX0, "turnToNext", "([I)V"⟩
abbrev cX0_swap : ByteArray := prog_2_method_5_code
def yX0_swap : MethodName := ⟨RX0, "swap", "([III)V"⟩
abbrev cX0_fillHeavier : ByteArray := prog_2_method_6_code
def yX0_fillHeavier : MethodName := ⟨RX0, "fillHeavier", "(II)V"⟩
abbrev cX0_layings : ByteArray := prog_2_method_7_code
def yX0_layings : MethodName := ⟨RX0, "layings", "(I)LMiddleScale$Layings;"⟩
abbrev cX0_standing : ByteArray := prog_2_method_8_code
def yX0_standing : MethodName := ⟨RX0, "standing", "(II)[J"⟩
abbrev cX0_heavierThan : ByteArray := prog_2_method_9_code
def yX0_heavierThan : MethodName := ⟨RX0, "heavierThan", "(II)[J"⟩
abbrev cX0_packed : ByteArray := prog_2_method_10_code
def yX0_packed : MethodName := ⟨RX0, "packed", "(I)I"⟩
abbrev cX0_numberOf : ByteArray := prog_2_method_11_code
def yX0_numberOf : MethodName := ⟨RX0, "numberOf", "(I)I"⟩
abbrev cX0_mirror : ByteArray := prog_2_method_12_code
def yX0_mirror : MethodName := ⟨RX0, "mirror", "(I)I"⟩
abbrev cX0_areKnown : ByteArray := prog_2_method_13_code
def yX0_areKnown : MethodName := ⟨RX0, "areKnown", "(LMiddleScale$RowSet;)Z"⟩
abbrev cX0_mirrored : ByteArray := prog_2_method_14_code
def yX0_mirrored : MethodName := ⟨RX0, "mirrored", "(LMiddleScale$RowSet;)I"⟩
abbrev cX0_placesOf : ByteArray := prog_2_method_15_code
def yX0_placesOf : MethodName := ⟨RX0, "placesOf", "(LMiddleScale$RowSet;I)I"⟩
abbrev cX0_isPlaced : ByteArray := prog_2_method_16_code
def yX0_isPlaced : MethodName := ⟨RX0, "isPlaced", "(LMiddleScale$RowSet;I)Z"⟩
abbrev cX0_mayEnd : ByteArray := prog_2_method_17_code
def yX0_mayEnd : MethodName := ⟨RX0, "mayEnd", "(LMiddleScale$RowSet;II)Z"⟩
abbrev cX0_fewestSwaps : ByteArray := prog_2_method_18_code
def yX0_fewestSwaps : MethodName := ⟨RX0, "fewestSwaps", "(LMiddleScale$RowSet;I)I"⟩
abbrev cX0_swapsBetween : ByteArray := prog_2_method_19_code
def yX0_swapsBetween : MethodName := ⟨RX0, "swapsBetween", "(II)I"⟩
def RX1 : String := "MiddleScale$Fitting"
def TX1 : u_T := fun k => match k with
  | _ => ("MiddleScale$Fitting", "risen", "[[J", true)
def tyX1 : Nat → FieldType := fun k => match k with
  | _ => .array (.array .long)
theorem nmX1 : ∀ a, a < 1 → ∀ b, b < 1 → a ≠ b → (TX1 a).2.1 ≠ (TX1 b).2.1 := by decide +kernel
theorem tyX1_ok : ∀ k, k < 1 → parseFieldDescriptor (TX1 k).2.2.1 = some (tyX1 k) := by decide +kernel
abbrev cX1_init : ByteArray := prog_3_method_1_code
def yX1_init : MethodName := ⟨RX1, "<init>", "()V"⟩
abbrev cX1_aim : ByteArray := prog_3_method_2_code
def yX1_aim : MethodName := ⟨RX1, "aim", "(LMiddleScale$Store;LMiddleScale$AllRows;)V"⟩
abbrev cX1_hadRisen : ByteArray := prog_3_method_3_code
def yX1_hadRisen : MethodName := ⟨RX1, "hadRisen", "(LMiddleScale$Store;LMiddleScale$AllRows;II)V"⟩
abbrev cX1_fit : ByteArray := prog_3_method_4_code
def yX1_fit : MethodName := ⟨RX1, "fit", "(LMiddleScale$Store;LMiddleScale$AllRows;ILMiddleScale$RowSet;)V"⟩
abbrev cX1_borne : ByteArray := prog_3_method_5_code
def yX1_borne : MethodName := ⟨RX1, "borne", "(LMiddleScale$Store;III)J"⟩
abbrev cX1_quarrelling : ByteArray := prog_3_method_6_code
def yX1_quarrelling : MethodName := ⟨RX1, "quarrelling", "(LMiddleScale$Store;)I"⟩
abbrev cX1_agree : ByteArray := prog_3_method_7_code
def yX1_agree : MethodName := ⟨RX1, "agree", "([J[J)Z"⟩
abbrev cX1_leastProof : ByteArray := prog_3_method_8_code
def yX1_leastProof : MethodName := ⟨RX1, "leastProof", "(LMiddleScale$Store;LMiddleScale$AllRows;[LMiddleScale$RowSet;)I"⟩
abbrev cX1_proofOf : ByteArray := prog_3_method_9_code
def yX1_proofOf : MethodName := ⟨RX1, "proofOf", "([LMiddleScale$RowSet;IIII)I"⟩
def RX2 : String := "MiddleScale$Layings"
def TX2 : u_T := fun k => match k with
  | 0 => ("MiddleScale$Layings", "pans", "I", true)
  | 1 => ("MiddleScale$Layings", "sets", "[I", true)
  | 2 => ("MiddleScale$Layings", "worst", "I", false)
  | 3 => ("MiddleScale$Layings", "spread", "I", false)
  | 4 => ("MiddleScale$Layings", "kind", "I", true)
  | 5 => ("MiddleScale$Layings", "things", "I", true)
  | 6 => ("MiddleScale$Layings", "numbers", "[I", true)
  | 7 => ("MiddleScale$Layings", "risings", "[[J", true)
  | _ => ("MiddleScale$Layings", "never", "[J", true)
def tyX2 : Nat → FieldType := fun k => match k with
  | 0 => .int
  | 1 => .array .int
  | 2 => .int
  | 3 => .int
  | 4 => .int
  | 5 => .int
  | 6 => .array .int
  | 7 => .array (.array .long)
  | _ => .array .long
theorem nmX2 : ∀ a, a < 9 → ∀ b, b < 9 → a ≠ b → (TX2 a).2.1 ≠ (TX2 b).2.1 := by decide +kernel
theorem tyX2_ok : ∀ k, k < 9 → parseFieldDescriptor (TX2 k).2.2.1 = some (tyX2 k) := by decide +kernel
abbrev cX2_init : ByteArray := prog_4_method_1_code
def yX2_init : MethodName := ⟨RX2, "<init>", "(III)V"⟩
abbrev cX2_fill : ByteArray := prog_4_method_2_code
def yX2_fill : MethodName := ⟨RX2, "fill", "(LMiddleScale$AllRows;)V"⟩
abbrev cX2_fillSets : ByteArray := prog_4_method_3_code
def yX2_fillSets : MethodName := ⟨RX2, "fillSets", "()V"⟩
abbrev cX2_turned : ByteArray := prog_4_method_4_code
def yX2_turned : MethodName := ⟨RX2, "turned", "(I)I"⟩
abbrev cX2_fillRising : ByteArray := prog_4_method_5_code
def yX2_fillRising : MethodName := ⟨RX2, "fillRising", "(LMiddleScale$AllRows;II[J)V"⟩
abbrev cX2_indexOf : ByteArray := prog_4_method_6_code
def yX2_indexOf : MethodName := ⟨RX2, "indexOf", "(I)I"⟩
abbrev cX2_setAt : ByteArray := prog_4_method_7_code
def yX2_setAt : MethodName := ⟨RX2, "setAt", "(I)I"⟩
abbrev cX2_rising : ByteArray := prog_4_method_8_code
def yX2_rising : MethodName := ⟨RX2, "rising", "(II)[J"⟩
abbrev cX2_risingAt : ByteArray := prog_4_method_9_code
def yX2_risingAt : MethodName := ⟨RX2, "risingAt", "(II)[J"⟩
abbrev cX2_measure : ByteArray := prog_4_method_10_code
def yX2_measure : MethodName := ⟨RX2, "measure", "(LMiddleScale$RowSet;I)V"⟩
abbrev cX2_best : ByteArray := prog_4_method_11_code
def yX2_best : MethodName := ⟨RX2, "best", "(LMiddleScale$RowSet;)I"⟩
abbrev cX2_evenSpread : ByteArray := prog_4_method_12_code
def yX2_evenSpread : MethodName := ⟨RX2, "evenSpread", "(I)I"⟩
abbrev cX2_parting : ByteArray := prog_4_method_13_code
def yX2_parting : MethodName := ⟨RX2, "parting", "(LMiddleScale$AllRows;LMiddleScale$RowSet;)I"⟩
abbrev cX2_partsNothing : ByteArray := prog_4_method_14_code
def yX2_partsNothing : MethodName := ⟨RX2, "partsNothing", "(LMiddleScale$RowSet;I)Z"⟩
def RX3 : String := "MiddleScale$Learner"
def TX3 : u_T := fun k => match k with
  | _ => ("MiddleScale$Learner", "steps", "I", false)
def tyX3 : Nat → FieldType := fun k => match k with
  | _ => .int
theorem nmX3 : ∀ a, a < 1 → ∀ b, b < 1 → a ≠ b → (TX3 a).2.1 ≠ (TX3 b).2.1 := by decide +kernel
theorem tyX3_ok : ∀ k, k < 1 → parseFieldDescriptor (TX3 k).2.2.1 = some (tyX3 k) := by decide +kernel
abbrev cX3_init : ByteArray := prog_5_method_1_code
def yX3_init : MethodName := ⟨RX3, "<init>", "()V"⟩
abbrev cX3_leastLayings : ByteArray := prog_5_method_2_code
def yX3_leastLayings : MethodName := ⟨RX3, "leastLayings", "(LMiddleScale$AllRows;LMiddleScale$Layings;LMiddleScale$RowSet;[LMiddleScale$RowSet;)I"⟩
abbrev cX3_canLearn : ByteArray := prog_5_method_3_code
def yX3_canLearn : MethodName := ⟨RX3, "canLearn", "(LMiddleScale$AllRows;LMiddleScale$Layings;[LMiddleScale$RowSet;II)Z"⟩
abbrev cX3_isEnough : ByteArray := prog_5_method_4_code
def yX3_isEnough : MethodName := ⟨RX3, "isEnough", "(LMiddleScale$AllRows;LMiddleScale$Layings;[LMiddleScale$RowSet;III)Z"⟩
def RX4 : String := "MiddleScale$Reader"
def TX4 : u_T := fun k => match k with
  | 0 => ("MiddleScale$Reader", "tape", "LMiddleScale$Tape;", true)
  | 1 => ("MiddleScale$Reader", "store", "LMiddleScale$Store;", true)
  | 2 => ("MiddleScale$Reader", "length", "I", false)
  | 3 => ("MiddleScale$Reader", "at", "I", false)
  | 4 => ("MiddleScale$Reader", "begin", "I", false)
  | _ => ("MiddleScale$Reader", "wrong", "I", false)
def tyX4 : Nat → FieldType := fun k => match k with
  | 0 => .object "MiddleScale$Tape"
  | 1 => .object "MiddleScale$Store"
  | 2 => .int
  | 3 => .int
  | 4 => .int
  | _ => .int
theorem nmX4 : ∀ a, a < 6 → ∀ b, b < 6 → a ≠ b → (TX4 a).2.1 ≠ (TX4 b).2.1 := by decide +kernel
theorem tyX4_ok : ∀ k, k < 6 → parseFieldDescriptor (TX4 k).2.2.1 = some (tyX4 k) := by decide +kernel
abbrev cX4_init : ByteArray := prog_6_method_1_code
def yX4_init : MethodName := ⟨RX4, "<init>", "()V"⟩
abbrev cX4_read : ByteArray := prog_6_method_2_code
def yX4_read : MethodName := ⟨RX4, "read", "(I)I"⟩
abbrev cX4_goesOn : ByteArray := prog_6_method_3_code
def yX4_goesOn : MethodName := ⟨RX4, "goesOn", "()Z"⟩
abbrev cX4_readLine : ByteArray := prog_6_method_4_code
def yX4_readLine : MethodName := ⟨RX4, "readLine", "(I)Z"⟩
abbrev cX4_readThings : ByteArray := prog_6_method_5_code
def yX4_readThings : MethodName := ⟨RX4, "readThings", "()Z"⟩
abbrev cX4_readScale : ByteArray := prog_6_method_6_code
def yX4_readScale : MethodName := ⟨RX4, "readScale", "()Z"⟩
abbrev cX4_readKind : ByteArray := prog_6_method_7_code
def yX4_readKind : MethodName := ⟨RX4, "readKind", "()I"⟩
abbrev cX4_readWeight : ByteArray := prog_6_method_8_code
def yX4_readWeight : MethodName := ⟨RX4, "readWeight", "()Z"⟩
abbrev cX4_readNote : ByteArray := prog_6_method_9_code
def yX4_readNote : MethodName := ⟨RX4, "readNote", "()Z"⟩
abbrev cX4_readThing : ByteArray := prog_6_method_10_code
def yX4_readThing : MethodName := ⟨RX4, "readThing", "(IZ)I"⟩
abbrev cX4_readNumber : ByteArray := prog_6_method_11_code
def yX4_readNumber : MethodName := ⟨RX4, "readNumber", "(II)I"⟩
abbrev cX4_readWord : ByteArray := prog_6_method_12_code
def yX4_readWord : MethodName := ⟨RX4, "readWord", "(Ljava/lang/String;)Z"⟩
abbrev cX4_skipBlanks : ByteArray := prog_6_method_13_code
def yX4_skipBlanks : MethodName := ⟨RX4, "skipBlanks", "()V"⟩
abbrev cX4_refuse : ByteArray := prog_6_method_14_code
def yX4_refuse : MethodName := ⟨RX4, "refuse", "(I)Z"⟩
abbrev cX4_isLetter : ByteArray := prog_6_method_15_code
def yX4_isLetter : MethodName := ⟨RX4, "isLetter", "(I)Z"⟩
abbrev cX4_isDigit : ByteArray := prog_6_method_16_code
def yX4_isDigit : MethodName := ⟨RX4, "isDigit", "(I)Z"⟩
def RX5 : String := "MiddleScale$RowSet"
def TX5 : u_T := fun k => match k with
  | 0 => ("MiddleScale$RowSet", "size", "I", false)
  | 1 => ("MiddleScale$RowSet", "bits", "[J", true)
  | 2 => ("MiddleScale$RowSet", "live", "[I", true)
  | _ => ("MiddleScale$RowSet", "lives", "I", false)
def tyX5 : Nat → FieldType := fun k => match k with
  | 0 => .int
  | 1 => .array .long
  | 2 => .array .int
  | _ => .int
theorem nmX5 : ∀ a, a < 4 → ∀ b, b < 4 → a ≠ b → (TX5 a).2.1 ≠ (TX5 b).2.1 := by decide +kernel
theorem tyX5_ok : ∀ k, k < 4 → parseFieldDescriptor (TX5 k).2.2.1 = some (tyX5 k) := by decide +kernel
abbrev cX5_init : ByteArray := prog_7_method_1_code
def yX5_init : MethodName := ⟨RX5, "<init>", "()V"⟩
abbrev cX5_clear : ByteArray := prog_7_method_2_code
def yX5_clear : MethodName := ⟨RX5, "clear", "()V"⟩
abbrev cX5_add : ByteArray := prog_7_method_3_code
def yX5_add : MethodName := ⟨RX5, "add", "(IJ)V"⟩
abbrev cX5_copy : ByteArray := prog_7_method_4_code
def yX5_copy : MethodName := ⟨RX5, "copy", "(LMiddleScale$RowSet;)V"⟩
abbrev cX5_copyAll : ByteArray := prog_7_method_5_code
def yX5_copyAll : MethodName := ⟨RX5, "copyAll", "([J)V"⟩
abbrev cX5_take : ByteArray := prog_7_method_6_code
def yX5_take : MethodName := ⟨RX5, "take", "(LMiddleScale$RowSet;[J)V"⟩
abbrev cX5_narrow : ByteArray := prog_7_method_7_code
def yX5_narrow : MethodName := ⟨RX5, "narrow", "([J)V"⟩
abbrev cX5_shared : ByteArray := prog_7_method_8_code
def yX5_shared : MethodName := ⟨RX5, "shared", "([J)I"⟩
abbrev cX5_meets : ByteArray := prog_7_method_9_code
def yX5_meets : MethodName := ⟨RX5, "meets", "([J)Z"⟩
abbrev cX5_meetsBoth : ByteArray := prog_7_method_10_code
def yX5_meetsBoth : MethodName := ⟨RX5, "meetsBoth", "([J[J)Z"⟩
abbrev cX5_isWithin : ByteArray := prog_7_method_11_code
def yX5_isWithin : MethodName := ⟨RX5, "isWithin", "([J)Z"⟩
abbrev cX5_has : ByteArray := prog_7_method_12_code
def yX5_has : MethodName := ⟨RX5, "has", "(I)Z"⟩
abbrev cX5_list : ByteArray := prog_7_method_13_code
def yX5_list : MethodName := ⟨RX5, "list", "([I)I"⟩
abbrev cX5_numberAt : ByteArray := prog_7_method_14_code
def yX5_numberAt : MethodName := ⟨RX5, "numberAt", "(I)I"⟩
abbrev cX5_bitAt : ByteArray := prog_7_method_15_code
def yX5_bitAt : MethodName := ⟨RX5, "bitAt", "(JI)I"⟩
def RX6 : String := "MiddleScale$Sorter"
def TX6 : u_T := fun k => match k with
  | 0 => ("MiddleScale$Sorter", "line", "[I", true)
  | _ => ("MiddleScale$Sorter", "layings", "I", false)
def tyX6 : Nat → FieldType := fun k => match k with
  | 0 => .array .int
  | _ => .int
theorem nmX6 : ∀ a, a < 2 → ∀ b, b < 2 → a ≠ b → (TX6 a).2.1 ≠ (TX6 b).2.1 := by decide +kernel
theorem tyX6_ok : ∀ k, k < 2 → parseFieldDescriptor (TX6 k).2.2.1 = some (tyX6 k) := by decide +kernel
abbrev cX6_init : ByteArray := prog_8_method_1_code
def yX6_init : MethodName := ⟨RX6, "<init>", "()V"⟩
abbrev cX6_sort : ByteArray := prog_8_method_2_code
def yX6_sort : MethodName := ⟨RX6, "sort", "(LMiddleScale$Store;)V"⟩
abbrev cX6_lift : ByteArray := prog_8_method_3_code
def yX6_lift : MethodName := ⟨RX6, "lift", "(LMiddleScale$Store;III)I"⟩
abbrev cX6_placeOf : ByteArray := prog_8_method_4_code
def yX6_placeOf : MethodName := ⟨RX6, "placeOf", "(LMiddleScale$Store;I)I"⟩
def RX7 : String := "MiddleScale$Store"
def TX7 : u_T := fun k => match k with
  | 0 => ("MiddleScale$Store", "weights", "[I", true)
  | 1 => ("MiddleScale$Store", "kinds", "[I", true)
  | 2 => ("MiddleScale$Store", "prices", "[I", true)
  | 3 => ("MiddleScale$Store", "lies", "[I", true)
  | 4 => ("MiddleScale$Store", "noteScale", "[I", true)
  | 5 => ("MiddleScale$Store", "noteSet", "[I", true)
  | 6 => ("MiddleScale$Store", "noteRose", "[I", true)
  | 7 => ("MiddleScale$Store", "things", "I", false)
  | 8 => ("MiddleScale$Store", "scales", "I", false)
  | 9 => ("MiddleScale$Store", "notes", "I", false)
  | _ => ("MiddleScale$Store", "texts", "I", false)
def tyX7 : Nat → FieldType := fun k => match k with
  | 0 => .array .int
  | 1 => .array .int
  | 2 => .array .int
  | 3 => .array .int
  | 4 => .array .int
  | 5 => .array .int
  | 6 => .array .int
  | 7 => .int
  | 8 => .int
  | 9 => .int
  | _ => .int
theorem nmX7 : ∀ a, a < 11 → ∀ b, b < 11 → a ≠ b → (TX7 a).2.1 ≠ (TX7 b).2.1 := by decide +kernel
theorem tyX7_ok : ∀ k, k < 11 → parseFieldDescriptor (TX7 k).2.2.1 = some (tyX7 k) := by decide +kernel
abbrev cX7_init : ByteArray := prog_9_method_1_code
def yX7_init : MethodName := ⟨RX7, "<init>", "()V"⟩
abbrev cX7_takeOver : ByteArray := prog_9_method_2_code
def yX7_takeOver : MethodName := ⟨RX7, "takeOver", "(LMiddleScale$Store;)V"⟩
abbrev cX7_isThing : ByteArray := prog_9_method_3_code
def yX7_isThing : MethodName := ⟨RX7, "isThing", "(I)Z"⟩
abbrev cX7_isSet : ByteArray := prog_9_method_4_code
def yX7_isSet : MethodName := ⟨RX7, "isSet", "(II)Z"⟩
abbrev cX7_setThings : ByteArray := prog_9_method_5_code
def yX7_setThings : MethodName := ⟨RX7, "setThings", "(I)V"⟩
abbrev cX7_addScale : ByteArray := prog_9_method_6_code
def yX7_addScale : MethodName := ⟨RX7, "addScale", "(III)I"⟩
abbrev cX7_addNote : ByteArray := prog_9_method_7_code
def yX7_addNote : MethodName := ⟨RX7, "addNote", "(III)I"⟩
abbrev cX7_putAway : ByteArray := prog_9_method_8_code
def yX7_putAway : MethodName := ⟨RX7, "putAway", "(I)V"⟩
abbrev cX7_kindOfNote : ByteArray := prog_9_method_9_code
def yX7_kindOfNote : MethodName := ⟨RX7, "kindOfNote", "(I)I"⟩
abbrev cX7_outweighs : ByteArray := prog_9_method_10_code
def yX7_outweighs : MethodName := ⟨RX7, "outweighs", "(II)Z"⟩
abbrev cX7_heavierIn : ByteArray := prog_9_method_11_code
def yX7_heavierIn : MethodName := ⟨RX7, "heavierIn", "(II)I"⟩
abbrev cX7_riser : ByteArray := prog_9_method_12_code
def yX7_riser : MethodName := ⟨RX7, "riser", "(II)I"⟩
abbrev cX7_trueRow : ByteArray := prog_9_method_13_code
def yX7_trueRow : MethodName := ⟨RX7, "trueRow", "()I"⟩
abbrev cX7_spentCoin : ByteArray := prog_9_method_14_code
def yX7_spentCoin : MethodName := ⟨RX7, "spentCoin", "()I"⟩
abbrev cX7_falseNotes : ByteArray := prog_9_method_15_code
def yX7_falseNotes : MethodName := ⟨RX7, "falseNotes", "()I"⟩
abbrev cX7_timesRisen : ByteArray := prog_9_method_16_code
def yX7_timesRisen : MethodName := ⟨RX7, "timesRisen", "(II)I"⟩
abbrev cX7_isNoted : ByteArray := prog_9_method_17_code
def yX7_isNoted : MethodName := ⟨RX7, "isNoted", "(I)Z"⟩
def RX8 : String := "MiddleScale$Tape"
def TX8 : u_T := fun k => match k with
  | 0 => ("MiddleScale$Tape", "bytes", "[I", true)
  | _ => ("MiddleScale$Tape", "length", "I", false)
def tyX8 : Nat → FieldType := fun k => match k with
  | 0 => .array .int
  | _ => .int
theorem nmX8 : ∀ a, a < 2 → ∀ b, b < 2 → a ≠ b → (TX8 a).2.1 ≠ (TX8 b).2.1 := by decide +kernel
theorem tyX8_ok : ∀ k, k < 2 → parseFieldDescriptor (TX8 k).2.2.1 = some (tyX8 k) := by decide +kernel
abbrev cX8_init : ByteArray := prog_10_method_1_code
def yX8_init : MethodName := ⟨RX8, "<init>", "()V"⟩
abbrev cX8_put : ByteArray := prog_10_method_2_code
def yX8_put : MethodName := ⟨RX8, "put", "(I)V"⟩
abbrev cX8_useUp : ByteArray := prog_10_method_3_code
def yX8_useUp : MethodName := ⟨RX8, "useUp", "()I"⟩
abbrev cX8_at : ByteArray := prog_10_method_4_code
def yX8_at : MethodName := ⟨RX8, "at", "(I)I"⟩
abbrev cX8_packedRow : ByteArray := prog_10_method_5_code
def yX8_packedRow : MethodName := ⟨RX8, "packedRow", "(II)I"⟩
def RX9 : String := "MiddleScale$Walk"
def TX9 : u_T := fun k => match k with
  | 0 => ("MiddleScale$Walk", "most", "I", false)
  | 1 => ("MiddleScale$Walk", "total", "I", false)
  | _ => ("MiddleScale$Walk", "sure", "Z", false)
def tyX9 : Nat → FieldType := fun k => match k with
  | 0 => .int
  | 1 => .int
  | _ => .boolean
theorem nmX9 : ∀ a, a < 3 → ∀ b, b < 3 → a ≠ b → (TX9 a).2.1 ≠ (TX9 b).2.1 := by decide +kernel
theorem tyX9_ok : ∀ k, k < 3 → parseFieldDescriptor (TX9 k).2.2.1 = some (tyX9 k) := by decide +kernel
abbrev cX9_init : ByteArray := prog_11_method_1_code
def yX9_init : MethodName := ⟨RX9, "<init>", "()V"⟩
abbrev cX9_start : ByteArray := prog_11_method_2_code
def yX9_start : MethodName := ⟨RX9, "start", "()V"⟩
abbrev cX9_go : ByteArray := prog_11_method_3_code
def yX9_go : MethodName := ⟨RX9, "go", "(LMiddleScale$AllRows;LMiddleScale$Layings;[LMiddleScale$RowSet;II)V"⟩
def RX10 : String := "MiddleScale"
def TX10 : u_T := fun k => match k with
  | 0 => ("MiddleScale", "reader", "LMiddleScale$Reader;", true)
  | 1 => ("MiddleScale", "tape", "LMiddleScale$Tape;", true)
  | 2 => ("MiddleScale", "now", "LMiddleScale$Store;", true)
  | 3 => ("MiddleScale", "picture", "LMiddleScale$Store;", true)
  | 4 => ("MiddleScale", "worlds", "[LMiddleScale$AllRows;", true)
  | 5 => ("MiddleScale", "fitting", "LMiddleScale$Fitting;", true)
  | 6 => ("MiddleScale", "left", "LMiddleScale$RowSet;", true)
  | 7 => ("MiddleScale", "levels", "[LMiddleScale$RowSet;", true)
  | 8 => ("MiddleScale", "walk", "LMiddleScale$Walk;", true)
  | 9 => ("MiddleScale", "learner", "LMiddleScale$Learner;", true)
  | 10 => ("MiddleScale", "sorter", "LMiddleScale$Sorter;", true)
  | 11 => ("MiddleScale", "answers", "[I", true)
  | 12 => ("MiddleScale", "fresh", "Z", false)
  | 13 => ("MiddleScale", "imaged", "Z", false)
  | _ => ("MiddleScale", "wrongByte", "I", false)
def tyX10 : Nat → FieldType := fun k => match k with
  | 0 => .object "MiddleScale$Reader"
  | 1 => .object "MiddleScale$Tape"
  | 2 => .object "MiddleScale$Store"
  | 3 => .object "MiddleScale$Store"
  | 4 => .array (.object "MiddleScale$AllRows")
  | 5 => .object "MiddleScale$Fitting"
  | 6 => .object "MiddleScale$RowSet"
  | 7 => .array (.object "MiddleScale$RowSet")
  | 8 => .object "MiddleScale$Walk"
  | 9 => .object "MiddleScale$Learner"
  | 10 => .object "MiddleScale$Sorter"
  | 11 => .array .int
  | 12 => .boolean
  | 13 => .boolean
  | _ => .int
theorem nmX10 : ∀ a, a < 15 → ∀ b, b < 15 → a ≠ b → (TX10 a).2.1 ≠ (TX10 b).2.1 := by decide +kernel
theorem tyX10_ok : ∀ k, k < 15 → parseFieldDescriptor (TX10 k).2.2.1 = some (tyX10 k) := by decide +kernel
abbrev cX10_init : ByteArray := prog_1_method_1_code
def yX10_init : MethodName := ⟨RX10, "<init>", "()V"⟩
abbrev cX10_feed : ByteArray := prog_1_method_2_code
def yX10_feed : MethodName := ⟨RX10, "feed", "(IIIII)I"⟩
abbrev cX10_end : ByteArray := prog_1_method_3_code
def yX10_end : MethodName := ⟨RX10, "end", "(I)Z"⟩
abbrev cX10_shed : ByteArray := prog_1_method_4_code
def yX10_shed : MethodName := ⟨RX10, "shed", "()I"⟩
abbrev cX10_fault : ByteArray := prog_1_method_5_code
def yX10_fault : MethodName := ⟨RX10, "fault", "()I"⟩
abbrev cX10_things : ByteArray := prog_1_method_6_code
def yX10_things : MethodName := ⟨RX10, "things", "(I)V"⟩
abbrev cX10_scale : ByteArray := prog_1_method_7_code
def yX10_scale : MethodName := ⟨RX10, "scale", "(III)I"⟩
abbrev cX10_weight : ByteArray := prog_1_method_8_code
def yX10_weight : MethodName := ⟨RX10, "weight", "(II)I"⟩
abbrev cX10_rises : ByteArray := prog_1_method_9_code
def yX10_rises : MethodName := ⟨RX10, "rises", "(II)I"⟩
abbrev cX10_note : ByteArray := prog_1_method_10_code
def yX10_note : MethodName := ⟨RX10, "note", "(III)I"⟩
abbrev cX10_look : ByteArray := prog_1_method_11_code
def yX10_look : MethodName := ⟨RX10, "look", "(II)I"⟩
abbrev cX10_drop : ByteArray := prog_1_method_12_code
def yX10_drop : MethodName := ⟨RX10, "drop", "(I)I"⟩
abbrev cX10_rows : ByteArray := prog_1_method_13_code
def yX10_rows : MethodName := ⟨RX10, "rows", "()I"⟩
abbrev cX10_row : ByteArray := prog_1_method_14_code
def yX10_row : MethodName := ⟨RX10, "row", "(II)I"⟩
abbrev cX10_fits : ByteArray := prog_1_method_15_code
def yX10_fits : MethodName := ⟨RX10, "fits", "()Z"⟩
abbrev cX10_may : ByteArray := prog_1_method_16_code
def yX10_may : MethodName := ⟨RX10, "may", "(I)I"⟩
abbrev cX10_heavier : ByteArray := prog_1_method_17_code
def yX10_heavier : MethodName := ⟨RX10, "heavier", "(II)I"⟩
abbrev cX10_places : ByteArray := prog_1_method_18_code
def yX10_places : MethodName := ⟨RX10, "places", "(I)I"⟩
abbrev cX10_ends : ByteArray := prog_1_method_19_code
def yX10_ends : MethodName := ⟨RX10, "ends", "()I"⟩
abbrev cX10_goose : ByteArray := prog_1_method_20_code
def yX10_goose : MethodName := ⟨RX10, "goose", "()I"⟩
abbrev cX10_centre : ByteArray := prog_1_method_21_code
def yX10_centre : MethodName := ⟨RX10, "centre", "()I"⟩
abbrev cX10_known : ByteArray := prog_1_method_22_code
def yX10_known : MethodName := ⟨RX10, "known", "()Z"⟩
abbrev cX10_quarrels : ByteArray := prog_1_method_23_code
def yX10_quarrels : MethodName := ⟨RX10, "quarrels", "()I"⟩
abbrev cX10_proof : ByteArray := prog_1_method_24_code
def yX10_proof : MethodName := ⟨RX10, "proof", "()I"⟩
abbrev cX10_wrongly : ByteArray := prog_1_method_25_code
def yX10_wrongly : MethodName := ⟨RX10, "wrongly", "()I"⟩
abbrev cX10_mends : ByteArray := prog_1_method_26_code
def yX10_mends : MethodName := ⟨RX10, "mends", "(I)I"⟩
abbrev cX10_nearly : ByteArray := prog_1_method_27_code
def yX10_nearly : MethodName := ⟨RX10, "nearly", "()I"⟩
abbrev cX10_votes : ByteArray := prog_1_method_28_code
def yX10_votes : MethodName := ⟨RX10, "votes", "(I)I"⟩
abbrev cX10_laying : ByteArray := prog_1_method_29_code
def yX10_laying : MethodName := ⟨RX10, "laying", "(IIZ)I"⟩
abbrev cX10_next : ByteArray := prog_1_method_30_code
def yX10_next : MethodName := ⟨RX10, "next", "(I)I"⟩
abbrev cX10_fewest : ByteArray := prog_1_method_31_code
def yX10_fewest : MethodName := ⟨RX10, "fewest", "(I)I"⟩
abbrev cX10_bound : ByteArray := prog_1_method_32_code
def yX10_bound : MethodName := ⟨RX10, "bound", "(I)I"⟩
abbrev cX10_byNext : ByteArray := prog_1_method_33_code
def yX10_byNext : MethodName := ⟨RX10, "byNext", "(I)I"⟩
abbrev cX10_wants : ByteArray := prog_1_method_34_code
def yX10_wants : MethodName := ⟨RX10, "wants", "(II)Z"⟩
abbrev cX10_plain : ByteArray := prog_1_method_35_code
def yX10_plain : MethodName := ⟨RX10, "plain", "(II)I"⟩
abbrev cX10_sorted : ByteArray := prog_1_method_36_code
def yX10_sorted : MethodName := ⟨RX10, "sorted", "(I)I"⟩
abbrev cX10_grown : ByteArray := prog_1_method_37_code
def yX10_grown : MethodName := ⟨RX10, "grown", "(I)I"⟩
abbrev cX10_played : ByteArray := prog_1_method_38_code
def yX10_played : MethodName := ⟨RX10, "played", "(IIII)I"⟩
abbrev cX10_sures : ByteArray := prog_1_method_39_code
def yX10_sures : MethodName := ⟨RX10, "sures", "(Z)I"⟩
abbrev cX10_pair : ByteArray := prog_1_method_40_code
def yX10_pair : MethodName := ⟨RX10, "pair", "(I)I"⟩
abbrev cX10_mean : ByteArray := prog_1_method_41_code
def yX10_mean : MethodName := ⟨RX10, "mean", "(I)I"⟩
abbrev cX10_cheapest : ByteArray := prog_1_method_42_code
def yX10_cheapest : MethodName := ⟨RX10, "cheapest", "(Z)I"⟩
abbrev cX10_where : ByteArray := prog_1_method_43_code
def yX10_where : MethodName := ⟨RX10, "where", "(II)I"⟩
abbrev cX10_tree : ByteArray := prog_1_method_44_code
def yX10_tree : MethodName := ⟨RX10, "tree", "(IZ)I"⟩
abbrev cX10_needless : ByteArray := prog_1_method_45_code
def yX10_needless : MethodName := ⟨RX10, "needless", "()I"⟩
abbrev cX10_stands : ByteArray := prog_1_method_46_code
def yX10_stands : MethodName := ⟨RX10, "stands", "(IZ)I"⟩
abbrev cX10_laid : ByteArray := prog_1_method_47_code
def yX10_laid : MethodName := ⟨RX10, "laid", "(IZ)I"⟩
abbrev cX10_image : ByteArray := prog_1_method_48_code
def yX10_image : MethodName := ⟨RX10, "image", "()V"⟩
abbrev cX10_back : ByteArray := prog_1_method_49_code
def yX10_back : MethodName := ⟨RX10, "back", "()Z"⟩
abbrev cX10_count : ByteArray := prog_1_method_50_code
def yX10_count : MethodName := ⟨RX10, "count", "(I)I"⟩
abbrev cX10_needThing : ByteArray := prog_1_method_51_code
def yX10_needThing : MethodName := ⟨RX10, "needThing", "(I)V"⟩
abbrev cX10_needScale : ByteArray := prog_1_method_52_code
def yX10_needScale : MethodName := ⟨RX10, "needScale", "(I)V"⟩
abbrev cX10_needNote : ByteArray := prog_1_method_53_code
def yX10_needNote : MethodName := ⟨RX10, "needNote", "(I)V"⟩
abbrev cX10_needLoad : ByteArray := prog_1_method_54_code
def yX10_needLoad : MethodName := ⟨RX10, "needLoad", "(II)V"⟩
abbrev cX10_needThree : ByteArray := prog_1_method_55_code
def yX10_needThree : MethodName := ⟨RX10, "needThree", "(I)V"⟩
abbrev cX10_toldRow : ByteArray := prog_1_method_56_code
def yX10_toldRow : MethodName := ⟨RX10, "toldRow", "()I"⟩
abbrev cX10_allRows : ByteArray := prog_1_method_57_code
def yX10_allRows : MethodName := ⟨RX10, "allRows", "()LMiddleScale$AllRows;"⟩
abbrev cX10_layingsOf : ByteArray := prog_1_method_58_code
def yX10_layingsOf : MethodName := ⟨RX10, "layingsOf", "(I)LMiddleScale$Layings;"⟩
abbrev cX10_rowsLeft : ByteArray := prog_1_method_59_code
def yX10_rowsLeft : MethodName := ⟨RX10, "rowsLeft", "()LMiddleScale$RowSet;"⟩
abbrev cX10_rowsHeavier : ByteArray := prog_1_method_60_code
def yX10_rowsHeavier : MethodName := ⟨RX10, "rowsHeavier", "(II)I"⟩
abbrev cX10_rowsAtEnd : ByteArray := prog_1_method_61_code
def yX10_rowsAtEnd : MethodName := ⟨RX10, "rowsAtEnd", "(I)I"⟩
abbrev cX10_mayRise : ByteArray := prog_1_method_62_code
def yX10_mayRise : MethodName := ⟨RX10, "mayRise", "(I)I"⟩
abbrev cX10_sizeWithout : ByteArray := prog_1_method_63_code
def yX10_sizeWithout : MethodName := ⟨RX10, "sizeWithout", "(I)I"⟩
abbrev cX10_sizeHadRisen : ByteArray := prog_1_method_64_code
def yX10_sizeHadRisen : MethodName := ⟨RX10, "sizeHadRisen", "(II)I"⟩
abbrev cX10_walked : ByteArray := prog_1_method_65_code
def yX10_walked : MethodName := ⟨RX10, "walked", "(II)I"⟩
abbrev cX10_play : ByteArray := prog_1_method_66_code
def yX10_play : MethodName := ⟨RX10, "play", "(LMiddleScale$RowSet;III)I"⟩
abbrev cX10_within : ByteArray := prog_1_method_67_code
def yX10_within : MethodName := ⟨RX10, "within", "(II)Z"⟩
abbrev cX10_holds : ByteArray := prog_1_method_68_code
def yX10_holds : MethodName := ⟨RX10, "holds", "(II)Z"⟩
abbrev cX10_behind : ByteArray := prog_1_method_69_code
def yX10_behind : MethodName := ⟨RX10, "behind", "(II)I"⟩
abbrev cX10_pansOf : ByteArray := prog_1_method_70_code
def yX10_pansOf : MethodName := ⟨RX10, "pansOf", "(I)I"⟩
abbrev cX10_aboveRiser : ByteArray := prog_1_method_71_code
def yX10_aboveRiser : MethodName := ⟨RX10, "aboveRiser", "(I)I"⟩
abbrev cX10_leastBound : ByteArray := prog_1_method_72_code
def yX10_leastBound : MethodName := ⟨RX10, "leastBound", "(II)I"⟩
abbrev cX10_at : ByteArray := prog_1_method_73_code
def yX10_at : MethodName := ⟨RX10, "at", "(II)I"⟩
abbrev cX10_commonPart : ByteArray := prog_1_method_74_code
def yX10_commonPart : MethodName := ⟨RX10, "commonPart", "(II)I"⟩
def RX11 : String := "MiddleScaleModel"
def TX11 : u_T := fun k => match k with
  | 0 => ("MiddleScaleModel", "thrown", "I", false)
  | 1 => ("MiddleScaleModel", "world", "[I", true)
  | 2 => ("MiddleScaleModel", "image", "[I", true)
  | 3 => ("MiddleScaleModel", "draft", "[I", true)
  | 4 => ("MiddleScaleModel", "hasImage", "Z", false)
  | 5 => ("MiddleScaleModel", "tape", "[B", true)
  | 6 => ("MiddleScaleModel", "taped", "I", false)
  | 7 => ("MiddleScaleModel", "point", "I", false)
  | 8 => ("MiddleScaleModel", "end", "I", false)
  | 9 => ("MiddleScaleModel", "begin", "I", false)
  | 10 => ("MiddleScaleModel", "faultAt", "I", false)
  | 11 => ("MiddleScaleModel", "five", "[I", true)
  | 12 => ("MiddleScaleModel", "table", "[B", true)
  | 13 => ("MiddleScaleModel", "tabled", "I", false)
  | 14 => ("MiddleScaleModel", "tableFor", "I", false)
  | 15 => ("MiddleScaleModel", "wrong", "[I", true)
  | 16 => ("MiddleScaleModel", "kept", "[S", true)
  | 17 => ("MiddleScaleModel", "many", "[I", true)
  | 18 => ("MiddleScaleModel", "isEnds", "[Z", true)
  | 19 => ("MiddleScaleModel", "misses", "[I", true)
  | 20 => ("MiddleScaleModel", "missMany", "I", false)
  | 21 => ("MiddleScaleModel", "chosen", "[I", true)
  | 22 => ("MiddleScaleModel", "sets", "[I", true)
  | 23 => ("MiddleScaleModel", "setMany", "I", false)
  | 24 => ("MiddleScaleModel", "rising", "[I", true)
  | 25 => ("MiddleScaleModel", "worst", "I", false)
  | 26 => ("MiddleScaleModel", "spread", "I", false)
  | 27 => ("MiddleScaleModel", "nextWorst", "I", false)
  | 28 => ("MiddleScaleModel", "setAt", "[I", true)
  | 29 => ("MiddleScaleModel", "memberAt", "[I", true)
  | 30 => ("MiddleScaleModel", "steps", "I", false)
  | 31 => ("MiddleScaleModel", "laid", "[I", true)
  | 32 => ("MiddleScaleModel", "member", "[I", true)
  | 33 => ("MiddleScaleModel", "mostLayings", "I", false)
  | 34 => ("MiddleScaleModel", "allLayings", "I", false)
  | 35 => ("MiddleScaleModel", "isLearnt", "Z", false)
  | 36 => ("MiddleScaleModel", "line", "[I", true)
  | 37 => ("MiddleScaleModel", "layings", "I", false)
  | _ => ("MiddleScaleModel", "seed", "I", false)
def tyX11 : Nat → FieldType := fun k => match k with
  | 0 => .int
  | 1 => .array .int
  | 2 => .array .int
  | 3 => .array .int
  | 4 => .boolean
  | 5 => .array .byte
  | 6 => .int
  | 7 => .int
  | 8 => .int
  | 9 => .int
  | 10 => .int
  | 11 => .array .int
  | 12 => .array .byte
  | 13 => .int
  | 14 => .int
  | 15 => .array .int
  | 16 => .array .short
  | 17 => .array .int
  | 18 => .array .boolean
  | 19 => .array .int
  | 20 => .int
  | 21 => .array .int
  | 22 => .array .int
  | 23 => .int
  | 24 => .array .int
  | 25 => .int
  | 26 => .int
  | 27 => .int
  | 28 => .array .int
  | 29 => .array .int
  | 30 => .int
  | 31 => .array .int
  | 32 => .array .int
  | 33 => .int
  | 34 => .int
  | 35 => .boolean
  | 36 => .array .int
  | 37 => .int
  | _ => .int
theorem nmX11 : ∀ a, a < 39 → ∀ b, b < 39 → a ≠ b → (TX11 a).2.1 ≠ (TX11 b).2.1 := by decide +kernel
theorem tyX11_ok : ∀ k, k < 39 → parseFieldDescriptor (TX11 k).2.2.1 = some (tyX11 k) := by decide +kernel
abbrev cX11_thrown : ByteArray := prog_13_method_1_code
def yX11_thrown : MethodName := ⟨RX11, "thrown", "()I"⟩
abbrev cX11_throwsIf : ByteArray := prog_13_method_2_code
def yX11_throwsIf : MethodName := ⟨RX11, "throwsIf", "(ZI)Z"⟩
abbrev cX11_in : ByteArray := prog_13_method_3_code
def yX11_in : MethodName := ⟨RX11, "in", "(III)Z"⟩
abbrev cX11_init : ByteArray := prog_13_method_4_code
def yX11_init : MethodName := ⟨RX11, "<init>", "()V"⟩
abbrev cX11_image : ByteArray := prog_13_method_5_code
def yX11_image : MethodName := ⟨RX11, "image", "()V"⟩
abbrev cX11_back : ByteArray := prog_13_method_6_code
def yX11_back : MethodName := ⟨RX11, "back", "()Z"⟩
abbrev cX11_things : ByteArray := prog_13_method_7_code
def yX11_things : MethodName := ⟨RX11, "things", "()I"⟩
abbrev cX11_notes : ByteArray := prog_13_method_8_code
def yX11_notes : MethodName := ⟨RX11, "notes", "()I"⟩
abbrev cX11_noThing : ByteArray := prog_13_method_9_code
def yX11_noThing : MethodName := ⟨RX11, "noThing", "(I)Z"⟩
abbrev cX11_noScale : ByteArray := prog_13_method_10_code
def yX11_noScale : MethodName := ⟨RX11, "noScale", "(I)Z"⟩
abbrev cX11_noNote : ByteArray := prog_13_method_11_code
def yX11_noNote : MethodName := ⟨RX11, "noNote", "(I)Z"⟩
abbrev cX11_ofNote : ByteArray := prog_13_method_12_code
def yX11_ofNote : MethodName := ⟨RX11, "ofNote", "(II)I"⟩
abbrev cX11_ofScale : ByteArray := prog_13_method_13_code
def yX11_ofScale : MethodName := ⟨RX11, "ofScale", "(II)I"⟩
abbrev cX11_pansOf : ByteArray := prog_13_method_14_code
def yX11_pansOf : MethodName := ⟨RX11, "pansOf", "(I)I"⟩
abbrev cX11_pans : ByteArray := prog_13_method_15_code
def yX11_pans : MethodName := ⟨RX11, "pans", "(I)I"⟩
abbrev cX11_isNoSet : ByteArray := prog_13_method_16_code
def yX11_isNoSet : MethodName := ⟨RX11, "isNoSet", "(II)Z"⟩
abbrev cX11_feed : ByteArray := prog_13_method_17_code
def yX11_feed : MethodName := ⟨RX11, "feed", "(IIIII)I"⟩
abbrev cX11_end : ByteArray := prog_13_method_18_code
def yX11_end : MethodName := ⟨RX11, "end", "(I)Z"⟩
abbrev cX11_isAt : ByteArray := prog_13_method_19_code
def yX11_isAt : MethodName := ⟨RX11, "isAt", "(II)Z"⟩
abbrev cX11_blanks : ByteArray := prog_13_method_20_code
def yX11_blanks : MethodName := ⟨RX11, "blanks", "()V"⟩
abbrev cX11_letters : ByteArray := prog_13_method_21_code
def yX11_letters : MethodName := ⟨RX11, "letters", "()V"⟩
abbrev cX11_isWord : ByteArray := prog_13_method_22_code
def yX11_isWord : MethodName := ⟨RX11, "isWord", "(Ljava/lang/String;)Z"⟩
abbrev cX11_number : ByteArray := prog_13_method_23_code
def yX11_number : MethodName := ⟨RX11, "number", "(II)I"⟩
abbrev cX11_fault : ByteArray := prog_13_method_24_code
def yX11_fault : MethodName := ⟨RX11, "fault", "()I"⟩
abbrev cX11_drafted : ByteArray := prog_13_method_25_code
def yX11_drafted : MethodName := ⟨RX11, "drafted", "()I"⟩
abbrev cX11_readThings : ByteArray := prog_13_method_26_code
def yX11_readThings : MethodName := ⟨RX11, "readThings", "()Z"⟩
abbrev cX11_setsThings : ByteArray := prog_13_method_27_code
def yX11_setsThings : MethodName := ⟨RX11, "setsThings", "([II)V"⟩
abbrev cX11_readScale : ByteArray := prog_13_method_28_code
def yX11_readScale : MethodName := ⟨RX11, "readScale", "()Z"⟩
abbrev cX11_readNote : ByteArray := prog_13_method_29_code
def yX11_readNote : MethodName := ⟨RX11, "readNote", "()Z"⟩
abbrev cX11_readLine : ByteArray := prog_13_method_30_code
def yX11_readLine : MethodName := ⟨RX11, "readLine", "(I)Z"⟩
abbrev cX11_readAll : ByteArray := prog_13_method_31_code
def yX11_readAll : MethodName := ⟨RX11, "readAll", "()Z"⟩
abbrev cX11_uses : ByteArray := prog_13_method_32_code
def yX11_uses : MethodName := ⟨RX11, "uses", "()V"⟩
abbrev cX11_shed : ByteArray := prog_13_method_33_code
def yX11_shed : MethodName := ⟨RX11, "shed", "()I"⟩
abbrev cX11_things_ : ByteArray := prog_13_method_34_code
def yX11_things_ : MethodName := ⟨RX11, "things", "(I)V"⟩
abbrev cX11_scale : ByteArray := prog_13_method_35_code
def yX11_scale : MethodName := ⟨RX11, "scale", "(III)I"⟩
abbrev cX11_weight : ByteArray := prog_13_method_36_code
def yX11_weight : MethodName := ⟨RX11, "weight", "(II)I"⟩
abbrev cX11_outweighs : ByteArray := prog_13_method_37_code
def yX11_outweighs : MethodName := ⟨RX11, "outweighs", "(II)Z"⟩
abbrev cX11_below : ByteArray := prog_13_method_38_code
def yX11_below : MethodName := ⟨RX11, "below", "(I)I"⟩
abbrev cX11_truly : ByteArray := prog_13_method_39_code
def yX11_truly : MethodName := ⟨RX11, "truly", "(II)I"⟩
abbrev cX11_rises : ByteArray := prog_13_method_40_code
def yX11_rises : MethodName := ⟨RX11, "rises", "(II)I"⟩
abbrev cX11_note : ByteArray := prog_13_method_41_code
def yX11_note : MethodName := ⟨RX11, "note", "(III)I"⟩
abbrev cX11_look : ByteArray := prog_13_method_42_code
def yX11_look : MethodName := ⟨RX11, "look", "(II)I"⟩
abbrev cX11_drops : ByteArray := prog_13_method_43_code
def yX11_drops : MethodName := ⟨RX11, "drops", "(I)V"⟩
abbrev cX11_drop : ByteArray := prog_13_method_44_code
def yX11_drop : MethodName := ⟨RX11, "drop", "(I)I"⟩
abbrev cX11_at : ByteArray := prog_13_method_45_code
def yX11_at : MethodName := ⟨RX11, "at", "(II)I"⟩
abbrev cX11_fills : ByteArray := prog_13_method_46_code
def yX11_fills : MethodName := ⟨RX11, "fills", "()V"⟩
abbrev cX11_follows : ByteArray := prog_13_method_47_code
def yX11_follows : MethodName := ⟨RX11, "follows", "(III)Z"⟩
abbrev cX11_riser : ByteArray := prog_13_method_48_code
def yX11_riser : MethodName := ⟨RX11, "riser", "(III)I"⟩
abbrev cX11_fitsNote : ByteArray := prog_13_method_49_code
def yX11_fitsNote : MethodName := ⟨RX11, "fitsNote", "(II)Z"⟩
abbrev cX11_fitsAll : ByteArray := prog_13_method_50_code
def yX11_fitsAll : MethodName := ⟨RX11, "fitsAll", "(II)Z"⟩
abbrev cX11_rowAt : ByteArray := prog_13_method_51_code
def yX11_rowAt : MethodName := ⟨RX11, "rowAt", "(II)I"⟩
abbrev cX11_leaves : ByteArray := prog_13_method_52_code
def yX11_leaves : MethodName := ⟨RX11, "leaves", "()V"⟩
abbrev cX11_areMirrors : ByteArray := prog_13_method_53_code
def yX11_areMirrors : MethodName := ⟨RX11, "areMirrors", "(II)Z"⟩
abbrev cX11_mirrorOf : ByteArray := prog_13_method_54_code
def yX11_mirrorOf : MethodName := ⟨RX11, "mirrorOf", "(I)I"⟩
abbrev cX11_isKnown : ByteArray := prog_13_method_55_code
def yX11_isKnown : MethodName := ⟨RX11, "isKnown", "(I)Z"⟩
abbrev cX11_rows : ByteArray := prog_13_method_56_code
def yX11_rows : MethodName := ⟨RX11, "rows", "()I"⟩
abbrev cX11_row : ByteArray := prog_13_method_57_code
def yX11_row : MethodName := ⟨RX11, "row", "(II)I"⟩
abbrev cX11_tapedRow : ByteArray := prog_13_method_58_code
def yX11_tapedRow : MethodName := ⟨RX11, "tapedRow", "()I"⟩
abbrev cX11_fits : ByteArray := prog_13_method_59_code
def yX11_fits : MethodName := ⟨RX11, "fits", "()Z"⟩
abbrev cX11_isNoThree : ByteArray := prog_13_method_60_code
def yX11_isNoThree : MethodName := ⟨RX11, "isNoThree", "(I)Z"⟩
abbrev cX11_may : ByteArray := prog_13_method_61_code
def yX11_may : MethodName := ⟨RX11, "may", "(I)I"⟩
abbrev cX11_placeOf : ByteArray := prog_13_method_62_code
def yX11_placeOf : MethodName := ⟨RX11, "placeOf", "(II)I"⟩
abbrev cX11_heavierIn : ByteArray := prog_13_method_63_code
def yX11_heavierIn : MethodName := ⟨RX11, "heavierIn", "(II)I"⟩
abbrev cX11_heavier : ByteArray := prog_13_method_64_code
def yX11_heavier : MethodName := ⟨RX11, "heavier", "(II)I"⟩
abbrev cX11_places : ByteArray := prog_13_method_65_code
def yX11_places : MethodName := ⟨RX11, "places", "(I)I"⟩
abbrev cX11_endsOf : ByteArray := prog_13_method_66_code
def yX11_endsOf : MethodName := ⟨RX11, "endsOf", "(I)I"⟩
abbrev cX11_endsNow : ByteArray := prog_13_method_67_code
def yX11_endsNow : MethodName := ⟨RX11, "endsNow", "()I"⟩
abbrev cX11_ends : ByteArray := prog_13_method_68_code
def yX11_ends : MethodName := ⟨RX11, "ends", "()I"⟩
abbrev cX11_pair : ByteArray := prog_13_method_69_code
def yX11_pair : MethodName := ⟨RX11, "pair", "(I)I"⟩
abbrev cX11_sures : ByteArray := prog_13_method_70_code
def yX11_sures : MethodName := ⟨RX11, "sures", "(Z)I"⟩
abbrev cX11_gooseNow : ByteArray := prog_13_method_71_code
def yX11_gooseNow : MethodName := ⟨RX11, "gooseNow", "()I"⟩
abbrev cX11_goose : ByteArray := prog_13_method_72_code
def yX11_goose : MethodName := ⟨RX11, "goose", "()I"⟩
abbrev cX11_centreNow : ByteArray := prog_13_method_73_code
def yX11_centreNow : MethodName := ⟨RX11, "centreNow", "()I"⟩
abbrev cX11_centre : ByteArray := prog_13_method_74_code
def yX11_centre : MethodName := ⟨RX11, "centre", "()I"⟩
abbrev cX11_known : ByteArray := prog_13_method_75_code
def yX11_known : MethodName := ⟨RX11, "known", "()Z"⟩
abbrev cX11_finds : ByteArray := prog_13_method_76_code
def yX11_finds : MethodName := ⟨RX11, "finds", "()V"⟩
abbrev cX11_isAgainst : ByteArray := prog_13_method_77_code
def yX11_isAgainst : MethodName := ⟨RX11, "isAgainst", "(I)Z"⟩
abbrev cX11_quarrels : ByteArray := prog_13_method_78_code
def yX11_quarrels : MethodName := ⟨RX11, "quarrels", "()I"⟩
abbrev cX11_chooses : ByteArray := prog_13_method_79_code
def yX11_chooses : MethodName := ⟨RX11, "chooses", "(II)Z"⟩
abbrev cX11_chosenBits : ByteArray := prog_13_method_80_code
def yX11_chosenBits : MethodName := ⟨RX11, "chosenBits", "(I)I"⟩
abbrev cX11_proof : ByteArray := prog_13_method_81_code
def yX11_proof : MethodName := ⟨RX11, "proof", "()I"⟩
abbrev cX11_hasRows : ByteArray := prog_13_method_82_code
def yX11_hasRows : MethodName := ⟨RX11, "hasRows", "(I)Z"⟩
abbrev cX11_wrongly : ByteArray := prog_13_method_83_code
def yX11_wrongly : MethodName := ⟨RX11, "wrongly", "()I"⟩
abbrev cX11_mends : ByteArray := prog_13_method_84_code
def yX11_mends : MethodName := ⟨RX11, "mends", "(I)I"⟩
abbrev cX11_needless : ByteArray := prog_13_method_85_code
def yX11_needless : MethodName := ⟨RX11, "needless", "()I"⟩
abbrev cX11_stands : ByteArray := prog_13_method_86_code
def yX11_stands : MethodName := ⟨RX11, "stands", "(IZ)I"⟩
abbrev cX11_laid : ByteArray := prog_13_method_87_code
def yX11_laid : MethodName := ⟨RX11, "laid", "(IZ)I"⟩
abbrev cX11_turned : ByteArray := prog_13_method_88_code
def yX11_turned : MethodName := ⟨RX11, "turned", "(II)I"⟩
abbrev cX11_nearly : ByteArray := prog_13_method_89_code
def yX11_nearly : MethodName := ⟨RX11, "nearly", "()I"⟩
abbrev cX11_votes : ByteArray := prog_13_method_90_code
def yX11_votes : MethodName := ⟨RX11, "votes", "(I)I"⟩
abbrev cX11_listsSets : ByteArray := prog_13_method_91_code
def yX11_listsSets : MethodName := ⟨RX11, "listsSets", "(I)V"⟩
abbrev cX11_lays : ByteArray := prog_13_method_92_code
def yX11_lays : MethodName := ⟨RX11, "lays", "(III)V"⟩
abbrev cX11_laying : ByteArray := prog_13_method_93_code
def yX11_laying : MethodName := ⟨RX11, "laying", "(IIZ)I"⟩
abbrev cX11_nextOf : ByteArray := prog_13_method_94_code
def yX11_nextOf : MethodName := ⟨RX11, "nextOf", "(II)I"⟩
abbrev cX11_next : ByteArray := prog_13_method_95_code
def yX11_next : MethodName := ⟨RX11, "next", "(I)I"⟩
abbrev cX11_parts : ByteArray := prog_13_method_96_code
def yX11_parts : MethodName := ⟨RX11, "parts", "(IIII)V"⟩
abbrev cX11_memberOf : ByteArray := prog_13_method_97_code
def yX11_memberOf : MethodName := ⟨RX11, "memberOf", "(II)I"⟩
abbrev cX11_boundFor : ByteArray := prog_13_method_98_code
def yX11_boundFor : MethodName := ⟨RX11, "boundFor", "(II)I"⟩
abbrev cX11_plainly : ByteArray := prog_13_method_99_code
def yX11_plainly : MethodName := ⟨RX11, "plainly", "(III)I"⟩
abbrev cX11_learns : ByteArray := prog_13_method_100_code
def yX11_learns : MethodName := ⟨RX11, "learns", "(II)I"⟩
abbrev cX11_isIdle : ByteArray := prog_13_method_101_code
def yX11_isIdle : MethodName := ⟨RX11, "isIdle", "(II)Z"⟩
abbrev cX11_fewest : ByteArray := prog_13_method_102_code
def yX11_fewest : MethodName := ⟨RX11, "fewest", "(I)I"⟩
abbrev cX11_bound : ByteArray := prog_13_method_103_code
def yX11_bound : MethodName := ⟨RX11, "bound", "(I)I"⟩
abbrev cX11_laidFor : ByteArray := prog_13_method_104_code
def yX11_laidFor : MethodName := ⟨RX11, "laidFor", "(II)I"⟩
abbrev cX11_arrives : ByteArray := prog_13_method_105_code
def yX11_arrives : MethodName := ⟨RX11, "arrives", "(III)V"⟩
abbrev cX11_walks : ByteArray := prog_13_method_106_code
def yX11_walks : MethodName := ⟨RX11, "walks", "(II)V"⟩
abbrev cX11_isPlaced : ByteArray := prog_13_method_107_code
def yX11_isPlaced : MethodName := ⟨RX11, "isPlaced", "(II)Z"⟩
abbrev cX11_byNext : ByteArray := prog_13_method_108_code
def yX11_byNext : MethodName := ⟨RX11, "byNext", "(I)I"⟩
abbrev cX11_mean : ByteArray := prog_13_method_109_code
def yX11_mean : MethodName := ⟨RX11, "mean", "(I)I"⟩
abbrev cX11_where : ByteArray := prog_13_method_110_code
def yX11_where : MethodName := ⟨RX11, "where", "(II)I"⟩
abbrev cX11_cheapest : ByteArray := prog_13_method_111_code
def yX11_cheapest : MethodName := ⟨RX11, "cheapest", "(Z)I"⟩
abbrev cX11_tree : ByteArray := prog_13_method_112_code
def yX11_tree : MethodName := ⟨RX11, "tree", "(IZ)I"⟩
abbrev cX11_takesNext : ByteArray := prog_13_method_113_code
def yX11_takesNext : MethodName := ⟨RX11, "takesNext", "()V"⟩
abbrev cX11_wants : ByteArray := prog_13_method_114_code
def yX11_wants : MethodName := ⟨RX11, "wants", "(II)Z"⟩
abbrev cX11_plain : ByteArray := prog_13_method_115_code
def yX11_plain : MethodName := ⟨RX11, "plain", "(II)I"⟩
abbrev cX11_laysThree : ByteArray := prog_13_method_116_code
def yX11_laysThree : MethodName := ⟨RX11, "laysThree", "(III)I"⟩
abbrev cX11_comesAt : ByteArray := prog_13_method_117_code
def yX11_comesAt : MethodName := ⟨RX11, "comesAt", "(II)I"⟩
abbrev cX11_sorted : ByteArray := prog_13_method_118_code
def yX11_sorted : MethodName := ⟨RX11, "sorted", "(I)I"⟩
abbrev cX11_grown : ByteArray := prog_13_method_119_code
def yX11_grown : MethodName := ⟨RX11, "grown", "(I)I"⟩
abbrev cX11_trueRow : ByteArray := prog_13_method_120_code
def yX11_trueRow : MethodName := ⟨RX11, "trueRow", "()I"⟩
abbrev cX11_draw : ByteArray := prog_13_method_121_code
def yX11_draw : MethodName := ⟨RX11, "draw", "()I"⟩
abbrev cX11_behind : ByteArray := prog_13_method_122_code
def yX11_behind : MethodName := ⟨RX11, "behind", "(II)I"⟩
abbrev cX11_played : ByteArray := prog_13_method_123_code
def yX11_played : MethodName := ⟨RX11, "played", "(IIII)I"⟩
abbrev cX11_count : ByteArray := prog_13_method_124_code
def yX11_count : MethodName := ⟨RX11, "count", "(I)I"⟩
def RJ6 : String := "java/lang/Integer"
def TJ6 : u_T := fun k => match k with
  | _ => ("", "", "", false)
def tyJ6 : Nat → FieldType := fun k => match k with
  | _ => .int
theorem nmJ6 : ∀ a, a < 0 → ∀ b, b < 0 → a ≠ b → (TJ6 a).2.1 ≠ (TJ6 b).2.1 := by decide +kernel
abbrev cJ6_numberOfTrailingZeros_0f7a4 : ByteArray := prog_21_method_48_code
def yJ6_numberOfTrailingZeros_0f7a4 : MethodName := ⟨RJ6, "numberOfTrailingZeros", "(I)I"⟩
abbrev cJ6_bitCount_0f7a4 : ByteArray := prog_21_method_49_code
def yJ6_bitCount_0f7a4 : MethodName := ⟨RJ6, "bitCount", "(I)I"⟩
def RJ13 : String := "java/lang/Long"
def TJ13 : u_T := fun k => match k with
  | _ => ("", "", "", false)
def tyJ13 : Nat → FieldType := fun k => match k with
  | _ => .int
theorem nmJ13 : ∀ a, a < 0 → ∀ b, b < 0 → a ≠ b → (TJ13 a).2.1 ≠ (TJ13 b).2.1 := by decide +kernel
abbrev cJ13_bitCount_95d88 : ByteArray := prog_22_method_50_code
def yJ13_bitCount_95d88 : MethodName := ⟨RJ13, "bitCount", "(J)I"⟩
def RJ9 : String := "java/lang/Math"
def TJ9 : u_T := fun k => match k with
  | _ => ("", "", "", false)
def tyJ9 : Nat → FieldType := fun k => match k with
  | _ => .int
theorem nmJ9 : ∀ a, a < 0 → ∀ b, b < 0 → a ≠ b → (TJ9 a).2.1 ≠ (TJ9 b).2.1 := by decide +kernel
abbrev cJ9_max_7cf53 : ByteArray := prog_23_method_65_code
def yJ9_max_7cf53 : MethodName := ⟨RJ9, "max", "(II)I"⟩
abbrev cJ9_min_7cf53 : ByteArray := prog_23_method_69_code
def yJ9_min_7cf53 : MethodName := ⟨RJ9, "min", "(II)I"⟩
def RJ0 : String := "java/lang/String"
def TJ0 : u_T := fun k => match k with
  | _ => ("", "", "", false)
def tyJ0 : Nat → FieldType := fun k => match k with
  | _ => .int
theorem nmJ0 : ∀ a, a < 0 → ∀ b, b < 0 → a ≠ b → (TJ0 a).2.1 ≠ (TJ0 b).2.1 := by decide +kernel
abbrev cJ0_length_8abf5 : ByteArray := prog_25_method_54_code
def yJ0_length_8abf5 : MethodName := ⟨RJ0, "length", "()I"⟩
abbrev cJ0_charAt_5068e : ByteArray := prog_25_method_56_code
def yJ0_charAt_5068e : MethodName := ⟨RJ0, "charAt", "(I)C"⟩
abbrev cJ0_coder_7d493 : ByteArray := prog_25_method_152_code
def yJ0_coder_7d493 : MethodName := ⟨RJ0, "coder", "()B"⟩
abbrev cJ0_isLatin1_aae02 : ByteArray := prog_25_method_154_code
def yJ0_isLatin1_aae02 : MethodName := ⟨RJ0, "isLatin1", "()Z"⟩
abbrev cJ0_checkIndex_df160 : ByteArray := prog_25_method_155_code
def yJ0_checkIndex_df160 : MethodName := ⟨RJ0, "checkIndex", "(II)V"⟩
def RJ1 : String := "java/lang/StringLatin1"
def TJ1 : u_T := fun k => match k with
  | _ => ("", "", "", false)
def tyJ1 : Nat → FieldType := fun k => match k with
  | _ => .int
theorem nmJ1 : ∀ a, a < 0 → ∀ b, b < 0 → a ≠ b → (TJ1 a).2.1 ≠ (TJ1 b).2.1 := by decide +kernel
abbrev cJ1_charAt_3b067 : ByteArray := prog_26_method_2_code
def yJ1_charAt_3b067 : MethodName := ⟨RJ1, "charAt", "([BI)C"⟩
def RJ2 : String := "java/lang/StringUTF16"
def TJ2 : u_T := fun k => match k with
  | _ => ("", "", "", false)
def tyJ2 : Nat → FieldType := fun k => match k with
  | _ => .int
theorem nmJ2 : ∀ a, a < 0 → ∀ b, b < 0 → a ≠ b → (TJ2 a).2.1 ≠ (TJ2 b).2.1 := by decide +kernel
abbrev cJ2_getChar_3b067 : ByteArray := prog_27_method_5_code
def yJ2_getChar_3b067 : MethodName := ⟨RJ2, "getChar", "([BI)C"⟩
abbrev cJ2_length_9d52b : ByteArray := prog_27_method_6_code
def yJ2_length_9d52b : MethodName := ⟨RJ2, "length", "([B)I"⟩
abbrev cJ2_charAt_3b067 : ByteArray := prog_27_method_83_code
def yJ2_charAt_3b067 : MethodName := ⟨RJ2, "charAt", "([BI)C"⟩
abbrev cJ2_checkIndex_2214a : ByteArray := prog_27_method_91_code
def yJ2_checkIndex_2214a : MethodName := ⟨RJ2, "checkIndex", "(I[B)V"⟩
def RJ10 : String := "java/lang/System"
def TJ10 : u_T := fun k => match k with
  | _ => ("", "", "", false)
def tyJ10 : Nat → FieldType := fun k => match k with
  | _ => .int
theorem nmJ10 : ∀ a, a < 0 → ∀ b, b < 0 → a ≠ b → (TJ10 a).2.1 ≠ (TJ10 b).2.1 := by decide +kernel
def RJ7 : String := "java/util/Arrays"
def TJ7 : u_T := fun k => match k with
  | _ => ("", "", "", false)
def tyJ7 : Nat → FieldType := fun k => match k with
  | _ => .int
theorem nmJ7 : ∀ a, a < 0 → ∀ b, b < 0 → a ≠ b → (TJ7 a).2.1 ≠ (TJ7 b).2.1 := by decide +kernel
abbrev cJ7_fill_53178 : ByteArray := prog_33_method_103_code
def yJ7_fill_53178 : MethodName := ⟨RJ7, "fill", "([II)V"⟩
def RJ3 : String := "jdk/internal/util/Preconditions"
def TJ3 : u_T := fun k => match k with
  | _ => ("", "", "", false)
def tyJ3 : Nat → FieldType := fun k => match k with
  | _ => .int
theorem nmJ3 : ∀ a, a < 0 → ∀ b, b < 0 → a ≠ b → (TJ3 a).2.1 ≠ (TJ3 b).2.1 := by decide +kernel
abbrev cJ3_checkIndex_8e157 : ByteArray := prog_35_method_11_code
def yJ3_checkIndex_8e157 : MethodName := ⟨RJ3, "checkIndex", "(IILjava/util/function/BiFunction;)I"⟩
def RL : String := "MiddleScaleLaw"
abbrev cL_shed : ByteArray := method_3_code
def yL_shed : MethodName := ⟨RL, "shed", "(LMiddleScale;[J)I"⟩
abbrev cL_things : ByteArray := method_4_code
def yL_things : MethodName := ⟨RL, "things", "(LMiddleScale;I)I"⟩
abbrev cL_scale : ByteArray := method_5_code
def yL_scale : MethodName := ⟨RL, "scale", "(LMiddleScale;III[J)I"⟩
abbrev cL_weight : ByteArray := method_6_code
def yL_weight : MethodName := ⟨RL, "weight", "(LMiddleScale;II[J)I"⟩
abbrev cL_rises : ByteArray := method_7_code
def yL_rises : MethodName := ⟨RL, "rises", "(LMiddleScale;II[J)I"⟩
abbrev cL_note : ByteArray := method_8_code
def yL_note : MethodName := ⟨RL, "note", "(LMiddleScale;III[J)I"⟩
abbrev cL_look : ByteArray := method_9_code
def yL_look : MethodName := ⟨RL, "look", "(LMiddleScale;II[J)I"⟩
abbrev cL_drop : ByteArray := method_10_code
def yL_drop : MethodName := ⟨RL, "drop", "(LMiddleScale;I[J)I"⟩
abbrev cL_row : ByteArray := method_11_code
def yL_row : MethodName := ⟨RL, "row", "(LMiddleScale;II[J)I"⟩
abbrev cL_fits : ByteArray := method_12_code
def yL_fits : MethodName := ⟨RL, "fits", "(LMiddleScale;[J)I"⟩
abbrev cL_may : ByteArray := method_13_code
def yL_may : MethodName := ⟨RL, "may", "(LMiddleScale;I[J)I"⟩
abbrev cL_heavier : ByteArray := method_14_code
def yL_heavier : MethodName := ⟨RL, "heavier", "(LMiddleScale;II[J)I"⟩
abbrev cL_places : ByteArray := method_15_code
def yL_places : MethodName := ⟨RL, "places", "(LMiddleScale;I[J)I"⟩
abbrev cL_mends : ByteArray := method_16_code
def yL_mends : MethodName := ⟨RL, "mends", "(LMiddleScale;I[J)I"⟩
abbrev cL_nearly : ByteArray := method_17_code
def yL_nearly : MethodName := ⟨RL, "nearly", "(LMiddleScale;[J)I"⟩
abbrev cL_votes : ByteArray := method_18_code
def yL_votes : MethodName := ⟨RL, "votes", "(LMiddleScale;I[J)I"⟩
abbrev cL_laying : ByteArray := method_19_code
def yL_laying : MethodName := ⟨RL, "laying", "(LMiddleScale;IIZ[J)I"⟩
abbrev cL_next : ByteArray := method_20_code
def yL_next : MethodName := ⟨RL, "next", "(LMiddleScale;I[J)I"⟩
abbrev cL_fewest : ByteArray := method_21_code
def yL_fewest : MethodName := ⟨RL, "fewest", "(LMiddleScale;I[J)I"⟩
abbrev cL_bound : ByteArray := method_22_code
def yL_bound : MethodName := ⟨RL, "bound", "(LMiddleScale;I[J)I"⟩
abbrev cL_byNext : ByteArray := method_23_code
def yL_byNext : MethodName := ⟨RL, "byNext", "(LMiddleScale;I[J)I"⟩
abbrev cL_wants : ByteArray := method_24_code
def yL_wants : MethodName := ⟨RL, "wants", "(LMiddleScale;II[J)I"⟩
abbrev cL_plain : ByteArray := method_25_code
def yL_plain : MethodName := ⟨RL, "plain", "(LMiddleScale;II[J)I"⟩
abbrev cL_sorted : ByteArray := method_26_code
def yL_sorted : MethodName := ⟨RL, "sorted", "(LMiddleScale;I[J)I"⟩
abbrev cL_grown : ByteArray := method_27_code
def yL_grown : MethodName := ⟨RL, "grown", "(LMiddleScale;I[J)I"⟩
abbrev cL_played : ByteArray := method_28_code
def yL_played : MethodName := ⟨RL, "played", "(LMiddleScale;IIII[J)I"⟩
abbrev cL_mean : ByteArray := method_29_code
def yL_mean : MethodName := ⟨RL, "mean", "(LMiddleScale;I[J)I"⟩
abbrev cL_where : ByteArray := method_30_code
def yL_where : MethodName := ⟨RL, "where", "(LMiddleScale;II[J)I"⟩
abbrev cL_tree : ByteArray := method_31_code
def yL_tree : MethodName := ⟨RL, "tree", "(LMiddleScale;IZ[J)I"⟩
abbrev cL_stands : ByteArray := method_32_code
def yL_stands : MethodName := ⟨RL, "stands", "(LMiddleScale;IZ[J)I"⟩
abbrev cL_laid : ByteArray := method_33_code
def yL_laid : MethodName := ⟨RL, "laid", "(LMiddleScale;IZ[J)I"⟩
abbrev cL_law : ByteArray := code
def yL_law : MethodName := ⟨RL, "law", "([I)Z"⟩
abbrev vwCl : List vw_C := [(RX0, TX0, 9), (RX1, TX1, 1), (RX2, TX2, 9), (RX3, TX3, 1), (RX4, TX4, 6), (RX5, TX5, 4), (RX6, TX6, 2), (RX7, TX7, 11), (RX8, TX8, 2), (RX9, TX9, 3), (RX10, TX10, 15), (RX11, TX11, 39)]
end
section
def nestW : List (String × Nat × MethodName × String) := [("MiddleScale", 23, ⟨"MiddleScale$Store", "<init>", "()V"⟩, "MiddleScale"), ("MiddleScale", 39, ⟨"MiddleScale$Fitting", "<init>", "()V"⟩, "MiddleScale"), ("MiddleScale", 404, ⟨"MiddleScale$Walk", "go", "(LMiddleScale$AllRows;LMiddleScale$Layings;[LMiddleScale$RowSet;II)V"⟩, "MiddleScale"), ("MiddleScale", 46, ⟨"MiddleScale$RowSet", "<init>", "()V"⟩, "MiddleScale"), ("MiddleScale", 57, ⟨"MiddleScale$Walk", "<init>", "()V"⟩, "MiddleScale"), ("MiddleScale", 64, ⟨"MiddleScale$Learner", "<init>", "()V"⟩, "MiddleScale"), ("MiddleScale", 71, ⟨"MiddleScale$Sorter", "<init>", "()V"⟩, "MiddleScale"), ("MiddleScale", 9, ⟨"MiddleScale$Reader", "<init>", "()V"⟩, "MiddleScale"), ("MiddleScale$AllRows", 78, ⟨"MiddleScale", "at", "(II)I"⟩, "MiddleScale"), ("MiddleScale$Layings", 24, ⟨"MiddleScale", "pansOf", "(I)I"⟩, "MiddleScale"), ("MiddleScale$Layings", 55, ⟨"MiddleScale", "holds", "(II)Z"⟩, "MiddleScale"), ("MiddleScale$Layings", 78, ⟨"MiddleScale", "aboveRiser", "(I)I"⟩, "MiddleScale"), ("MiddleScale$Learner", 39, ⟨"MiddleScale", "leastBound", "(II)I"⟩, "MiddleScale"), ("MiddleScale$Reader", 11, ⟨"MiddleScale$Tape", "<init>", "()V"⟩, "MiddleScale"), ("MiddleScale$Reader", 116, ⟨"MiddleScale", "pansOf", "(I)I"⟩, "MiddleScale"), ("MiddleScale$Reader", 128, ⟨"MiddleScale", "holds", "(II)Z"⟩, "MiddleScale"), ("MiddleScale$Reader", 20, ⟨"MiddleScale$Store", "<init>", "()V"⟩, "MiddleScale"), ("MiddleScale$Store", 58, ⟨"MiddleScale", "holds", "(II)Z"⟩, "MiddleScale"), ("MiddleScale$Store", 69, ⟨"MiddleScale", "aboveRiser", "(I)I"⟩, "MiddleScale"), ("MiddleScale$Tape", 23, ⟨"MiddleScale", "holds", "(II)Z"⟩, "MiddleScale")]
def castW : List (String × String) := [("java/lang/IllegalArgumentException", "java/lang/IllegalArgumentException"), ("java/lang/IllegalStateException", "java/lang/IllegalStateException"), ("java/lang/IndexOutOfBoundsException", "java/lang/IndexOutOfBoundsException"), ("java/lang/UnsupportedOperationException", "java/lang/UnsupportedOperationException"), ("java/util/NoSuchElementException", "java/util/NoSuchElementException")]
def ncW : List (String × String) := [("java/lang/IllegalArgumentException", "java/lang/IllegalStateException"), ("java/lang/IllegalArgumentException", "java/lang/IndexOutOfBoundsException"), ("java/lang/IllegalArgumentException", "java/lang/UnsupportedOperationException"), ("java/lang/IllegalArgumentException", "java/util/NoSuchElementException"), ("java/lang/IllegalStateException", "java/lang/IllegalArgumentException"), ("java/lang/IllegalStateException", "java/lang/IndexOutOfBoundsException"), ("java/lang/IllegalStateException", "java/lang/UnsupportedOperationException"), ("java/lang/IllegalStateException", "java/util/NoSuchElementException"), ("java/lang/IndexOutOfBoundsException", "java/lang/IllegalArgumentException"), ("java/lang/IndexOutOfBoundsException", "java/lang/IllegalStateException"), ("java/lang/IndexOutOfBoundsException", "java/lang/UnsupportedOperationException"), ("java/lang/IndexOutOfBoundsException", "java/util/NoSuchElementException"), ("java/lang/UnsupportedOperationException", "java/lang/IllegalArgumentException"), ("java/lang/UnsupportedOperationException", "java/lang/IllegalStateException"), ("java/lang/UnsupportedOperationException", "java/lang/IndexOutOfBoundsException"), ("java/lang/UnsupportedOperationException", "java/util/NoSuchElementException"), ("java/util/NoSuchElementException", "java/lang/IllegalArgumentException"), ("java/util/NoSuchElementException", "java/lang/IllegalStateException"), ("java/util/NoSuchElementException", "java/lang/IndexOutOfBoundsException"), ("java/util/NoSuchElementException", "java/lang/UnsupportedOperationException")]
def aoW : List String := ["MiddleScale$AllRows", "MiddleScale$Layings", "MiddleScale$RowSet"]
def msgW : List (String × Nat × String) := [("MiddleScale", 117, "the text is wrong"), ("MiddleScale", 127, "there are 8 texts"), ("MiddleScale", 130, "things are 3 to 7"), ("MiddleScale", 137, "there are notes"), ("MiddleScale", 147, "a number is none"), ("MiddleScale", 152, "there are 4 scales"), ("MiddleScale", 161, "no weight"), ("MiddleScale", 187, "what rose is not on the scale"), ("MiddleScale", 189, "there are 16 notes"), ("MiddleScale", 208, "another what"), ("MiddleScale", 223, "no such place"), ("MiddleScale", 361, "another want"), ("MiddleScale", 377, "no such number of wrong ones"), ("MiddleScale", 417, "it is no way"), ("MiddleScale", 442, "no such thing"), ("MiddleScale", 444, "no such scale"), ("MiddleScale", 446, "no such note"), ("MiddleScale", 451, "not as many things as pans"), ("MiddleScale", 453, "not three things"), ("MiddleScale", 458, "it is no row"), ("MiddleScale", 477, "they are one")]
/-- words of the texts: who names it, where, the text, its number -/
def wordW : List (String × Nat × String × Nat) := [("MiddleScale$Reader", 55, "things", 0), ("MiddleScale$Reader", 67, "scale", 1), ("MiddleScale$Reader", 75, "weight", 2), ("MiddleScale$Reader", 80, "note", 3), ("MiddleScale$Reader", 101, "three", 4), ("MiddleScale$Reader", 103, "four", 5), ("MiddleScale$Reader", 105, "two", 6), ("MiddleScale$Reader", 123, "rose", 7), ("MiddleScaleModel", 148, "three", 4), ("MiddleScaleModel", 154, "four", 5), ("MiddleScaleModel", 156, "two", 6), ("MiddleScaleModel", 161, "rose", 7), ("MiddleScaleModel", 163, "things", 0), ("MiddleScaleModel", 168, "scale", 1), ("MiddleScaleModel", 173, "note", 3), ("MiddleScaleModel", 178, "weight", 2)]
def strN : Nat := 8
def lenJS : List Nat := [6, 5, 6, 4, 5, 4, 3, 4]
def bytJS : List (List Int32) := [[116, 104, 105, 110, 103, 115], [115, 99, 97, 108, 101], [119, 101, 105, 103, 104, 116], [110, 111, 116, 101], [116, 104, 114, 101, 101], [102, 111, 117, 114], [116, 119, 111], [114, 111, 115, 101]]
end
section
/-! numbers: an int is told by an Int, a long by 64 bits, a reference by an address or none -/
abbrev vI (x : Int) : Value := .int (Int32.ofInt x)
abbrev vL (x : BitVec 64) : Value := .long (Int64.ofBitVec x)
abbrev vA (a : Nat) : Value := .ref a
def B01 (x : Int) : Prop := x = 0 ∨ x = 1
def R32 (x : Int) : Prop := -2147483648 ≤ x ∧ x < 2147483648
theorem r32_to {x : Int} (h : R32 x) : (Int32.ofInt x).toInt = x := Int32.toInt_ofInt_of_le (by have := h.1; omega) (by have := h.2; omega)
theorem r32_lt {x y : Int} (hx : R32 x) (hy : R32 y) : Int32.ofInt x < Int32.ofInt y ↔ x < y := by
  rw [Int32.lt_iff_toInt_lt, r32_to hx, r32_to hy]
theorem r32_le {x y : Int} (hx : R32 x) (hy : R32 y) : Int32.ofInt x ≤ Int32.ofInt y ↔ x ≤ y := by
  rw [Int32.le_iff_toInt_le, r32_to hx, r32_to hy]
theorem r32_eq {x y : Int} (hx : R32 x) (hy : R32 y) : Int32.ofInt x = Int32.ofInt y ↔ x = y := by
  rw [← Int32.toInt_inj, r32_to hx, r32_to hy]
theorem r32_0 : R32 0 := ⟨by decide, by decide⟩
theorem i32_0 : Int32.ofInt 0 = 0 := rfl
theorem r32_cl {x : Int} (h : R32 x) : (Int32.ofInt x).toNatClampNeg = x.toNat := Int32.toNatClampNeg_ofInt_of_le (by have := h.1; omega) (by have := h.2; omega)
/-- an index of a row of n places -/
theorem r32_in {x : Int} {n : Nat} (hn : n < 2147483648) (h0 : 0 ≤ x) (h1 : x < n) : R32 x ∧ vp_in (Int32.ofInt x) n ∧ (Int32.ofInt x).toNatClampNeg = x.toNat := by
  have hr : R32 x := ⟨by omega, by omega⟩
  refine ⟨hr, ?_, r32_cl hr⟩
  rw [vp_in_iff, r32_to hr]
  exact ⟨h0, h1⟩
/-! the words of the tables that every method may use -/
def TB : List Cond := lw_tbl.filter goodWord
theorem inTB {w : Cond} (h : w ∈ lw_tbl) (g : goodWord w = true) : w ∈ TB := List.mem_filter.mpr ⟨h, g⟩
theorem tbTB {w : Cond} (h : w ∈ TB) : w ∈ lw_tbl ∧ goodWord w = true := List.mem_filter.mp h
theorem gTB {h0 : Cond} {L : List Cond} (h : ∀ w ∈ L, w ∈ TB) : GoodIn (h0 :: TB) L := fun w hw => ⟨List.mem_cons_of_mem _ (h w hw), good_of_word (tbTB (h w hw)).2⟩
theorem gTB' {L : List Cond} (h : ∀ w ∈ L, w ∈ TB) : GoodIn TB L := fun w hw => ⟨h w hw, good_of_word (tbTB (h w hw)).2⟩
/-! THE STATE: kinds, lengths, ints, longs, references, the String constants' addresses, the next address, the slots used -/
def MS : Type := (Nat → Nat) × (Nat → Nat) × (Nat → Nat → Int) × (Nat → Nat → BitVec 64) × (Nat → Nat → Option Nat) × (Nat → Nat) × Nat × Nat
def MS.K (S : MS) : Nat → Nat := S.1
def MS.N (S : MS) : Nat → Nat := S.2.1
def MS.I (S : MS) : Nat → Nat → Int := S.2.2.1
def MS.J (S : MS) : Nat → Nat → BitVec 64 := S.2.2.2.1
def MS.R (S : MS) : Nat → Nat → Option Nat := S.2.2.2.2.1
def MS.T (S : MS) : Nat → Nat := S.2.2.2.2.2.1
def MS.nx (S : MS) : Nat := S.2.2.2.2.2.2.1
def MS.us (S : MS) : Nat := S.2.2.2.2.2.2.2
def up1 {α : Type} (f : Nat → α) (a : Nat) (v : α) : Nat → α := fun x => if x = a then v else f x
def up2 {α : Type} (f : Nat → Nat → α) (a k : Nat) (v : α) : Nat → Nat → α := fun x => if x = a then up1 (f a) k v else f x
theorem up1_eq {α : Type} {f : Nat → α} {a : Nat} {v : α} : up1 f a v a = v := by simp [up1]
theorem up1_ne {α : Type} {f : Nat → α} {a b : Nat} {v : α} (h : b ≠ a) : up1 f a v b = f b := by simp [up1, h]
theorem up2_eq {α : Type} {f : Nat → Nat → α} {a k : Nat} {v : α} : up2 f a k v a = up1 (f a) k v := by simp [up2]
theorem up2_ne {α : Type} {f : Nat → Nat → α} {a b k : Nat} {v : α} (h : b ≠ a) : up2 f a k v b = f b := by simp [up2, h]
def MS.setI (S : MS) (a k : Nat) (v : Int) : MS := (S.1, S.2.1, up2 S.I a k v, S.2.2.2)
def MS.setJ (S : MS) (a k : Nat) (v : BitVec 64) : MS := (S.1, S.2.1, S.2.2.1, up2 S.J a k v, S.2.2.2.2)
def MS.setR (S : MS) (a k : Nat) (v : Option Nat) : MS := (S.1, S.2.1, S.2.2.1, S.2.2.2.1, up2 S.R a k v, S.2.2.2.2.2)
/-- a new thing of kind k with n places: its address is the next one -/
def MS.mk (S : MS) (k n : Nat) : MS := (up1 S.K S.nx k, up1 S.N S.nx n, up1 S.I S.nx (fun _ => 0), up1 S.J S.nx (fun _ => 0#64), up1 S.R S.nx (fun _ => none), S.T, S.nx + 1, S.us + n)
/-- a thing that nobody looks at -/
def MS.junk (S : MS) (n : Nat) : MS := (up1 S.K S.nx 99, S.N, S.I, S.J, S.R, S.T, S.nx + 1, S.us + n)
/-- which fields hold numbers (true) and which references, by the classes' numbers -/
def ftI : Nat → List Bool := fun c => match c with
  | 0 => [true, true, true, false, false, false, false, false, false]
  | 1 => [false]
  | 2 => [true, false, true, true, true, true, false, false, false]
  | 3 => [true]
  | 4 => [false, false, true, true, true, true]
  | 5 => [true, false, false, true]
  | 6 => [false, true]
  | 7 => [false, false, false, false, false, false, false, true, true, true, true]
  | 8 => [false, true]
  | 9 => [true, true, true]
  | 10 => [false, false, false, false, false, false, false, false, false, false, false, false, true, true, true]
  | _ => [true, false, false, false, true, false, true, true, true, true, true, false, false, true, true, false, false, false, false, false, true, false, false, true, false, true, true, true, false, false, true, false, false, true, true, true, false, true, true]
/-- the places of an object -/
def MS.fl (S : MS) (a : Nat) : List Value := (ftI (S.K a)).mapIdx (fun k t => if t then vI (S.I a k) else va_rf (S.R a k))
def ety : Nat → FieldType := fun k => match k with
  | 12 => .byte
  | 13 => .int
  | 14 => .long
  | 15 => .short
  | 16 => .boolean
  | 17 => .object "MiddleScale$AllRows"
  | 18 => .object "MiddleScale$Layings"
  | 19 => .object "MiddleScale$RowSet"
  | _ => .array .long
/-- an array's contents -/
def MS.arr (S : MS) (a : Nat) : vp_A := if S.K a = 14 then (S.N a, .inr (.inl (fun j => Int64.ofBitVec (S.J a j)))) else if S.K a < 17 then (S.N a, .inl (fun j => Int32.ofInt (S.I a j))) else (S.N a, .inr (.inr (.inr (.inr (S.R a)))))
def AtE (D : va_G) (U : State) (S : MS) (a : Nat) (H : Heap) : Prop := (S.K a < 12 → va_at D vwCl (a, .inr (S.K a, S.fl a)) H) ∧ (12 ≤ S.K a → ∃ cA, (ArrOfT U cA (ety (S.K a)) ∧ va_RA U cA (ety (S.K a))) ∧ H[a]? = some (vp_cell cA (S.arr a)))
def Rep (D : va_G) (b0 : Nat) (S : MS) (U : State) (H : Heap) : Prop := H.size = S.nx ∧ b0 ≤ S.nx ∧ ∀ a, S.K a < 21 → b0 ≤ a ∧ a < S.nx ∧ S.N a < 2147483648 ∧ AtE D U S a H
theorem Rep.moved {D : va_G} {b0 : Nat} {S : MS} {u U : State} {H : Heap} (hvm : u.vm.Alike U.vm) (h : Rep D b0 S u H) : Rep D b0 S U H := by
  refine ⟨h.1, h.2.1, fun a ha => ?_⟩
  obtain ⟨h1, h2, h3, h4, h5⟩ := h.2.2 a ha
  refine ⟨h1, h2, h3, h4, fun h6 => ?_⟩
  obtain ⟨cA, ⟨q1, q2⟩, q3⟩ := h5 h6
  exact ⟨cA, ⟨arrOfT_moved hvm q1, q2.moved hvm⟩, q3⟩
/-- what a change at one address leaves of the others -/
theorem Rep.put {D : va_G} {b0 : Nat} {S S1 : MS} {U : State} {H H1 : Heap} {a : Nat} (h : Rep D b0 S U H) (hz : H1.size = H.size) (ho : ∀ q, q ≠ a → H1[q]? = H[q]?) (hk : S1.K = S.K) (hn : S1.N = S.N) (hx : S1.nx = S.nx)
    (he : ∀ q, q ≠ a → S1.fl q = S.fl q ∧ S1.arr q = S.arr q) (ha : S.K a < 21 → AtE D U S1 a H1) : Rep D b0 S1 U H1 := by
  refine ⟨by rw [hz, hx]; exact h.1, by rw [hx]; exact h.2.1, fun q hq => ?_⟩
  rw [hk] at hq
  obtain ⟨h1, h2, h3, h4⟩ := h.2.2 q hq
  rw [hx, hn]
  refine ⟨h1, h2, h3, ?_⟩
  by_cases e : q = a
  · subst e
    exact ha hq
  · obtain ⟨e1, e2⟩ := he q e
    unfold AtE
    rw [hk, e1, e2, ho q e]
    refine ⟨fun h6 => (h4.1 h6).kept (ho q e), h4.2⟩
/-! what is known of the machine beside the state: words that are not of TB, the String constants, two statics of Throwable's -/
def Wf (b0 : Nat) (T : Nat → Nat) (U : State) : Prop :=
  (∀ q ∈ nestW, va_Nw (.methodLinkNest q.1 q.2.1 q.2.2.1 q.2.2.2) U) ∧ (∀ q ∈ castW, va_Nw (.castable q.1 q.2) U) ∧ (∀ q ∈ ncW, va_Nc q.1 q.2 U) ∧
  vx_Zq Bundle.tN "UNASSIGNED_STACK" Bundle.steD (fun q => b0 ≤ q) U U.heap ∧ vx_Zq Bundle.tN "SUPPRESSED_SENTINEL" Bundle.listD (fun q => b0 ≤ q) U U.heap ∧
  (∀ q ∈ msgW, ∃ a, vk_R q.1 q.2.1 q.2.2 a U) ∧ (∀ q ∈ wordW, vk_R q.1 q.2.1 q.2.2.1 (T q.2.2.2) U) ∧
  vk_S strN lenJS bytJS T (fun i => T (8 + i)) (fun q => b0 ≤ q) U U.heap ∧ va_Z "java/lang/String" "COMPACT_STRINGS" "Z" (.int 1) (fun q => b0 ≤ q) U U.heap ∧
  (∀ C ∈ aoW, va_AO C U) ∧ (Cond.arrayOver (.array .long)).before #[] U = true ∧ (va_X (T 16) (T 17) (fun j => Int32.ofNat (T (18 + j))) U U.heap ∧ T 16 < b0 ∧ T 16 < U.heap.size)
theorem Wf.next {b0 : Nat} {T : Nat → Nat} {s U : State} (h : Wf b0 T s) (hW : s.WarmedH U.vm) (hz : s.heap.size ≤ U.heap.size) (hq : ∀ q : Nat, q < s.heap.size → ¬ b0 ≤ q → U.heap[q]? = s.heap[q]?) : Wf b0 T U := by
  obtain ⟨h1, h2, h3, h4, h5, h9, h6, h7, h8, h10, h11, h12, h13, h14⟩ := h
  exact ⟨fun q hm => va_Nw.warmM hW (h1 q hm), fun q hm => va_Nw.warmC hW (h2 q hm), fun q hm => va_Nc.moved hW.alike (h3 q hm), vx_Zq.kept (vx_Zq.moved hW.alike h4) hq, vx_Zq.kept (vx_Zq.moved hW.alike h5) hq,
    fun q hm => ⟨(h9 q hm).choose, vk_R.warm hW (h9 q hm).choose_spec⟩, fun q hm => vk_R.warm hW (h6 q hm), vk_S.kept (vk_S.moved hW.alike h7) hq, va_Z.kept (va_Z.moved hW.alike h8) hq, fun C hm => (h10 C hm).moved hW.alike, over_moved hW.alike h11, (va_X.moved hW.alike h12).kept (hq _ h14 (by omega)), h13, Nat.lt_of_lt_of_le h14 hz⟩
/-- an outcome: an answer (or none), or the class that is thrown -/
abbrev Out : Type := Option Value ⊕ String
def leM (S S' : MS) : Prop := S.nx ≤ S'.nx ∧ S.us ≤ S'.us ∧ S'.T = S.T
theorem leM.rf {S : MS} : leM S S := ⟨Nat.le_refl _, Nat.le_refl _, rfl⟩
theorem leM.tr {S S1 S2 : MS} (h : leM S S1) (k : leM S1 S2) : leM S S2 := ⟨Nat.le_trans h.1 k.1, Nat.le_trans h.2.1 k.2.1, k.2.2.trans h.2.2⟩
def rmOf (d : Nat) (S S' : MS) : Room := { frames := d, cells := S'.nx - S.nx, slots := S'.us - S.us, locals := 64 * d }
def Pq (av : List Value) (S : MS) (D : va_G) (b0 : Nat) : Array Value → State → Prop := va_Pc av (fun U => b0 ≤ U.heap.size ∧ Rep D b0 S U U.heap ∧ va_K D vwCl [] U ∧ Wf b0 S.T U)
def Qq (o : Out) (S' : MS) (D : va_G) (b0 : Nat) : Array Value → State → Outcome → State → Prop := fun _ st oc t => (∃ v, o = .inl v ∧ oc = .returned v ∧ Rep D b0 S' t t.heap) ∧ va_F (fun q => b0 ≤ q) st t
def Xq (o : Out) (S' : MS) (D : va_G) (b0 : Nat) : String → State → State → Prop := fun E st t => o = .inr E ∧ Rep D b0 S' t t.heap ∧ va_F (fun q => b0 ≤ q) st t
/-- THE METHOD y on the arguments av in the state S: it comes to an end of Q, with at most d frames above its own -/
def Mw (hd : Cond) (y : MethodName) (d : Nat) (av : List Value) (S : MS) (Q : Out → MS → Prop) : Prop :=
  ∃ (o : Out) (S' : MS), Q o S' ∧ leM S S' ∧ ∀ (l : Launch), l.stackTraces = false → ∀ (D : va_G) (b0 : Nat), vx_Met l y (hd :: TB) (rmOf d S S') (Pq av S D b0) (Qq o S' D b0) (Xq o S' D b0) (S'.nx - S.nx) (S'.us - S.us) (fun q => b0 ≤ q)
theorem Mw.mono {hd : Cond} {y : MethodName} {d : Nat} {av : List Value} {S : MS} {Q Q' : Out → MS → Prop} (h : Mw hd y d av S Q) (k : ∀ o S', Q o S' → Q' o S') : Mw hd y d av S Q' := by
  obtain ⟨o, S', h1, h2, h3⟩ := h
  exact ⟨o, S', k o S' h1, h2, h3⟩
abbrev FinT : Type := Out → MS → va_G → Nat → List Frame → Array Value → State → Nat → Nat → State → Prop
def FinM : FinT := fun o S' D b0 below args s mc ms => vx_MQ below (Qq o S' D b0) (Xq o S' D b0) args s mc ms (fun q => b0 ≤ q)
/-- what stands through a body -/
def Cx (own : String) (cc : ByteArray) (nL : Nat) (ret : Option FieldType) (hh : List (Nat × Nat × Nat × Nat)) (y : MethodName) (d : Nat) (T : Nat → Nat) (b0 : Nat) (D : va_G) (p : Program) (l : Launch) (R : Room) (s : State) (m : MethodId) (args : Array Value) (meth : Method) (c : Code) : Prop :=
  p.tables.exec = Jvm.exec ∧ c.code = cc ∧ c.maxLocals = nL ∧ s.vm.findClass own = some m.cls ∧ (∀ w ∈ TB, w.before args s = true) ∧ meth.sig.returnType = ret ∧ meth.locks = false ∧ c.exceptionTable.toList = tableOf hh ∧ va_K D vwCl [] s ∧ l.stackTraces = false ∧ b0 ≤ s.heap.size ∧ Wf b0 T s ∧ meth.name = y.name ∧ d ≤ R.frames ∧ 64 * d ≤ R.locals
def Jw (Fz : FinT) (own : String) (cc : ByteArray) (nL : Nat) (ret : Option FieldType) (hh : List (Nat × Nat × Nat × Nat)) (y : MethodName) (d : Nat) (S0 S : MS) (pc : Nat) (lv : List (Nat × Value)) (st : List Value) (Q : Out → MS → Prop) : Prop :=
  ∃ (o : Out) (S' : MS), Q o S' ∧ leM S S' ∧ ∀ {p : Program} {l : Launch} {e : Env} {R : Room} {s : State} {m : MethodId} {args : Array Value} {below : List Frame} {meth : Method} {c : Code} {D : va_G} {b0 : Nat} {H : Heap} {locs : List Loc} {ls : Array Slot},
    Cx own cc nL ret hh y d S.T b0 D p l R s m args meth c → leM S0 S → S'.nx - S0.nx ≤ R.cells → S'.us - S0.us ≤ R.slots → Rep D b0 S s H → va_S (fun q => b0 ≤ q) s.heap H locs → lv_has ls nL lv →
    W p l e R s m args below meth c H locs (S.nx - S0.nx) (S.us - S0.us) (Fz o S' D b0 below args s (S'.nx - S0.nx) (S'.us - S0.us)) (F0 m pc ls st)
section JL
variable {Fz : FinT} {own : String} {cc : ByteArray} {nL : Nat} {ret : Option FieldType} {hh : List (Nat × Nat × Nat × Nat)} {y : MethodName} {d : Nat} {S0 S : MS} {pc : Nat} {lv : List (Nat × Value)} {st : List Value} {Q : Out → MS → Prop}
theorem Jw.mono {Q' : Out → MS → Prop} (h : Jw Fz own cc nL ret hh y d S0 S pc lv st Q) (k : ∀ o S', Q o S' → Q' o S') : Jw Fz own cc nL ret hh y d S0 S pc lv st Q' := by
  obtain ⟨o, S', h1, h2, h3⟩ := h
  exact ⟨o, S', k o S' h1, h2, h3⟩
/-- an instruction of the frame alone -/
theorem j_step {pc2 : Nat} {st2 : List Value} (h : ∀ {p : Program} {l : Launch} {e : Env} {R : Room} {s : State} {m : MethodId} {args : Array Value} {below : List Frame} {meth : Method} {c : Code} {H : Heap} {locs : List Loc} {ls : Array Slot} {k n : Nat} {Qs : State → Prop},
      p.tables.exec = Jvm.exec → c.code = cc → s.vm.findClass own = some m.cls → (∀ w ∈ TB, w.before args s = true) → lv_has ls nL lv → W p l e R s m args below meth c H locs k n Qs (F0 m pc2 ls st2) → W p l e R s m args below meth c H locs k n Qs (F0 m pc ls st))
    (k : Jw Fz own cc nL ret hh y d S0 S pc2 lv st2 Q) : Jw Fz own cc nL ret hh y d S0 S pc lv st Q := by
  obtain ⟨o, S', h1, h2, h3⟩ := k
  refine ⟨o, S', h1, h2, fun C c1 c2 c3 hr hs hl => ?_⟩
  exact h C.1 C.2.1 C.2.2.2.1 C.2.2.2.2.1 hl (h3 C c1 c2 c3 hr hs hl)
/-- an instruction of the frame that changes the locals -/
theorem j_stepL {pc2 : Nat} {lv2 : List (Nat × Value)} {st2 : List Value} (h : ∀ {p : Program} {l : Launch} {e : Env} {R : Room} {s : State} {m : MethodId} {args : Array Value} {below : List Frame} {meth : Method} {c : Code} {H : Heap} {locs : List Loc} {ls : Array Slot} {k n : Nat} {Qs : State → Prop},
      p.tables.exec = Jvm.exec → c.code = cc → lv_has ls nL lv → (∀ ls2 : Array Slot, lv_has ls2 nL lv2 → W p l e R s m args below meth c H locs k n Qs (F0 m pc2 ls2 st2)) → W p l e R s m args below meth c H locs k n Qs (F0 m pc ls st))
    (k : Jw Fz own cc nL ret hh y d S0 S pc2 lv2 st2 Q) : Jw Fz own cc nL ret hh y d S0 S pc lv st Q := by
  obtain ⟨o, S', h1, h2, h3⟩ := k
  refine ⟨o, S', h1, h2, fun C c1 c2 c3 hr hs hl => ?_⟩
  exact h C.1 C.2.1 hl (fun ls2 hl2 => h3 C c1 c2 c3 hr hs hl2)
/-- fewer locals -/
theorem j_sub (ks : List Nat) {lv2 : List (Nat × Value)} (hk : lv_pick lv ks = lv2) (k : Jw Fz own cc nL ret hh y d S0 S pc lv2 st Q) : Jw Fz own cc nL ret hh y d S0 S pc lv st Q := by
  obtain ⟨o, S', h1, h2, h3⟩ := k
  exact ⟨o, S', h1, h2, fun C c1 c2 c3 hr hs hl => h3 C c1 c2 c3 hr hs (lv_sub hl ks hk)⟩
theorem j_iconst {n : Int} (hd : decode cc pc = .ok (.iconst n, 1)) (k : Jw Fz own cc nL ret hh y d S0 S (pc + 1) lv (vI n :: st) Q) : Jw Fz own cc nL ret hh y d S0 S pc lv st Q :=
  j_step (fun hx hb _ _ _ w => lv_iconst hx hb hd rfl w) k
theorem j_bipush {n : Int} (hd : decode cc pc = .ok (.bipush n, 2)) (hn : (Int8.ofInt n).toInt32 = Int32.ofInt n) (k : Jw Fz own cc nL ret hh y d S0 S (pc + 2) lv (vI n :: st) Q) : Jw Fz own cc nL ret hh y d S0 S pc lv st Q :=
  j_step (fun hx hb _ _ _ w => lv_bipush hx hb hd hn w) k
theorem j_sipush {n : Int} (hd : decode cc pc = .ok (.sipush n, 3)) (hn : (Int16.ofInt n).toInt32 = Int32.ofInt n) (k : Jw Fz own cc nL ret hh y d S0 S (pc + 3) lv (vI n :: st) Q) : Jw Fz own cc nL ret hh y d S0 S pc lv st Q :=
  j_step (fun hx hb _ _ _ w => lv_sipush hx hb hd hn w) k
theorem j_lconst {n : Fin 2} {v : BitVec 64} (hd : decode cc pc = .ok (.lconst n, 1)) (hn : Int64.ofNat (n : Nat) = Int64.ofBitVec v) (k : Jw Fz own cc nL ret hh y d S0 S (pc + 1) lv (vL v :: st) Q) : Jw Fz own cc nL ret hh y d S0 S pc lv st Q :=
  j_step (fun hx hb _ _ _ w => lv_lconst hx hb hd hn w) k
theorem j_iload_n {i : Fin 4} (j : Nat) {x : Int} (hd : decode cc pc = .ok (.iload_n i, 1)) (hl : lv[j]? = some ((i : Nat), vI x)) (k : Jw Fz own cc nL ret hh y d S0 S (pc + 1) lv (vI x :: st) Q) : Jw Fz own cc nL ret hh y d S0 S pc lv st Q :=
  j_step (fun hx hb _ _ h w => lv_iload_n hx hb hd rfl (lv_at h j hl) w) k
theorem j_iload {i : Nat} (j : Nat) {x : Int} (hd : decode cc pc = .ok (.iload i, 2)) (hl : lv[j]? = some (i, vI x)) (k : Jw Fz own cc nL ret hh y d S0 S (pc + 2) lv (vI x :: st) Q) : Jw Fz own cc nL ret hh y d S0 S pc lv st Q :=
  j_step (fun hx hb _ _ h w => lv_iload hx hb hd (lv_at h j hl) w) k
theorem j_lload_n {i : Fin 4} (j : Nat) {x : BitVec 64} (hd : decode cc pc = .ok (.lload_n i, 1)) (hl : lv[j]? = some ((i : Nat), vL x)) (k : Jw Fz own cc nL ret hh y d S0 S (pc + 1) lv (vL x :: st) Q) : Jw Fz own cc nL ret hh y d S0 S pc lv st Q :=
  j_step (fun hx hb _ _ h w => lv_lload_n hx hb hd rfl (lv_at h j hl) w) k
theorem j_lload {i : Nat} (j : Nat) {x : BitVec 64} (hd : decode cc pc = .ok (.lload i, 2)) (hl : lv[j]? = some (i, vL x)) (k : Jw Fz own cc nL ret hh y d S0 S (pc + 2) lv (vL x :: st) Q) : Jw Fz own cc nL ret hh y d S0 S pc lv st Q :=
  j_step (fun hx hb _ _ h w => lv_lload hx hb hd (lv_at h j hl) w) k
theorem j_aload_n {i : Fin 4} (j : Nat) {x : Nat} (hd : decode cc pc = .ok (.aload_n i, 1)) (hl : lv[j]? = some ((i : Nat), vA x)) (k : Jw Fz own cc nL ret hh y d S0 S (pc + 1) lv (vA x :: st) Q) : Jw Fz own cc nL ret hh y d S0 S pc lv st Q :=
  j_step (fun hx hb _ _ h w => lv_aload_n hx hb hd rfl (lv_at h j hl) w) k
theorem j_aload {i : Nat} (j : Nat) {x : Nat} (hd : decode cc pc = .ok (.aload i, 2)) (hl : lv[j]? = some (i, vA x)) (k : Jw Fz own cc nL ret hh y d S0 S (pc + 2) lv (vA x :: st) Q) : Jw Fz own cc nL ret hh y d S0 S pc lv st Q :=
  j_step (fun hx hb _ _ h w => lv_aload hx hb hd (lv_at h j hl) w) k
theorem j_istore_n {i : Fin 4} {x : Int} {lv2 : List (Nat × Value)} (hd : decode cc pc = .ok (.istore_n i, 1)) (hn : (i : Nat) < nL) (hl : ((i : Nat), vI x) :: lv.filter (fun q => !(q.1 == (i : Nat)) && !(q.1 + 1 == (i : Nat) && q.2.category == 2)) = lv2) (k : Jw Fz own cc nL ret hh y d S0 S (pc + 1) lv2 st Q) : Jw Fz own cc nL ret hh y d S0 S pc lv (vI x :: st) Q :=
  j_stepL (fun hx hb h w => lv_istore_n hx hb hd rfl h hn hl w) k
theorem j_istore {i : Nat} {x : Int} {lv2 : List (Nat × Value)} (hd : decode cc pc = .ok (.istore i, 2)) (hn : i < nL) (hl : (i, vI x) :: lv.filter (fun q => !(q.1 == i) && !(q.1 + 1 == i && q.2.category == 2)) = lv2) (k : Jw Fz own cc nL ret hh y d S0 S (pc + 2) lv2 st Q) : Jw Fz own cc nL ret hh y d S0 S pc lv (vI x :: st) Q :=
  j_stepL (fun hx hb h w => lv_istore hx hb hd h hn hl w) k
theorem j_lstore_n {i : Fin 4} {x : BitVec 64} {lv2 : List (Nat × Value)} (hd : decode cc pc = .ok (.lstore_n i, 1)) (hn : (i : Nat) + 1 < nL) (hl : ((i : Nat), vL x) :: lv.filter (fun q => !(q.1 == (i : Nat)) && (!(q.1 == (i : Nat) + 1) && !(q.1 + 1 == (i : Nat) && q.2.category == 2))) = lv2) (k : Jw Fz own cc nL ret hh y d S0 S (pc + 1) lv2 st Q) : Jw Fz own cc nL ret hh y d S0 S pc lv (vL x :: st) Q :=
  j_stepL (fun hx hb h w => lv_lstore_n hx hb hd rfl h hn hl w) k
theorem j_lstore {i : Nat} {x : BitVec 64} {lv2 : List (Nat × Value)} (hd : decode cc pc = .ok (.lstore i, 2)) (hn : i + 1 < nL) (hl : (i, vL x) :: lv.filter (fun q => !(q.1 == i) && (!(q.1 == i + 1) && !(q.1 + 1 == i && q.2.category == 2))) = lv2) (k : Jw Fz own cc nL ret hh y d S0 S (pc + 2) lv2 st Q) : Jw Fz own cc nL ret hh y d S0 S pc lv (vL x :: st) Q :=
  j_stepL (fun hx hb h w => lv_lstore hx hb hd h hn hl w) k
theorem j_astore_n {i : Fin 4} {x : Nat} {lv2 : List (Nat × Value)} (hd : decode cc pc = .ok (.astore_n i, 1)) (hn : (i : Nat) < nL) (hl : ((i : Nat), vA x) :: lv.filter (fun q => !(q.1 == (i : Nat)) && !(q.1 + 1 == (i : Nat) && q.2.category == 2)) = lv2) (k : Jw Fz own cc nL ret hh y d S0 S (pc + 1) lv2 st Q) : Jw Fz own cc nL ret hh y d S0 S pc lv (vA x :: st) Q :=
  j_stepL (fun hx hb h w => lv_astore_n hx hb hd rfl h hn hl w) k
theorem j_astore {i : Nat} {x : Nat} {lv2 : List (Nat × Value)} (hd : decode cc pc = .ok (.astore i, 2)) (hn : i < nL) (hl : (i, vA x) :: lv.filter (fun q => !(q.1 == i) && !(q.1 + 1 == i && q.2.category == 2)) = lv2) (k : Jw Fz own cc nL ret hh y d S0 S (pc + 2) lv2 st Q) : Jw Fz own cc nL ret hh y d S0 S pc lv (vA x :: st) Q :=
  j_stepL (fun hx hb h w => lv_astore hx hb hd h hn hl w) k
theorem j_iinc {i : Nat} (j : Nat) {n x : Int} {lv2 : List (Nat × Value)} (hd : decode cc pc = .ok (.iinc i n, 3)) (hj : lv[j]? = some (i, vI x)) (hn : i < nL) (hl : (i, vI (x + n)) :: lv.filter (fun q => !(q.1 == i) && !(q.1 + 1 == i && q.2.category == 2)) = lv2) (k : Jw Fz own cc nL ret hh y d S0 S (pc + 3) lv2 st Q) : Jw Fz own cc nL ret hh y d S0 S pc lv st Q :=
  j_stepL (fun hx hb h w => lv_iinc hx hb hd h hj (by rw [Int32.ofInt_add]) hn hl w) k
theorem j_iadd {x z : Int} (hd : decode cc pc = .ok (.iadd, 1)) (k : Jw Fz own cc nL ret hh y d S0 S (pc + 1) lv (vI (x + z) :: st) Q) : Jw Fz own cc nL ret hh y d S0 S pc lv (vI z :: vI x :: st) Q :=
  j_step (fun hx hb _ _ _ w => lv_iadd hx hb hd (by rw [← Int32.ofInt_add]; exact w)) k
theorem j_isub {x z : Int} (hd : decode cc pc = .ok (.isub, 1)) (k : Jw Fz own cc nL ret hh y d S0 S (pc + 1) lv (vI (x - z) :: st) Q) : Jw Fz own cc nL ret hh y d S0 S pc lv (vI z :: vI x :: st) Q :=
  j_step (fun hx hb _ _ _ w => lv_isub hx hb hd (by rw [← Int32.ofInt_sub]; exact w)) k
theorem j_imul {x z : Int} (hd : decode cc pc = .ok (.imul, 1)) (k : Jw Fz own cc nL ret hh y d S0 S (pc + 1) lv (vI (x * z) :: st) Q) : Jw Fz own cc nL ret hh y d S0 S pc lv (vI z :: vI x :: st) Q :=
  j_step (fun hx hb _ _ _ w => lv_imul hx hb hd (by rw [← Int32.ofInt_mul]; exact w)) k
theorem j_goto {off : Int} {tgt : Nat} (hd : decode cc pc = .ok (.goto off, 3)) (ht : (pc : Int) + off = (tgt : Int)) (k : Jw Fz own cc nL ret hh y d S0 S tgt lv st Q) : Jw Fz own cc nL ret hh y d S0 S pc lv st Q :=
  j_step (fun hx hb _ _ _ w => lv_goto hx hb hd ht w) k
theorem j_dup {v : Value} (hc : v.category = 1) (hd : decode cc pc = .ok (.dup, 1)) (k : Jw Fz own cc nL ret hh y d S0 S (pc + 1) lv (v :: v :: st) Q) : Jw Fz own cc nL ret hh y d S0 S pc lv (v :: st) Q :=
  j_step (fun hx hb _ _ _ w => lv_dup hx hb hd hc w) k
end JL
end
section
section JB
variable {Fz : FinT} {own : String} {cc : ByteArray} {nL : Nat} {ret : Option FieldType} {hh : List (Nat × Nat × Nat × Nat)} {y : MethodName} {d : Nat} {S0 S : MS} {pc : Nat} {lv : List (Nat × Value)} {st : List Value} {Q : Out → MS → Prop}
def iAnd (x z : Int) : Int := (Int32.ofInt x &&& Int32.ofInt z).toInt
def iOr (x z : Int) : Int := (Int32.ofInt x ||| Int32.ofInt z).toInt
def iXor (x z : Int) : Int := (Int32.ofInt x ^^^ Int32.ofInt z).toInt
def iShl (x z : Int) : Int := (Int32.ofInt x <<< (Int32.ofInt z &&& 31)).toInt
def iShr (x z : Int) : Int := (Int32.ofInt x >>> (Int32.ofInt z &&& 31)).toInt
def iUshr (x z : Int) : Int := ((Int32.ofInt x).toUInt32 >>> ((Int32.ofInt z).toUInt32 &&& Int32.toUInt32 31)).toInt32.toInt
def iDiv (x z : Int) : Int := (Int32.ofInt x / Int32.ofInt z).toInt
def iRem (x z : Int) : Int := (Int32.ofInt x - Int32.ofInt x / Int32.ofInt z * Int32.ofInt z).toInt
def i2B (x : Int) : Int := (Int32.ofInt x).toInt8.toInt32.toInt
def i2S (x : Int) : Int := (Int32.ofInt x).toInt16.toInt32.toInt
def i2C (x : Int) : Int := ((Int32.ofInt x).toUInt32 % 65536).toInt32.toInt
def i2L (x : Int) : BitVec 64 := (Int32.ofInt x).toInt64.toBitVec
def l2I (x : BitVec 64) : Int := (Int64.ofBitVec x).toInt32.toInt
def lShl (x : BitVec 64) (z : Int) : BitVec 64 := (Int64.ofBitVec x <<< ((Int32.ofInt z).toInt64 &&& 63)).toBitVec
def lUshr (x : BitVec 64) (z : Int) : BitVec 64 := ((Int64.ofBitVec x).toUInt64 >>> ((Int32.ofInt z).toInt64.toUInt64 &&& Int64.toUInt64 63)).toInt64.toBitVec
def lCmp (x z : BitVec 64) : Int := (lg_cmp (Int64.ofBitVec x) (Int64.ofBitVec z)).toInt
theorem j_iand {x z : Int} (hd : decode cc pc = .ok (.iand, 1)) (k : Jw Fz own cc nL ret hh y d S0 S (pc + 1) lv (vI (iAnd x z) :: st) Q) : Jw Fz own cc nL ret hh y d S0 S pc lv (vI z :: vI x :: st) Q :=
  j_step (fun hx hb _ _ _ w => lv_iand hx hb hd (by rw [← Int32.ofInt_toInt (Int32.ofInt x &&& Int32.ofInt z)]; exact w)) k
theorem j_ior {x z : Int} (hd : decode cc pc = .ok (.ior, 1)) (k : Jw Fz own cc nL ret hh y d S0 S (pc + 1) lv (vI (iOr x z) :: st) Q) : Jw Fz own cc nL ret hh y d S0 S pc lv (vI z :: vI x :: st) Q :=
  j_step (fun hx hb _ _ _ w => lv_ior hx hb hd (by rw [← Int32.ofInt_toInt (Int32.ofInt x ||| Int32.ofInt z)]; exact w)) k
theorem j_ixor {x z : Int} (hd : decode cc pc = .ok (.ixor, 1)) (k : Jw Fz own cc nL ret hh y d S0 S (pc + 1) lv (vI (iXor x z) :: st) Q) : Jw Fz own cc nL ret hh y d S0 S pc lv (vI z :: vI x :: st) Q :=
  j_step (fun hx hb _ _ _ w => lv_ixor hx hb hd (by rw [← Int32.ofInt_toInt (Int32.ofInt x ^^^ Int32.ofInt z)]; exact w)) k
theorem j_ishl {x z : Int} (hd : decode cc pc = .ok (.ishl, 1)) (k : Jw Fz own cc nL ret hh y d S0 S (pc + 1) lv (vI (iShl x z) :: st) Q) : Jw Fz own cc nL ret hh y d S0 S pc lv (vI z :: vI x :: st) Q :=
  j_step (fun hx hb _ _ _ w => lv_ishl hx hb hd (by rw [← Int32.ofInt_toInt (Int32.ofInt x <<< (Int32.ofInt z &&& 31))]; exact w)) k
theorem j_ishr {x z : Int} (hd : decode cc pc = .ok (.ishr, 1)) (k : Jw Fz own cc nL ret hh y d S0 S (pc + 1) lv (vI (iShr x z) :: st) Q) : Jw Fz own cc nL ret hh y d S0 S pc lv (vI z :: vI x :: st) Q :=
  j_step (fun hx hb _ _ _ w => lv_ishr hx hb hd (by rw [← Int32.ofInt_toInt (Int32.ofInt x >>> (Int32.ofInt z &&& 31))]; exact w)) k
theorem j_iushr {x z : Int} (hd : decode cc pc = .ok (.iushr, 1)) (k : Jw Fz own cc nL ret hh y d S0 S (pc + 1) lv (vI (iUshr x z) :: st) Q) : Jw Fz own cc nL ret hh y d S0 S pc lv (vI z :: vI x :: st) Q :=
  j_step (fun hx hb _ _ _ w => lv_iushr hx hb hd (Int32.ofInt_toInt _).symm w) k
theorem j_idiv {x z : Int} {P : Prop} (hd : decode cc pc = .ok (.idiv, 1)) (h : (R32 z ∧ z ≠ 0) ∧ P) (k : P → Jw Fz own cc nL ret hh y d S0 S (pc + 1) lv (vI (iDiv x z) :: st) Q) : Jw Fz own cc nL ret hh y d S0 S pc lv (vI z :: vI x :: st) Q :=
  j_step (fun hx hb _ _ _ w => lv_idiv hx hb hd (fun q => h.1.2 ((r32_eq h.1.1 r32_0).mp q)) (by rw [← Int32.ofInt_toInt (Int32.ofInt x / Int32.ofInt z)]; exact w)) (k h.2)
theorem j_irem {x z : Int} {P : Prop} (hd : decode cc pc = .ok (.irem, 1)) (h : (R32 z ∧ z ≠ 0) ∧ P) (k : P → Jw Fz own cc nL ret hh y d S0 S (pc + 1) lv (vI (iRem x z) :: st) Q) : Jw Fz own cc nL ret hh y d S0 S pc lv (vI z :: vI x :: st) Q :=
  j_step (fun hx hb _ _ _ w => lv_irem hx hb hd (fun q => h.1.2 ((r32_eq h.1.1 r32_0).mp q)) (by rw [← Int32.ofInt_toInt (Int32.ofInt x - Int32.ofInt x / Int32.ofInt z * Int32.ofInt z)]; exact w)) (k h.2)
theorem j_i2b {x : Int} (hd : decode cc pc = .ok (.i2b, 1)) (k : Jw Fz own cc nL ret hh y d S0 S (pc + 1) lv (vI (i2B x) :: st) Q) : Jw Fz own cc nL ret hh y d S0 S pc lv (vI x :: st) Q :=
  j_step (fun hx hb _ _ _ w => lv_i2b hx hb hd (Int32.ofInt_toInt _).symm w) k
theorem j_i2s {x : Int} (hd : decode cc pc = .ok (.i2s, 1)) (k : Jw Fz own cc nL ret hh y d S0 S (pc + 1) lv (vI (i2S x) :: st) Q) : Jw Fz own cc nL ret hh y d S0 S pc lv (vI x :: st) Q :=
  j_step (fun hx hb _ _ _ w => lv_i2s hx hb hd (Int32.ofInt_toInt _).symm w) k
theorem j_i2l {x : Int} (hd : decode cc pc = .ok (.i2l, 1)) (k : Jw Fz own cc nL ret hh y d S0 S (pc + 1) lv (vL (i2L x) :: st) Q) : Jw Fz own cc nL ret hh y d S0 S pc lv (vI x :: st) Q :=
  j_step (fun hx hb _ _ _ w => lv_i2l hx hb hd rfl w) k
theorem j_l2i {x : BitVec 64} (hd : decode cc pc = .ok (.l2i, 1)) (k : Jw Fz own cc nL ret hh y d S0 S (pc + 1) lv (vI (l2I x) :: st) Q) : Jw Fz own cc nL ret hh y d S0 S pc lv (vL x :: st) Q :=
  j_step (fun hx hb _ _ _ w => lv_l2i hx hb hd (Int32.ofInt_toInt _).symm w) k
theorem j_land {x z : BitVec 64} (hd : decode cc pc = .ok (.land, 1)) (k : Jw Fz own cc nL ret hh y d S0 S (pc + 1) lv (vL (x &&& z) :: st) Q) : Jw Fz own cc nL ret hh y d S0 S pc lv (vL z :: vL x :: st) Q :=
  j_step (fun hx hb _ _ _ w => lv_land hx hb hd w) k
theorem j_lor {x z : BitVec 64} (hd : decode cc pc = .ok (.lor, 1)) (k : Jw Fz own cc nL ret hh y d S0 S (pc + 1) lv (vL (x ||| z) :: st) Q) : Jw Fz own cc nL ret hh y d S0 S pc lv (vL z :: vL x :: st) Q :=
  j_step (fun hx hb _ _ _ w => lv_lor hx hb hd w) k
theorem j_lxor {x z : BitVec 64} (hd : decode cc pc = .ok (.lxor, 1)) (k : Jw Fz own cc nL ret hh y d S0 S (pc + 1) lv (vL (x ^^^ z) :: st) Q) : Jw Fz own cc nL ret hh y d S0 S pc lv (vL z :: vL x :: st) Q :=
  j_step (fun hx hb _ _ _ w => lv_lxor hx hb hd w) k
theorem j_ladd {x z : BitVec 64} (hd : decode cc pc = .ok (.ladd, 1)) (k : Jw Fz own cc nL ret hh y d S0 S (pc + 1) lv (vL (x + z) :: st) Q) : Jw Fz own cc nL ret hh y d S0 S pc lv (vL z :: vL x :: st) Q :=
  j_step (fun hx hb _ _ _ w => lv_ladd hx hb hd w) k
theorem j_lsub {x z : BitVec 64} (hd : decode cc pc = .ok (.lsub, 1)) (k : Jw Fz own cc nL ret hh y d S0 S (pc + 1) lv (vL (x - z) :: st) Q) : Jw Fz own cc nL ret hh y d S0 S pc lv (vL z :: vL x :: st) Q :=
  j_step (fun hx hb _ _ _ w => lv_lsub hx hb hd w) k
theorem j_lneg {x : BitVec 64} (hd : decode cc pc = .ok (.lneg, 1)) (k : Jw Fz own cc nL ret hh y d S0 S (pc + 1) lv (vL (-x) :: st) Q) : Jw Fz own cc nL ret hh y d S0 S pc lv (vL x :: st) Q :=
  j_step (fun hx hb _ _ _ w => lv_lneg hx hb hd w) k
theorem j_lshl {x : BitVec 64} {z : Int} (hd : decode cc pc = .ok (.lshl, 1)) (k : Jw Fz own cc nL ret hh y d S0 S (pc + 1) lv (vL (lShl x z) :: st) Q) : Jw Fz own cc nL ret hh y d S0 S pc lv (vI z :: vL x :: st) Q :=
  j_step (fun hx hb _ _ _ w => lv_lshl hx hb hd rfl w) k
theorem j_lushr {x : BitVec 64} {z : Int} (hd : decode cc pc = .ok (.lushr, 1)) (k : Jw Fz own cc nL ret hh y d S0 S (pc + 1) lv (vL (lUshr x z) :: st) Q) : Jw Fz own cc nL ret hh y d S0 S pc lv (vI z :: vL x :: st) Q :=
  j_step (fun hx hb _ _ _ w => lv_lushr hx hb hd rfl w) k
theorem j_lcmp {x z : BitVec 64} (hd : decode cc pc = .ok (.lcmp, 1)) (k : Jw Fz own cc nL ret hh y d S0 S (pc + 1) lv (vI (lCmp x z) :: st) Q) : Jw Fz own cc nL ret hh y d S0 S pc lv (vL z :: vL x :: st) Q :=
  j_step (fun hx hb _ _ _ w => W.lcmp hx hb hd (by rw [← Int32.ofInt_toInt (lg_cmp (Int64.ofBitVec x) (Int64.ofBitVec z))]; exact w)) k
theorem j_ldc {i : Nat} {v : Int32} {n : Int} (hd : decode cc pc = .ok (.ldc i, 2)) (hc : Cond.constant own i v ∈ TB) (hv : v = Int32.ofInt n) (k : Jw Fz own cc nL ret hh y d S0 S (pc + 2) lv (vI n :: st) Q) : Jw Fz own cc nL ret hh y d S0 S pc lv st Q :=
  j_step (fun hx hb ho ht _ w => lv_ldc hx hb ho (ht _ hc) hd (by rw [hv]; exact w)) k
theorem j_ldc2 {i : Nat} {v : Int64} {n : BitVec 64} (hd : decode cc pc = .ok (.ldc2_w i, 3)) (hc : Cond.constantLong own i v ∈ TB) (hv : v = Int64.ofBitVec n) (k : Jw Fz own cc nL ret hh y d S0 S (pc + 3) lv (vL n :: st) Q) : Jw Fz own cc nL ret hh y d S0 S pc lv st Q :=
  j_step (fun hx hb ho ht _ w => lv_ldc2 hx hb ho (ht _ hc) hd (by rw [hv]; exact w)) k
theorem j_pop {v : Value} (hc : v.category = 1) (hd : decode cc pc = .ok (.pop, 1)) (k : Jw Fz own cc nL ret hh y d S0 S (pc + 1) lv st Q) : Jw Fz own cc nL ret hh y d S0 S pc lv (v :: st) Q :=
  j_step (fun hx hb _ _ _ w => lv_pop hx hb hd hc w) k
theorem j_dup2 {v u : Value} (hc : v.category = 1) (hu : u.category = 1) (hd : decode cc pc = .ok (.dup2, 1)) (k : Jw Fz own cc nL ret hh y d S0 S (pc + 1) lv (v :: u :: v :: u :: st) Q) : Jw Fz own cc nL ret hh y d S0 S pc lv (v :: u :: st) Q :=
  j_step (fun hx hb _ _ _ w => lv_dup2_11 hx hb hd hc hu w) k
theorem j_icmp_eq {x z : Int} {off : Int} {tgt : Nat} {A B : Prop} (hd : decode cc pc = .ok (.if_icmp .eq off, 3)) (ht : (pc : Int) + off = (tgt : Int)) (h : (R32 x ∧ R32 z) ∧ (x = z → A) ∧ (¬ (x = z) → B)) (k1 : A → Jw Fz own cc nL ret hh y d S0 S tgt lv st Q) (k2 : B → Jw Fz own cc nL ret hh y d S0 S (pc + 3) lv st Q) : Jw Fz own cc nL ret hh y d S0 S pc lv (vI z :: vI x :: st) Q := by
  have e := r32_eq h.1.1 h.1.2
  by_cases c : x = z
  · exact j_step (fun hx hb _ _ _ w => lv_icmp_eq hx hb hd ht (fun _ => w) (fun q => absurd (e.mpr c) q)) (k1 (h.2.1 c))
  · exact j_step (fun hx hb _ _ _ w => lv_icmp_eq hx hb hd ht (fun q => absurd (e.mp q) c) (fun _ => w)) (k2 (h.2.2 c))
theorem j_if_eq {x : Int} {off : Int} {tgt : Nat} {A B : Prop} (hd : decode cc pc = .ok (.ifCond .eq off, 3)) (ht : (pc : Int) + off = (tgt : Int)) (h : R32 x ∧ (x = 0 → A) ∧ (¬ (x = 0) → B)) (k1 : A → Jw Fz own cc nL ret hh y d S0 S tgt lv st Q) (k2 : B → Jw Fz own cc nL ret hh y d S0 S (pc + 3) lv st Q) : Jw Fz own cc nL ret hh y d S0 S pc lv (vI x :: st) Q := by
  have e := r32_eq h.1 r32_0
  by_cases c : x = 0
  · exact j_step (fun hx hb _ _ _ w => lv_if_eq hx hb hd ht (fun _ => w) (fun q => absurd (e.mpr c) q)) (k1 (h.2.1 c))
  · exact j_step (fun hx hb _ _ _ w => lv_if_eq hx hb hd ht (fun q => absurd (e.mp q) c) (fun _ => w)) (k2 (h.2.2 c))
theorem j_icmp_ne {x z : Int} {off : Int} {tgt : Nat} {A B : Prop} (hd : decode cc pc = .ok (.if_icmp .ne off, 3)) (ht : (pc : Int) + off = (tgt : Int)) (h : (R32 x ∧ R32 z) ∧ (¬ x = z → A) ∧ (x = z → B)) (k1 : A → Jw Fz own cc nL ret hh y d S0 S tgt lv st Q) (k2 : B → Jw Fz own cc nL ret hh y d S0 S (pc + 3) lv st Q) : Jw Fz own cc nL ret hh y d S0 S pc lv (vI z :: vI x :: st) Q := by
  have e := r32_eq h.1.1 h.1.2
  by_cases c : x = z
  · exact j_step (fun hx hb _ _ _ w => lv_icmp_ne hx hb hd ht (fun q => absurd (e.mpr c) q) (fun _ => w)) (k2 (h.2.2 c))
  · exact j_step (fun hx hb _ _ _ w => lv_icmp_ne hx hb hd ht (fun _ => w) (fun q => absurd (e.mp q) c)) (k1 (h.2.1 c))
theorem j_if_ne {x : Int} {off : Int} {tgt : Nat} {A B : Prop} (hd : decode cc pc = .ok (.ifCond .ne off, 3)) (ht : (pc : Int) + off = (tgt : Int)) (h : R32 x ∧ (¬ x = 0 → A) ∧ (x = 0 → B)) (k1 : A → Jw Fz own cc nL ret hh y d S0 S tgt lv st Q) (k2 : B → Jw Fz own cc nL ret hh y d S0 S (pc + 3) lv st Q) : Jw Fz own cc nL ret hh y d S0 S pc lv (vI x :: st) Q := by
  have e := r32_eq h.1 r32_0
  by_cases c : x = 0
  · exact j_step (fun hx hb _ _ _ w => lv_if_ne hx hb hd ht (fun q => absurd (e.mpr c) q) (fun _ => w)) (k2 (h.2.2 c))
  · exact j_step (fun hx hb _ _ _ w => lv_if_ne hx hb hd ht (fun _ => w) (fun q => absurd (e.mp q) c)) (k1 (h.2.1 c))
theorem j_icmp_lt {x z : Int} {off : Int} {tgt : Nat} {A B : Prop} (hd : decode cc pc = .ok (.if_icmp .lt off, 3)) (ht : (pc : Int) + off = (tgt : Int)) (h : (R32 x ∧ R32 z) ∧ (x < z → A) ∧ (¬ (x < z) → B)) (k1 : A → Jw Fz own cc nL ret hh y d S0 S tgt lv st Q) (k2 : B → Jw Fz own cc nL ret hh y d S0 S (pc + 3) lv st Q) : Jw Fz own cc nL ret hh y d S0 S pc lv (vI z :: vI x :: st) Q := by
  have e := r32_lt h.1.1 h.1.2
  by_cases c : x < z
  · exact j_step (fun hx hb _ _ _ w => lv_icmp_lt hx hb hd ht (fun _ => w) (fun q => absurd (e.mpr c) q)) (k1 (h.2.1 c))
  · exact j_step (fun hx hb _ _ _ w => lv_icmp_lt hx hb hd ht (fun q => absurd (e.mp q) c) (fun _ => w)) (k2 (h.2.2 c))
theorem j_if_lt {x : Int} {off : Int} {tgt : Nat} {A B : Prop} (hd : decode cc pc = .ok (.ifCond .lt off, 3)) (ht : (pc : Int) + off = (tgt : Int)) (h : R32 x ∧ (x < 0 → A) ∧ (¬ (x < 0) → B)) (k1 : A → Jw Fz own cc nL ret hh y d S0 S tgt lv st Q) (k2 : B → Jw Fz own cc nL ret hh y d S0 S (pc + 3) lv st Q) : Jw Fz own cc nL ret hh y d S0 S pc lv (vI x :: st) Q := by
  have e := r32_lt h.1 r32_0
  by_cases c : x < 0
  · exact j_step (fun hx hb _ _ _ w => lv_if_lt hx hb hd ht (fun _ => w) (fun q => absurd (e.mpr c) q)) (k1 (h.2.1 c))
  · exact j_step (fun hx hb _ _ _ w => lv_if_lt hx hb hd ht (fun q => absurd (e.mp q) c) (fun _ => w)) (k2 (h.2.2 c))
theorem j_icmp_ge {x z : Int} {off : Int} {tgt : Nat} {A B : Prop} (hd : decode cc pc = .ok (.if_icmp .ge off, 3)) (ht : (pc : Int) + off = (tgt : Int)) (h : (R32 x ∧ R32 z) ∧ (z ≤ x → A) ∧ (¬ (z ≤ x) → B)) (k1 : A → Jw Fz own cc nL ret hh y d S0 S tgt lv st Q) (k2 : B → Jw Fz own cc nL ret hh y d S0 S (pc + 3) lv st Q) : Jw Fz own cc nL ret hh y d S0 S pc lv (vI z :: vI x :: st) Q := by
  have e := r32_le h.1.2 h.1.1
  by_cases c : z ≤ x
  · exact j_step (fun hx hb _ _ _ w => lv_icmp_ge hx hb hd ht (fun _ => w) (fun q => absurd (e.mpr c) q)) (k1 (h.2.1 c))
  · exact j_step (fun hx hb _ _ _ w => lv_icmp_ge hx hb hd ht (fun q => absurd (e.mp q) c) (fun _ => w)) (k2 (h.2.2 c))
theorem j_if_ge {x : Int} {off : Int} {tgt : Nat} {A B : Prop} (hd : decode cc pc = .ok (.ifCond .ge off, 3)) (ht : (pc : Int) + off = (tgt : Int)) (h : R32 x ∧ (0 ≤ x → A) ∧ (¬ (0 ≤ x) → B)) (k1 : A → Jw Fz own cc nL ret hh y d S0 S tgt lv st Q) (k2 : B → Jw Fz own cc nL ret hh y d S0 S (pc + 3) lv st Q) : Jw Fz own cc nL ret hh y d S0 S pc lv (vI x :: st) Q := by
  have e := r32_le r32_0 h.1
  by_cases c : 0 ≤ x
  · exact j_step (fun hx hb _ _ _ w => lv_if_ge hx hb hd ht (fun _ => w) (fun q => absurd (e.mpr c) q)) (k1 (h.2.1 c))
  · exact j_step (fun hx hb _ _ _ w => lv_if_ge hx hb hd ht (fun q => absurd (e.mp q) c) (fun _ => w)) (k2 (h.2.2 c))
theorem j_icmp_gt {x z : Int} {off : Int} {tgt : Nat} {A B : Prop} (hd : decode cc pc = .ok (.if_icmp .gt off, 3)) (ht : (pc : Int) + off = (tgt : Int)) (h : (R32 x ∧ R32 z) ∧ (z < x → A) ∧ (¬ (z < x) → B)) (k1 : A → Jw Fz own cc nL ret hh y d S0 S tgt lv st Q) (k2 : B → Jw Fz own cc nL ret hh y d S0 S (pc + 3) lv st Q) : Jw Fz own cc nL ret hh y d S0 S pc lv (vI z :: vI x :: st) Q := by
  have e := r32_lt h.1.2 h.1.1
  by_cases c : z < x
  · exact j_step (fun hx hb _ _ _ w => lv_icmp_gt hx hb hd ht (fun _ => w) (fun q => absurd (e.mpr c) q)) (k1 (h.2.1 c))
  · exact j_step (fun hx hb _ _ _ w => lv_icmp_gt hx hb hd ht (fun q => absurd (e.mp q) c) (fun _ => w)) (k2 (h.2.2 c))
theorem j_if_gt {x : Int} {off : Int} {tgt : Nat} {A B : Prop} (hd : decode cc pc = .ok (.ifCond .gt off, 3)) (ht : (pc : Int) + off = (tgt : Int)) (h : R32 x ∧ (0 < x → A) ∧ (¬ (0 < x) → B)) (k1 : A → Jw Fz own cc nL ret hh y d S0 S tgt lv st Q) (k2 : B → Jw Fz own cc nL ret hh y d S0 S (pc + 3) lv st Q) : Jw Fz own cc nL ret hh y d S0 S pc lv (vI x :: st) Q := by
  have e := r32_lt r32_0 h.1
  by_cases c : 0 < x
  · exact j_step (fun hx hb _ _ _ w => lv_if_gt hx hb hd ht (fun _ => w) (fun q => absurd (e.mpr c) q)) (k1 (h.2.1 c))
  · exact j_step (fun hx hb _ _ _ w => lv_if_gt hx hb hd ht (fun q => absurd (e.mp q) c) (fun _ => w)) (k2 (h.2.2 c))
theorem j_icmp_le {x z : Int} {off : Int} {tgt : Nat} {A B : Prop} (hd : decode cc pc = .ok (.if_icmp .le off, 3)) (ht : (pc : Int) + off = (tgt : Int)) (h : (R32 x ∧ R32 z) ∧ (x ≤ z → A) ∧ (¬ (x ≤ z) → B)) (k1 : A → Jw Fz own cc nL ret hh y d S0 S tgt lv st Q) (k2 : B → Jw Fz own cc nL ret hh y d S0 S (pc + 3) lv st Q) : Jw Fz own cc nL ret hh y d S0 S pc lv (vI z :: vI x :: st) Q := by
  have e := r32_le h.1.1 h.1.2
  by_cases c : x ≤ z
  · exact j_step (fun hx hb _ _ _ w => lv_icmp_le hx hb hd ht (fun _ => w) (fun q => absurd (e.mpr c) q)) (k1 (h.2.1 c))
  · exact j_step (fun hx hb _ _ _ w => lv_icmp_le hx hb hd ht (fun q => absurd (e.mp q) c) (fun _ => w)) (k2 (h.2.2 c))
theorem j_if_le {x : Int} {off : Int} {tgt : Nat} {A B : Prop} (hd : decode cc pc = .ok (.ifCond .le off, 3)) (ht : (pc : Int) + off = (tgt : Int)) (h : R32 x ∧ (x ≤ 0 → A) ∧ (¬ (x ≤ 0) → B)) (k1 : A → Jw Fz own cc nL ret hh y d S0 S tgt lv st Q) (k2 : B → Jw Fz own cc nL ret hh y d S0 S (pc + 3) lv st Q) : Jw Fz own cc nL ret hh y d S0 S pc lv (vI x :: st) Q := by
  have e := r32_le h.1 r32_0
  by_cases c : x ≤ 0
  · exact j_step (fun hx hb _ _ _ w => lv_if_le hx hb hd ht (fun _ => w) (fun q => absurd (e.mpr c) q)) (k1 (h.2.1 c))
  · exact j_step (fun hx hb _ _ _ w => lv_if_le hx hb hd ht (fun q => absurd (e.mp q) c) (fun _ => w)) (k2 (h.2.2 c))
end JB
end
section
/-- field k of class ci, as the class own names it by its pool's entry idx -/
def FLk (own : String) (idx ci k : Nat) (fin num : Bool) (t : FieldType) : Prop := ∃ (C : String) (T : u_T) (N : Nat) (ty : Nat → FieldType), vwCl[ci]? = some (C, T, N) ∧ (∀ w ∈ u_ws C T N, w ∈ TB) ∧ (∀ j, j < N → parseFieldDescriptor (T j).2.2.1 = some (ty j)) ∧ (∀ a, a < N → ∀ b, b < N → a ≠ b → (T a).2.1 ≠ (T b).2.1) ∧ (ftI ci).length = N ∧ k < N ∧ ci < 12 ∧ Cond.fieldLink own idx (T k).1 (T k).2.1 (T k).2.2.1 ∈ TB ∧ (T k).2.2.2 = fin ∧ (T k).1 = C ∧ (ftI ci)[k]? = some num ∧ ty k = t
theorem fl_get {S : MS} {a k : Nat} {t : Bool} (h : (ftI (S.K a))[k]? = some t) : (S.fl a)[k]? = some (if t then vI (S.I a k) else va_rf (S.R a k)) := by
  simp [MS.fl, List.getElem?_mapIdx, h]
theorem fl_len {S : MS} {a : Nat} : (S.fl a).length = (ftI (S.K a)).length := by simp [MS.fl]
theorem fl_setI {S : MS} {a k : Nat} {x : Int} (h : (ftI (S.K a))[k]? = some true) : (S.fl a).set k (vI x) = (S.setI a k x).fl a := by
  have hk : k < (ftI (S.K a)).length := (List.getElem?_eq_some_iff.mp h).1
  apply List.ext_getElem?
  intro j
  show _ = ((ftI (S.K a)).mapIdx (fun k' t => if t then vI (up2 S.I a k x a k') else va_rf (S.R a k')))[j]?
  rw [List.getElem?_set, List.getElem?_mapIdx, fl_len]
  by_cases e : k = j
  · subst e
    rw [if_pos rfl, if_pos hk, h]
    simp [up2, up1]
  · simp only [if_neg e, MS.fl, List.getElem?_mapIdx]
    cases (ftI (S.K a))[j]? with
    | none => rfl
    | some t => simp [up2, up1, Ne.symm e]
theorem fl_setR {S : MS} {a k : Nat} {x : Option Nat} (h : (ftI (S.K a))[k]? = some false) : (S.fl a).set k (va_rf x) = (S.setR a k x).fl a := by
  have hk : k < (ftI (S.K a)).length := (List.getElem?_eq_some_iff.mp h).1
  apply List.ext_getElem?
  intro j
  show _ = ((ftI (S.K a)).mapIdx (fun k' t => if t then vI (S.I a k') else va_rf (up2 S.R a k x a k')))[j]?
  rw [List.getElem?_set, List.getElem?_mapIdx, fl_len]
  by_cases e : k = j
  · subst e
    rw [if_pos rfl, if_pos hk, h]
    simp [up2, up1]
  · simp only [if_neg e, MS.fl, List.getElem?_mapIdx]
    cases (ftI (S.K a))[j]? with
    | none => rfl
    | some t => simp [up2, up1, Ne.symm e]
theorem ot_setI {S : MS} {a k : Nat} {x : Int} : ∀ q, q ≠ a → (S.setI a k x).fl q = S.fl q ∧ (S.setI a k x).arr q = S.arr q := by
  intro q hq
  have e : (S.setI a k x).I q = S.I q := up2_ne hq
  constructor
  · show (ftI (S.K q)).mapIdx (fun k' t => if t then vI ((S.setI a k x).I q k') else va_rf (S.R q k')) = _
    rw [e]; rfl
  · show (if S.K q = 14 then _ else if S.K q < 17 then ((S.N q, Sum.inl (fun j => Int32.ofInt ((S.setI a k x).I q j))) : vp_A) else _) = _
    rw [e]; rfl
theorem ot_setR {S : MS} {a k : Nat} {x : Option Nat} : ∀ q, q ≠ a → (S.setR a k x).fl q = S.fl q ∧ (S.setR a k x).arr q = S.arr q := by
  intro q hq
  have e : (S.setR a k x).R q = S.R q := up2_ne hq
  constructor
  · show (ftI (S.K q)).mapIdx (fun k' t => if t then vI (S.I q k') else va_rf ((S.setR a k x).R q k')) = _
    rw [e]; rfl
  · show (if S.K q = 14 then _ else if S.K q < 17 then _ else ((S.N q, Sum.inr (Sum.inr (Sum.inr (Sum.inr ((S.setR a k x).R q))))) : vp_A)) = _
    rw [e]; rfl
theorem ot_setJ {S : MS} {a k : Nat} {x : BitVec 64} : ∀ q, q ≠ a → (S.setJ a k x).fl q = S.fl q ∧ (S.setJ a k x).arr q = S.arr q := by
  intro q hq
  have e : (S.setJ a k x).J q = S.J q := up2_ne hq
  refine ⟨rfl, ?_⟩
  show (if S.K q = 14 then ((S.N q, Sum.inr (Sum.inl (fun j => Int64.ofBitVec ((S.setJ a k x).J q j)))) : vp_A) else _) = _
  rw [e]; rfl
theorem Rep.obj {D : va_G} {b0 : Nat} {S : MS} {U : State} {H : Heap} {a ci : Nat} (h : Rep D b0 S U H) (hk : S.K a = ci) (hc : ci < 12) : va_at D vwCl (a, .inr (ci, S.fl a)) H := by
  subst hk
  exact (h.2.2 a (by omega)).2.2.2.1 hc
theorem Rep.one {D : va_G} {b0 : Nat} {S : MS} {U : State} {H : Heap} {a ci : Nat} (h : Rep D b0 S U H) (hk : S.K a = ci) (hc : ci < 12) : va_P D vwCl [(a, .inr (ci, S.fl a))] H := by
  intro k q hq
  match k, hq with
  | 0, hq => cases hq; exact h.obj hk hc
theorem va_K.none {D : va_G} {U : State} {tys : List (ClassId × FieldType)} (h : va_K D vwCl [] U) (ht : ∀ (k : Nat) (q : ClassId × FieldType), tys[k]? = some q → ArrOfT U q.1 q.2 ∧ va_RA U q.1 q.2) : va_K D vwCl tys U := ⟨h.1, ht⟩
section WP
variable {p : Program} {l : Launch} {e : Env} {R : Room} {s : State} {m : MethodId} {args : Array Value} {below : List Frame} {meth : Method} {c : Code} {H : Heap} {locs : List Loc} {cells slots : Nat} {Qs : State → Prop} {cc : ByteArray} {pc : Nat} {ls : Array Slot} {rest : List Value} {D : va_G} {a : Nat}
theorem w_put (hexec : p.tables.exec = Jvm.exec) (hb : c.code = cc) {own : String} {ci idx k : Nat} {num : Bool} {t : FieldType} (hF : FLk own idx ci k false num t) (hts : ∀ w ∈ TB, w.before args s = true) (hown : s.vm.findClass own = some m.cls) (hK : va_K D vwCl [] s) {fs : List Value} (hat : va_at D vwCl (a, .inr (ci, fs)) H) {v : Value} (hn : narrow t v = v) (hfit : fits t v = true) (hl : fs.length = (ftI ci).length)
    (hdg : decode cc pc = .ok (.putfield idx, 3)) (kk : ∀ (H1 : Heap) (i : Nat), H1.size = H.size → (∀ q, q ≠ a → H1[q]? = H[q]?) → va_at D vwCl (a, .inr (ci, fs.set k v)) H1 → W p l e R s m args below meth c H1 (locs ++ [⟨a, i⟩]) cells slots Qs (F0 m (pc + 3) ls rest)) : W p l e R s m args below meth c H locs cells slots Qs (F0 m pc ls (v :: .ref a :: rest)) := by
  obtain ⟨C, T, N, ty, hc, hin, hty, hnm, hN, hk, -, hlk, hfin, hC, hnum, htk⟩ := hF
  have hap := va_apart (own := own) hts hin ty hty hnm hK hc
  obtain ⟨r, h1, cell, q1, q2, q3, q4⟩ := hat
  have hr : r = (C, T, N) := Option.some.inj (h1.symm.trans hc)
  subst hr
  obtain ⟨hS, hfc, kC, hkC, hkind⟩ := hK.1 ci _ hc
  obtain ⟨cf, kf, fi, f, hi, hsl⟩ := hS k hk
  have hlay := hts _ (hin _ (u_in_lay hk))
  unfold u_lay at hlay
  rw [if_neg (by rw [hfin]; decide)] at hlay
  have hst := (u_facts hfc hkC (u_lays hts hin hk) hi).1
  have h6 := u_store hfc hkC hkind hlay hi (by rw [hty k hk, htk]) hn hfit
  refine W.putK hexec hb (f := f) ⟨hown, hts _ hlk, ⟨_, _, _, hi⟩, hst⟩ (by rw [q2]; exact h6) q1 q3 (by rw [hsl]; exact k2_hasslot (q4 k hk)) rfl rfl hdg fun H' e1 e2 e3 => ?_
  rw [hsl] at e1 ⊢
  exact kk H' _ e2 e3 ⟨_, hc, t_OB.to (V := updV (vp_V fs) k v) ⟨_, e1, q2, q3, t_set q4 hap hk v⟩ (fun j _ => vp_updV_set (by rw [hl, hN]; exact hk) v j)⟩
theorem w_putF (hexec : p.tables.exec = Jvm.exec) (hb : c.code = cc) {own : String} {ci idx k : Nat} {num : Bool} {t : FieldType} (hF : FLk own idx ci k true num t) (hts : ∀ w ∈ TB, w.before args s = true) (hown : s.vm.findClass own = some m.cls) (hoc : ∀ q, vwCl[ci]? = some q → q.1 = own) (hini : meth.name = "<init>") (hK : va_K D vwCl [] s) {fs : List Value} (hat : va_at D vwCl (a, .inr (ci, fs)) H) {v : Value} (hn : narrow t v = v) (hfit : fits t v = true) (hl : fs.length = (ftI ci).length)
    (hdg : decode cc pc = .ok (.putfield idx, 3)) (kk : ∀ (H1 : Heap) (i : Nat), H1.size = H.size → (∀ q, q ≠ a → H1[q]? = H[q]?) → va_at D vwCl (a, .inr (ci, fs.set k v)) H1 → W p l e R s m args below meth c H1 (locs ++ [⟨a, i⟩]) cells slots Qs (F0 m (pc + 3) ls rest)) : W p l e R s m args below meth c H locs cells slots Qs (F0 m pc ls (v :: .ref a :: rest)) := by
  obtain ⟨C, T, N, ty, hc, hin, hty, hnm, hN, hk, -, hlk, hfin, hC, hnum, htk⟩ := hF
  have hap := va_apart (own := own) hts hin ty hty hnm hK hc
  obtain ⟨r, h1, cell, q1, q2, q3, q4⟩ := hat
  have hr : r = (C, T, N) := Option.some.inj (h1.symm.trans hc)
  subst hr
  have hoC : C = own := hoc _ hc
  obtain ⟨hS, hfc, kC, hkC, hkind⟩ := hK.1 ci _ hc
  obtain ⟨cf, kf, fi, f, hi, hsl⟩ := hS k hk
  have hlay := hts _ (hin _ (u_in_lay hk))
  unfold u_lay at hlay
  rw [if_pos hfin] at hlay
  have hst := (u_facts hfc hkC (u_lays hts hin hk) hi).1
  have hcf : m.cls = cf := by
    obtain ⟨_, _, c', _, _, _, -, -, hf', -, -, -, hown2, -⟩ := Cond.laysFinal_spec hlay
    have e1 : c' = cf := by have := hi.symm.trans hf'; simp at this; exact this.1.symm
    rw [hC, hoC] at hown2
    rw [← e1]; exact Option.some.inj (hown.symm.trans hown2)
  have h6 := u_fits hfc hkC hkind (Or.inr hlay) hi (by rw [hty k hk, htk]) hn hfit
  refine W.putFinK hexec hb hown (hts _ hlk) hi hst hcf hini (by rw [q2]; exact h6) q1 q3 (by rw [hsl]; exact k2_hasslot (q4 k hk)) rfl rfl hdg fun H' e1 e2 e3 => ?_
  rw [hsl] at e1 ⊢
  exact kk H' _ e2 e3 ⟨_, hc, t_OB.to (V := updV (vp_V fs) k v) ⟨_, e1, q2, q3, t_set q4 hap hk v⟩ (fun j _ => vp_updV_set (by rw [hl, hN]; exact hk) v j)⟩
end WP
theorem va_S.put' {b0 : Nat} {H0 H H1 : Heap} {locs : List Loc} {a k : Nat} (h : va_S (fun q => b0 ≤ q) H0 H locs) (z : H1.size = H.size) (oq : ∀ q : Nat, q ≠ a → H1[q]? = H[q]?) (ha : b0 ≤ a) : va_S (fun q => b0 ≤ q) H0 H1 (locs ++ [⟨a, k⟩]) := va_S.put h z oq ha
section JH
variable {Fz : FinT} {own : String} {cc : ByteArray} {nL : Nat} {ret : Option FieldType} {hh : List (Nat × Nat × Nat × Nat)} {y : MethodName} {d : Nat} {S0 S : MS} {pc : Nat} {lv : List (Nat × Value)} {st : List Value} {Q : Out → MS → Prop}
/-- a read of the heap -/
theorem j_rd {pc2 : Nat} {st2 : List Value} (h : ∀ {p : Program} {l : Launch} {e : Env} {R : Room} {s : State} {m : MethodId} {args : Array Value} {below : List Frame} {meth : Method} {c : Code} {H : Heap} {locs : List Loc} {ls : Array Slot} {k n : Nat} {Qs : State → Prop} {D : va_G} {b0 : Nat},
      p.tables.exec = Jvm.exec → c.code = cc → s.vm.findClass own = some m.cls → (∀ w ∈ TB, w.before args s = true) → va_K D vwCl [] s → Rep D b0 S s H → W p l e R s m args below meth c H locs k n Qs (F0 m pc2 ls st2) → W p l e R s m args below meth c H locs k n Qs (F0 m pc ls st))
    (k : Jw Fz own cc nL ret hh y d S0 S pc2 lv st2 Q) : Jw Fz own cc nL ret hh y d S0 S pc lv st Q := by
  obtain ⟨o, S', h1, h2, h3⟩ := k
  refine ⟨o, S', h1, h2, fun C c1 c2 c3 hr hs hl => ?_⟩
  exact h C.1 C.2.1 C.2.2.2.1 C.2.2.2.2.1 C.2.2.2.2.2.2.2.2.1 hr (h3 C c1 c2 c3 hr hs hl)
theorem j_getI {idx a : Nat} (ci k : Nat) {fin : Bool} {t : FieldType} {P : Prop} (hF : FLk own idx ci k fin true t) (hd : decode cc pc = .ok (.getfield idx, 3)) (h : S.K a = ci ∧ P) (kk : P → Jw Fz own cc nL ret hh y d S0 S (pc + 3) lv (vI (S.I a k) :: st) Q) : Jw Fz own cc nL ret hh y d S0 S pc lv (vA a :: st) Q := by
  obtain ⟨C, T, N, ty, hc, hin, hty, hnm, hN, hk, h12, hlk, hfin, hC, hnum, htk⟩ := hF
  refine j_rd (fun hx hb ho ht hK hR w => ?_) (kk h.2)
  have hv : (S.fl a)[k]? = some (vI (S.I a k)) := by rw [fl_get (by rw [h.1]; exact hnum)]; rfl
  exact va_get hx hb ht hin ho hK (hR.one h.1 h12) 0 rfl hc k hk (ht _ hlk) (fun _ h9 => h9) hv hd w
theorem j_getR {idx a : Nat} (ci k : Nat) {fin : Bool} {t : FieldType} {P : Nat → Prop} (hF : FLk own idx ci k fin false t) (hd : decode cc pc = .ok (.getfield idx, 3)) (h : S.K a = ci ∧ ∃ b, S.R a k = some b ∧ P b) (kk : ∀ b, P b → Jw Fz own cc nL ret hh y d S0 S (pc + 3) lv (vA b :: st) Q) : Jw Fz own cc nL ret hh y d S0 S pc lv (vA a :: st) Q := by
  obtain ⟨C, T, N, ty, hc, hin, hty, hnm, hN, hk, h12, hlk, hfin, hC, hnum, htk⟩ := hF
  obtain ⟨h1, b, h2, h3⟩ := h
  refine j_rd (fun hx hb ho ht hK hR w => ?_) (kk b h3)
  have hv : (S.fl a)[k]? = some (vA b) := by rw [fl_get (by rw [h1]; exact hnum), h2]; rfl
  exact va_get hx hb ht hin ho hK (hR.one h1 h12) 0 rfl hc k hk (ht _ hlk) (fun _ h9 => h9) hv hd w
/-- a write of the heap at one address -/
theorem j_wr {S1 : MS} {pc2 a : Nat} {st2 : List Value} (hk21 : S.K a < 21) (hle : leM S S1) (hnx : S1.nx = S.nx ∧ S1.us = S.us) (h : ∀ {p : Program} {l : Launch} {e : Env} {R : Room} {s : State} {m : MethodId} {args : Array Value} {below : List Frame} {meth : Method} {c : Code} {H : Heap} {locs : List Loc} {ls : Array Slot} {k n : Nat} {Qs : State → Prop} {D : va_G} {b0 : Nat},
      p.tables.exec = Jvm.exec → c.code = cc → s.vm.findClass own = some m.cls → (∀ w ∈ TB, w.before args s = true) → va_K D vwCl [] s → meth.name = y.name → Rep D b0 S s H → (∀ (H1 : Heap) (i : Nat), H1.size = H.size → (∀ q, q ≠ a → H1[q]? = H[q]?) → Rep D b0 S1 s H1 → W p l e R s m args below meth c H1 (locs ++ [⟨a, i⟩]) k n Qs (F0 m pc2 ls st2)) → W p l e R s m args below meth c H locs k n Qs (F0 m pc ls st))
    (k : Jw Fz own cc nL ret hh y d S0 S1 pc2 lv st2 Q) : Jw Fz own cc nL ret hh y d S0 S pc lv st Q := by
  obtain ⟨o, S', h1, h2, h3⟩ := k
  refine ⟨o, S', h1, leM.tr hle h2, fun C c1 c2 c3 hr hs hl => ?_⟩
  refine h C.1 C.2.1 C.2.2.2.1 C.2.2.2.2.1 C.2.2.2.2.2.2.2.2.1 C.2.2.2.2.2.2.2.2.2.2.2.2.1 hr (fun H1 i hz ho hR1 => ?_)
  have hb := (hr.2.2 a hk21).1
  rw [← hnx.1, ← hnx.2]
  exact h3 (by rw [hle.2.2]; exact C) (leM.tr c1 hle) c2 c3 hR1 (hs.put' hz ho hb) hl
theorem j_putI {idx a : Nat} {x : Int} (ci k : Nat) {P : Prop} (hF : FLk own idx ci k false true .int) (hd : decode cc pc = .ok (.putfield idx, 3)) (h : S.K a = ci ∧ P) (kk : P → Jw Fz own cc nL ret hh y d S0 (S.setI a k x) (pc + 3) lv st Q) : Jw Fz own cc nL ret hh y d S0 S pc lv (vI x :: vA a :: st) Q := by
  have h12 : ci < 12 := by obtain ⟨C, T, N, ty, hc, hin, hty, hnm, hN, hk, h12, -⟩ := hF; exact h12
  have hnum : (ftI ci)[k]? = some true := by obtain ⟨C, T, N, ty, hc, hin, hty, hnm, hN, hk, h12, hlk, hfin, hC, hnum, htk⟩ := hF; exact hnum
  have hk21 : S.K a < 21 := by rw [h.1]; omega
  refine j_wr (S1 := S.setI a k x) (a := a) hk21 ⟨Nat.le_refl _, Nat.le_refl _, rfl⟩ ⟨rfl, rfl⟩ (fun hx hb ho ht hK _ hR w => ?_) (kk h.2)
  refine w_put hx hb hF ht ho hK (hR.obj h.1 h12) rfl rfl (by rw [fl_len, h.1]) hd (fun H1 i hz hq hat => w H1 i hz hq ?_)
  refine hR.put hz hq rfl rfl rfl ot_setI (fun _ => ⟨fun _ => ?_, fun h7 => ?_⟩)
  · rw [← fl_setI (by rw [h.1]; exact hnum)]
    show va_at _ vwCl (a, .inr (S.K a, _)) H1
    rw [h.1]; exact hat
  · have h7 : 12 ≤ S.K a := h7
    omega
theorem j_putZ {idx a : Nat} {x : Int} (ci k : Nat) {P : Prop} (hF : FLk own idx ci k false true .boolean) (hd : decode cc pc = .ok (.putfield idx, 3)) (h : (S.K a = ci ∧ B01 x) ∧ P) (kk : P → Jw Fz own cc nL ret hh y d S0 (S.setI a k x) (pc + 3) lv st Q) : Jw Fz own cc nL ret hh y d S0 S pc lv (vI x :: vA a :: st) Q := by
  have h12 : ci < 12 := by obtain ⟨C, T, N, ty, hc, hin, hty, hnm, hN, hk, h12, -⟩ := hF; exact h12
  have hnum : (ftI ci)[k]? = some true := by obtain ⟨C, T, N, ty, hc, hin, hty, hnm, hN, hk, h12, hlk, hfin, hC, hnum, htk⟩ := hF; exact hnum
  obtain ⟨⟨h1, hx01⟩, h2⟩ := h
  have hk21 : S.K a < 21 := by rw [h1]; omega
  refine j_wr (S1 := S.setI a k x) (a := a) hk21 ⟨Nat.le_refl _, Nat.le_refl _, rfl⟩ ⟨rfl, rfl⟩ (fun hx hb ho ht hK _ hR w => ?_) (kk h2)
  refine w_put hx hb hF ht ho hK (hR.obj h1 h12) (by rcases hx01 with q | q <;> subst q <;> rfl) (by rcases hx01 with q | q <;> subst q <;> rfl) (by rw [fl_len, h1]) hd (fun H1 i hz hq hat => w H1 i hz hq ?_)
  refine hR.put hz hq rfl rfl rfl ot_setI (fun _ => ⟨fun _ => ?_, fun h7 => ?_⟩)
  · rw [← fl_setI (by rw [h1]; exact hnum)]
    show va_at _ vwCl (a, .inr (S.K a, _)) H1
    rw [h1]; exact hat
  · have h7 : 12 ≤ S.K a := h7
    omega
theorem j_putFI {idx a : Nat} {x : Int} (ci k : Nat) {P : Prop} (hF : FLk own idx ci k true true .int) (hoc : ∀ q, vwCl[ci]? = some q → q.1 = own) (hin : y.name = "<init>") (hd : decode cc pc = .ok (.putfield idx, 3)) (h : S.K a = ci ∧ P) (kk : P → Jw Fz own cc nL ret hh y d S0 (S.setI a k x) (pc + 3) lv st Q) : Jw Fz own cc nL ret hh y d S0 S pc lv (vI x :: vA a :: st) Q := by
  have h12 : ci < 12 := by obtain ⟨C, T, N, ty, hc, hin, hty, hnm, hN, hk, h12, -⟩ := hF; exact h12
  have hnum : (ftI ci)[k]? = some true := by obtain ⟨C, T, N, ty, hc, hin, hty, hnm, hN, hk, h12, hlk, hfin, hC, hnum, htk⟩ := hF; exact hnum
  have hk21 : S.K a < 21 := by rw [h.1]; omega
  refine j_wr (S1 := S.setI a k x) (a := a) hk21 ⟨Nat.le_refl _, Nat.le_refl _, rfl⟩ ⟨rfl, rfl⟩ (fun hx hb ho ht hK hme hR w => ?_) (kk h.2)
  refine w_putF hx hb hF ht ho hoc (hme.trans hin) hK (hR.obj h.1 h12) rfl rfl (by rw [fl_len, h.1]) hd (fun H1 i hz hq hat => w H1 i hz hq ?_)
  refine hR.put hz hq rfl rfl rfl ot_setI (fun _ => ⟨fun _ => ?_, fun h7 => ?_⟩)
  · rw [← fl_setI (by rw [h.1]; exact hnum)]
    show va_at _ vwCl (a, .inr (S.K a, _)) H1
    rw [h.1]; exact hat
  · have h7 : 12 ≤ S.K a := h7
    omega
theorem j_putFR {idx a b : Nat} (ci k : Nat) {t : FieldType} {P : Prop} (hF : FLk own idx ci k true false t) (hoc : ∀ q, vwCl[ci]? = some q → q.1 = own) (hin : y.name = "<init>") (hn : ∀ b, narrow t (.ref b) = .ref b ∧ fits t (.ref b) = true) (hd : decode cc pc = .ok (.putfield idx, 3)) (h : S.K a = ci ∧ P) (kk : P → Jw Fz own cc nL ret hh y d S0 (S.setR a k (some b)) (pc + 3) lv st Q) : Jw Fz own cc nL ret hh y d S0 S pc lv (vA b :: vA a :: st) Q := by
  have h12 : ci < 12 := by obtain ⟨C, T, N, ty, hc, hin, hty, hnm, hN, hk, h12, -⟩ := hF; exact h12
  have hnum : (ftI ci)[k]? = some false := by obtain ⟨C, T, N, ty, hc, hin, hty, hnm, hN, hk, h12, hlk, hfin, hC, hnum, htk⟩ := hF; exact hnum
  have hk21 : S.K a < 21 := by rw [h.1]; omega
  refine j_wr (S1 := S.setR a k (some b)) (a := a) hk21 ⟨Nat.le_refl _, Nat.le_refl _, rfl⟩ ⟨rfl, rfl⟩ (fun hx hb ho ht hK hme hR w => ?_) (kk h.2)
  refine w_putF hx hb hF ht ho hoc (hme.trans hin) hK (hR.obj h.1 h12) (hn b).1 (hn b).2 (by rw [fl_len, h.1]) hd (fun H1 i hz hq hat => w H1 i hz hq ?_)
  refine hR.put hz hq rfl rfl rfl ot_setR (fun _ => ⟨fun _ => ?_, fun h7 => ?_⟩)
  · rw [← fl_setR (by rw [h.1]; exact hnum)]
    show va_at _ vwCl (a, .inr (S.K a, _)) H1
    rw [h.1]; exact hat
  · have h7 : 12 ≤ S.K a := h7
    omega
end JH
end
section
theorem arr_i {S : MS} {a : Nat} (h : S.K a < 17) (h2 : S.K a ≠ 14) : S.arr a = (S.N a, .inl (fun j => Int32.ofInt (S.I a j))) := by simp [MS.arr, h, h2]
theorem arr_l {S : MS} {a : Nat} (h : S.K a = 14) : S.arr a = (S.N a, .inr (.inl (fun j => Int64.ofBitVec (S.J a j)))) := by simp [MS.arr, h]
theorem arr_q {S : MS} {a : Nat} (h : 17 ≤ S.K a) : S.arr a = (S.N a, .inr (.inr (.inr (.inr (S.R a))))) := by
  have h1 : ¬ S.K a = 14 := by omega
  have h2 : ¬ S.K a < 17 := by omega
  simp [MS.arr, h1, h2]
theorem Rep.arr {D : va_G} {b0 : Nat} {S : MS} {U : State} {H : Heap} {a : Nat} (h : Rep D b0 S U H) (h1 : 12 ≤ S.K a) (h2 : S.K a < 21) : ∃ cA, (ArrOfT U cA (ety (S.K a)) ∧ va_RA U cA (ety (S.K a))) ∧ H[a]? = some (vp_cell cA (S.arr a)) := (h.2.2 a h2).2.2.2.2 h1
theorem Rep.ws {D : va_G} {H : Heap} {a : Nat} {cA : ClassId} {A : vp_A} (h : H[a]? = some (vp_cell cA A)) : va_P D vwCl [(a, .inl (cA, A))] H := by
  intro k q hq
  match k, hq with
  | 0, hq => cases hq; exact h
theorem va_K.ty1 {D : va_G} {U : State} (h : va_K D vwCl [] U) {cA : ClassId} {t : FieldType} (ht : ArrOfT U cA t ∧ va_RA U cA t) : va_K D vwCl [(cA, t)] U := by
  refine ⟨h.1, fun k q hq => ?_⟩
  match k, hq with
  | 0, hq => cases hq; exact ht
section JA
variable {Fz : FinT} {own : String} {cc : ByteArray} {nL : Nat} {ret : Option FieldType} {hh : List (Nat × Nat × Nat × Nat)} {y : MethodName} {d : Nat} {S0 S : MS} {pc : Nat} {lv : List (Nat × Value)} {st : List Value} {Q : Out → MS → Prop}
theorem j_alen {a : Nat} {P : Prop} (hd : decode cc pc = .ok (.arraylength, 1)) (h : (12 ≤ S.K a ∧ S.K a < 21) ∧ P) (k : P → Jw Fz own cc nL ret hh y d S0 S (pc + 1) lv (vI (S.N a) :: st) Q) : Jw Fz own cc nL ret hh y d S0 S pc lv (vA a :: st) Q := by
  refine j_rd (fun hx hb ho ht hK hR w => ?_) (k h.2)
  obtain ⟨cA, q1, q2⟩ := hR.arr h.1.1 h.1.2
  refine va_alen hx hb (hK.ty1 q1) (Rep.ws q2) 0 0 rfl rfl (v := Int32.ofInt (S.N a)) ?_ hd w
  have e : (S.arr a).1 = S.N a := by unfold MS.arr; repeat' split <;> try rfl
  rw [e, Int32.ofInt_eq_ofNat]
theorem j_iald {a : Nat} {i : Int} {P : Prop} (hd : decode cc pc = .ok (.iaload, 1)) (h : (S.K a = 13 ∧ 0 ≤ i ∧ i < S.N a) ∧ P) (k : P → Jw Fz own cc nL ret hh y d S0 S (pc + 1) lv (vI (S.I a i.toNat) :: st) Q) : Jw Fz own cc nL ret hh y d S0 S pc lv (vI i :: vA a :: st) Q := by
  obtain ⟨⟨h1, h2, h3⟩, h4⟩ := h
  refine j_rd (fun hx hb ho ht hK hR w => ?_) (k h4)
  obtain ⟨cA, q1, q2⟩ := hR.arr (a := a) (by omega) (by omega)
  rw [arr_i (by omega) (by omega)] at q2
  rw [h1] at q1
  obtain ⟨g1, g2, g3⟩ := r32_in (hR.2.2 a (by omega)).2.2.1 h2 h3
  refine va_iald hx hb (hK.ty1 q1) (Rep.ws q2) 0 0 rfl rfl g2 hd ?_
  rw [g3]; exact w
theorem j_bald {a : Nat} {i : Int} {P : Prop} (hd : decode cc pc = .ok (.baload, 1)) (h : (S.K a = 12 ∧ 0 ≤ i ∧ i < S.N a) ∧ P) (k : P → Jw Fz own cc nL ret hh y d S0 S (pc + 1) lv (vI (S.I a i.toNat) :: st) Q) : Jw Fz own cc nL ret hh y d S0 S pc lv (vI i :: vA a :: st) Q := by
  obtain ⟨⟨h1, h2, h3⟩, h4⟩ := h
  refine j_rd (fun hx hb ho ht hK hR w => ?_) (k h4)
  obtain ⟨cA, q1, q2⟩ := hR.arr (a := a) (by omega) (by omega)
  rw [arr_i (by omega) (by omega)] at q2
  rw [h1] at q1
  obtain ⟨g1, g2, g3⟩ := r32_in (hR.2.2 a (by omega)).2.2.1 h2 h3
  refine va_bald hx hb (hK.ty1 q1) (Rep.ws q2) 0 0 rfl rfl g2 hd ?_
  rw [g3]; exact w
theorem j_zald {a : Nat} {i : Int} {P : Prop} (hd : decode cc pc = .ok (.baload, 1)) (h : (S.K a = 16 ∧ 0 ≤ i ∧ i < S.N a) ∧ P) (k : P → Jw Fz own cc nL ret hh y d S0 S (pc + 1) lv (vI (S.I a i.toNat) :: st) Q) : Jw Fz own cc nL ret hh y d S0 S pc lv (vI i :: vA a :: st) Q := by
  obtain ⟨⟨h1, h2, h3⟩, h4⟩ := h
  refine j_rd (fun hx hb ho ht hK hR w => ?_) (k h4)
  obtain ⟨cA, q1, q2⟩ := hR.arr (a := a) (by omega) (by omega)
  rw [arr_i (by omega) (by omega)] at q2
  rw [h1] at q1
  obtain ⟨g1, g2, g3⟩ := r32_in (hR.2.2 a (by omega)).2.2.1 h2 h3
  refine va_zald hx hb (hK.ty1 q1) (Rep.ws q2) 0 0 rfl rfl g2 hd ?_
  rw [g3]; exact w
theorem j_sald {a : Nat} {i : Int} {P : Prop} (hd : decode cc pc = .ok (.saload, 1)) (h : (S.K a = 15 ∧ 0 ≤ i ∧ i < S.N a) ∧ P) (k : P → Jw Fz own cc nL ret hh y d S0 S (pc + 1) lv (vI (S.I a i.toNat) :: st) Q) : Jw Fz own cc nL ret hh y d S0 S pc lv (vI i :: vA a :: st) Q := by
  obtain ⟨⟨h1, h2, h3⟩, h4⟩ := h
  refine j_rd (fun hx hb ho ht hK hR w => ?_) (k h4)
  obtain ⟨cA, q1, q2⟩ := hR.arr (a := a) (by omega) (by omega)
  rw [arr_i (by omega) (by omega)] at q2
  rw [h1] at q1
  obtain ⟨g1, g2, g3⟩ := r32_in (hR.2.2 a (by omega)).2.2.1 h2 h3
  refine va_sald hx hb (hK.ty1 q1) (Rep.ws q2) 0 0 rfl rfl g2 hd ?_
  rw [g3]; exact w
theorem j_lald {a : Nat} {i : Int} {P : Prop} (hd : decode cc pc = .ok (.laload, 1)) (h : (S.K a = 14 ∧ 0 ≤ i ∧ i < S.N a) ∧ P) (k : P → Jw Fz own cc nL ret hh y d S0 S (pc + 1) lv (vL (S.J a i.toNat) :: st) Q) : Jw Fz own cc nL ret hh y d S0 S pc lv (vI i :: vA a :: st) Q := by
  obtain ⟨⟨h1, h2, h3⟩, h4⟩ := h
  refine j_rd (fun hx hb ho ht hK hR w => ?_) (k h4)
  obtain ⟨cA, q1, q2⟩ := hR.arr (a := a) (by omega) (by omega)
  rw [arr_l h1] at q2
  rw [h1] at q1
  obtain ⟨g1, g2, g3⟩ := r32_in (hR.2.2 a (by omega)).2.2.1 h2 h3
  refine va_lald hx hb (hK.ty1 q1) (Rep.ws q2) 0 0 rfl rfl g2 hd ?_
  rw [g3]; exact w
theorem j_aald {a : Nat} {i : Int} (kd : Nat) {P : Nat → Prop} (hd : decode cc pc = .ok (.aaload, 1)) (h : (S.K a = kd ∧ (17 ≤ kd ∧ kd < 21) ∧ 0 ≤ i ∧ i < S.N a) ∧ ∃ b, S.R a i.toNat = some b ∧ P b) (k : ∀ b, P b → Jw Fz own cc nL ret hh y d S0 S (pc + 1) lv (vA b :: st) Q) : Jw Fz own cc nL ret hh y d S0 S pc lv (vI i :: vA a :: st) Q := by
  obtain ⟨⟨h1, hkd, h2, h3⟩, b, h4, h5⟩ := h
  refine j_rd (fun hx hb ho ht hK hR w => ?_) (k b h5)
  obtain ⟨cA, q1, q2⟩ := hR.arr (a := a) (by omega) (by omega)
  rw [arr_q (by omega)] at q2
  obtain ⟨g1, g2, g3⟩ := r32_in (hR.2.2 a (by omega)).2.2.1 h2 h3
  have hlt : (Int32.ofInt i).toNatClampNeg < S.N a := Nat.not_le.mp fun q => g2 (Or.inr q)
  refine W.aald (v := vA b) (ty := ety (S.K a)) hx hb q2 (q1.1 (S.N a) (fun j => va_rf (S.R a j))) (by rcases (show S.K a = 17 ∨ S.K a = 18 ∨ S.K a = 19 ∨ S.K a = 20 by omega) with q | q | q | q <;> rw [q] <;> rfl) (fun q => by cases q) (by show ¬ (_ ∨ (arrV _ _ _).slots.size ≤ _); rw [arrV_size]; exact g2) ?_ rfl rfl hd w
  show (arrV _ _ _).slots[_]? = _
  rw [arrV_read _ _ hlt, g3, h4]; rfl
theorem j_aaldN {a : Nat} {i : Int} (kd : Nat) {P : Prop} {P2 : Nat → Prop} {off : Int} {tgt : Nat} (hd : decode cc pc = .ok (.aaload, 1)) (hd2 : decode cc (pc + 1) = .ok (.ifnonnull off, 3)) (ht2 : ((pc + 1 : Nat) : Int) + off = (tgt : Int)) (h : (S.K a = kd ∧ (17 ≤ kd ∧ kd < 21) ∧ 0 ≤ i ∧ i < S.N a) ∧ (S.R a i.toNat = none → P) ∧ (∀ b, S.R a i.toNat = some b → P2 b)) (k : P → Jw Fz own cc nL ret hh y d S0 S (pc + 4) lv st Q) (k2 : ∀ b, P2 b → Jw Fz own cc nL ret hh y d S0 S tgt lv st Q) : Jw Fz own cc nL ret hh y d S0 S pc lv (vI i :: vA a :: st) Q := by
  obtain ⟨⟨h1, hkd, h2, h3⟩, h4, h5⟩ := h
  cases hr : S.R a i.toNat with
  | none =>
    refine j_rd (fun hx hb ho ht hK hR w => ?_) (k (h4 hr))
    obtain ⟨cA, q1, q2⟩ := hR.arr (a := a) (by omega) (by omega)
    rw [arr_q (by omega)] at q2
    obtain ⟨g1, g2, g3⟩ := r32_in (hR.2.2 a (by omega)).2.2.1 h2 h3
    have hlt : (Int32.ofInt i).toNatClampNeg < S.N a := Nat.not_le.mp fun q => g2 (Or.inr q)
    refine W.aald (v := .null) (ty := ety (S.K a)) hx hb q2 (q1.1 (S.N a) (fun j => va_rf (S.R a j))) (by rcases (show S.K a = 17 ∨ S.K a = 18 ∨ S.K a = 19 ∨ S.K a = 20 by omega) with q | q | q | q <;> rw [q] <;> rfl) (fun q => by cases q) (by show ¬ (_ ∨ (arrV _ _ _).slots.size ≤ _); rw [arrV_size]; exact g2) ?_ rfl rfl hd (lv_ifnonnullN hx hb hd2 w)
    show (arrV _ _ _).slots[_]? = _
    rw [arrV_read _ _ hlt, g3, hr]; rfl
  | some b =>
    refine j_rd (fun hx hb ho ht hK hR w => ?_) (k2 b (h5 b hr))
    obtain ⟨cA, q1, q2⟩ := hR.arr (a := a) (by omega) (by omega)
    rw [arr_q (by omega)] at q2
    obtain ⟨g1, g2, g3⟩ := r32_in (hR.2.2 a (by omega)).2.2.1 h2 h3
    have hlt : (Int32.ofInt i).toNatClampNeg < S.N a := Nat.not_le.mp fun q => g2 (Or.inr q)
    refine W.aald (v := vA b) (ty := ety (S.K a)) hx hb q2 (q1.1 (S.N a) (fun j => va_rf (S.R a j))) (by rcases (show S.K a = 17 ∨ S.K a = 18 ∨ S.K a = 19 ∨ S.K a = 20 by omega) with q | q | q | q <;> rw [q] <;> rfl) (fun q => by cases q) (by show ¬ (_ ∨ (arrV _ _ _).slots.size ≤ _); rw [arrV_size]; exact g2) ?_ rfl rfl hd (lv_ifnonnull hx hb hd2 ht2 w)
    show (arrV _ _ _).slots[_]? = _
    rw [arrV_read _ _ hlt, g3, hr]; rfl
theorem j_iast {a : Nat} {i x : Int} {P : Prop} (hd : decode cc pc = .ok (.iastore, 1)) (h : (S.K a = 13 ∧ 0 ≤ i ∧ i < S.N a) ∧ P) (k : P → Jw Fz own cc nL ret hh y d S0 (S.setI a i.toNat (x)) (pc + 1) lv st Q) : Jw Fz own cc nL ret hh y d S0 S pc lv (vI x :: vI i :: vA a :: st) Q := by
  obtain ⟨⟨h1, h2, h3⟩, h4⟩ := h
  refine j_wr (S1 := S.setI a i.toNat (x)) (a := a) (by omega) ⟨Nat.le_refl _, Nat.le_refl _, rfl⟩ ⟨rfl, rfl⟩ (fun hx hb ho ht hK _ hR w => ?_) (k h4)
  obtain ⟨cA, q1, q2⟩ := hR.arr (a := a) (by omega) (by omega)
  rw [arr_i (by omega) (by omega)] at q2
  rw [h1] at q1
  obtain ⟨g1, g2, g3⟩ := r32_in (hR.2.2 a (by omega)).2.2.1 h2 h3
  refine W.iast hx hb q2 (q1.1 (S.N a) (fun j => .int (Int32.ofInt (S.I a j)))) (fun q => by cases q) (by show ¬ (_ ∨ (arrV _ _ _).slots.size ≤ _); rw [arrV_size]; exact g2) rfl rfl hd fun H1 e z oq => w H1 _ z oq ?_
  refine hR.put z oq rfl rfl rfl ot_setI (fun _ => ⟨fun h7 => ?_, fun _ => ⟨cA, ?_, ?_⟩⟩)
  · have h7 : S.K a < 12 := h7
    omega
  · show ArrOfT _ cA (ety (S.K a)) ∧ va_RA _ cA (ety (S.K a))
    rw [h1]; exact q1
  · rw [e, arr_i (S := S.setI a i.toNat (x)) (a := a) (show S.K a < 17 by omega) (show S.K a ≠ 14 by omega), vp_cell_i, vp_cell_i, arrV_store]
    refine congrArg some (congrArg (arrV cA (S.N a)) (funext fun q => ?_))
    show updV _ _ _ q = Value.int (Int32.ofInt (up2 S.I a i.toNat (x) a q))
    rw [g3]
    by_cases hq : q = i.toNat
    · subst hq
      simp [updV, up2, up1]
    · simp [updV, up2, up1, hq]
theorem j_bast {a : Nat} {i x : Int} {P : Prop} (hd : decode cc pc = .ok (.bastore, 1)) (h : (S.K a = 12 ∧ 0 ≤ i ∧ i < S.N a) ∧ P) (k : P → Jw Fz own cc nL ret hh y d S0 (S.setI a i.toNat (i2B x)) (pc + 1) lv st Q) : Jw Fz own cc nL ret hh y d S0 S pc lv (vI x :: vI i :: vA a :: st) Q := by
  obtain ⟨⟨h1, h2, h3⟩, h4⟩ := h
  refine j_wr (S1 := S.setI a i.toNat (i2B x)) (a := a) (by omega) ⟨Nat.le_refl _, Nat.le_refl _, rfl⟩ ⟨rfl, rfl⟩ (fun hx hb ho ht hK _ hR w => ?_) (k h4)
  obtain ⟨cA, q1, q2⟩ := hR.arr (a := a) (by omega) (by omega)
  rw [arr_i (by omega) (by omega)] at q2
  rw [h1] at q1
  obtain ⟨g1, g2, g3⟩ := r32_in (hR.2.2 a (by omega)).2.2.1 h2 h3
  refine W.bast hx hb q2 (q1.1 (S.N a) (fun j => .int (Int32.ofInt (S.I a j)))) (fun q => by cases q) (by show ¬ (_ ∨ (arrV _ _ _).slots.size ≤ _); rw [arrV_size]; exact g2) rfl rfl hd fun H1 e z oq => w H1 _ z oq ?_
  refine hR.put z oq rfl rfl rfl ot_setI (fun _ => ⟨fun h7 => ?_, fun _ => ⟨cA, ?_, ?_⟩⟩)
  · have h7 : S.K a < 12 := h7
    omega
  · show ArrOfT _ cA (ety (S.K a)) ∧ va_RA _ cA (ety (S.K a))
    rw [h1]; exact q1
  · rw [e, arr_i (S := S.setI a i.toNat (i2B x)) (a := a) (show S.K a < 17 by omega) (show S.K a ≠ 14 by omega), vp_cell_i, vp_cell_i, arrV_store]
    refine congrArg some (congrArg (arrV cA (S.N a)) (funext fun q => ?_))
    show updV _ _ _ q = Value.int (Int32.ofInt (up2 S.I a i.toNat (i2B x) a q))
    rw [g3]
    by_cases hq : q = i.toNat
    · subst hq
      rw [up2_eq, up1_eq]
      simp only [updV, ↓reduceIte]
      rw [i2B, Int32.ofInt_toInt]
      rfl
    · simp [updV, up2, up1, hq]
theorem j_sast {a : Nat} {i x : Int} {P : Prop} (hd : decode cc pc = .ok (.sastore, 1)) (h : (S.K a = 15 ∧ 0 ≤ i ∧ i < S.N a) ∧ P) (k : P → Jw Fz own cc nL ret hh y d S0 (S.setI a i.toNat (i2S x)) (pc + 1) lv st Q) : Jw Fz own cc nL ret hh y d S0 S pc lv (vI x :: vI i :: vA a :: st) Q := by
  obtain ⟨⟨h1, h2, h3⟩, h4⟩ := h
  refine j_wr (S1 := S.setI a i.toNat (i2S x)) (a := a) (by omega) ⟨Nat.le_refl _, Nat.le_refl _, rfl⟩ ⟨rfl, rfl⟩ (fun hx hb ho ht hK _ hR w => ?_) (k h4)
  obtain ⟨cA, q1, q2⟩ := hR.arr (a := a) (by omega) (by omega)
  rw [arr_i (by omega) (by omega)] at q2
  rw [h1] at q1
  obtain ⟨g1, g2, g3⟩ := r32_in (hR.2.2 a (by omega)).2.2.1 h2 h3
  refine W.sast hx hb q2 (q1.1 (S.N a) (fun j => .int (Int32.ofInt (S.I a j)))) (fun q => by cases q) (by show ¬ (_ ∨ (arrV _ _ _).slots.size ≤ _); rw [arrV_size]; exact g2) rfl rfl hd fun H1 e z oq => w H1 _ z oq ?_
  refine hR.put z oq rfl rfl rfl ot_setI (fun _ => ⟨fun h7 => ?_, fun _ => ⟨cA, ?_, ?_⟩⟩)
  · have h7 : S.K a < 12 := h7
    omega
  · show ArrOfT _ cA (ety (S.K a)) ∧ va_RA _ cA (ety (S.K a))
    rw [h1]; exact q1
  · rw [e, arr_i (S := S.setI a i.toNat (i2S x)) (a := a) (show S.K a < 17 by omega) (show S.K a ≠ 14 by omega), vp_cell_i, vp_cell_i, arrV_store]
    refine congrArg some (congrArg (arrV cA (S.N a)) (funext fun q => ?_))
    show updV _ _ _ q = Value.int (Int32.ofInt (up2 S.I a i.toNat (i2S x) a q))
    rw [g3]
    by_cases hq : q = i.toNat
    · subst hq
      rw [up2_eq, up1_eq]
      simp only [updV, ↓reduceIte]
      rw [i2S, Int32.ofInt_toInt]
      rfl
    · simp [updV, up2, up1, hq]
theorem j_zast {a : Nat} {i x : Int} {P : Prop} (hd : decode cc pc = .ok (.bastore, 1)) (h : (S.K a = 16 ∧ 0 ≤ i ∧ i < S.N a ∧ B01 x) ∧ P) (k : P → Jw Fz own cc nL ret hh y d S0 (S.setI a i.toNat (x)) (pc + 1) lv st Q) : Jw Fz own cc nL ret hh y d S0 S pc lv (vI x :: vI i :: vA a :: st) Q := by
  obtain ⟨⟨h1, h2, h3, hx01⟩, h4⟩ := h
  refine j_wr (S1 := S.setI a i.toNat (x)) (a := a) (by omega) ⟨Nat.le_refl _, Nat.le_refl _, rfl⟩ ⟨rfl, rfl⟩ (fun hx hb ho ht hK _ hR w => ?_) (k h4)
  obtain ⟨cA, q1, q2⟩ := hR.arr (a := a) (by omega) (by omega)
  rw [arr_i (by omega) (by omega)] at q2
  rw [h1] at q1
  obtain ⟨g1, g2, g3⟩ := r32_in (hR.2.2 a (by omega)).2.2.1 h2 h3
  refine W.zast hx hb q2 (q1.1 (S.N a) (fun j => .int (Int32.ofInt (S.I a j)))) (fun q => by cases q) (by show ¬ (_ ∨ (arrV _ _ _).slots.size ≤ _); rw [arrV_size]; exact g2) rfl rfl hd fun H1 e z oq => w H1 _ z oq ?_
  refine hR.put z oq rfl rfl rfl ot_setI (fun _ => ⟨fun h7 => ?_, fun _ => ⟨cA, ?_, ?_⟩⟩)
  · have h7 : S.K a < 12 := h7
    omega
  · show ArrOfT _ cA (ety (S.K a)) ∧ va_RA _ cA (ety (S.K a))
    rw [h1]; exact q1
  · rw [e, arr_i (S := S.setI a i.toNat (x)) (a := a) (show S.K a < 17 by omega) (show S.K a ≠ 14 by omega), vp_cell_i, vp_cell_i, arrV_store]
    refine congrArg some (congrArg (arrV cA (S.N a)) (funext fun q => ?_))
    show updV _ _ _ q = Value.int (Int32.ofInt (up2 S.I a i.toNat (x) a q))
    rw [g3]
    by_cases hq : q = i.toNat
    · subst hq
      rcases hx01 with r | r <;> subst r <;> simp [updV, up2, up1] <;> rfl
    · simp [updV, up2, up1, hq]
theorem j_last {a : Nat} {i : Int} {x : BitVec 64} {P : Prop} (hd : decode cc pc = .ok (.lastore, 1)) (h : (S.K a = 14 ∧ 0 ≤ i ∧ i < S.N a) ∧ P) (k : P → Jw Fz own cc nL ret hh y d S0 (S.setJ a i.toNat x) (pc + 1) lv st Q) : Jw Fz own cc nL ret hh y d S0 S pc lv (vL x :: vI i :: vA a :: st) Q := by
  obtain ⟨⟨h1, h2, h3⟩, h4⟩ := h
  refine j_wr (S1 := S.setJ a i.toNat x) (a := a) (by omega) ⟨Nat.le_refl _, Nat.le_refl _, rfl⟩ ⟨rfl, rfl⟩ (fun hx hb ho ht hK _ hR w => ?_) (k h4)
  obtain ⟨cA, q1, q2⟩ := hR.arr (a := a) (by omega) (by omega)
  rw [arr_l h1] at q2
  rw [h1] at q1
  obtain ⟨g1, g2, g3⟩ := r32_in (hR.2.2 a (by omega)).2.2.1 h2 h3
  refine W.last hx hb q2 (q1.1 (S.N a) (fun j => .long (Int64.ofBitVec (S.J a j)))) (fun q => by cases q) (by show ¬ (_ ∨ (arrV _ _ _).slots.size ≤ _); rw [arrV_size]; exact g2) rfl rfl hd fun H1 e z oq => w H1 _ z oq ?_
  refine hR.put z oq rfl rfl rfl ot_setJ (fun _ => ⟨fun h7 => ?_, fun _ => ⟨cA, ?_, ?_⟩⟩)
  · have h7 : S.K a < 12 := h7
    omega
  · show ArrOfT _ cA (ety (S.K a)) ∧ va_RA _ cA (ety (S.K a))
    rw [h1]; exact q1
  · rw [e, arr_l (S := S.setJ a i.toNat x) (a := a) (show S.K a = 14 from h1), vp_cell_l, vp_cell_l, arrV_store]
    refine congrArg some (congrArg (arrV cA (S.N a)) (funext fun q => ?_))
    show updV _ _ _ q = Value.long (Int64.ofBitVec (up2 S.J a i.toNat x a q))
    rw [g3]
    by_cases hq : q = i.toNat
    · subst hq
      simp [updV, up2, up1]
    · simp [updV, up2, up1, hq]
end JA
end
section
theorem Cx.ret {own : String} {cc : ByteArray} {nL : Nat} {ret : Option FieldType} {hh : List (Nat × Nat × Nat × Nat)} {y : MethodName} {d : Nat} {T : Nat → Nat} {b0 : Nat} {D : va_G} {p : Program} {l : Launch} {R : Room} {s : State} {m : MethodId} {args : Array Value} {meth : Method} {c : Code} (C : Cx own cc nL ret hh y d T b0 D p l R s m args meth c) : meth.sig.returnType = ret ∧ meth.locks = false ∧ c.exceptionTable.toList = tableOf hh := ⟨C.2.2.2.2.2.1, C.2.2.2.2.2.2.1, C.2.2.2.2.2.2.2.1⟩
section JR
variable {own : String} {cc : ByteArray} {nL : Nat} {ret : Option FieldType} {hh : List (Nat × Nat × Nat × Nat)} {y : MethodName} {d : Nat} {S0 S : MS} {pc : Nat} {lv : List (Nat × Value)} {st : List Value} {Q : Out → MS → Prop}
theorem j_iret {x : Int} (hr : ret = some .int) (hd : decode cc pc = .ok (.ireturn, 1)) (h : Q (.inl (some (vI x))) S) : Jw FinM own cc nL ret hh y d S0 S pc lv [vI x] Q := by
  refine ⟨_, S, h, leM.rf, fun C c1 c2 c3 hR hs hl => ?_⟩
  exact vx_ret (W.iret C.1 C.2.1 (C.ret.1.trans hr) (fun t ht hW => ⟨⟨_, rfl, rfl, by rw [ht]; exact hR.moved hW.alike⟩, hs.F ht⟩) hs.2.2 hd C.ret.2.1)
theorem j_zret {x : Int} (hr : ret = some .boolean) (hd : decode cc pc = .ok (.ireturn, 1)) (h : B01 x ∧ Q (.inl (some (vI x))) S) : Jw FinM own cc nL ret hh y d S0 S pc lv [vI x] Q := by
  refine ⟨_, S, h.2, leM.rf, fun C c1 c2 c3 hR hs hl => ?_⟩
  exact vx_ret (W.zret C.1 C.2.1 (C.ret.1.trans hr) (by rcases h.1 with q | q <;> subst q <;> rfl) (fun t ht hW => ⟨⟨_, rfl, rfl, by rw [ht]; exact hR.moved hW.alike⟩, hs.F ht⟩) hs.2.2 hd C.ret.2.1)
theorem j_lret {x : BitVec 64} (hr : ret = some .long) (hd : decode cc pc = .ok (.lreturn, 1)) (h : Q (.inl (some (vL x))) S) : Jw FinM own cc nL ret hh y d S0 S pc lv [vL x] Q := by
  refine ⟨_, S, h, leM.rf, fun C c1 c2 c3 hR hs hl => ?_⟩
  exact vx_ret (W.lret C.1 C.2.1 (C.ret.1.trans hr) (fun t ht hW => ⟨⟨_, rfl, rfl, by rw [ht]; exact hR.moved hW.alike⟩, hs.F ht⟩) hs.2.2 hd C.ret.2.1)
theorem j_aret {x : Nat} {rt : FieldType} (hr : ret = some rt) (hrt : (∃ n, rt = .object n) ∨ ∃ t, rt = .array t) (hd : decode cc pc = .ok (.areturn, 1)) (h : Q (.inl (some (vA x))) S) : Jw FinM own cc nL ret hh y d S0 S pc lv [vA x] Q := by
  refine ⟨_, S, h, leM.rf, fun C c1 c2 c3 hR hs hl => ?_⟩
  exact vx_ret (W.aret C.1 C.2.1 (C.ret.1.trans hr) hrt (Or.inr ⟨x, rfl⟩) (fun t ht hW => ⟨⟨_, rfl, rfl, by rw [ht]; exact hR.moved hW.alike⟩, hs.F ht⟩) hs.2.2 hd C.ret.2.1)
theorem j_vret (hr : ret = none) (hd : decode cc pc = .ok (.return_, 1)) (h : Q (.inl none) S) : Jw FinM own cc nL ret hh y d S0 S pc lv [] Q := by
  refine ⟨_, S, h, leM.rf, fun C c1 c2 c3 hR hs hl => ?_⟩
  exact vx_ret (W.vret C.1 C.2.1 (C.ret.1.trans hr) (fun t ht hW => ⟨⟨_, rfl, rfl, by rw [ht]; exact hR.moved hW.alike⟩, hs.F ht⟩) hs.2.2 hd C.ret.2.1)
end JR
/-- a body gives its method -/
theorem Mw.ofJ {y : MethodName} {cc : ByteArray} {nL : Nat} {ret : Option FieldType} {d : Nat} {av : List Value} {S : MS} {Q : Out → MS → Prop} (hy : plainName y.cls = true) (hn : (lg_sl av).length ≤ nL) (h : Jw FinM y.cls cc nL ret [] y d S S 0 (lv_args 0 av) [] Q) : Mw (.code y cc nL ret) y d av S Q := by
  obtain ⟨o, S', h1, h2, h3⟩ := h
  refine ⟨o, S', h1, h2, fun l hl D b0 => ?_⟩
  refine vx_ofW (cc := cc) (maxL := nL) (ret := ret) hy rfl ?_
  intro p e s m args below meth c s₁ B hml htab hv
  obtain ⟨rfl, hb0, hR, hK, hWf⟩ := hv
  have hts := atoms_spec (ws := .code y cc nL ret :: TB) B.pre
  have hl0 := lv_entry av (n := nL) hn
  have key := h3 (p := p) (l := l) (e := e) (R := (headSpec (.code y cc nL ret :: TB) (rmOf d S S')).room) (s := s) (m := m) (args := av.toArray) (below := below) (meth := meth) (c := c) (D := D) (b0 := b0) (H := s.heap) (locs := []) (ls := _)
    ⟨B.exec, B.bytes, hml, findClass_of_methodNamed B.named, fun w hw => hts w (List.mem_cons_of_mem _ hw), B.returns, B.notSynchronized, List.eq_nil_iff_forall_not_mem.mpr (fun x hx => htab x hx), hK, hl, hb0, hWf, (name_of_methodNamed B.named B.method).1, Nat.le_refl _, Nat.le_refl _⟩
    leM.rf (Nat.le_refl _) (Nat.le_refl _) hR va_S.rf hl0
  rw [lg_entry_eq]
  rw [Nat.sub_self, Nat.sub_self] at key
  exact key
section WC
variable {p : Program} {l : Launch} {e : Env} {R : Room} {s : State} {m : MethodId} {args : Array Value} {below : List Frame} {meth : Method} {c : Code} {H : Heap} {locs : List Loc} {cells slots : Nat} {Qs : State → Prop} {pc : Nat} {ls : Array Slot} {st0 rest : List Value} {D : va_G} {b0 mc ms : Nat} {o : Out} {S1 : MS} {a : Array Value}
theorem w_call (hr : vx_Run p l e R s m args below meth c H locs cells slots mc ms (F0 m pc ls st0) rest (Qq o S1 D b0 a) (Xq o S1 D b0) (fun q => b0 ≤ q)) (hS : va_S (fun q => b0 ≤ q) s.heap H locs)
    (kx : ∀ (E : String) (ce : Cell) (q9 : Addr) (H1 : Heap) (locs1 : List Loc), o = .inr E → Rep D b0 S1 s H1 → va_S (fun q => b0 ≤ q) s.heap H1 locs1 → H1[q9]? = some ce → ce.vm = .none → s.vm.findClass E = some ce.cls → vx_W p l e R s m args below meth c H1 locs1 (cells + mc) (slots + ms) Qs (F0 m pc ls rest) q9)
    (kk : ∀ (v : Option Value) (H1 : Heap) (locs1 : List Loc), o = .inl v → Rep D b0 S1 s H1 → va_S (fun q => b0 ≤ q) s.heap H1 locs1 → W p l e R s m args below meth c H1 locs1 (cells + mc) (slots + ms) Qs (F0 m (pc + 3) ls (v.toList ++ rest))) : W p l e R s m args below meth c H locs cells slots Qs (F0 m pc ls st0) := by
  intro T hT X
  rcases hr T hT X with ⟨v, st₀, t, T', L, h0, X', hL, e1, e2, ⟨⟨v', ho, hv, hR⟩, hF⟩, stp⟩ | ⟨q, st₀, t, T', L, E, ce, h0, X', hL, e1, e2, ⟨ho, hR, hF⟩, hce, hcv, hcl, stp⟩
  · cases hv
    obtain ⟨k1, k2, k3⟩ := vx_keep h0 e1 hS (fun q _ h => h) (fun q h => h) hL hF
    have hal : t.vm.Alike s.vm := (by rw [← e2]; exact X'.warmed.alike.symm)
    obtain ⟨t2, a1, b1⟩ := kk v T'.heap (locs ++ L) ho (by rw [e1]; exact hR.moved hal) k3 T' rfl X'
    exact ⟨t2, stp t2 a1, b1⟩
  · obtain ⟨k1, k2, k3⟩ := vx_keep h0 e1 hS (fun q _ h => h) (fun q h => h) hL hF
    have hal : t.vm.Alike s.vm := (by rw [← e2]; exact X'.warmed.alike.symm)
    obtain ⟨t2, a1, b1⟩ := kx E ce q T'.heap (locs ++ L) ho (by rw [e1]; exact hR.moved hal) k3 (by rw [e1]; exact hce) hcv hcl T' rfl X'
    exact ⟨t2, stp.trans a1, b1⟩
theorem run_of {g : JFrame} {free : Addr → Prop} {Qa : State → Outcome → State → Prop} {XC : String → State → State → Prop} (h : va_Run p l e R s m args below meth c H locs cells slots mc ms g rest Qa free) : vx_Run p l e R s m args below meth c H locs cells slots mc ms g rest Qa XC free := fun T hT X => Or.inl (h T hT X)
end WC
theorem met_of {l : Launch} {y : MethodName} {ws : List Cond} {rm : Room} {P : Array Value → State → Prop} {v : Option Value} {S1 : MS} {D : va_G} {b0 mc ms : Nat} {free : Addr → Prop} (h : vx_Met l y ws rm P (Qq (.inl v) S1 D b0) (Xq (.inl v) S1 D b0) mc ms free) : Met l y ws rm P (Qq (.inl v) S1 D b0) mc ms free := by
  refine MetFree.mono h (fun _ _ h => h) (fun _ _ _ _ _ h => h) (fun a s o s' _ hq => ?_)
  rcases hq with hq | ⟨q, -, E, ce, L, ⟨hx, -⟩, -⟩
  · exact hq
  · cases hx
theorem pq_blind {av : List Value} {S : MS} {D : va_G} {b0 : Nat} : FrameBlind (Pq av S D b0) := by
  intro a U g mk h
  obtain ⟨h0, h1, h2, h3, h4⟩ := h
  exact ⟨h0, h1, h2.moved (U := U.calling g mk a) (Vm.Alike.refl U.vm), va_K.moved (u := U) (U := U.calling g mk a) (Vm.Alike.refl U.vm) h3, Wf.next h4 (State.WarmedH.refl U) (Nat.le_refl _) (fun q _ _ => rfl)⟩
theorem pq_at {av : List Value} {S : MS} {D : va_G} {b0 : Nat} {s U : State} {H : Heap} {locs : List Loc} (hb : b0 ≤ s.heap.size) (hK : va_K D vwCl [] s) (hWf : Wf b0 S.T s) (hR : Rep D b0 S s H) (hS : va_S (fun q => b0 ≤ q) s.heap H locs) (hU : U.heap = H) (hW : s.WarmedH U.vm) : Pq av S D b0 av.toArray U :=
  ⟨rfl, by rw [hU]; exact Nat.le_trans hb hS.1, by rw [hU]; exact hR.moved hW.alike, va_K.moved hW.alike hK, hWf.next hW (by rw [hU]; exact hS.1) (fun q h1 h2 => by rw [hU]; exact hS.2.1 q h1 h2)⟩
/-- with an exception of the class E thrown over the frame at pc -/
def JX (Fz : FinT) (own : String) (cc : ByteArray) (nL : Nat) (ret : Option FieldType) (hh : List (Nat × Nat × Nat × Nat)) (y : MethodName) (d : Nat) (S0 S : MS) (pc : Nat) (lv : List (Nat × Value)) (rest : List Value) (E : String) (Q : Out → MS → Prop) : Prop :=
  ∃ (o : Out) (S' : MS), Q o S' ∧ leM S S' ∧ ∀ {p : Program} {l : Launch} {e : Env} {R : Room} {s : State} {m : MethodId} {args : Array Value} {below : List Frame} {meth : Method} {c : Code} {D : va_G} {b0 : Nat} {H : Heap} {locs : List Loc} {ls : Array Slot} {ce : Cell} {q : Addr},
    Cx own cc nL ret hh y d S.T b0 D p l R s m args meth c → leM S0 S → S'.nx - S0.nx ≤ R.cells → S'.us - S0.us ≤ R.slots → Rep D b0 S s H → va_S (fun q => b0 ≤ q) s.heap H locs → lv_has ls nL lv → H[q]? = some ce → ce.vm = .none → s.vm.findClass E = some ce.cls →
    vx_W p l e R s m args below meth c H locs (S.nx - S0.nx) (S.us - S0.us) (Fz o S' D b0 below args s (S'.nx - S0.nx) (S'.us - S0.us)) (F0 m pc ls rest) q
section JC
variable {Fz : FinT} {own : String} {cc : ByteArray} {nL : Nat} {ret : Option FieldType} {hh : List (Nat × Nat × Nat × Nat)} {y : MethodName} {d : Nat} {S0 S : MS} {pc : Nat} {lv : List (Nat × Value)} {st : List Value} {Q : Out → MS → Prop}
theorem jx_out {E : String} {rest : List Value} (h : Q (.inr E) S) : JX FinM own cc nL ret [] y d S0 S pc lv rest E Q := by
  refine ⟨_, S, h, leM.rf, fun C c1 c2 c3 hR hs hl hce hcv hcl => ?_⟩
  exact vx_out (fun x hx => by rw [C.ret.2.2] at hx; cases hx) C.ret.2.1 hce hcv hcl (fun t ht hW => ⟨rfl, by rw [ht]; exact hR.moved hW, hs.F ht⟩) hs.2.2 (Nat.le_refl _) (Nat.le_refl _)
/-- a call; nx: it surely returns -/
theorem j_call {hd' : Cond} {y' : MethodName} {av rest : List Value} {P : Option Value → MS → Prop} {X : String → MS → Prop}
    (hrun : ∀ {p : Program} {l : Launch} {e : Env} {R : Room} {s : State} {m : MethodId} {args : Array Value} {below : List Frame} {meth : Method} {c : Code} {D : va_G} {b0 : Nat} {H : Heap} {locs : List Loc} {ls : Array Slot} {cells slots : Nat} {o : Out} {S1 : MS},
      Cx own cc nL ret hh y (d + 1) S.T b0 D p l R s m args meth c → Rep D b0 S s H → va_S (fun q => b0 ≤ q) s.heap H locs → lv_has ls nL lv → ((∃ v, o = .inl v ∧ P v S1) ∨ ∃ E, o = .inr E ∧ X E S1) →
      vx_Met l y' (hd' :: TB) (rmOf d S S1) (Pq av S D b0) (Qq o S1 D b0) (Xq o S1 D b0) (S1.nx - S.nx) (S1.us - S.us) (fun q => b0 ≤ q) → cells + (S1.nx - S.nx) ≤ R.cells → slots + (S1.us - S.us) ≤ R.slots →
      vx_Run p l e R s m args below meth c H locs cells slots (S1.nx - S.nx) (S1.us - S.us) (F0 m pc ls st) rest (Qq o S1 D b0 av.toArray) (Xq o S1 D b0) (fun q => b0 ≤ q))
    (h : Mw hd' y' d av S (fun o S1 => (∃ v, o = .inl v ∧ P v S1) ∨ ∃ E, o = .inr E ∧ X E S1))
    (k : ∀ v S1, P v S1 → Jw Fz own cc nL ret hh y (d + 1) S0 S1 (pc + 3) lv (v.toList ++ rest) Q) (kx : ∀ E S1, X E S1 → JX Fz own cc nL ret hh y (d + 1) S0 S1 pc lv rest E Q) : Jw Fz own cc nL ret hh y (d + 1) S0 S pc lv st Q := by
  obtain ⟨o, S1, h1, h2, h3⟩ := h
  have h1' := h1
  rcases h1 with ⟨v, ho, hP⟩ | ⟨E, ho, hX⟩
  · obtain ⟨o2, S2, g1, g2, g3⟩ := k v S1 hP
    refine ⟨o2, S2, g1, leM.tr h2 g2, fun C c1 c2 c3 hR hs hl => ?_⟩
    have hc1 := c1.1; have hc2 := c1.2.1; have hd1 := h2.1; have hd2 := h2.2.1; have he1 := g2.1; have he2 := g2.2.1
    refine w_call (hrun C hR hs hl h1' (h3 _ C.2.2.2.2.2.2.2.2.2.1 _ _) (by omega) (by omega)) hs (fun E ce q9 H1 locs1 ho2 _ _ _ _ _ => by rw [ho] at ho2; cases ho2) (fun v2 H1 locs1 ho2 hR1 hs1 => ?_)
    rw [ho] at ho2
    cases ho2
    have w := fun {e} {below} => g3 (e := e) (below := below) (by rw [h2.2.2]; exact C) (leM.tr c1 h2) c2 c3 hR1 hs1 hl
    rw [show S.nx - S0.nx + (S1.nx - S.nx) = S1.nx - S0.nx by omega, show S.us - S0.us + (S1.us - S.us) = S1.us - S0.us by omega]
    exact w
  · obtain ⟨o2, S2, g1, g2, g3⟩ := kx E S1 hX
    refine ⟨o2, S2, g1, leM.tr h2 g2, fun C c1 c2 c3 hR hs hl => ?_⟩
    have hc1 := c1.1; have hc2 := c1.2.1; have hd1 := h2.1; have hd2 := h2.2.1; have he1 := g2.1; have he2 := g2.2.1
    refine w_call (hrun C hR hs hl h1' (h3 _ C.2.2.2.2.2.2.2.2.2.1 _ _) (by omega) (by omega)) hs (fun E2 ce q9 H1 locs1 ho2 hR1 hs1 hce hcv hcl => ?_) (fun v2 H1 locs1 ho2 hR1 hs1 => by rw [ho] at ho2; cases ho2)
    rw [ho] at ho2
    cases ho2
    have w := fun {e} {below} => g3 (e := e) (below := below) (by rw [h2.2.2]; exact C) (leM.tr c1 h2) c2 c3 hR1 hs1 hl hce hcv hcl
    rw [show S.nx - S0.nx + (S1.nx - S.nx) = S1.nx - S0.nx by omega, show S.us - S0.us + (S1.us - S.us) = S1.us - S0.us by omega]
    exact w
/-- the words of a call of y' by its entry idx -/
def CVk (own : String) (idx : Nat) (y' : MethodName) (bytes : ByteArray) (maxL : Nat) (ret' : Option FieldType) (n : Nat) : Prop :=
  Cond.code y' bytes maxL ret' ∈ TB ∧ Cond.methodLink own idx y' ∈ TB ∧ Cond.initialized y'.cls ∈ TB ∧ (y'.cls ≠ "java/lang/invoke/MethodHandle" ∧ y'.cls ≠ "java/lang/invoke/VarHandle" ∧ (parseMethodDescriptor y'.desc).map (fun d => d.parameters.length) = some n) ∧ maxL ≤ 40
/-- .. across the nest -/
def CNk (own : String) (idx : Nat) (y' : MethodName) (bytes : ByteArray) (maxL : Nat) (ret' : Option FieldType) (n : Nat) : Prop :=
  Cond.code y' bytes maxL ret' ∈ TB ∧ (∃ q ∈ nestW, q.1 = own ∧ q.2.1 = idx ∧ q.2.2.1 = y') ∧ Cond.initialized y'.cls ∈ TB ∧ (y'.cls ≠ "java/lang/invoke/MethodHandle" ∧ y'.cls ≠ "java/lang/invoke/VarHandle" ∧ (parseMethodDescriptor y'.desc).map (fun d => d.parameters.length) = some n) ∧ maxL ≤ 40
theorem cvB {idx n maxL : Nat} {y' : MethodName} {bytes : ByteArray} {ret' : Option FieldType} (hC : CVk own idx y' bytes maxL ret' n) {T : Nat → Nat} {b0 : Nat} {D : va_G} {p : Program} {l : Launch} {R : Room} {s : State} {m : MethodId} {args : Array Value} {meth : Method} {c : Code} {S1 : MS} (C : Cx own cc nL ret hh y (d + 1) T b0 D p l R s m args meth c) : CallB R s args own idx y' bytes maxL ret' (.code y' bytes maxL ret' :: TB) (rmOf d S S1) (S1.nx - S.nx) (S1.us - S.us) n := by
  obtain ⟨h1, h2, h3, h4, h5⟩ := hC
  obtain ⟨-, -, -, -, hts, -, -, -, -, -, -, -, -, hf, hl⟩ := C
  exact callB_of n hts (gTB' (fun w hw => (List.mem_cons.mp hw).elim (fun e => e ▸ h1) id)) rfl rfl rfl (hts _ h3) (hts _ h2) h4 ⟨hf, by show 8 + (maxL + 11) + 64 * d ≤ R.locals; omega⟩
theorem j_callV {idx n maxL b : Nat} {y' : MethodName} {bytes : ByteArray} {ret' : Option FieldType} (ci : Nat) (As : List Value) {rest : List Value} {P : Option Value → MS → Prop} {X : String → MS → Prop} (hC : CVk own idx y' bytes maxL ret' n) (hw : Cond.instanceMethod y' ∈ TB ∧ Cond.selects y'.cls y' y' ∈ TB) (hci : ∃ T N, vwCl[ci]? = some (y'.cls, T, N)) (h12 : ci < 12) (hn : As.length = n) (hst : st = As.reverse ++ vA b :: rest) (hcat : (rest.map fun v => v.category).sum ≤ 8)
    (hd : decode cc pc = .ok (.invokevirtual idx, 3)) (h : S.K b = ci ∧ Mw (.code y' bytes maxL ret') y' d (vA b :: As) S (fun o S1 => (∃ v, o = .inl v ∧ P v S1) ∨ ∃ E, o = .inr E ∧ X E S1))
    (k : ∀ v S1, P v S1 → Jw Fz own cc nL ret hh y (d + 1) S0 S1 (pc + 3) lv (v.toList ++ rest) Q) (kx : ∀ E S1, X E S1 → JX Fz own cc nL ret hh y (d + 1) S0 S1 pc lv rest E Q) : Jw Fz own cc nL ret hh y (d + 1) S0 S pc lv st Q := by
  refine j_call (fun C hR hs hl _ hM q1 q2 => ?_) h.2 k kx
  obtain ⟨T, N, hci⟩ := hci
  have hK := C.2.2.2.2.2.2.2.2.1
  have hts := C.2.2.2.2.1
  refine vx_runV (cc := cc) (nL := nL) (Ts := TB) (C := y'.cls) (b := b) (As := As) ⟨C.1, C.2.1, C.2.2.1, C.2.2.2.1, hts⟩ hM ⟨cvB hC C, hts _ hw.1, hts _ hw.2⟩ ⟨pq_blind, va_recv (q0 := 0) hK (hR.one h.1 h12) hci rfl, fun U hU hW => pq_at C.2.2.2.2.2.2.2.2.2.2.1 hK C.2.2.2.2.2.2.2.2.2.2.2.1 hR hs hU hW⟩ rfl hn hl.1 hst (by show 2 * 0 + _ ≤ 8; omega) hd ⟨q1, q2⟩
theorem j_callS {idx n maxL : Nat} {y' : MethodName} {bytes : ByteArray} {ret' : Option FieldType} (As : List Value) {rest : List Value} {P : Option Value → MS → Prop} {X : String → MS → Prop} (hC : CVk own idx y' bytes maxL ret' n) (hw : Cond.static y' ∈ TB) (hn : As.length = n) (hst : st = As.reverse ++ rest) (hcat : (rest.map fun v => v.category).sum ≤ 8)
    (hd : decode cc pc = .ok (.invokestatic idx, 3)) (h : Mw (.code y' bytes maxL ret') y' d As S (fun o S1 => (∃ v, o = .inl v ∧ P v S1) ∨ ∃ E, o = .inr E ∧ X E S1))
    (k : ∀ v S1, P v S1 → Jw Fz own cc nL ret hh y (d + 1) S0 S1 (pc + 3) lv (v.toList ++ rest) Q) (kx : ∀ E S1, X E S1 → JX Fz own cc nL ret hh y (d + 1) S0 S1 pc lv rest E Q) : Jw Fz own cc nL ret hh y (d + 1) S0 S pc lv st Q := by
  refine j_call (fun C hR hs hl _ hM q1 q2 => ?_) h k kx
  have hK := C.2.2.2.2.2.2.2.2.1
  have hts := C.2.2.2.2.1
  refine vx_runS (cc := cc) (nL := nL) (Ts := TB) (As := As) ⟨C.1, C.2.1, C.2.2.1, C.2.2.2.1, hts⟩ hM ⟨cvB hC C, hts _ hw⟩ ⟨pq_blind, fun U hU hW => pq_at C.2.2.2.2.2.2.2.2.2.2.1 hK C.2.2.2.2.2.2.2.2.2.2.2.1 hR hs hU hW⟩ rfl hn hl.1 hst (by show 2 * 0 + _ ≤ 8; omega) hd ⟨q1, q2⟩
theorem cnB {idx n maxL : Nat} {y' : MethodName} {bytes : ByteArray} {ret' : Option FieldType} (hC : CNk own idx y' bytes maxL ret' n) {T : Nat → Nat} {b0 : Nat} {D : va_G} {p : Program} {l : Launch} {R : Room} {s : State} {m : MethodId} {args : Array Value} {meth : Method} {c : Code} {S1 : MS} (C : Cx own cc nL ret hh y (d + 1) T b0 D p l R s m args meth c) : ∃ host, va_CN R s args own idx y' host bytes maxL ret' (.code y' bytes maxL ret' :: TB) (rmOf d S S1) (S1.nx - S.nx) (S1.us - S.us) n := by
  obtain ⟨h1, ⟨q, hq, e1, e2, e3⟩, h3, h4, h5⟩ := hC
  obtain ⟨-, -, -, -, hts, -, -, -, -, -, -, hWf, -, hf, hl⟩ := C
  have hnw := hWf.1 q hq
  rw [e1, e2, e3] at hnw
  exact ⟨_, va_cnB n hts (gTB' (fun w hw => (List.mem_cons.mp hw).elim (fun e => e ▸ h1) id)) rfl rfl rfl hnw (hts _ h3) h4 ⟨hf, by show 8 + (maxL + 11) + 64 * d ≤ R.locals; omega⟩⟩
theorem inl_of {o : Out} {P : Option Value → MS → Prop} {S1 : MS} (h : (∃ v, o = .inl v ∧ P v S1) ∨ ∃ E, o = .inr E ∧ (fun (_ : String) (_ : MS) => False) E S1) : ∃ v, o = .inl v := by
  rcases h with ⟨v, h, -⟩ | ⟨E, -, h⟩
  · exact ⟨v, h⟩
  · exact h.elim
theorem j_callSN {idx n maxL : Nat} {y' : MethodName} {bytes : ByteArray} {ret' : Option FieldType} (As : List Value) {rest : List Value} {P : Option Value → MS → Prop} (hC : CNk own idx y' bytes maxL ret' n) (hw : Cond.static y' ∈ TB) (hn : As.length = n) (hst : st = As.reverse ++ rest) (hcat : (rest.map fun v => v.category).sum ≤ 8)
    (hd : decode cc pc = .ok (.invokestatic idx, 3)) (h : Mw (.code y' bytes maxL ret') y' d As S (fun o S1 => (∃ v, o = .inl v ∧ P v S1) ∨ ∃ E, o = .inr E ∧ False))
    (k : ∀ v S1, P v S1 → Jw Fz own cc nL ret hh y (d + 1) S0 S1 (pc + 3) lv (v.toList ++ rest) Q) : Jw Fz own cc nL ret hh y (d + 1) S0 S pc lv st Q := by
  refine j_call (X := fun _ _ => False) (fun C hR hs hl ho hM q1 q2 => ?_) h k (fun _ _ h => h.elim)
  have hK := C.2.2.2.2.2.2.2.2.1
  have hts := C.2.2.2.2.1
  obtain ⟨v, rfl⟩ := inl_of ho
  obtain ⟨host, hcn⟩ := cnB (S := S) hC C
  exact run_of (va_runSN (cc := cc) (nL := nL) (Ts := TB) (As := As) ⟨C.1, C.2.1, C.2.2.1, C.2.2.2.1, hts⟩ (met_of hM) ⟨hcn, hts _ hw, trivial⟩ ⟨pq_blind, fun U hU hW => pq_at C.2.2.2.2.2.2.2.2.2.2.1 hK C.2.2.2.2.2.2.2.2.2.2.2.1 hR hs hU hW⟩ rfl hn hl.1 hst (by show 2 * 0 + _ ≤ 8; omega) hd ⟨q1, q2⟩)
theorem j_callVN {idx n maxL b : Nat} {y' : MethodName} {bytes : ByteArray} {ret' : Option FieldType} (ci : Nat) (As : List Value) {rest : List Value} {P : Option Value → MS → Prop} (hC : CNk own idx y' bytes maxL ret' n) (hw : Cond.instanceMethod y' ∈ TB ∧ Cond.selects y'.cls y' y' ∈ TB) (hci : ∃ T N, vwCl[ci]? = some (y'.cls, T, N)) (h12 : ci < 12) (hn : As.length = n) (hst : st = As.reverse ++ vA b :: rest) (hcat : (rest.map fun v => v.category).sum ≤ 8)
    (hd : decode cc pc = .ok (.invokevirtual idx, 3)) (h : S.K b = ci ∧ Mw (.code y' bytes maxL ret') y' d (vA b :: As) S (fun o S1 => (∃ v, o = .inl v ∧ P v S1) ∨ ∃ E, o = .inr E ∧ False))
    (k : ∀ v S1, P v S1 → Jw Fz own cc nL ret hh y (d + 1) S0 S1 (pc + 3) lv (v.toList ++ rest) Q) : Jw Fz own cc nL ret hh y (d + 1) S0 S pc lv st Q := by
  refine j_call (X := fun _ _ => False) (fun C hR hs hl ho hM q1 q2 => ?_) h.2 k (fun _ _ h => h.elim)
  obtain ⟨T, N, hci⟩ := hci
  have hK := C.2.2.2.2.2.2.2.2.1
  have hts := C.2.2.2.2.1
  obtain ⟨v, rfl⟩ := inl_of ho
  obtain ⟨host, hcn⟩ := cnB (S := S) hC C
  exact run_of (va_runVN (cc := cc) (nL := nL) (Ts := TB) (C := y'.cls) (b := b) (As := As) ⟨C.1, C.2.1, C.2.2.1, C.2.2.2.1, hts⟩ (met_of hM) ⟨hcn, hts _ hw.1, hts _ hw.2⟩ ⟨pq_blind, va_recv (q0 := 0) hK (hR.one h.1 h12) hci rfl, fun U hU hW => pq_at C.2.2.2.2.2.2.2.2.2.2.1 hK C.2.2.2.2.2.2.2.2.2.2.2.1 hR hs hU hW⟩ rfl hn hl.1 hst (by show 2 * 0 + _ ≤ 8; omega) hd ⟨q1, q2⟩)
theorem j_callI {idx n maxL b : Nat} {y' : MethodName} {bytes : ByteArray} (As : List Value) {rest : List Value} {P : Option Value → MS → Prop} (hC : CVk own idx y' bytes maxL none n) (hy : y'.name = "<init>") (hw : Cond.instanceMethod y' ∈ TB) (hn : As.length = n) (hst : st = As.reverse ++ vA b :: rest) (hcat : (rest.map fun v => v.category).sum ≤ 8)
    (hd : decode cc pc = .ok (.invokespecial idx, 3)) (h : Mw (.code y' bytes maxL none) y' d (vA b :: As) S (fun o S1 => (∃ v, o = .inl v ∧ P v S1) ∨ ∃ E, o = .inr E ∧ False))
    (k : ∀ v S1, P v S1 → Jw Fz own cc nL ret hh y (d + 1) S0 S1 (pc + 3) lv (v.toList ++ rest) Q) : Jw Fz own cc nL ret hh y (d + 1) S0 S pc lv st Q := by
  refine j_call (X := fun _ _ => False) (fun C hR hs hl ho hM q1 q2 => ?_) h k (fun _ _ h => h.elim)
  have hK := C.2.2.2.2.2.2.2.2.1
  have hts := C.2.2.2.2.1
  obtain ⟨v, rfl⟩ := inl_of ho
  exact run_of (va_runI (cc := cc) (nL := nL) (Ts := TB) (b := b) (As := As) ⟨C.1, C.2.1, C.2.2.1, C.2.2.2.1, hts⟩ (met_of hM) ⟨cvB hC C, hy, hts _ hw⟩ ⟨pq_blind, fun U hU hW => pq_at C.2.2.2.2.2.2.2.2.2.2.1 hK C.2.2.2.2.2.2.2.2.2.2.2.1 hR hs hU hW⟩ rfl hn hl.1 hst (by show 2 * 0 + _ ≤ 8; omega) hd ⟨q1, q2⟩)
theorem j_callIN {idx n maxL b : Nat} {y' : MethodName} {bytes : ByteArray} (As : List Value) {rest : List Value} {P : Option Value → MS → Prop} (hC : CNk own idx y' bytes maxL none n) (hy : y'.name = "<init>") (hw : Cond.instanceMethod y' ∈ TB) (hn : As.length = n) (hst : st = As.reverse ++ vA b :: rest) (hcat : (rest.map fun v => v.category).sum ≤ 8)
    (hd : decode cc pc = .ok (.invokespecial idx, 3)) (h : Mw (.code y' bytes maxL none) y' d (vA b :: As) S (fun o S1 => (∃ v, o = .inl v ∧ P v S1) ∨ ∃ E, o = .inr E ∧ False))
    (k : ∀ v S1, P v S1 → Jw Fz own cc nL ret hh y (d + 1) S0 S1 (pc + 3) lv (v.toList ++ rest) Q) : Jw Fz own cc nL ret hh y (d + 1) S0 S pc lv st Q := by
  refine j_call (X := fun _ _ => False) (fun C hR hs hl ho hM q1 q2 => ?_) h k (fun _ _ h => h.elim)
  have hK := C.2.2.2.2.2.2.2.2.1
  have hts := C.2.2.2.2.1
  obtain ⟨v, rfl⟩ := inl_of ho
  obtain ⟨host, hcn⟩ := cnB (S := S) hC C
  exact run_of (va_runIN (cc := cc) (nL := nL) (Ts := TB) (b := b) (As := As) ⟨C.1, C.2.1, C.2.2.1, C.2.2.2.1, hts⟩ (met_of hM) ⟨hcn, hy, hts _ hw⟩ ⟨pq_blind, fun U hU hW => pq_at C.2.2.2.2.2.2.2.2.2.2.1 hK C.2.2.2.2.2.2.2.2.2.2.2.1 hR hs hU hW⟩ rfl hn hl.1 hst (by show 2 * 0 + _ ≤ 8; omega) hd ⟨q1, q2⟩)
end JC
end
section
theorem mk_K {S : MS} {k n a : Nat} : (S.mk k n).K a = if a = S.nx then k else S.K a := rfl
theorem mk_new {S : MS} {k n : Nat} : (S.mk k n).K S.nx = k := by simp [mk_K]
theorem mk_old {S : MS} {k n a : Nat} (h : a ≠ S.nx) : (S.mk k n).K a = S.K a := by simp [mk_K, h]
theorem mk_flo {S : MS} {k n a : Nat} (h : a ≠ S.nx) : (S.mk k n).fl a = S.fl a ∧ (S.mk k n).arr a = S.arr a ∧ (S.mk k n).N a = S.N a := by
  have e1 : (S.mk k n).I a = S.I a := up1_ne h
  have e2 : (S.mk k n).J a = S.J a := up1_ne h
  have e3 : (S.mk k n).R a = S.R a := up1_ne h
  have e4 : (S.mk k n).N a = S.N a := up1_ne h
  refine ⟨?_, ?_, e4⟩
  · unfold MS.fl
    rw [mk_old h, e1, e3]
  · unfold MS.arr
    rw [mk_old h, e1, e2, e3, e4]
theorem mk_fl {S : MS} {k n : Nat} : (S.mk k n).fl S.nx = (ftI k).map (fun t => if t then vI 0 else va_rf none) := by
  have e1 : (S.mk k n).I S.nx = fun _ => 0 := up1_eq
  have e3 : (S.mk k n).R S.nx = fun _ => none := up1_eq
  unfold MS.fl
  rw [mk_new, e1, e3]
  exact List.ext_getElem? (fun i => by simp [List.getElem?_mapIdx])
/-- a new thing at the end of the heap -/
theorem Rep.mk {D : va_G} {b0 : Nat} {S : MS} {U : State} {H H1 : Heap} {k n : Nat} (h : Rep D b0 S U H) (hz : H1.size = H.size + 1) (ho : ∀ q, q < H.size → H1[q]? = H[q]?) (hn : n < 2147483648) (ha : AtE D U (S.mk k n) S.nx H1) : Rep D b0 (S.mk k n) U H1 := by
  have hx : (S.mk k n).nx = S.nx + 1 := rfl
  refine ⟨by rw [hz, h.1, hx], by rw [hx]; have := h.2.1; omega, fun q hq => ?_⟩
  by_cases e : q = S.nx
  · subst e
    refine ⟨h.2.1, by rw [hx]; omega, ?_, ha⟩
    show up1 S.N S.nx n S.nx < _
    rw [up1_eq]; exact hn
  · rw [mk_old e] at hq
    obtain ⟨h1, h2, h3, h4, h5⟩ := h.2.2 q hq
    obtain ⟨e1, e2, e3⟩ := mk_flo (k := k) (n := n) e
    refine ⟨h1, by rw [hx]; omega, by rw [e3]; exact h3, ?_, ?_⟩
    · rw [mk_old e, e1]
      exact fun h6 => (h4 h6).kept (ho q (by rw [h.1]; exact h2))
    · rw [mk_old e, e2, ho q (by rw [h.1]; exact h2)]
      exact h5
theorem Rep.junk {D : va_G} {b0 : Nat} {S : MS} {U : State} {H H1 : Heap} {n : Nat} (h : Rep D b0 S U H) (hz : H1.size = H.size + 1) (ho : ∀ q, q < H.size → H1[q]? = H[q]?) : Rep D b0 (S.junk n) U H1 := by
  have hx : (S.junk n).nx = S.nx + 1 := rfl
  have hK : ∀ q, (S.junk n).K q = if q = S.nx then 99 else S.K q := fun _ => rfl
  refine ⟨by rw [hz, h.1, hx], by rw [hx]; have := h.2.1; omega, fun q hq => ?_⟩
  by_cases e : q = S.nx
  · rw [hK, if_pos e] at hq
    omega
  · have hKq : (S.junk n).K q = S.K q := by rw [hK, if_neg e]
    rw [hKq] at hq
    obtain ⟨h1, h2, h3, h4, h5⟩ := h.2.2 q hq
    have e1 : (S.junk n).fl q = S.fl q := by unfold MS.fl; rw [hKq]; rfl
    have e2 : (S.junk n).arr q = S.arr q := by unfold MS.arr; rw [hKq]; rfl
    refine ⟨h1, by rw [hx]; omega, h3, ?_, ?_⟩
    · rw [hKq, e1]
      exact fun h6 => (h4 h6).kept (ho q (by rw [h.1]; exact h2))
    · rw [hKq, e2, ho q (by rw [h.1]; exact h2)]
      exact h5
theorem va_S.grow {b0 : Nat} {H0 H H1 : Heap} {locs : List Loc} (h : va_S (fun q => b0 ≤ q) H0 H locs) (z : H.size ≤ H1.size) (ho : ∀ q, q < H.size → H1[q]? = H[q]?) : va_S (fun q => b0 ≤ q) H0 H1 locs :=
  ⟨Nat.le_trans h.1 z, fun q h1 h2 => (ho q (Nat.lt_of_lt_of_le h1 h.1)).trans (h.2.1 q h1 h2), h.2.2⟩
/-- class ci can be made by the entry idx of own -/
def NWk (own : String) (idx ci : Nat) : Prop := ∃ (C : String) (T : u_T) (N : Nat) (ty : Nat → FieldType), vwCl[ci]? = some (C, T, N) ∧ (∀ w ∈ u_ws C T N, w ∈ TB) ∧ (∀ j, j < N → parseFieldDescriptor (T j).2.2.1 = some (ty j)) ∧ (ftI ci).length = N ∧ ci < 12 ∧ (∀ j, j < N → defaultValue (ty j) = vp_V ((ftI ci).map (fun t => if t then vI 0 else va_rf none)) j) ∧ Cond.classLink own idx C ∈ TB ∧ Cond.instantiable C N ∈ TB ∧ Cond.initialized C ∈ TB
section JN
variable {Fz : FinT} {own : String} {cc : ByteArray} {nL : Nat} {ret : Option FieldType} {hh : List (Nat × Nat × Nat × Nat)} {y : MethodName} {d : Nat} {S0 S : MS} {pc : Nat} {lv : List (Nat × Value)} {st : List Value} {Q : Out → MS → Prop}
/-- something new comes -/
theorem j_mk {kd n pc2 : Nat} {st2 : List Value} (h : ∀ {p : Program} {l : Launch} {e : Env} {R : Room} {s : State} {m : MethodId} {args : Array Value} {below : List Frame} {meth : Method} {c : Code} {H : Heap} {locs : List Loc} {ls : Array Slot} {kc ks : Nat} {Qs : State → Prop} {D : va_G} {b0 : Nat},
      p.tables.exec = Jvm.exec → c.code = cc → s.vm.findClass own = some m.cls → (∀ w ∈ TB, w.before args s = true) → va_K D vwCl [] s → Wf b0 S.T s → Rep D b0 S s H → kc + 1 ≤ R.cells → ks + n ≤ R.slots → (∀ (H1 : Heap), H1.size = H.size + 1 → (∀ q, q < H.size → H1[q]? = H[q]?) → Rep D b0 (S.mk kd n) s H1 → W p l e R s m args below meth c H1 locs (kc + 1) (ks + n) Qs (F0 m pc2 ls st2)) → W p l e R s m args below meth c H locs kc ks Qs (F0 m pc ls st))
    (k : Jw Fz own cc nL ret hh y d S0 (S.mk kd n) pc2 lv st2 Q) : Jw Fz own cc nL ret hh y d S0 S pc lv st Q := by
  obtain ⟨o, S', h1, h2, h3⟩ := k
  have hle : leM S (S.mk kd n) := ⟨Nat.le_succ _, Nat.le_add_right _ _, rfl⟩
  refine ⟨o, S', h1, leM.tr hle h2, fun C c1 c2 c3 hr hs hl => ?_⟩
  have e1 : (S.mk kd n).nx = S.nx + 1 := rfl
  have e2 : (S.mk kd n).us = S.us + n := rfl
  have g1 := c1.1; have g2 := c1.2.1; have g3 := h2.1; have g4 := h2.2.1
  rw [e1] at g3
  rw [e2] at g4
  refine h C.1 C.2.1 C.2.2.2.1 C.2.2.2.2.1 C.2.2.2.2.2.2.2.2.1 C.2.2.2.2.2.2.2.2.2.2.2.1 hr (by omega) (by omega) (fun H1 hz ho hR1 => ?_)
  have w := fun {e} {below} => h3 (e := e) (below := below) (by exact C) (leM.tr c1 hle) c2 c3 hR1 (hs.grow (by omega) ho) hl
  rw [e1, e2, show S.nx + 1 - S0.nx = S.nx - S0.nx + 1 by omega, show S.us + n - S0.us = S.us - S0.us + n by omega] at w
  exact w
theorem j_new {idx : Nat} (ci : Nat) (hN : NWk own idx ci) (hd : decode cc pc = .ok (.new idx, 3)) (k : Jw Fz own cc nL ret hh y d S0 (S.mk ci (ftI ci).length) (pc + 3) lv (vA S.nx :: st) Q) : Jw Fz own cc nL ret hh y d S0 S pc lv st Q := by
  obtain ⟨C, T, N, ty, hc, hin, hty, hL, h12, hdf, hw1, hw2, hw3⟩ := hN
  refine j_mk (fun hx hb ho ht hK _ hR q1 q2 w => ?_) k
  have hKn := hK.1 ci _ hc
  rw [hL] at q2 w
  refine W.newcK hx hb ho (ht _ hw1) (ht _ hw2) (ht _ hw3) rfl hd q1 q2 hKn.2.1 hR.1 fun H1 kC hkC e1 z1 o1 => ?_
  have hz : H1.size = _ + 1 := z1.trans (by rw [← hR.1])
  refine w H1 hz (fun q hq => o1 q (by rw [← hR.1]; exact hq)) ?_
  refine Rep.mk hR hz (fun q hq => o1 q (by rw [← hR.1]; exact hq)) ?_ ⟨fun _ => ?_, fun h7 => ?_⟩
  · have : ∀ c, c < 12 → (ftI c).length < 2147483648 := by decide
    rw [← hL]; exact this ci h12
  · rw [mk_new, mk_fl]
    exact ⟨_, hc, (u_born ty ht hin hKn hkC e1 hty).to hdf⟩
  · rw [mk_new] at h7
    omega
theorem j_newa {at' : ArrayType} {x : Int} (kd : Nat) {P : Prop} (hty : newarray.typeOf at' = ety kd) (hkd : 12 ≤ kd ∧ kd < 17) (hw : Cond.arrayClass (newarray.typeOf at') ∈ TB) (hd : decode cc pc = .ok (.newarray at', 2)) (h : (0 ≤ x ∧ x < 1000000) ∧ P) (k : P → Jw Fz own cc nL ret hh y d S0 (S.mk kd x.toNat) (pc + 2) lv (vA S.nx :: st) Q) : Jw Fz own cc nL ret hh y d S0 S pc lv (vI x :: st) Q := by
  obtain ⟨⟨h1, h2⟩, h3⟩ := h
  have hr : R32 x := ⟨by omega, by omega⟩
  refine j_mk (fun {p l e R s m args below meth c H locs ls kc ks Qs D b0} hx hb ho ht hK _ hR q1 q2 w => ?_) (k h3)
  have hneg : ¬ Int32.ofInt x < 0 := fun q => by
    have := (r32_lt hr r32_0).mp q
    omega
  have hbytes : x.toNat * componentBytes (newarray.typeOf at') ≤ 536870912 := by
    have h9 : ∀ at' : ArrayType, componentBytes (newarray.typeOf at') ≤ 8 := fun a => by cases a <;> decide
    have := h9 at'
    calc x.toNat * componentBytes (newarray.typeOf at') ≤ x.toNat * 8 := Nat.mul_le_mul_left _ this
      _ ≤ 536870912 := by omega
  refine va_newaK hx hb (ht _ hw) rfl hd rfl hneg (r32_cl hr) hbytes q1 q2 hR.1 fun H1 cA e1 z1 o1 hA hNm => ?_
  have hz : H1.size = H.size + 1 := z1.trans (by rw [← hR.1])
  refine w H1 hz (fun q hq => o1 q (by rw [← hR.1]; exact hq)) ?_
  refine Rep.mk hR hz (fun q hq => o1 q (by rw [← hR.1]; exact hq)) (by omega) ⟨fun h7 => ?_, fun _ => ⟨cA, ?_, ?_⟩⟩
  · rw [mk_new] at h7
    omega
  · rw [mk_new]
    rw [hty] at hA hNm
    refine ⟨hA, ?_⟩
    rcases (show kd = 12 ∨ kd = 13 ∨ kd = 14 ∨ kd = 15 ∨ kd = 16 by omega) with q | q | q | q | q <;> subst q <;> exact hNm
  · rw [e1]
    have hN : (S.mk kd x.toNat).N S.nx = x.toNat := up1_eq
    have hI : (S.mk kd x.toNat).I S.nx = fun _ => 0 := up1_eq
    have hJ : (S.mk kd x.toNat).J S.nx = fun _ => 0#64 := up1_eq
    by_cases h14 : kd = 14
    · subst h14
      rw [arr_l mk_new, vp_cell_l, hN, hJ, hty]
      rfl
    · rw [arr_i (by rw [mk_new]; omega) (by rw [mk_new]; exact h14), vp_cell_i, hN, hI, hty]
      have hdv : ∀ k, 12 ≤ k → k < 17 → k ≠ 14 → defaultValue (ety k) = .int (Int32.ofInt 0) := fun k g1 g2 g3 => by
        rcases (show k = 12 ∨ k = 13 ∨ k = 15 ∨ k = 16 by omega) with q | q | q | q <;> subst q <;> rfl
      rw [hdv kd hkd.1 hkd.2 h14]
end JN
end
section
section JM
variable {Fz : FinT} {own : String} {cc : ByteArray} {nL : Nat} {ret : Option FieldType} {hh : List (Nat × Nat × Nat × Nat)} {y : MethodName} {d : Nat} {S0 S : MS} {pc : Nat} {lv : List (Nat × Value)} {st : List Value} {Q : Out → MS → Prop}
theorem Cx.wf {T : Nat → Nat} {b0 : Nat} {D : va_G} {p : Program} {l : Launch} {R : Room} {s : State} {m : MethodId} {args : Array Value} {meth : Method} {c : Code} (C : Cx own cc nL ret hh y d T b0 D p l R s m args meth c) : Wf b0 T s := C.2.2.2.2.2.2.2.2.2.2.2.1
theorem j_objInit {idx a : Nat} (hw : Cond.methodLink own idx Lib.objectInit ∈ TB) (hd : decode cc pc = .ok (.invokespecial idx, 3)) (hcat : (st.map fun v => v.category).sum ≤ 8) (hw2 : Cond.instanceMethod Lib.objectInit ∈ TB) (hw3 : Cond.code Lib.objectInit ⟨#[0xb1]⟩ 1 none ∈ TB) (k : Jw Fz own cc nL ret hh y (d + 1) S0 S (pc + 3) lv st Q) : Jw Fz own cc nL ret hh y (d + 1) S0 S pc lv (vA a :: st) Q := by
  obtain ⟨o, S', h1, h2, h3⟩ := k
  refine ⟨o, S', h1, h2, fun C c1 c2 c3 hr hs hl => ?_⟩
  have hts := C.2.2.2.2.1
  have hf := C.2.2.2.2.2.2.2.2.2.2.2.2.2.1
  have hlo := C.2.2.2.2.2.2.2.2.2.2.2.2.2.2
  refine W.objInit C.1 C.2.1 C.2.2.2.1 (hts _ hw) (hts _ hw2) (hts _ hw3) rfl (by rw [C.2.2.1]; exact hl.1) rfl hd (by omega) (by show 2 * 0 + _ + 12 ≤ _; omega) (h3 C c1 c2 c3 hr hs hl)
/-- throw new E("..") -/
def THk (own : String) (ik ic : Nat) (E : String) : Prop := Bundle.fit E = true ∧ Cond.classLink own ik E ∈ TB ∧ Cond.initialized E ∈ TB ∧ (∀ w ∈ vx_atS own ic E ["java/lang/RuntimeException", "java/lang/Exception"], w ∈ TB)
theorem j_throw {ik ic is : Nat} {E text : String} (hT : THk own ik ic E) (hm : (own, is, text) ∈ msgW)
    (d0 : decode cc pc = .ok (.new ik, 3)) (d3 : decode cc (pc + 3) = .ok (.dup, 1)) (d4 : decode cc (pc + 4) = .ok (.ldc is, 2)) (d6 : decode cc (pc + 6) = .ok (.invokespecial ic, 3)) (d9 : decode cc (pc + 9) = .ok (.athrow, 1)) (hcat : (st.map fun v => v.category).sum ≤ 8) (hh0 : hh = [])
    (h : 5 ≤ d ∧ Q (.inr E) (S.junk 6)) : Jw FinM own cc nL ret hh y (d + 1) S0 S pc lv st Q := by
  have hle : leM S (S.junk 6) := ⟨Nat.le_succ _, Nat.le_add_right _ _, rfl⟩
  refine ⟨.inr E, S.junk 6, h.2, hle, fun C c1 c2 c3 hR hs hl => ?_⟩
  have hts := C.2.2.2.2.1
  have hf := C.2.2.2.2.2.2.2.2.2.2.2.2.2.1
  have hlo := C.2.2.2.2.2.2.2.2.2.2.2.2.2.2
  obtain ⟨sa, hsa⟩ := C.wf.2.2.2.2.2.1 _ hm
  have e1 : (S.junk 6).nx = S.nx + 1 := rfl
  have e2 : (S.junk 6).us = S.us + 6 := rfl
  have g1 := c1.1; have g2 := c1.2.1
  rw [e1] at c2 ⊢
  rw [e2] at c3 ⊢
  refine vx_throwS C.1 C.2.1 C.2.2.2.2.2.2.2.2.2.1 C.2.2.2.1 hT.1 (by decide) (hts _ hT.2.1) (hts _ hT.2.2.1) hsa (fun w hw => hts w (hT.2.2.2 w hw)) (fun w hw => ?_) C.wf.2.2.2.1 C.wf.2.2.2.2.1 hs (by rw [C.2.2.1]; exact hl.1) d0 d3 d4 d6 d9
    (fun x hx => by rw [C.ret.2.2, hh0] at hx; cases hx) (by show 2 + 3 < _; omega) (by show _ + (13 * 3 + 43) ≤ _; omega) (by omega) (by omega) C.ret.2.1 (fun t hal hz ho => ⟨rfl, (hR.junk hz ho).moved hal, ?_⟩) hs.2.2 (by omega) (by omega)
  · have hg : goodWord w = true := by
      rcases List.mem_cons.mp hw with q | q
      · subst q; exact (tbTB hT.2.1).2
      · rcases List.mem_cons.mp q with q | q
        · subst q; exact (tbTB hT.2.2.1).2
        · exact (tbTB (hT.2.2.2 w q)).2
    unfold vx_ot
    rw [hg, Bool.or_true]
  · exact ⟨Nat.le_trans hs.1 (by omega), fun q h1 h2 => (ho q (Nat.lt_of_lt_of_le h1 hs.1)).trans (hs.2.1 q h1 h2)⟩
theorem j_throwW {ik ic is : Nat} {E text : String} (hT : THk own ik ic E) (hm : (own, is, text) ∈ msgW)
    (d0 : decode cc pc = .ok (.new ik, 3)) (d3 : decode cc (pc + 3) = .ok (.dup, 1)) (d4 : decode cc (pc + 4) = .ok (.ldc_w is, 3)) (d7 : decode cc (pc + 7) = .ok (.invokespecial ic, 3)) (d10 : decode cc (pc + 10) = .ok (.athrow, 1)) (hcat : (st.map fun v => v.category).sum ≤ 8) (hh0 : hh = [])
    (h : 5 ≤ d ∧ Q (.inr E) (S.junk 6)) : Jw FinM own cc nL ret hh y (d + 1) S0 S pc lv st Q := by
  have hle : leM S (S.junk 6) := ⟨Nat.le_succ _, Nat.le_add_right _ _, rfl⟩
  refine ⟨.inr E, S.junk 6, h.2, hle, fun C c1 c2 c3 hR hs hl => ?_⟩
  have hts := C.2.2.2.2.1
  have hf := C.2.2.2.2.2.2.2.2.2.2.2.2.2.1
  have hlo := C.2.2.2.2.2.2.2.2.2.2.2.2.2.2
  obtain ⟨sa, hsa⟩ := C.wf.2.2.2.2.2.1 _ hm
  have e1 : (S.junk 6).nx = S.nx + 1 := rfl
  have e2 : (S.junk 6).us = S.us + 6 := rfl
  have g1 := c1.1; have g2 := c1.2.1
  rw [e1] at c2 ⊢
  rw [e2] at c3 ⊢
  refine vx_throwSW C.1 C.2.1 C.2.2.2.2.2.2.2.2.2.1 C.2.2.2.1 hT.1 (by decide) (hts _ hT.2.1) (hts _ hT.2.2.1) hsa (fun w hw => hts w (hT.2.2.2 w hw)) (fun w hw => ?_) C.wf.2.2.2.1 C.wf.2.2.2.2.1 hs (by rw [C.2.2.1]; exact hl.1) d0 d3 d4 d7 d10
    (fun x hx => by rw [C.ret.2.2, hh0] at hx; cases hx) (by show 2 + 3 < _; omega) (by show _ + (13 * 3 + 43) ≤ _; omega) (by omega) (by omega) C.ret.2.1 (fun t hal hz ho => ⟨rfl, (hR.junk hz ho).moved hal, ?_⟩) hs.2.2 (by omega) (by omega)
  · have hg : goodWord w = true := by
      rcases List.mem_cons.mp hw with q | q
      · subst q; exact (tbTB hT.2.1).2
      · rcases List.mem_cons.mp q with q | q
        · subst q; exact (tbTB hT.2.2.1).2
        · exact (tbTB (hT.2.2.2 w q)).2
    unfold vx_ot
    rw [hg, Bool.or_true]
  · exact ⟨Nat.le_trans hs.1 (by omega), fun q h1 h2 => (ho q (Nat.lt_of_lt_of_le h1 hs.1)).trans (hs.2.1 q h1 h2)⟩
/-- a case of a switch -/
theorem j_tswC {x cv : Int} {dflt lo hi off : Int} {offs : Array Int} {len tgt : Nat} {A B : Prop} (hd : decode cc pc = .ok (.tableswitch dflt lo hi offs, len)) (hr : R32 x) (h1 : ¬ cv < lo) (h2 : ¬ hi < cv) (ho : offs[(cv - lo).toNat]? = some off) (ht : (pc : Int) + off = (tgt : Int)) (h : (x = cv → A) ∧ B) (k1 : A → Jw Fz own cc nL ret hh y d S0 S tgt lv st Q) (k2 : x ≠ cv → B → Jw Fz own cc nL ret hh y d S0 S pc lv (vI x :: st) Q) : Jw Fz own cc nL ret hh y d S0 S pc lv (vI x :: st) Q := by
  by_cases c : x = cv
  · subst c
    exact j_step (fun hx hb _ _ _ w => lv_tableIn hx hb hd (by rw [r32_to hr]; exact h1) (by rw [r32_to hr]; exact h2) (by rw [r32_to hr]; exact ho) ht w) (k1 (h.1 rfl))
  · exact k2 c h.2
theorem j_tswD {x : Int} {dflt lo hi : Int} {offs : Array Int} {len tgt : Nat} {A : Prop} (hd : decode cc pc = .ok (.tableswitch dflt lo hi offs, len)) (hr : R32 x) (hx9 : x < lo ∨ hi < x) (ht : (pc : Int) + dflt = (tgt : Int)) (h : (x < lo ∨ hi < x) → A) (k : A → Jw Fz own cc nL ret hh y d S0 S tgt lv st Q) : Jw Fz own cc nL ret hh y d S0 S pc lv (vI x :: st) Q :=
  j_step (fun hx hb _ _ _ w => lv_tableOut hx hb hd (by rw [r32_to hr]; exact hx9) ht w) (k (h hx9))
/-- a reference that may be none: both ways -/
theorem j_aaldO {a : Nat} {i : Int} (kd : Nat) {P : Prop} {P2 : Nat → Prop} (hd : decode cc pc = .ok (.aaload, 1)) (h : (S.K a = kd ∧ (17 ≤ kd ∧ kd < 21) ∧ 0 ≤ i ∧ i < S.N a) ∧ (S.R a i.toNat = none → P) ∧ (∀ b, S.R a i.toNat = some b → P2 b)) (k : P → Jw Fz own cc nL ret hh y d S0 S (pc + 1) lv (.null :: st) Q) (k2 : ∀ b, P2 b → Jw Fz own cc nL ret hh y d S0 S (pc + 1) lv (vA b :: st) Q) : Jw Fz own cc nL ret hh y d S0 S pc lv (vI i :: vA a :: st) Q := by
  obtain ⟨⟨h1, hkd, h2, h3⟩, h4, h5⟩ := h
  cases hr : S.R a i.toNat with
  | none =>
    refine j_rd (fun hx hb ho ht hK hR w => ?_) (k (h4 hr))
    obtain ⟨cA, q1, q2⟩ := hR.arr (a := a) (by omega) (by omega)
    rw [arr_q (by omega)] at q2
    obtain ⟨g1, g2, g3⟩ := r32_in (hR.2.2 a (by omega)).2.2.1 h2 h3
    have hlt : (Int32.ofInt i).toNatClampNeg < S.N a := Nat.not_le.mp fun q => g2 (Or.inr q)
    refine W.aald (v := .null) (ty := ety (S.K a)) hx hb q2 (q1.1 (S.N a) (fun j => va_rf (S.R a j))) (by rcases (show S.K a = 17 ∨ S.K a = 18 ∨ S.K a = 19 ∨ S.K a = 20 by omega) with q | q | q | q <;> rw [q] <;> rfl) (fun q => by cases q) (by show ¬ (_ ∨ (arrV _ _ _).slots.size ≤ _); rw [arrV_size]; exact g2) ?_ rfl rfl hd w
    show (arrV _ _ _).slots[_]? = _
    rw [arrV_read _ _ hlt, g3, hr]; rfl
  | some b => exact j_aald kd hd ⟨⟨h1, hkd, h2, h3⟩, b, hr, h5 b hr⟩ k2
theorem j_astoreN_n {i : Fin 4} {lv2 : List (Nat × Value)} (hd : decode cc pc = .ok (.astore_n i, 1)) (hn : (i : Nat) < nL) (hl : ((i : Nat), Value.null) :: lv.filter (fun q => !(q.1 == (i : Nat)) && !(q.1 + 1 == (i : Nat) && q.2.category == 2)) = lv2) (k : Jw Fz own cc nL ret hh y d S0 S (pc + 1) lv2 st Q) : Jw Fz own cc nL ret hh y d S0 S pc lv (.null :: st) Q :=
  j_stepL (fun hx hb h w => lv_astore_nN hx hb hd rfl h hn hl w) k
theorem j_aloadN_n {i : Fin 4} (j : Nat) (hd : decode cc pc = .ok (.aload_n i, 1)) (hl : lv[j]? = some ((i : Nat), Value.null)) (k : Jw Fz own cc nL ret hh y d S0 S (pc + 1) lv (.null :: st) Q) : Jw Fz own cc nL ret hh y d S0 S pc lv st Q :=
  j_step (fun hx hb _ _ h w => lv_aload_nN hx hb hd rfl (lv_at h j hl) w) k
theorem j_ifnonnull {x : Nat} {off : Int} {tgt : Nat} (hd : decode cc pc = .ok (.ifnonnull off, 3)) (ht : (pc : Int) + off = (tgt : Int)) (k : Jw Fz own cc nL ret hh y d S0 S tgt lv st Q) : Jw Fz own cc nL ret hh y d S0 S pc lv (vA x :: st) Q :=
  j_step (fun hx hb _ _ _ w => lv_ifnonnull hx hb hd ht w) k
theorem j_ifnonnullN {off : Int} (hd : decode cc pc = .ok (.ifnonnull off, 3)) (k : Jw Fz own cc nL ret hh y d S0 S (pc + 3) lv st Q) : Jw Fz own cc nL ret hh y d S0 S pc lv (.null :: st) Q :=
  j_step (fun hx hb _ _ _ w => lv_ifnonnullN hx hb hd w) k
theorem j_ldcS {i ti : Nat} {tx : String} (hm : (own, i, tx, ti) ∈ wordW) (hd : decode cc pc = .ok (.ldc i, 2)) (k : Jw Fz own cc nL ret hh y d S0 S (pc + 2) lv (vA (S.T ti) :: st) Q) : Jw Fz own cc nL ret hh y d S0 S pc lv st Q := by
  obtain ⟨o, S', h1, h2, h3⟩ := k
  refine ⟨o, S', h1, h2, fun C c1 c2 c3 hr hs hl => ?_⟩
  exact va_ldcS C.1 C.2.1 C.2.2.2.1 (C.wf.2.2.2.2.2.2.1 _ hm) hd (h3 C c1 c2 c3 hr hs hl)
theorem j_anew {idx : Nat} {x : Int} {C' : String} (kd : Nat) {P : Prop} (hty : ety kd = .object C') (hkd : 17 ≤ kd ∧ kd < 20) (hC : C' ∈ aoW) (hw : Cond.classLink own idx C' ∈ TB) (hd : decode cc pc = .ok (.anewarray idx, 3)) (h : (0 ≤ x ∧ x < 1000000) ∧ P) (k : P → Jw Fz own cc nL ret hh y d S0 (S.mk kd x.toNat) (pc + 3) lv (vA S.nx :: st) Q) : Jw Fz own cc nL ret hh y d S0 S pc lv (vI x :: st) Q := by
  obtain ⟨⟨h1, h2⟩, h3⟩ := h
  have hr : R32 x := ⟨by omega, by omega⟩
  refine j_mk (fun {p l e R s m args below meth c H locs ls kc ks Qs D b0} hx hb ho ht hK hWf hR q1 q2 w => ?_) (k h3)
  have hneg : ¬ Int32.ofInt x < 0 := fun q => by
    have := (r32_lt hr r32_0).mp q
    omega
  have hcl := r32_cl hr
  refine W.anew hx hb ho (ht _ hw) ((hWf.2.2.2.2.2.2.2.2.2.1 _ hC).use) rfl hd rfl hneg (by rw [hcl]; omega) q1 (by rw [hcl]; exact q2) fun cA kA comp f1 f2 f3 f4 => ?_
  rw [hcl]
  generalize hH1 : H.push ({ cls := cA, slots := Array.replicate x.toNat .null, vm := .none } : Cell) = H1
  have z1 : H1.size = H.size + 1 := by rw [← hH1, Array.size_push]
  have e1 : H1[H.size]? = some (arrV cA x.toNat (fun _ => .null)) := by rw [← hH1, Array.getElem?_push_size, ← arrV_new]
  have o1 : ∀ q : Nat, q < H.size → H1[q]? = H[q]? := fun q hq => by rw [← hH1, Array.getElem?_push, if_neg (Nat.ne_of_lt hq)]
  have hAr : ArrOfT s cA (.object C') := fun N z => ⟨(fun k h => by cases h), kA, f2, comp, f3⟩
  rw [hR.1]
  refine w H1 z1 o1 (Rep.mk hR z1 o1 (by omega) ⟨fun h7 => ?_, fun _ => ⟨cA, ?_, ?_⟩⟩)
  · rw [mk_new] at h7
    omega
  · rw [mk_new, hty]
    exact ⟨hAr, kA, comp, f2, f3, f4, f1⟩
  · have hN : (S.mk kd x.toNat).N S.nx = x.toNat := up1_eq
    have hRr : (S.mk kd x.toNat).R S.nx = fun _ => none := up1_eq
    rw [← hR.1, e1, hR.1, arr_q (by rw [mk_new]; omega), vp_cell_q, hN, hRr]
    rfl
/-- a store into an array of objects -/
theorem j_aast {a b : Nat} {i : Int} (kd ci : Nat) {P : Prop} (hci : ∃ C T N, vwCl[ci]? = some (C, T, N) ∧ ety kd = .object C) (hkd : 17 ≤ kd ∧ kd < 20) (h12 : ci < 12) (hd : decode cc pc = .ok (.aastore, 1)) (h : (S.K a = kd ∧ S.K b = ci ∧ 0 ≤ i ∧ i < S.N a) ∧ P) (k : P → Jw Fz own cc nL ret hh y d S0 (S.setR a i.toNat (some b)) (pc + 1) lv st Q) : Jw Fz own cc nL ret hh y d S0 S pc lv (vA b :: vI i :: vA a :: st) Q := by
  obtain ⟨⟨h1, hb1, h2, h3⟩, h4⟩ := h
  obtain ⟨C', T', N', hcl, hety⟩ := hci
  refine j_wr (S1 := S.setR a i.toNat (some b)) (a := a) (by omega) ⟨Nat.le_refl _, Nat.le_refl _, rfl⟩ ⟨rfl, rfl⟩ (fun hx hb ho ht hK _ hR w => ?_) (k h4)
  obtain ⟨cA, q1, q2⟩ := hR.arr (a := a) (by omega) (by omega)
  rw [arr_q (by omega)] at q2
  rw [h1, hety] at q1
  obtain ⟨kA, comp, f2, f3, f4, f1⟩ := q1.2
  obtain ⟨g1, g2, g3⟩ := r32_in (hR.2.2 a (by omega)).2.2.1 h2 h3
  have hlt : (Int32.ofInt i).toNatClampNeg < S.N a := Nat.not_le.mp fun q => g2 (Or.inr q)
  obtain ⟨r', hr', cellV, u1, u2, u3, -⟩ := hR.obj hb1 h12
  have hcls := (hK.1 ci _ hcl).2
  obtain ⟨kC, hkC, -⟩ := hcls.2
  have hcomp : comp = (_ : va_G).1 ci := Option.some.inj (f4.symm.trans hcls.1)
  refine W.aast hx hb q2 (fun q e => by cases e) (fun e => by cases e) f2 f3 rfl (kcomp := kC) (by rw [hcomp]; exact hkC) ⟨fun q => g2 (Or.inl q), by show _ < (arrV _ _ _).slots.size; rw [arrV_size]; exact hlt⟩ u1 (fun q e => by rw [u3] at e; cases e) (kv := kC) (by rw [u2]; exact hkC) (by rw [u2, hcomp]; exact va_assign hcls) rfl rfl hd fun H1 e z oq => w H1 _ z oq ?_
  refine hR.put z oq rfl rfl rfl ot_setR (fun _ => ⟨fun h7 => ?_, fun _ => ⟨cA, ?_, ?_⟩⟩)
  · have h7 : S.K a < 12 := h7
    omega
  · show ArrOfT _ cA (ety (S.K a)) ∧ va_RA _ cA (ety (S.K a))
    rw [h1, hety]; exact q1
  · rw [e, arr_q (S := S.setR a i.toNat (some b)) (a := a) (show 17 ≤ S.K a by omega), vp_cell_q, vp_cell_q, arrV_store]
    refine congrArg some (congrArg (arrV cA (S.N a)) (funext fun q => ?_))
    show updV _ _ _ q = va_rf (up2 S.R a i.toNat (some b) a q)
    rw [g3]
    by_cases hq : q = i.toNat
    · subst hq
      simp [updV, up2, up1, va_rf]
    · simp [updV, up2, up1, hq]
end JM
end
section
theorem mg_outer (c : ClassId) (N h0 : Nat) : ∀ i : Nat, Jvm.Free.Multi.outerC c N h0 i = arrV c N (fun j => va_rf (if j < i then some (h0 + 1 + j) else none))
  | 0 => by
    show ({ cls := c, slots := Array.replicate N .null, vm := .none } : Cell) = _
    rw [arrV_new]
    refine congrArg (arrV c N) (funext fun j => ?_)
    simp [va_rf]
  | i + 1 => by
    show (Jvm.Free.Multi.outerC c N h0 i).setSlot i (.ref (h0 + 1 + i)) = _
    rw [mg_outer c N h0 i, arrV_store]
    refine congrArg (arrV c N) (funext fun j => ?_)
    by_cases e : j = i
    · subst e
      simp [updV, va_rf]
    · by_cases h : j < i
      · simp [updV, e, h, Nat.lt_succ_of_lt h]
      · simp [updV, e, h, show ¬ j < i + 1 by omega]
/-- new long[n][k]: the outer row at the next address, its n rows behind it -/
def MS.mk2 (S : MS) (n k : Nat) : MS := (fun x => if x = S.nx then 20 else if S.nx < x ∧ x < S.nx + 1 + n then 14 else S.K x, fun x => if x = S.nx then n else if S.nx < x ∧ x < S.nx + 1 + n then k else S.N x, fun x => if S.nx ≤ x ∧ x < S.nx + 1 + n then (fun _ => 0) else S.I x, fun x => if S.nx ≤ x ∧ x < S.nx + 1 + n then (fun _ => 0#64) else S.J x,
  fun x => if x = S.nx then (fun j => if j < n then some (S.nx + 1 + j) else none) else if S.nx < x ∧ x < S.nx + 1 + n then (fun _ => none) else S.R x, S.T, S.nx + 1 + n, S.us + n + n * k)
theorem Rep.mk2 {D : va_G} {b0 : Nat} {S : MS} {U : State} {H H1 : Heap} {n k : Nat} (h : Rep D b0 S U H) (hn : n < 2147483648) (hk : k < 2147483648) (hz : H1.size = H.size + 1 + n) (ho : ∀ q, q < H.size → H1[q]? = H[q]?) {cA cL : ClassId} (hA : ArrOfT U cA (.array .long) ∧ va_RA U cA (.array .long)) (hL : ArrOfT U cL .long ∧ va_RA U cL .long)
    (h0 : H1[S.nx]? = some (vp_cell cA (n, .inr (.inr (.inr (.inr (fun j => if j < n then some (S.nx + 1 + j) else none))))))) (h1 : ∀ j, j < n → H1[S.nx + 1 + j]? = some (vp_cell cL (k, .inr (.inl (fun _ => Int64.ofBitVec 0#64))))) : Rep D b0 (S.mk2 n k) U H1 := by
  have hx : (S.mk2 n k).nx = S.nx + 1 + n := rfl
  have hb := h.2.1
  refine ⟨by rw [hz, h.1, hx], by rw [hx]; omega, fun q hq => ?_⟩
  by_cases e : q = S.nx
  · subst e
    have eK : (S.mk2 n k).K S.nx = 20 := by simp [MS.mk2, MS.K]
    have eN : (S.mk2 n k).N S.nx = n := by simp [MS.mk2, MS.N]
    have eR : (S.mk2 n k).R S.nx = fun j => if j < n then some (S.nx + 1 + j) else none := by simp [MS.mk2, MS.R]
    refine ⟨hb, by rw [hx]; omega, by rw [eN]; exact hn, fun h6 => by rw [eK] at h6; omega, fun _ => ⟨cA, by rw [eK]; exact hA, ?_⟩⟩
    rw [h0, arr_q (by rw [eK]; omega), eN, eR]
  · by_cases e2 : S.nx < q ∧ q < S.nx + 1 + n
    · have eK : (S.mk2 n k).K q = 14 := by simp [MS.mk2, MS.K, e, e2]
      have eN : (S.mk2 n k).N q = k := by simp [MS.mk2, MS.N, e, e2]
      have eJ : (S.mk2 n k).J q = fun _ => 0#64 := by simp [MS.mk2, MS.J, show S.nx ≤ q by omega, e2]
      refine ⟨by omega, by rw [hx]; omega, by rw [eN]; exact hk, fun h6 => by rw [eK] at h6; omega, fun _ => ⟨cL, by rw [eK]; exact hL, ?_⟩⟩
      have := h1 (q - (S.nx + 1)) (by omega)
      rw [show S.nx + 1 + (q - (S.nx + 1)) = q by omega] at this
      rw [this, arr_l eK, eN, eJ]
    · have eK : (S.mk2 n k).K q = S.K q := by simp [MS.mk2, MS.K, e, e2]
      have eN : (S.mk2 n k).N q = S.N q := by simp [MS.mk2, MS.N, e, e2]
      rw [eK] at hq
      obtain ⟨g1, g2, g3, g4, g5⟩ := h.2.2 q hq
      have e3 : ¬ (S.nx ≤ q ∧ q < S.nx + 1 + n) := by omega
      have eI : (S.mk2 n k).I q = S.I q := by simp [MS.mk2, MS.I, e3]
      have eJ : (S.mk2 n k).J q = S.J q := by simp [MS.mk2, MS.J, e3]
      have eR : (S.mk2 n k).R q = S.R q := by simp [MS.mk2, MS.R, e, e2]
      have ef : (S.mk2 n k).fl q = S.fl q := by unfold MS.fl; rw [eK, eI, eR]
      have ea : (S.mk2 n k).arr q = S.arr q := by unfold MS.arr; rw [eK, eI, eJ, eR, eN]
      refine ⟨g1, by rw [hx]; omega, by rw [eN]; exact g3, ?_, ?_⟩
      · rw [eK, ef]
        exact fun h6 => (g4 h6).kept (ho q (by rw [h.1]; exact g2))
      · rw [eK, ea, ho q (by rw [h.1]; exact g2)]
        exact g5
/-- a copy of n places -/
def MS.cpy (S : MS) (a : Nat) (sp : Nat) (b : Nat) (dp n : Nat) : MS := (S.1, S.2.1, up1 S.I b (fun j => if dp ≤ j ∧ j < dp + n then S.I a (sp + (j - dp)) else S.I b j), S.2.2.2)
theorem ot_cpy {S : MS} {a b sp dp n : Nat} : ∀ q, q ≠ b → (S.cpy a sp b dp n).fl q = S.fl q ∧ (S.cpy a sp b dp n).arr q = S.arr q := by
  intro q hq
  have e : (S.cpy a sp b dp n).I q = S.I q := up1_ne hq
  constructor
  · show (ftI (S.K q)).mapIdx (fun k' t => if t then vI ((S.cpy a sp b dp n).I q k') else va_rf (S.R q k')) = _
    rw [e]; rfl
  · show (if S.K q = 14 then _ else if S.K q < 17 then ((S.N q, Sum.inl (fun j => Int32.ofInt ((S.cpy a sp b dp n).I q j))) : vp_A) else _) = _
    rw [e]; rfl
section WCP
variable {p : Program} {l : Launch} {e : Env} {R : Room} {s : State} {m : MethodId} {args : Array Value} {below : List Frame} {meth : Method} {c : Code} {H : Heap} {locs : List Loc} {cells slots : Nat} {Qs : State → Prop} {cc : ByteArray} {pc : Nat} {ls : Array Slot} {rest : List Value}
/-- System.arraycopy of ints: what it writes lies in the second row -/
theorem w_copy (hexec : p.tables.exec = Jvm.exec) (hb : c.code = cc) (hml : c.maxLocals = ls.size) {own : String} {index : Nat} (hown : s.vm.findClass own = some m.cls) (hlink : (Cond.methodLink own index arraycopyName).before args s = true) (hnat : (Cond.native arraycopyName).before args s = true) (hstat : (Cond.static arraycopyName).before args s = true) (hini : (Cond.initialized "java/lang/System").before args s = true)
    {a0 a : Nat} {c0 c1 : ClassId} {n0 n1 : Nat} {f g : Nat → Int32} (hc0 : H[a0]? = some (vp_cell c0 (n0, .inl f))) (hc1 : H[a]? = some (vp_cell c1 (n1, .inl g))) (ht0 : ArrOfT s c0 .int) (ht1 : ArrOfT s c1 .int)
    {sp dp n : Int32} (h1 : ¬ sp < 0) (h2 : ¬ dp < 0) (h3 : ¬ n < 0) (h4 : sp.toNatClampNeg + n.toNatClampNeg ≤ n0) (h5 : dp.toNatClampNeg + n.toNatClampNeg ≤ n1)
    (hframes : 1 ≤ R.frames) (hlocals : (rest.map fun v => v.category).sum + (nativeFrameWords "java/lang/System" "arraycopy" 5 + 11) ≤ R.locals) (hdg : decode cc pc = .ok (.invokestatic index, 3))
    (kk : ∀ (H1 : Heap) (locs1 : List Loc), H1.size = H.size → (∀ q, q ≠ a → H1[q]? = H[q]?) → H1[a]? = some (vp_cell c1 (n1, .inl (va_cpy f g sp.toNatClampNeg dp.toNatClampNeg n.toNatClampNeg))) → (∀ x ∈ locs1, x ∈ locs ∨ x.base = a) → W p l e R s m args below meth c H1 locs1 cells slots Qs (F0 m (pc + 3) ls rest)) : W p l e R s m args below meth c H locs cells slots Qs (F0 m pc ls (.int n :: .int dp :: .ref a :: .int sp :: .ref a0 :: rest)) := by
  have nn : ∀ z : Int32, ¬ z < 0 → z.toInt = (z.toNatClampNeg : Int) := by
    intro z hz
    have hz0 : (0 : Int) ≤ z.toInt := by
      have := Int32.not_lt.mp hz
      simpa using Int32.le_iff_toInt_le.mp this
    show z.toInt = ((z.toInt.toNat : Nat) : Int)
    omega
  intro T hT X
  obtain ⟨-, k0, hk0, cm0, hkk0⟩ := ht0 n0 (fun j => .int (f j))
  obtain ⟨-, k1, hk1, cm1, hkk1⟩ := ht1 n1 (fun j => .int (g j))
  obtain ⟨vm', X', step⟩ := X.arraycopy hexec hown hlink hnat hstat hini (src := a0) (dst := a) (cs := vp_cell c0 (n0, .inl f)) (cd := vp_cell c1 (n1, .inl g)) (srcPos := sp) (destPos := dp) (n := n) (by rw [hT]; exact hc0) (by rw [hT]; exact hc1)
    (fun _ h => by cases h) (fun _ h => by cases h) (fun h => by cases h) (fun h => by cases h) hk0 hk1 hkk0 hkk1 (by simp [refKind]) h1 h2 h3
    (by rw [nn sp h1, nn n h3]; show ¬ _ > ((arrV c0 n0 (fun j => .int (f j))).slots.size : Int); rw [arrV_size]; omega)
    (by rw [nn dp h2, nn n h3]; show ¬ _ > ((arrV c1 n1 (fun j => .int (g j))).slots.size : Int); rw [arrV_size]; omega)
    (fun vm₁ _ i hi => by
      have e : (vp_cell c0 (n0, .inl f)).slots.getD (sp.toNatClampNeg + i) .null = .int (f (sp.toNatClampNeg + i)) := by
        show (arrV c0 n0 (fun j => .int (f j))).slots.getD _ _ = _
        rw [Array.getD_eq_getD_getElem?, arrV_read _ _ (by omega)]
        rfl
      refine ⟨?_, ?_⟩
      · rw [e]
        rfl
      · rw [e]
        exact trivial)
    (g := F0 m pc ls (.int n :: .int dp :: .ref a :: .int sp :: .ref a0 :: rest)) rfl (by rw [hml]) (rest := rest) rfl (by rw [hb]; exact hdg) hframes (by show 2 * 0 + _ + _ ≤ _; omega)
  have e1 : copied (vp_cell c0 (n0, .inl f)) (vp_cell c1 (n1, .inl g)) sp dp n = vp_cell c1 (n1, .inl (va_cpy f g sp.toNatClampNeg dp.toNatClampNeg n.toNatClampNeg)) := va_copied (fun z => .int z) c0 c1 f g h4
  rw [e1] at X' step
  have hl : a < H.size := (Array.getElem?_eq_some_iff.mp hc1).1
  have hheap : ((T.setVm vm').setCell a (vp_cell c1 (n1, .inl (va_cpy f g sp.toNatClampNeg dp.toNatClampNeg n.toNatClampNeg)))).heap = H.setIfInBounds a (vp_cell c1 (n1, .inl (va_cpy f g sp.toNatClampNeg dp.toNatClampNeg n.toNatClampNeg))) := by rw [← hT]; rfl
  obtain ⟨t, a1, b1⟩ := kk _ _ (by simp) (fun q hq => by simp [Array.getElem?_setIfInBounds, Ne.symm hq]) (show (H.setIfInBounds a _)[a]? = some _ by simp [Array.getElem?_setIfInBounds, hl]) (fun x hx => by
      rcases List.mem_append.mp hx with h | h
      · exact Or.inl h
      · obtain ⟨i, -, rfl⟩ := List.mem_map.mp h
        exact Or.inr rfl) _ hheap X'
  exact ⟨t, step t a1, b1⟩
end WCP
section JG
variable {Fz : FinT} {own : String} {cc : ByteArray} {nL : Nat} {ret : Option FieldType} {hh : List (Nat × Nat × Nat × Nat)} {y : MethodName} {d : Nat} {S0 S : MS} {pc : Nat} {lv : List (Nat × Value)} {st : List Value} {Q : Out → MS → Prop}
theorem j_mna {idx : Nat} {n k : Int} {P : Prop} (hw : Cond.classLink own idx "[[J" ∈ TB) (hw2 : Cond.arrayClass .long ∈ TB) (hd : decode cc pc = .ok (.multianewarray idx 2, 4)) (h : ((0 ≤ n ∧ n < 100000) ∧ 0 ≤ k ∧ k < 100000) ∧ P) (kk : P → Jw Fz own cc nL ret hh y d S0 (S.mk2 n.toNat k.toNat) (pc + 4) lv (vA S.nx :: st) Q) : Jw Fz own cc nL ret hh y d S0 S pc lv (vI k :: vI n :: st) Q := by
  obtain ⟨⟨⟨hn1, hn2⟩, hk1, hk2⟩, hP⟩ := h
  have hrn : R32 n := ⟨by omega, by omega⟩
  have hrk : R32 k := ⟨by omega, by omega⟩
  obtain ⟨o, S', h1, h2, h3⟩ := kk hP
  have hle : leM S (S.mk2 n.toNat k.toNat) := ⟨by show S.nx ≤ S.nx + 1 + n.toNat; omega, by show S.us ≤ S.us + n.toNat + n.toNat * k.toNat; omega, rfl⟩
  refine ⟨o, S', h1, leM.tr hle h2, fun {p l e R s m args below meth c D b0 H locs ls} C c1 c2 c3 hR hs hl => ?_⟩
  have e1 : (S.mk2 n.toNat k.toNat).nx = S.nx + 1 + n.toNat := rfl
  have e2 : (S.mk2 n.toNat k.toNat).us = S.us + n.toNat + n.toNat * k.toNat := rfl
  have g1 := c1.1; have g2 := c1.2.1; have g3 := h2.1; have g4 := h2.2.1
  rw [e1] at g3
  rw [e2] at g4
  have hts := C.2.2.2.2.1
  have hov : (Cond.arrayOver (.array .long)).before #[] s = true := C.wf.2.2.2.2.2.2.2.2.2.2.1
  have hneg : ∀ {x : Int}, R32 x → 0 ≤ x → ¬ Int32.ofInt x < 0 := fun hr h0 q => by
    have := (r32_lt hr r32_0).mp q
    omega
  have cn := r32_cl hrn
  have ck := r32_cl hrk
  intro T hT X
  obtain ⟨vm₁, cA, comp, -, fA, fC, hO, hI, X', step⟩ := X.multianewarray2F C.1 (ty := .long) C.2.2.2.1 (hts _ hw) (over_moved (Vm.Alike.refl s.vm) hov) (hts _ hw2) (g := F0 m pc ls (vI k :: vI n :: st)) rfl (by rw [C.2.1]; exact hd) rfl (hneg hrn hn1) (hneg hrk hk1) (by rw [cn]; omega) (by rw [ck]; show k.toNat * 8 ≤ _; omega) (by rw [ck]; omega) rfl rfl (by rw [cn]; omega) (by rw [cn, ck]; omega)
  rw [cn, ck] at X' step
  generalize hF : Jvm.Free.Multi.fill (T.setVm vm₁) cA comp n.toNat k.toNat (defaultValue .long) n.toNat = F at X' step
  have hTh : (T.setVm vm₁).heap = H := hT
  obtain ⟨f1, f2, -, -⟩ := Jvm.Free.Multi.fill_facts (T.setVm vm₁) cA comp n.toNat k.toNat (defaultValue .long) n.toNat
  rw [hF, hTh] at f1 f2
  have hold : ∀ x : Nat, x < H.size → F.heap[x]? = H[x]? := fun x hx => by
    have := Jvm.Free.Multi.fill_old (T.setVm vm₁) cA comp n.toNat k.toNat (defaultValue .long) (a := x) (by rw [hTh]; exact hx) n.toNat
    rw [hF, hTh] at this
    exact this
  have hrow : ∀ j : Nat, j < n.toNat → F.heap[S.nx + 1 + j]? = some (vp_cell comp (k.toNat, .inr (.inl (fun _ => Int64.ofBitVec 0#64)))) := fun j hj => by
    have := Jvm.Free.Multi.fill_inner (T.setVm vm₁) cA comp n.toNat k.toNat (defaultValue .long) n.toNat j hj
    rw [hF, hTh, hR.1] at this
    rw [this, vp_cell_l]
    exact congrArg some (arrV_new comp k.toNat _)
  rw [mg_outer, hR.1] at f2
  have hAc : ArrOfT s cA (.array .long) := by
    obtain ⟨comp2, c2', k2, q1, q2, q3, q4, q5⟩ := arrayOverA_spec (over_moved (a' := args) (Vm.Alike.refl s.vm) hov)
    have ec : c2' = cA := Option.some.inj (q5.symm.trans fA)
    subst ec
    exact fun N z => ⟨(fun k h => by cases h), k2, q3, comp2, q4⟩
  have hLc : ArrOfT s comp .long := fun N z => by
    obtain ⟨-, kc, hkc, cm, hkk⟩ := (hI 0 (defaultValue .long)).1
    exact ⟨(fun k h => by cases h), kc, hkc, cm, hkk⟩
  have hR1 := Rep.mk2 (n := n.toNat) (k := k.toNat) hR (by omega) (by omega) f1 hold ⟨hAc, fA⟩ ⟨hLc, fC⟩ (by rw [f2, vp_cell_q]) hrow
  have w := h3 (e := e) (below := below) (by exact C) (leM.tr c1 hle) c2 c3 hR1 (hs.grow (by omega) hold) hl
  rw [e1, e2, show S.nx + 1 + n.toNat - S0.nx = S.nx - S0.nx + 1 + n.toNat by omega, show S.us + n.toNat + n.toNat * k.toNat - S0.us = S.us - S0.us + n.toNat + n.toNat * k.toNat by omega] at w
  obtain ⟨t, a1, b1⟩ := w F rfl X'
  rw [show S.nx = T.heap.size by rw [hT, hR.1]] at a1
  exact ⟨t, step t a1, b1⟩
/-- a row of longs is put into an array of such -/
theorem j_aastA {a b : Nat} {i : Int} {P : Prop} (hd : decode cc pc = .ok (.aastore, 1)) (h : (S.K a = 20 ∧ S.K b = 14 ∧ 0 ≤ i ∧ i < S.N a) ∧ P) (k : P → Jw Fz own cc nL ret hh y d S0 (S.setR a i.toNat (some b)) (pc + 1) lv st Q) : Jw Fz own cc nL ret hh y d S0 S pc lv (vA b :: vI i :: vA a :: st) Q := by
  obtain ⟨⟨h1, hb1, h2, h3⟩, h4⟩ := h
  obtain ⟨o, S', g1, g2, g3⟩ := k h4
  have hle : leM S (S.setR a i.toNat (some b)) := ⟨Nat.le_refl _, Nat.le_refl _, rfl⟩
  refine ⟨o, S', g1, leM.tr hle g2, fun C c1 c2 c3 hR hs hl => ?_⟩
  have hov : (Cond.arrayOver (.array .long)).before #[] _ = true := C.wf.2.2.2.2.2.2.2.2.2.2.1
  obtain ⟨cA, q1, q2⟩ := hR.arr (a := a) (by omega) (by omega)
  obtain ⟨cL, r1, r2⟩ := hR.arr (a := b) (by omega) (by omega)
  rw [arr_q (by omega)] at q2
  rw [arr_l hb1] at r2
  rw [h1] at q1
  rw [hb1] at r1
  obtain ⟨comp, c2', k2, u1, u2, u3, u4, u5⟩ := arrayOverA_spec hov
  have ec : c2' = cA := Option.some.inj (u5.symm.trans q1.2)
  subst ec
  have el : comp = cL := Option.some.inj (u1.symm.trans r1.2)
  subst el
  obtain ⟨kL, hkL, -⟩ := Vm.findClass_spec u1
  obtain ⟨v1, v2, v3⟩ := r32_in (hR.2.2 a (by omega)).2.2.1 h2 h3
  have hlt : (Int32.ofInt i).toNatClampNeg < S.N a := Nat.not_le.mp fun q => v2 (Or.inr q)
  have hbA := (hR.2.2 a (by omega)).1
  refine W.aast C.1 C.2.1 q2 (fun q e => by cases e) (fun e => by cases e) u3 u4 rfl (kcomp := kL) hkL ⟨fun q => v2 (Or.inl q), by show _ < (arrV _ _ _).slots.size; rw [arrV_size]; exact hlt⟩ r2 (fun q e => by cases e) (kv := kL) hkL (Jvm.Free.SB.assignable_self _ _) rfl rfl hd fun H1 e z oq => ?_
  refine g3 (by exact C) (leM.tr c1 hle) c2 c3 (hR.put z oq rfl rfl rfl ot_setR (fun _ => ⟨fun h7 => ?_, fun _ => ⟨c2', ?_, ?_⟩⟩)) (hs.put' z oq hbA) hl
  · have h7 : S.K a < 12 := h7
    omega
  · show ArrOfT _ c2' (ety (S.K a)) ∧ va_RA _ c2' (ety (S.K a))
    rw [h1]; exact q1
  · rw [e, arr_q (S := S.setR a i.toNat (some b)) (a := a) (show 17 ≤ S.K a by omega), vp_cell_q, vp_cell_q, arrV_store]
    refine congrArg some (congrArg (arrV c2' (S.N a)) (funext fun q => ?_))
    show updV _ _ _ q = va_rf (up2 S.R a i.toNat (some b) a q)
    rw [v3]
    by_cases hq : q = i.toNat
    · subst hq
      simp [updV, up2, up1, va_rf]
    · simp [updV, up2, up1, hq]
theorem j_copy {idx a b : Nat} {sp dp n : Int} {P : Prop} (hw : Cond.methodLink own idx arraycopyName ∈ TB) (hw2 : Cond.native arraycopyName ∈ TB) (hw3 : Cond.static arraycopyName ∈ TB) (hw4 : Cond.initialized "java/lang/System" ∈ TB) (hcat : (st.map fun v => v.category).sum ≤ 8) (hd : decode cc pc = .ok (.invokestatic idx, 3))
    (h : (S.K a = 13 ∧ S.K b = 13 ∧ (0 ≤ sp ∧ 0 ≤ dp ∧ 0 ≤ n) ∧ sp + n ≤ S.N a ∧ dp + n ≤ S.N b) ∧ P) (k : P → Jw Fz own cc nL ret hh y (d + 1) S0 (S.cpy a sp.toNat b dp.toNat n.toNat) (pc + 3) lv st Q) : Jw Fz own cc nL ret hh y (d + 1) S0 S pc lv (vI n :: vI dp :: vA b :: vI sp :: vA a :: st) Q := by
  obtain ⟨⟨h1, h2, ⟨h3, h4, h5⟩, h6, h7⟩, h8⟩ := h
  obtain ⟨o, S', g1, g2, g3⟩ := k h8
  have hle : leM S (S.cpy a sp.toNat b dp.toNat n.toNat) := ⟨Nat.le_refl _, Nat.le_refl _, rfl⟩
  refine ⟨o, S', g1, leM.tr hle g2, fun C c1 c2 c3 hR hs hl => ?_⟩
  have hts := C.2.2.2.2.1
  have hf := C.2.2.2.2.2.2.2.2.2.2.2.2.2.1
  have hlo := C.2.2.2.2.2.2.2.2.2.2.2.2.2.2
  obtain ⟨cA, q1, q2⟩ := hR.arr (a := a) (by omega) (by omega)
  obtain ⟨cB, r1, r2⟩ := hR.arr (a := b) (by omega) (by omega)
  have na := (hR.2.2 a (by omega)).2.2.1
  have nb := (hR.2.2 b (by omega)).2.2.1
  have hbB := (hR.2.2 b (by omega)).1
  rw [arr_i (by omega) (by omega)] at q2 r2
  rw [h1] at q1
  rw [h2] at r1
  have rs : R32 sp := ⟨by omega, by omega⟩
  have rd : R32 dp := ⟨by omega, by omega⟩
  have rn : R32 n := ⟨by omega, by omega⟩
  have hneg : ∀ {x : Int}, R32 x → 0 ≤ x → ¬ Int32.ofInt x < 0 := fun hr h0 q => by
    have := (r32_lt hr r32_0).mp q
    omega
  have hnw : nativeFrameWords "java/lang/System" "arraycopy" 5 + 11 ≤ 40 := by decide
  refine w_copy C.1 C.2.1 (by rw [C.2.2.1]; exact hl.1.symm) C.2.2.2.1 (hts _ hw) (hts _ hw2) (hts _ hw3) (hts _ hw4) q2 r2 q1.1 r1.1 (hneg rs h3) (hneg rd h4) (hneg rn h5) (by rw [r32_cl rs, r32_cl rn]; omega) (by rw [r32_cl rd, r32_cl rn]; omega) (by omega) (by omega) hd fun H1 locs1 z oq e hlc => ?_
  refine g3 (by exact C) (leM.tr c1 hle) c2 c3 (hR.put z oq rfl rfl rfl ot_cpy (fun _ => ⟨fun h9 => ?_, fun _ => ⟨cB, ?_, ?_⟩⟩)) ⟨by rw [z]; exact hs.1, fun q w1 w2 => ?_, fun x hx => ?_⟩ hl
  · have h9 : S.K b < 12 := h9
    omega
  · show ArrOfT _ cB (ety (S.K b)) ∧ va_RA _ cB (ety (S.K b))
    rw [h2]; exact r1
  · rw [e, arr_i (S := S.cpy a sp.toNat b dp.toNat n.toNat) (a := b) (show S.K b < 17 by omega) (show S.K b ≠ 14 by omega), r32_cl rs, r32_cl rd, r32_cl rn]
    refine congrArg some (congrArg (vp_cell cB) ?_)
    refine Prod.ext rfl (congrArg Sum.inl (funext fun q => ?_))
    show va_cpy _ _ _ _ _ q = Int32.ofInt (up1 S.I b (fun j => if dp.toNat ≤ j ∧ j < dp.toNat + n.toNat then S.I a (sp.toNat + (j - dp.toNat)) else S.I b j) b q)
    rw [up1_eq]
    by_cases hq : dp.toNat ≤ q ∧ q < dp.toNat + n.toNat
    · rw [pk_cpy_in hq.1 hq.2, if_pos hq]
    · rw [pk_cpy_out (by omega), if_neg hq]
  · rw [oq q (fun e9 => w2 (by rw [e9]; exact hbB))]
    exact hs.2.1 q w1 w2
  · rcases hlc x hx with q | q
    · exact hs.2.2 x q
    · rw [q]; exact hbB
end JG
end
section
section JS
variable {Fz : FinT} {own : String} {cc : ByteArray} {nL : Nat} {ret : Option FieldType} {hh : List (Nat × Nat × Nat × Nat)} {y : MethodName} {d : Nat} {S0 S : MS} {pc : Nat} {lv : List (Nat × Value)} {st : List Value} {Q : Out → MS → Prop}
/-- a call on a String constant -/
theorem j_callT {idx n maxL b : Nat} {y' : MethodName} {bytes : ByteArray} {ret' : Option FieldType} (As : List Value) {rest : List Value} {P : Option Value → MS → Prop} (hC : CVk own idx y' bytes maxL ret' n) (hw : Cond.instanceMethod y' ∈ TB ∧ Cond.selects y'.cls y' y' ∈ TB) (hcls : y'.cls = "java/lang/String") (hn : As.length = n) (hst : st = As.reverse ++ vA b :: rest) (hcat : (rest.map fun v => v.category).sum ≤ 8)
    (hd : decode cc pc = .ok (.invokevirtual idx, 3)) (h : (∃ i, i < 8 ∧ b = S.T i) ∧ Mw (.code y' bytes maxL ret') y' d (vA b :: As) S (fun o S1 => (∃ v, o = .inl v ∧ P v S1) ∨ ∃ E, o = .inr E ∧ False))
    (k : ∀ v S1, P v S1 → Jw Fz own cc nL ret hh y (d + 1) S0 S1 (pc + 3) lv (v.toList ++ rest) Q) : Jw Fz own cc nL ret hh y (d + 1) S0 S pc lv st Q := by
  refine j_call (X := fun _ _ => False) (fun C hR hs hl ho hM q1 q2 => ?_) h.2 k (fun _ _ h => h.elim)
  obtain ⟨⟨i, hi, rfl⟩, -⟩ := h
  have hK := C.2.2.2.2.2.2.2.2.1
  have hts := C.2.2.2.2.1
  have hvk := C.wf.2.2.2.2.2.2.2.1
  have hrecv := vk_recv hvk hi hs
  exact vx_runV (cc := cc) (nL := nL) (Ts := TB) (C := y'.cls) (b := S.T i) (As := As) ⟨C.1, C.2.1, C.2.2.1, C.2.2.2.1, hts⟩ hM ⟨cvB hC C, hts _ hw.1, hts _ hw.2⟩ ⟨pq_blind, by rw [hcls]; exact hrecv, fun U hU hW => pq_at C.2.2.2.2.2.2.2.2.2.2.1 hK C.2.2.2.2.2.2.2.2.2.2.2.1 hR hs hU hW⟩ rfl hn hl.1 hst (by show 2 * 0 + _ ≤ 8; omega) hd ⟨q1, q2⟩
/-- the words of a static call of a method with a table -/
def CWk (own : String) (idx : Nat) (y' : MethodName) (bytes : ByteArray) (maxL : Nat) (ret' : Option FieldType) (hh' : List (Nat × Nat × Nat × Nat)) (n : Nat) : Prop :=
  Cond.codeWith y' bytes maxL ret' hh' ∈ TB ∧ Cond.methodLink own idx y' ∈ TB ∧ Cond.initialized y'.cls ∈ TB ∧ (y'.cls ≠ "java/lang/invoke/MethodHandle" ∧ y'.cls ≠ "java/lang/invoke/VarHandle" ∧ (parseMethodDescriptor y'.desc).map (fun d => d.parameters.length) = some n) ∧ maxL ≤ 40
theorem j_callSW {idx n maxL : Nat} {y' : MethodName} {bytes : ByteArray} {ret' : Option FieldType} {hh' : List (Nat × Nat × Nat × Nat)} (As : List Value) {rest : List Value} {P : Option Value → MS → Prop} (hC : CWk own idx y' bytes maxL ret' hh' n) (hw : Cond.static y' ∈ TB) (hn : As.length = n) (hst : st = As.reverse ++ rest) (hcat : (rest.map fun v => v.category).sum ≤ 8)
    (hd : decode cc pc = .ok (.invokestatic idx, 3)) (h : Mw (.codeWith y' bytes maxL ret' hh') y' d As S (fun o S1 => (∃ v, o = .inl v ∧ P v S1) ∨ ∃ E, o = .inr E ∧ False))
    (k : ∀ v S1, P v S1 → Jw Fz own cc nL ret hh y (d + 1) S0 S1 (pc + 3) lv (v.toList ++ rest) Q) : Jw Fz own cc nL ret hh y (d + 1) S0 S pc lv st Q := by
  refine j_call (X := fun _ _ => False) (fun C hR hs hl ho hM q1 q2 => ?_) h k (fun _ _ h => h.elim)
  have hK := C.2.2.2.2.2.2.2.2.1
  have hts := C.2.2.2.2.1
  have hf := C.2.2.2.2.2.2.2.2.2.2.2.2.2.1
  have hlo := C.2.2.2.2.2.2.2.2.2.2.2.2.2.2
  obtain ⟨h1, h2, h3, h4, h5⟩ := hC
  refine vx_runSX (hh := hh') (bytes := bytes) (maxL := maxL) (ret := ret') (cc := cc) (nL := nL) (Ts := TB) (As := As) ⟨C.1, C.2.1, C.2.2.1, C.2.2.2.1, hts⟩ hM (vx_cwSW n hts (gTB' (fun w hw9 => ?_)) rfl rfl rfl h4 ⟨hf, by show 8 + (maxL + 11) + 64 * d ≤ _; omega⟩) ⟨pq_blind, fun U hU hW => pq_at C.2.2.2.2.2.2.2.2.2.2.1 hK C.2.2.2.2.2.2.2.2.2.2.2.1 hR hs hU hW⟩ rfl hn hl.1 hst (by show 2 * 0 + _ ≤ 8; omega) hd ⟨q1, q2⟩
  rcases List.mem_append.mp hw9 with q | q
  · simp only [List.mem_cons, List.not_mem_nil, or_false] at q
    rcases q with q | q | q <;> subst q
    · exact h2
    · exact hw
    · exact h3
  · exact (List.mem_cons.mp q).elim (fun e => e ▸ h1) id
/-- caught, and answered by a number -/
theorem jx_catchR {E : String} {rest : List Value} {n : Int} {i : Nat} (pre : List ExceptionTableEntry) (x : ExceptionTableEntry) (suf : List ExceptionTableEntry) (hsp : tableOf hh = pre ++ x :: suf) (hpass : ∀ z ∈ pre, z.catchType ≠ 0 ∧ ∃ nm : String, Cond.classLink own z.catchType nm ∈ TB ∧ (E, nm) ∈ ncW) (hx : covers x pc = true) (h0 : x.catchType ≠ 0) (hlk : Cond.classLink own x.catchType E ∈ TB) (hcs : (E, E) ∈ castW) (hr : ret = some .int) (hi : i < nL)
    (da : (∃ k : Fin 4, (k : Nat) = i ∧ decode cc x.handlerPc = .ok (.astore_n k, 1) ∧ decode cc (x.handlerPc + 1) = .ok (.iconst n, 1) ∧ decode cc (x.handlerPc + 1 + 1) = .ok (.ireturn, 1)) ∨ (decode cc x.handlerPc = .ok (.astore i, 2) ∧ decode cc (x.handlerPc + 2) = .ok (.iconst n, 1) ∧ decode cc (x.handlerPc + 2 + 1) = .ok (.ireturn, 1))) (h : Q (.inl (some (vI n))) S) : JX FinM own cc nL ret hh y d S0 S pc lv rest E Q := by
  refine ⟨_, S, h, leM.rf, fun C c1 c2 c3 hR hs hl hce hcv hcl => ?_⟩
  have hts := C.2.2.2.2.1
  refine vx_catch C.2.2.2.1 pre x suf (C.ret.2.2.trans hsp) (fun z hz => Or.inr ?_) hx h0 (hts _ hlk) (va_Nw.use rfl (C.wf.2.1 _ hcs)) hce hcv hcl ?_
  · obtain ⟨g1, nm, g2, g3⟩ := hpass z hz
    exact ⟨g1, nm, hts _ g2, C.wf.2.2.1 _ g3⟩
  · rcases da with ⟨k, rfl, da, di, dr⟩ | ⟨da, di, dr⟩
    · refine lv_astore_n C.1 C.2.1 da rfl hl hi rfl (fun ls2 hl2 => ?_)
      refine lv_iconst C.1 C.2.1 di rfl ?_
      exact vx_ret (W.iret C.1 C.2.1 (C.ret.1.trans hr) (fun t ht hW => ⟨⟨_, rfl, rfl, by rw [ht]; exact hR.moved hW.alike⟩, hs.F ht⟩) hs.2.2 dr C.ret.2.1)
    · refine lv_astore C.1 C.2.1 da hl hi rfl (fun ls2 hl2 => ?_)
      refine lv_iconst C.1 C.2.1 di rfl ?_
      exact vx_ret (W.iret C.1 C.2.1 (C.ret.1.trans hr) (fun t ht hW => ⟨⟨_, rfl, rfl, by rw [ht]; exact hR.moved hW.alike⟩, hs.F ht⟩) hs.2.2 dr C.ret.2.1)
/-- the script -/
def scr (S : MS) (i : Int) : Int := (Int32.ofNat (S.T (18 + i.toNat))).toInt
theorem j_slen {a : Nat} {P : Prop} (hd : decode cc pc = .ok (.arraylength, 1)) (h : (a = S.T 16 ∧ S.T 17 < 2147483648) ∧ P) (k : P → Jw Fz own cc nL ret hh y d S0 S (pc + 1) lv (vI (S.T 17) :: st) Q) : Jw Fz own cc nL ret hh y d S0 S pc lv (vA a :: st) Q := by
  obtain ⟨o, S', h1, h2, h3⟩ := k h.2
  refine ⟨o, S', h1, h2, fun C c1 c2 c3 hr hs hl => ?_⟩
  have hX := C.wf.2.2.2.2.2.2.2.2.2.2.2
  rw [h.1.1]
  refine va_slen C.1 C.2.1 hX.1 hX.2.2 (by have := hX.2.1; omega) hs hd ?_
  rw [← Int32.ofInt_eq_ofNat]
  exact h3 C c1 c2 c3 hr hs hl
theorem j_sld {a : Nat} {i : Int} {P : Prop} (hd : decode cc pc = .ok (.iaload, 1)) (h : ((a = S.T 16 ∧ S.T 17 < 2147483648) ∧ 0 ≤ i ∧ i < S.T 17) ∧ P) (k : P → Jw Fz own cc nL ret hh y d S0 S (pc + 1) lv (vI (scr S i) :: st) Q) : Jw Fz own cc nL ret hh y d S0 S pc lv (vI i :: vA a :: st) Q := by
  obtain ⟨o, S', h1, h2, h3⟩ := k h.2
  refine ⟨o, S', h1, h2, fun C c1 c2 c3 hr hs hl => ?_⟩
  have hX := C.wf.2.2.2.2.2.2.2.2.2.2.2
  obtain ⟨⟨⟨ha, hL⟩, h5, h6⟩, -⟩ := h
  rw [ha]
  obtain ⟨g1, g2, g3⟩ := r32_in hL h5 h6
  refine va_sld C.1 C.2.1 hX.1 hX.2.2 (by have := hX.2.1; omega) hs g2 hd ?_
  rw [g3]
  have e : Int32.ofInt (scr S i) = Int32.ofNat (S.T (18 + i.toNat)) := Int32.ofInt_toInt _
  rw [← e]
  exact h3 C c1 c2 c3 hr hs hl
end JS
/-- a body with a table gives its method -/
theorem Mw.ofJH {y : MethodName} {cc : ByteArray} {nL : Nat} {ret : Option FieldType} {hh : List (Nat × Nat × Nat × Nat)} {d : Nat} {av : List Value} {S : MS} {Q : Out → MS → Prop} (hy : plainName y.cls = true) (hn : (lg_sl av).length ≤ nL) (h : Jw FinM y.cls cc nL ret hh y d S S 0 (lv_args 0 av) [] Q) : Mw (.codeWith y cc nL ret hh) y d av S Q := by
  obtain ⟨o, S', h1, h2, h3⟩ := h
  refine ⟨o, S', h1, h2, fun l hl D b0 => ?_⟩
  refine vx_ofWH (cc := cc) (maxL := nL) (ret := ret) (hh := hh) hy rfl ?_
  intro p e s m args below meth c s₁ B hml hv
  obtain ⟨rfl, hb0, hR, hK, hWf⟩ := hv
  have hts := atoms_spec (ws := .codeWith y cc nL ret hh :: TB) B.pre
  have hl0 := lv_entry av (n := nL) hn
  have key := h3 (p := p) (l := l) (e := e) (R := (headSpec (.codeWith y cc nL ret hh :: TB) (rmOf d S S')).room) (s := s) (m := m) (args := av.toArray) (below := below) (meth := meth) (c := c) (D := D) (b0 := b0) (H := s.heap) (locs := []) (ls := _)
    ⟨B.exec, B.bytes, hml, findClass_of_methodNamed B.named, fun w hw => hts w (List.mem_cons_of_mem _ hw), B.returns, B.notSynchronized, vx_table (x := y) B (hts _ List.mem_cons_self), hK, hl, hb0, hWf, (name_of_methodNamed B.named B.method).1, Nat.le_refl _, Nat.le_refl _⟩
    leM.rf (Nat.le_refl _) (Nat.le_refl _) hR va_S.rf hl0
  rw [lg_entry_eq]
  rw [Nat.sub_self, Nat.sub_self] at key
  exact key
end
section
/-! what a call's end is asked: of an answer of a sort, or of a throw too -/
def oV (P : MS → Prop) : Out → MS → Prop := fun o S1 => (∃ v, o = .inl v ∧ (v = none ∧ P S1)) ∨ ∃ E, o = .inr E ∧ False
def oI (P : Int → MS → Prop) : Out → MS → Prop := fun o S1 => (∃ v, o = .inl v ∧ (∃ r, v = some (vI r) ∧ P r S1)) ∨ ∃ E, o = .inr E ∧ False
def oL (P : BitVec 64 → MS → Prop) : Out → MS → Prop := fun o S1 => (∃ v, o = .inl v ∧ (∃ r, v = some (vL r) ∧ P r S1)) ∨ ∃ E, o = .inr E ∧ False
def oA (P : Nat → MS → Prop) : Out → MS → Prop := fun o S1 => (∃ v, o = .inl v ∧ (∃ r, v = some (vA r) ∧ P r S1)) ∨ ∃ E, o = .inr E ∧ False
def xV (P : MS → Prop) (X : String → MS → Prop) : Out → MS → Prop := fun o S1 => (∃ v, o = .inl v ∧ (v = none ∧ P S1)) ∨ ∃ E, o = .inr E ∧ X E S1
def xI (P : Int → MS → Prop) (X : String → MS → Prop) : Out → MS → Prop := fun o S1 => (∃ v, o = .inl v ∧ (∃ r, v = some (vI r) ∧ P r S1)) ∨ ∃ E, o = .inr E ∧ X E S1
theorem kV {P : MS → Prop} {G : Option Value → MS → Prop} (h : ∀ S1, P S1 → G none S1) : ∀ v S1, (v = none ∧ P S1) → G v S1 := by
  rintro v S1 ⟨rfl, h1⟩; exact h S1 h1
theorem kI {P : Int → MS → Prop} {G : Option Value → MS → Prop} (h : ∀ r S1, P r S1 → G (some (vI r)) S1) : ∀ v S1, (∃ r, v = some (vI r) ∧ P r S1) → G v S1 := by
  rintro v S1 ⟨r, rfl, h1⟩; exact h r S1 h1
theorem kL {P : BitVec 64 → MS → Prop} {G : Option Value → MS → Prop} (h : ∀ r S1, P r S1 → G (some (vL r)) S1) : ∀ v S1, (∃ r, v = some (vL r) ∧ P r S1) → G v S1 := by
  rintro v S1 ⟨r, rfl, h1⟩; exact h r S1 h1
theorem kA {P : Nat → MS → Prop} {G : Option Value → MS → Prop} (h : ∀ r S1, P r S1 → G (some (vA r)) S1) : ∀ v S1, (∃ r, v = some (vA r) ∧ P r S1) → G v S1 := by
  rintro v S1 ⟨r, rfl, h1⟩; exact h r S1 h1
theorem oV_i {P : MS → Prop} {S : MS} (h : P S) : oV P (.inl none) S := Or.inl ⟨_, rfl, rfl, h⟩
theorem oI_i {P : Int → MS → Prop} {S : MS} {r : Int} (h : P r S) : oI P (.inl (some (vI r))) S := Or.inl ⟨_, rfl, _, rfl, h⟩
theorem oL_i {P : BitVec 64 → MS → Prop} {S : MS} {r : BitVec 64} (h : P r S) : oL P (.inl (some (vL r))) S := Or.inl ⟨_, rfl, _, rfl, h⟩
theorem oA_i {P : Nat → MS → Prop} {S : MS} {r : Nat} (h : P r S) : oA P (.inl (some (vA r))) S := Or.inl ⟨_, rfl, _, rfl, h⟩
theorem xV_i {P : MS → Prop} {X : String → MS → Prop} {S : MS} (h : P S) : xV P X (.inl none) S := Or.inl ⟨_, rfl, rfl, h⟩
theorem xI_i {P : Int → MS → Prop} {X : String → MS → Prop} {S : MS} {r : Int} (h : P r S) : xI P X (.inl (some (vI r))) S := Or.inl ⟨_, rfl, _, rfl, h⟩
theorem xV_x {P : MS → Prop} {X : String → MS → Prop} {S : MS} {E : String} (h : X E S) : xV P X (.inr E) S := Or.inr ⟨_, rfl, h⟩
theorem xI_x {P : Int → MS → Prop} {X : String → MS → Prop} {S : MS} {E : String} (h : X E S) : xI P X (.inr E) S := Or.inr ⟨_, rfl, h⟩
theorem j_bind {Fz : FinT} {own : String} {cc : ByteArray} {nL : Nat} {ret : Option FieldType} {hh : List (Nat × Nat × Nat × Nat)} {y : MethodName} {d : Nat} {S0 e : MS} {pc : Nat} {lv : List (Nat × Value)} {st : List Value} {Q : Out → MS → Prop} {P : MS → Prop} (h : ∀ S1, S1 = e → P S1) (k : ∀ S1, P S1 → Jw Fz own cc nL ret hh y d S0 S1 pc lv st Q) : Jw Fz own cc nL ret hh y d S0 e pc lv st Q := k e (h e rfl)
end
