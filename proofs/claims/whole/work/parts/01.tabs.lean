-- ===== PART A: goes FIRST, ahead of the names: the tables' words, and 'selects' of the private methods out of them =====
/-- a private method of a class that the tables say can be made, by its rows of tables_1 -/
def lw_okq (q : MethodName × Nat) : Prop := (q.1.cls ≠ "java/lang/invoke/MethodHandle" ∧ q.1.cls ≠ "java/lang/invoke/VarHandle") ∧ Cond.instantiable q.1.cls q.2 ∈ tables_1 ∧ Cond.privateMethod q.1 ∈ tables_1 ∧ Cond.instanceMethod q.1 ∈ tables_1
theorem lw_p0 : lw_okq (⟨"OneBlanket$Changes", "forgetOldest", "()V"⟩, 6) := ⟨⟨by decide +kernel, by decide +kernel⟩, List.mem_of_getElem? (i := 285) (by decide +kernel), List.mem_of_getElem? (i := 490) (by decide +kernel), List.mem_of_getElem? (i := 491) (by decide +kernel)⟩
theorem lw_p1 : lw_okq (⟨"OneBlanket$Tape", "readLine", "()V"⟩, 5) := ⟨⟨by decide +kernel, by decide +kernel⟩, List.mem_of_getElem? (i := 312) (by decide +kernel), List.mem_of_getElem? (i := 534) (by decide +kernel), List.mem_of_getElem? (i := 535) (by decide +kernel)⟩
theorem lw_p2 : lw_okq (⟨"OneBlanket$Tape", "readLevel", "(II)V"⟩, 5) := ⟨⟨by decide +kernel, by decide +kernel⟩, List.mem_of_getElem? (i := 312) (by decide +kernel), List.mem_of_getElem? (i := 538) (by decide +kernel), List.mem_of_getElem? (i := 539) (by decide +kernel)⟩
theorem lw_p3 : lw_okq (⟨"OneBlanket$Tape", "readOperand", "(I)V"⟩, 5) := ⟨⟨by decide +kernel, by decide +kernel⟩, List.mem_of_getElem? (i := 312) (by decide +kernel), List.mem_of_getElem? (i := 542) (by decide +kernel), List.mem_of_getElem? (i := 543) (by decide +kernel)⟩
theorem lw_p4 : lw_okq (⟨"OneBlanket$Tape", "peek", "()I"⟩, 5) := ⟨⟨by decide +kernel, by decide +kernel⟩, List.mem_of_getElem? (i := 312) (by decide +kernel), List.mem_of_getElem? (i := 547) (by decide +kernel), List.mem_of_getElem? (i := 548) (by decide +kernel)⟩
theorem lw_p5 : lw_okq (⟨"OneBlanket$Tape", "readNumber", "()V"⟩, 5) := ⟨⟨by decide +kernel, by decide +kernel⟩, List.mem_of_getElem? (i := 312) (by decide +kernel), List.mem_of_getElem? (i := 634) (by decide +kernel), List.mem_of_getElem? (i := 635) (by decide +kernel)⟩
theorem lw_p6 : lw_okq (⟨"OneBlanket$Tape", "fail", "()V"⟩, 5) := ⟨⟨by decide +kernel, by decide +kernel⟩, List.mem_of_getElem? (i := 312) (by decide +kernel), List.mem_of_getElem? (i := 642) (by decide +kernel), List.mem_of_getElem? (i := 643) (by decide +kernel)⟩
theorem lw_p7 : lw_okq (⟨"OneBlanket$Tape", "takes", "(I)Z"⟩, 5) := ⟨⟨by decide +kernel, by decide +kernel⟩, List.mem_of_getElem? (i := 312) (by decide +kernel), List.mem_of_getElem? (i := 646) (by decide +kernel), List.mem_of_getElem? (i := 647) (by decide +kernel)⟩
theorem lw_p8 : lw_okq (⟨"OneBlanket$Tape", "takesOneOf", "(Ljava/lang/String;)I"⟩, 5) := ⟨⟨by decide +kernel, by decide +kernel⟩, List.mem_of_getElem? (i := 312) (by decide +kernel), List.mem_of_getElem? (i := 658) (by decide +kernel), List.mem_of_getElem? (i := 659) (by decide +kernel)⟩
theorem lw_p9 : lw_okq (⟨"OneBlanket", "tossedFrom", "(LOneBlanket$Shelf;II)I"⟩, 13) := ⟨⟨by decide +kernel, by decide +kernel⟩, List.mem_of_getElem? (i := 24) (by decide +kernel), List.mem_of_getElem? (i := 722) (by decide +kernel), List.mem_of_getElem? (i := 723) (by decide +kernel)⟩
theorem lw_p10 : lw_okq (⟨"OneBlanket", "playTo", "(I)V"⟩, 13) := ⟨⟨by decide +kernel, by decide +kernel⟩, List.mem_of_getElem? (i := 24) (by decide +kernel), List.mem_of_getElem? (i := 735) (by decide +kernel), List.mem_of_getElem? (i := 736) (by decide +kernel)⟩
theorem lw_p11 : lw_okq (⟨"OneBlanket$Night", "doTold", "(I)V"⟩, 17) := ⟨⟨by decide +kernel, by decide +kernel⟩, List.mem_of_getElem? (i := 154) (by decide +kernel), List.mem_of_getElem? (i := 801) (by decide +kernel), List.mem_of_getElem? (i := 802) (by decide +kernel)⟩
theorem lw_p12 : lw_okq (⟨"OneBlanket$Night", "turnOver", "(III)V"⟩, 17) := ⟨⟨by decide +kernel, by decide +kernel⟩, List.mem_of_getElem? (i := 154) (by decide +kernel), List.mem_of_getElem? (i := 806) (by decide +kernel), List.mem_of_getElem? (i := 807) (by decide +kernel)⟩
theorem lw_p13 : lw_okq (⟨"OneBlanket$Night", "pullOf", "(IIII)I"⟩, 17) := ⟨⟨by decide +kernel, by decide +kernel⟩, List.mem_of_getElem? (i := 154) (by decide +kernel), List.mem_of_getElem? (i := 810) (by decide +kernel), List.mem_of_getElem? (i := 811) (by decide +kernel)⟩
theorem lw_p14 : lw_okq (⟨"OneBlanket$Night", "doDrawn", "(I)V"⟩, 17) := ⟨⟨by decide +kernel, by decide +kernel⟩, List.mem_of_getElem? (i := 154) (by decide +kernel), List.mem_of_getElem? (i := 831) (by decide +kernel), List.mem_of_getElem? (i := 832) (by decide +kernel)⟩
theorem lw_p15 : lw_okq (⟨"OneBlanket$Night", "roll", "()I"⟩, 17) := ⟨⟨by decide +kernel, by decide +kernel⟩, List.mem_of_getElem? (i := 154) (by decide +kernel), List.mem_of_getElem? (i := 835) (by decide +kernel), List.mem_of_getElem? (i := 836) (by decide +kernel)⟩
def lw_privs_1 : List (MethodName × Nat) := [(⟨"OneBlanket$Changes", "forgetOldest", "()V"⟩, 6), (⟨"OneBlanket$Tape", "readLine", "()V"⟩, 5), (⟨"OneBlanket$Tape", "readLevel", "(II)V"⟩, 5), (⟨"OneBlanket$Tape", "readOperand", "(I)V"⟩, 5), (⟨"OneBlanket$Tape", "peek", "()I"⟩, 5), (⟨"OneBlanket$Tape", "readNumber", "()V"⟩, 5), (⟨"OneBlanket$Tape", "fail", "()V"⟩, 5), (⟨"OneBlanket$Tape", "takes", "(I)Z"⟩, 5), (⟨"OneBlanket$Tape", "takesOneOf", "(Ljava/lang/String;)I"⟩, 5), (⟨"OneBlanket", "tossedFrom", "(LOneBlanket$Shelf;II)I"⟩, 13), (⟨"OneBlanket", "playTo", "(I)V"⟩, 13), (⟨"OneBlanket$Night", "doTold", "(I)V"⟩, 17), (⟨"OneBlanket$Night", "turnOver", "(III)V"⟩, 17), (⟨"OneBlanket$Night", "pullOf", "(IIII)I"⟩, 17), (⟨"OneBlanket$Night", "doDrawn", "(I)V"⟩, 17), (⟨"OneBlanket$Night", "roll", "()I"⟩, 17)]
theorem lw_r1 : ∀ q ∈ lw_privs_1, lw_okq q := List.forall_mem_cons.mpr ⟨lw_p0, List.forall_mem_cons.mpr ⟨lw_p1, List.forall_mem_cons.mpr ⟨lw_p2, List.forall_mem_cons.mpr ⟨lw_p3, List.forall_mem_cons.mpr ⟨lw_p4, List.forall_mem_cons.mpr ⟨lw_p5, List.forall_mem_cons.mpr ⟨lw_p6, List.forall_mem_cons.mpr ⟨lw_p7, List.forall_mem_cons.mpr ⟨lw_p8, List.forall_mem_cons.mpr ⟨lw_p9, List.forall_mem_cons.mpr ⟨lw_p10, List.forall_mem_cons.mpr ⟨lw_p11, List.forall_mem_cons.mpr ⟨lw_p12, List.forall_mem_cons.mpr ⟨lw_p13, List.forall_mem_cons.mpr ⟨lw_p14, List.forall_mem_cons.mpr ⟨lw_p15, fun _ h => absurd h List.not_mem_nil⟩⟩⟩⟩⟩⟩⟩⟩⟩⟩⟩⟩⟩⟩⟩⟩
theorem lw_p16 : lw_okq (⟨"OneBlanket$Night", "minuteOfTurns", "(I)I"⟩, 17) := ⟨⟨by decide +kernel, by decide +kernel⟩, List.mem_of_getElem? (i := 154) (by decide +kernel), List.mem_of_getElem? (i := 840) (by decide +kernel), List.mem_of_getElem? (i := 841) (by decide +kernel)⟩
theorem lw_p17 : lw_okq (⟨"OneBlanket$Night", "countIn", "(III)V"⟩, 17) := ⟨⟨by decide +kernel, by decide +kernel⟩, List.mem_of_getElem? (i := 154) (by decide +kernel), List.mem_of_getElem? (i := 844) (by decide +kernel), List.mem_of_getElem? (i := 845) (by decide +kernel)⟩
theorem lw_p18 : lw_okq (⟨"OneBlanket", "orderAsDigits", "(I)I"⟩, 13) := ⟨⟨by decide +kernel, by decide +kernel⟩, List.mem_of_getElem? (i := 24) (by decide +kernel), List.mem_of_getElem? (i := 922) (by decide +kernel), List.mem_of_getElem? (i := 923) (by decide +kernel)⟩
theorem lw_p19 : lw_okq (⟨"OneBlanket", "goToNextOrder", "(I)Z"⟩, 13) := ⟨⟨by decide +kernel, by decide +kernel⟩, List.mem_of_getElem? (i := 24) (by decide +kernel), List.mem_of_getElem? (i := 926) (by decide +kernel), List.mem_of_getElem? (i := 927) (by decide +kernel)⟩
theorem lw_p20 : lw_okq (⟨"OneBlanket", "swapInOrder", "(II)V"⟩, 13) := ⟨⟨by decide +kernel, by decide +kernel⟩, List.mem_of_getElem? (i := 24) (by decide +kernel), List.mem_of_getElem? (i := 930) (by decide +kernel), List.mem_of_getElem? (i := 931) (by decide +kernel)⟩
theorem lw_p21 : lw_okq (⟨"OneBlanket", "isFilmOf", "(ILOneBlanket$Shelf;)Z"⟩, 13) := ⟨⟨by decide +kernel, by decide +kernel⟩, List.mem_of_getElem? (i := 24) (by decide +kernel), List.mem_of_getElem? (i := 951) (by decide +kernel), List.mem_of_getElem? (i := 952) (by decide +kernel)⟩
theorem lw_p22 : lw_okq (⟨"OneBlanket$Bodies", "has", "(I)Z"⟩, 4) := ⟨⟨by decide +kernel, by decide +kernel⟩, List.mem_of_getElem? (i := 353) (by decide +kernel), List.mem_of_getElem? (i := 992) (by decide +kernel), List.mem_of_getElem? (i := 993) (by decide +kernel)⟩
theorem lw_p23 : lw_okq (⟨"OneBlanket$Bodies", "run", "(IIIII)I"⟩, 4) := ⟨⟨by decide +kernel, by decide +kernel⟩, List.mem_of_getElem? (i := 353) (by decide +kernel), List.mem_of_getElem? (i := 996) (by decide +kernel), List.mem_of_getElem? (i := 997) (by decide +kernel)⟩
theorem lw_p24 : lw_okq (⟨"OneBlanket$Bodies", "begins", "(I)V"⟩, 4) := ⟨⟨by decide +kernel, by decide +kernel⟩, List.mem_of_getElem? (i := 353) (by decide +kernel), List.mem_of_getElem? (i := 1007) (by decide +kernel), List.mem_of_getElem? (i := 1008) (by decide +kernel)⟩
theorem lw_p25 : lw_okq (⟨"OneBlanket", "refusalOfPlace", "(II)I"⟩, 13) := ⟨⟨by decide +kernel, by decide +kernel⟩, List.mem_of_getElem? (i := 24) (by decide +kernel), List.mem_of_getElem? (i := 1042) (by decide +kernel), List.mem_of_getElem? (i := 1043) (by decide +kernel)⟩
theorem lw_p26 : lw_okq (⟨"OneBlanketModel", "lays", "(III)V"⟩, 63) := ⟨⟨by decide +kernel, by decide +kernel⟩, List.mem_of_getElem? (i := 1083) (by decide +kernel), List.mem_of_getElem? (i := 1298) (by decide +kernel), List.mem_of_getElem? (i := 1299) (by decide +kernel)⟩
theorem lw_p27 : lw_okq (⟨"OneBlanketModel", "isSleeper", "(I)Z"⟩, 63) := ⟨⟨by decide +kernel, by decide +kernel⟩, List.mem_of_getElem? (i := 1083) (by decide +kernel), List.mem_of_getElem? (i := 1310) (by decide +kernel), List.mem_of_getElem? (i := 1311) (by decide +kernel)⟩
theorem lw_p28 : lw_okq (⟨"OneBlanketModel", "changes", "(III)I"⟩, 63) := ⟨⟨by decide +kernel, by decide +kernel⟩, List.mem_of_getElem? (i := 1083) (by decide +kernel), List.mem_of_getElem? (i := 1314) (by decide +kernel), List.mem_of_getElem? (i := 1315) (by decide +kernel)⟩
theorem lw_p29 : lw_okq (⟨"OneBlanketModel", "valueAt", "(II)I"⟩, 63) := ⟨⟨by decide +kernel, by decide +kernel⟩, List.mem_of_getElem? (i := 1083) (by decide +kernel), List.mem_of_getElem? (i := 1318) (by decide +kernel), List.mem_of_getElem? (i := 1319) (by decide +kernel)⟩
theorem lw_p30 : lw_okq (⟨"OneBlanketModel", "isCover", "(I)Z"⟩, 63) := ⟨⟨by decide +kernel, by decide +kernel⟩, List.mem_of_getElem? (i := 1083) (by decide +kernel), List.mem_of_getElem? (i := 1322) (by decide +kernel), List.mem_of_getElem? (i := 1323) (by decide +kernel)⟩
theorem lw_p31 : lw_okq (⟨"OneBlanketModel", "readText", "(I)I"⟩, 63) := ⟨⟨by decide +kernel, by decide +kernel⟩, List.mem_of_getElem? (i := 1083) (by decide +kernel), List.mem_of_getElem? (i := 1339) (by decide +kernel), List.mem_of_getElem? (i := 1340) (by decide +kernel)⟩
def lw_privs_2 : List (MethodName × Nat) := [(⟨"OneBlanket$Night", "minuteOfTurns", "(I)I"⟩, 17), (⟨"OneBlanket$Night", "countIn", "(III)V"⟩, 17), (⟨"OneBlanket", "orderAsDigits", "(I)I"⟩, 13), (⟨"OneBlanket", "goToNextOrder", "(I)Z"⟩, 13), (⟨"OneBlanket", "swapInOrder", "(II)V"⟩, 13), (⟨"OneBlanket", "isFilmOf", "(ILOneBlanket$Shelf;)Z"⟩, 13), (⟨"OneBlanket$Bodies", "has", "(I)Z"⟩, 4), (⟨"OneBlanket$Bodies", "run", "(IIIII)I"⟩, 4), (⟨"OneBlanket$Bodies", "begins", "(I)V"⟩, 4), (⟨"OneBlanket", "refusalOfPlace", "(II)I"⟩, 13), (⟨"OneBlanketModel", "lays", "(III)V"⟩, 63), (⟨"OneBlanketModel", "isSleeper", "(I)Z"⟩, 63), (⟨"OneBlanketModel", "changes", "(III)I"⟩, 63), (⟨"OneBlanketModel", "valueAt", "(II)I"⟩, 63), (⟨"OneBlanketModel", "isCover", "(I)Z"⟩, 63), (⟨"OneBlanketModel", "readText", "(I)I"⟩, 63)]
theorem lw_r2 : ∀ q ∈ lw_privs_2, lw_okq q := List.forall_mem_cons.mpr ⟨lw_p16, List.forall_mem_cons.mpr ⟨lw_p17, List.forall_mem_cons.mpr ⟨lw_p18, List.forall_mem_cons.mpr ⟨lw_p19, List.forall_mem_cons.mpr ⟨lw_p20, List.forall_mem_cons.mpr ⟨lw_p21, List.forall_mem_cons.mpr ⟨lw_p22, List.forall_mem_cons.mpr ⟨lw_p23, List.forall_mem_cons.mpr ⟨lw_p24, List.forall_mem_cons.mpr ⟨lw_p25, List.forall_mem_cons.mpr ⟨lw_p26, List.forall_mem_cons.mpr ⟨lw_p27, List.forall_mem_cons.mpr ⟨lw_p28, List.forall_mem_cons.mpr ⟨lw_p29, List.forall_mem_cons.mpr ⟨lw_p30, List.forall_mem_cons.mpr ⟨lw_p31, fun _ h => absurd h List.not_mem_nil⟩⟩⟩⟩⟩⟩⟩⟩⟩⟩⟩⟩⟩⟩⟩⟩
theorem lw_p32 : lw_okq (⟨"OneBlanketModel", "line", "()V"⟩, 63) := ⟨⟨by decide +kernel, by decide +kernel⟩, List.mem_of_getElem? (i := 1083) (by decide +kernel), List.mem_of_getElem? (i := 1343) (by decide +kernel), List.mem_of_getElem? (i := 1344) (by decide +kernel)⟩
theorem lw_p33 : lw_okq (⟨"OneBlanketModel", "either", "()V"⟩, 63) := ⟨⟨by decide +kernel, by decide +kernel⟩, List.mem_of_getElem? (i := 1083) (by decide +kernel), List.mem_of_getElem? (i := 1347) (by decide +kernel), List.mem_of_getElem? (i := 1348) (by decide +kernel)⟩
theorem lw_p34 : lw_okq (⟨"OneBlanketModel", "both", "()V"⟩, 63) := ⟨⟨by decide +kernel, by decide +kernel⟩, List.mem_of_getElem? (i := 1083) (by decide +kernel), List.mem_of_getElem? (i := 1351) (by decide +kernel), List.mem_of_getElem? (i := 1352) (by decide +kernel)⟩
theorem lw_p35 : lw_okq (⟨"OneBlanketModel", "compared", "()V"⟩, 63) := ⟨⟨by decide +kernel, by decide +kernel⟩, List.mem_of_getElem? (i := 1083) (by decide +kernel), List.mem_of_getElem? (i := 1355) (by decide +kernel), List.mem_of_getElem? (i := 1356) (by decide +kernel)⟩
theorem lw_p36 : lw_okq (⟨"OneBlanketModel", "sum", "()V"⟩, 63) := ⟨⟨by decide +kernel, by decide +kernel⟩, List.mem_of_getElem? (i := 1083) (by decide +kernel), List.mem_of_getElem? (i := 1359) (by decide +kernel), List.mem_of_getElem? (i := 1360) (by decide +kernel)⟩
theorem lw_p37 : lw_okq (⟨"OneBlanketModel", "product", "()V"⟩, 63) := ⟨⟨by decide +kernel, by decide +kernel⟩, List.mem_of_getElem? (i := 1083) (by decide +kernel), List.mem_of_getElem? (i := 1363) (by decide +kernel), List.mem_of_getElem? (i := 1364) (by decide +kernel)⟩
theorem lw_p38 : lw_okq (⟨"OneBlanketModel", "operand", "()V"⟩, 63) := ⟨⟨by decide +kernel, by decide +kernel⟩, List.mem_of_getElem? (i := 1083) (by decide +kernel), List.mem_of_getElem? (i := 1367) (by decide +kernel), List.mem_of_getElem? (i := 1368) (by decide +kernel)⟩
theorem lw_p39 : lw_okq (⟨"OneBlanketModel", "look", "()I"⟩, 63) := ⟨⟨by decide +kernel, by decide +kernel⟩, List.mem_of_getElem? (i := 1083) (by decide +kernel), List.mem_of_getElem? (i := 1371) (by decide +kernel), List.mem_of_getElem? (i := 1372) (by decide +kernel)⟩
theorem lw_p40 : lw_okq (⟨"OneBlanketModel", "addStep", "(II)V"⟩, 63) := ⟨⟨by decide +kernel, by decide +kernel⟩, List.mem_of_getElem? (i := 1083) (by decide +kernel), List.mem_of_getElem? (i := 1378) (by decide +kernel), List.mem_of_getElem? (i := 1379) (by decide +kernel)⟩
theorem lw_p41 : lw_okq (⟨"OneBlanketModel", "opens", "()Z"⟩, 63) := ⟨⟨by decide +kernel, by decide +kernel⟩, List.mem_of_getElem? (i := 1083) (by decide +kernel), List.mem_of_getElem? (i := 1382) (by decide +kernel), List.mem_of_getElem? (i := 1383) (by decide +kernel)⟩
theorem lw_p42 : lw_okq (⟨"OneBlanketModel", "faulty", "()V"⟩, 63) := ⟨⟨by decide +kernel, by decide +kernel⟩, List.mem_of_getElem? (i := 1083) (by decide +kernel), List.mem_of_getElem? (i := 1386) (by decide +kernel), List.mem_of_getElem? (i := 1387) (by decide +kernel)⟩
theorem lw_p43 : lw_okq (⟨"OneBlanketModel", "figure", "()V"⟩, 63) := ⟨⟨by decide +kernel, by decide +kernel⟩, List.mem_of_getElem? (i := 1083) (by decide +kernel), List.mem_of_getElem? (i := 1390) (by decide +kernel), List.mem_of_getElem? (i := 1391) (by decide +kernel)⟩
theorem lw_p44 : lw_okq (⟨"OneBlanketModel", "addTurn", "(III)I"⟩, 63) := ⟨⟨by decide +kernel, by decide +kernel⟩, List.mem_of_getElem? (i := 1083) (by decide +kernel), List.mem_of_getElem? (i := 1412) (by decide +kernel), List.mem_of_getElem? (i := 1413) (by decide +kernel)⟩
theorem lw_p45 : lw_okq (⟨"OneBlanketModel", "night", "(I)V"⟩, 63) := ⟨⟨by decide +kernel, by decide +kernel⟩, List.mem_of_getElem? (i := 1083) (by decide +kernel), List.mem_of_getElem? (i := 1432) (by decide +kernel), List.mem_of_getElem? (i := 1433) (by decide +kernel)⟩
theorem lw_p46 : lw_okq (⟨"OneBlanketModel", "begin", "()V"⟩, 63) := ⟨⟨by decide +kernel, by decide +kernel⟩, List.mem_of_getElem? (i := 1083) (by decide +kernel), List.mem_of_getElem? (i := 1436) (by decide +kernel), List.mem_of_getElem? (i := 1437) (by decide +kernel)⟩
theorem lw_p47 : lw_okq (⟨"OneBlanketModel", "minute", "(I)V"⟩, 63) := ⟨⟨by decide +kernel, by decide +kernel⟩, List.mem_of_getElem? (i := 1083) (by decide +kernel), List.mem_of_getElem? (i := 1440) (by decide +kernel), List.mem_of_getElem? (i := 1441) (by decide +kernel)⟩
def lw_privs_3 : List (MethodName × Nat) := [(⟨"OneBlanketModel", "line", "()V"⟩, 63), (⟨"OneBlanketModel", "either", "()V"⟩, 63), (⟨"OneBlanketModel", "both", "()V"⟩, 63), (⟨"OneBlanketModel", "compared", "()V"⟩, 63), (⟨"OneBlanketModel", "sum", "()V"⟩, 63), (⟨"OneBlanketModel", "product", "()V"⟩, 63), (⟨"OneBlanketModel", "operand", "()V"⟩, 63), (⟨"OneBlanketModel", "look", "()I"⟩, 63), (⟨"OneBlanketModel", "addStep", "(II)V"⟩, 63), (⟨"OneBlanketModel", "opens", "()Z"⟩, 63), (⟨"OneBlanketModel", "faulty", "()V"⟩, 63), (⟨"OneBlanketModel", "figure", "()V"⟩, 63), (⟨"OneBlanketModel", "addTurn", "(III)I"⟩, 63), (⟨"OneBlanketModel", "night", "(I)V"⟩, 63), (⟨"OneBlanketModel", "begin", "()V"⟩, 63), (⟨"OneBlanketModel", "minute", "(I)V"⟩, 63)]
theorem lw_r3 : ∀ q ∈ lw_privs_3, lw_okq q := List.forall_mem_cons.mpr ⟨lw_p32, List.forall_mem_cons.mpr ⟨lw_p33, List.forall_mem_cons.mpr ⟨lw_p34, List.forall_mem_cons.mpr ⟨lw_p35, List.forall_mem_cons.mpr ⟨lw_p36, List.forall_mem_cons.mpr ⟨lw_p37, List.forall_mem_cons.mpr ⟨lw_p38, List.forall_mem_cons.mpr ⟨lw_p39, List.forall_mem_cons.mpr ⟨lw_p40, List.forall_mem_cons.mpr ⟨lw_p41, List.forall_mem_cons.mpr ⟨lw_p42, List.forall_mem_cons.mpr ⟨lw_p43, List.forall_mem_cons.mpr ⟨lw_p44, List.forall_mem_cons.mpr ⟨lw_p45, List.forall_mem_cons.mpr ⟨lw_p46, List.forall_mem_cons.mpr ⟨lw_p47, fun _ h => absurd h List.not_mem_nil⟩⟩⟩⟩⟩⟩⟩⟩⟩⟩⟩⟩⟩⟩⟩⟩
theorem lw_p48 : lw_okq (⟨"OneBlanketModel", "turnNow", "(III)V"⟩, 63) := ⟨⟨by decide +kernel, by decide +kernel⟩, List.mem_of_getElem? (i := 1083) (by decide +kernel), List.mem_of_getElem? (i := 1444) (by decide +kernel), List.mem_of_getElem? (i := 1445) (by decide +kernel)⟩
theorem lw_p49 : lw_okq (⟨"OneBlanketModel", "coveredOf", "(I)I"⟩, 63) := ⟨⟨by decide +kernel, by decide +kernel⟩, List.mem_of_getElem? (i := 1083) (by decide +kernel), List.mem_of_getElem? (i := 1448) (by decide +kernel), List.mem_of_getElem? (i := 1449) (by decide +kernel)⟩
theorem lw_p50 : lw_okq (⟨"OneBlanketModel", "under", "(II)I"⟩, 63) := ⟨⟨by decide +kernel, by decide +kernel⟩, List.mem_of_getElem? (i := 1083) (by decide +kernel), List.mem_of_getElem? (i := 1452) (by decide +kernel), List.mem_of_getElem? (i := 1453) (by decide +kernel)⟩
theorem lw_p51 : lw_okq (⟨"OneBlanketModel", "drawBy", "(IIIII)I"⟩, 63) := ⟨⟨by decide +kernel, by decide +kernel⟩, List.mem_of_getElem? (i := 1083) (by decide +kernel), List.mem_of_getElem? (i := 1456) (by decide +kernel), List.mem_of_getElem? (i := 1457) (by decide +kernel)⟩
theorem lw_p52 : lw_okq (⟨"OneBlanketModel", "gives", "(I)I"⟩, 63) := ⟨⟨by decide +kernel, by decide +kernel⟩, List.mem_of_getElem? (i := 1083) (by decide +kernel), List.mem_of_getElem? (i := 1463) (by decide +kernel), List.mem_of_getElem? (i := 1464) (by decide +kernel)⟩
theorem lw_p53 : lw_okq (⟨"OneBlanketModel", "worked", "(III)I"⟩, 63) := ⟨⟨by decide +kernel, by decide +kernel⟩, List.mem_of_getElem? (i := 1083) (by decide +kernel), List.mem_of_getElem? (i := 1467) (by decide +kernel), List.mem_of_getElem? (i := 1468) (by decide +kernel)⟩
theorem lw_p54 : lw_okq (⟨"OneBlanketModel", "countNow", "(I)V"⟩, 63) := ⟨⟨by decide +kernel, by decide +kernel⟩, List.mem_of_getElem? (i := 1083) (by decide +kernel), List.mem_of_getElem? (i := 1477) (by decide +kernel), List.mem_of_getElem? (i := 1478) (by decide +kernel)⟩
theorem lw_p55 : lw_okq (⟨"OneBlanketModel", "degrees", "(I)I"⟩, 63) := ⟨⟨by decide +kernel, by decide +kernel⟩, List.mem_of_getElem? (i := 1083) (by decide +kernel), List.mem_of_getElem? (i := 1481) (by decide +kernel), List.mem_of_getElem? (i := 1482) (by decide +kernel)⟩
theorem lw_p56 : lw_okq (⟨"OneBlanketModel", "warmOf", "(II)I"⟩, 63) := ⟨⟨by decide +kernel, by decide +kernel⟩, List.mem_of_getElem? (i := 1083) (by decide +kernel), List.mem_of_getElem? (i := 1485) (by decide +kernel), List.mem_of_getElem? (i := 1486) (by decide +kernel)⟩
theorem lw_p57 : lw_okq (⟨"OneBlanketModel", "isSomeBare", "()Z"⟩, 63) := ⟨⟨by decide +kernel, by decide +kernel⟩, List.mem_of_getElem? (i := 1083) (by decide +kernel), List.mem_of_getElem? (i := 1509) (by decide +kernel), List.mem_of_getElem? (i := 1510) (by decide +kernel)⟩
theorem lw_p58 : lw_okq (⟨"OneBlanketModel", "easyOfAll", "()I"⟩, 63) := ⟨⟨by decide +kernel, by decide +kernel⟩, List.mem_of_getElem? (i := 1083) (by decide +kernel), List.mem_of_getElem? (i := 1517) (by decide +kernel), List.mem_of_getElem? (i := 1518) (by decide +kernel)⟩
theorem lw_p59 : lw_okq (⟨"OneBlanketModel", "leastEasy", "()I"⟩, 63) := ⟨⟨by decide +kernel, by decide +kernel⟩, List.mem_of_getElem? (i := 1083) (by decide +kernel), List.mem_of_getElem? (i := 1525) (by decide +kernel), List.mem_of_getElem? (i := 1526) (by decide +kernel)⟩
theorem lw_p60 : lw_okq (⟨"OneBlanketModel", "isOrder", "(I)Z"⟩, 63) := ⟨⟨by decide +kernel, by decide +kernel⟩, List.mem_of_getElem? (i := 1083) (by decide +kernel), List.mem_of_getElem? (i := 1533) (by decide +kernel), List.mem_of_getElem? (i := 1534) (by decide +kernel)⟩
theorem lw_p61 : lw_okq (⟨"OneBlanketModel", "drawnNight", "(I)V"⟩, 63) := ⟨⟨by decide +kernel, by decide +kernel⟩, List.mem_of_getElem? (i := 1083) (by decide +kernel), List.mem_of_getElem? (i := 1541) (by decide +kernel), List.mem_of_getElem? (i := 1542) (by decide +kernel)⟩
theorem lw_p62 : lw_okq (⟨"OneBlanketModel", "draw", "(I)I"⟩, 63) := ⟨⟨by decide +kernel, by decide +kernel⟩, List.mem_of_getElem? (i := 1083) (by decide +kernel), List.mem_of_getElem? (i := 1545) (by decide +kernel), List.mem_of_getElem? (i := 1546) (by decide +kernel)⟩
theorem lw_p63 : lw_okq (⟨"OneBlanketModel", "isAsFilm", "(I)Z"⟩, 63) := ⟨⟨by decide +kernel, by decide +kernel⟩, List.mem_of_getElem? (i := 1083) (by decide +kernel), List.mem_of_getElem? (i := 1558) (by decide +kernel), List.mem_of_getElem? (i := 1559) (by decide +kernel)⟩
def lw_privs_4 : List (MethodName × Nat) := [(⟨"OneBlanketModel", "turnNow", "(III)V"⟩, 63), (⟨"OneBlanketModel", "coveredOf", "(I)I"⟩, 63), (⟨"OneBlanketModel", "under", "(II)I"⟩, 63), (⟨"OneBlanketModel", "drawBy", "(IIIII)I"⟩, 63), (⟨"OneBlanketModel", "gives", "(I)I"⟩, 63), (⟨"OneBlanketModel", "worked", "(III)I"⟩, 63), (⟨"OneBlanketModel", "countNow", "(I)V"⟩, 63), (⟨"OneBlanketModel", "degrees", "(I)I"⟩, 63), (⟨"OneBlanketModel", "warmOf", "(II)I"⟩, 63), (⟨"OneBlanketModel", "isSomeBare", "()Z"⟩, 63), (⟨"OneBlanketModel", "easyOfAll", "()I"⟩, 63), (⟨"OneBlanketModel", "leastEasy", "()I"⟩, 63), (⟨"OneBlanketModel", "isOrder", "(I)Z"⟩, 63), (⟨"OneBlanketModel", "drawnNight", "(I)V"⟩, 63), (⟨"OneBlanketModel", "draw", "(I)I"⟩, 63), (⟨"OneBlanketModel", "isAsFilm", "(I)Z"⟩, 63)]
theorem lw_r4 : ∀ q ∈ lw_privs_4, lw_okq q := List.forall_mem_cons.mpr ⟨lw_p48, List.forall_mem_cons.mpr ⟨lw_p49, List.forall_mem_cons.mpr ⟨lw_p50, List.forall_mem_cons.mpr ⟨lw_p51, List.forall_mem_cons.mpr ⟨lw_p52, List.forall_mem_cons.mpr ⟨lw_p53, List.forall_mem_cons.mpr ⟨lw_p54, List.forall_mem_cons.mpr ⟨lw_p55, List.forall_mem_cons.mpr ⟨lw_p56, List.forall_mem_cons.mpr ⟨lw_p57, List.forall_mem_cons.mpr ⟨lw_p58, List.forall_mem_cons.mpr ⟨lw_p59, List.forall_mem_cons.mpr ⟨lw_p60, List.forall_mem_cons.mpr ⟨lw_p61, List.forall_mem_cons.mpr ⟨lw_p62, List.forall_mem_cons.mpr ⟨lw_p63, fun _ h => absurd h List.not_mem_nil⟩⟩⟩⟩⟩⟩⟩⟩⟩⟩⟩⟩⟩⟩⟩⟩
theorem lw_p64 : lw_okq (⟨"OneBlanketModel", "isBody", "(I)Z"⟩, 63) := ⟨⟨by decide +kernel, by decide +kernel⟩, List.mem_of_getElem? (i := 1083) (by decide +kernel), List.mem_of_getElem? (i := 1574) (by decide +kernel), List.mem_of_getElem? (i := 1575) (by decide +kernel)⟩
theorem lw_p65 : lw_okq (⟨"OneBlanketModel", "turning", "(II)I"⟩, 63) := ⟨⟨by decide +kernel, by decide +kernel⟩, List.mem_of_getElem? (i := 1083) (by decide +kernel), List.mem_of_getElem? (i := 1578) (by decide +kernel), List.mem_of_getElem? (i := 1579) (by decide +kernel)⟩
theorem lw_p66 : lw_okq (⟨"OneBlanketModel", "ran", "(I)V"⟩, 63) := ⟨⟨by decide +kernel, by decide +kernel⟩, List.mem_of_getElem? (i := 1083) (by decide +kernel), List.mem_of_getElem? (i := 1585) (by decide +kernel), List.mem_of_getElem? (i := 1586) (by decide +kernel)⟩
theorem lw_p67 : lw_okq (⟨"OneBlanketModel", "plainTurns", "(II)I"⟩, 63) := ⟨⟨by decide +kernel, by decide +kernel⟩, List.mem_of_getElem? (i := 1083) (by decide +kernel), List.mem_of_getElem? (i := 1589) (by decide +kernel), List.mem_of_getElem? (i := 1590) (by decide +kernel)⟩
theorem lw_p68 : lw_okq (⟨"OneBlanketModel", "legTurns", "(II)I"⟩, 63) := ⟨⟨by decide +kernel, by decide +kernel⟩, List.mem_of_getElem? (i := 1083) (by decide +kernel), List.mem_of_getElem? (i := 1593) (by decide +kernel), List.mem_of_getElem? (i := 1594) (by decide +kernel)⟩
theorem lw_p69 : lw_okq (⟨"OneBlanketModel", "drawing", "(II)I"⟩, 63) := ⟨⟨by decide +kernel, by decide +kernel⟩, List.mem_of_getElem? (i := 1083) (by decide +kernel), List.mem_of_getElem? (i := 1597) (by decide +kernel), List.mem_of_getElem? (i := 1598) (by decide +kernel)⟩
theorem lw_p70 : lw_okq (⟨"OneBlanketModel", "underDraws", "(II)I"⟩, 63) := ⟨⟨by decide +kernel, by decide +kernel⟩, List.mem_of_getElem? (i := 1083) (by decide +kernel), List.mem_of_getElem? (i := 1601) (by decide +kernel), List.mem_of_getElem? (i := 1602) (by decide +kernel)⟩
theorem lw_p71 : lw_okq (⟨"OneBlanketModel", "plainDraws", "(II)I"⟩, 63) := ⟨⟨by decide +kernel, by decide +kernel⟩, List.mem_of_getElem? (i := 1083) (by decide +kernel), List.mem_of_getElem? (i := 1605) (by decide +kernel), List.mem_of_getElem? (i := 1606) (by decide +kernel)⟩
theorem lw_p72 : lw_okq (⟨"OneBlanketModel", "warming", "(II)I"⟩, 63) := ⟨⟨by decide +kernel, by decide +kernel⟩, List.mem_of_getElem? (i := 1083) (by decide +kernel), List.mem_of_getElem? (i := 1609) (by decide +kernel), List.mem_of_getElem? (i := 1610) (by decide +kernel)⟩
theorem lw_p73 : lw_okq (⟨"OneBlanketModel", "plainWarms", "(II)I"⟩, 63) := ⟨⟨by decide +kernel, by decide +kernel⟩, List.mem_of_getElem? (i := 1083) (by decide +kernel), List.mem_of_getElem? (i := 1613) (by decide +kernel), List.mem_of_getElem? (i := 1614) (by decide +kernel)⟩
theorem lw_p74 : lw_okq (⟨"OneBlanketModel", "waking", "(II)I"⟩, 63) := ⟨⟨by decide +kernel, by decide +kernel⟩, List.mem_of_getElem? (i := 1083) (by decide +kernel), List.mem_of_getElem? (i := 1617) (by decide +kernel), List.mem_of_getElem? (i := 1618) (by decide +kernel)⟩
theorem lw_p75 : lw_okq (⟨"OneBlanketModel", "wokenWakes", "(II)I"⟩, 63) := ⟨⟨by decide +kernel, by decide +kernel⟩, List.mem_of_getElem? (i := 1083) (by decide +kernel), List.mem_of_getElem? (i := 1621) (by decide +kernel), List.mem_of_getElem? (i := 1622) (by decide +kernel)⟩
theorem lw_p76 : lw_okq (⟨"OneBlanketModel", "plainWakes", "(II)I"⟩, 63) := ⟨⟨by decide +kernel, by decide +kernel⟩, List.mem_of_getElem? (i := 1083) (by decide +kernel), List.mem_of_getElem? (i := 1625) (by decide +kernel), List.mem_of_getElem? (i := 1626) (by decide +kernel)⟩
theorem lw_p77 : lw_okq (⟨"OneBlanketModel", "whyNoPlace", "(II)I"⟩, 63) := ⟨⟨by decide +kernel, by decide +kernel⟩, List.mem_of_getElem? (i := 1083) (by decide +kernel), List.mem_of_getElem? (i := 1645) (by decide +kernel), List.mem_of_getElem? (i := 1646) (by decide +kernel)⟩
def lw_privs_5 : List (MethodName × Nat) := [(⟨"OneBlanketModel", "isBody", "(I)Z"⟩, 63), (⟨"OneBlanketModel", "turning", "(II)I"⟩, 63), (⟨"OneBlanketModel", "ran", "(I)V"⟩, 63), (⟨"OneBlanketModel", "plainTurns", "(II)I"⟩, 63), (⟨"OneBlanketModel", "legTurns", "(II)I"⟩, 63), (⟨"OneBlanketModel", "drawing", "(II)I"⟩, 63), (⟨"OneBlanketModel", "underDraws", "(II)I"⟩, 63), (⟨"OneBlanketModel", "plainDraws", "(II)I"⟩, 63), (⟨"OneBlanketModel", "warming", "(II)I"⟩, 63), (⟨"OneBlanketModel", "plainWarms", "(II)I"⟩, 63), (⟨"OneBlanketModel", "waking", "(II)I"⟩, 63), (⟨"OneBlanketModel", "wokenWakes", "(II)I"⟩, 63), (⟨"OneBlanketModel", "plainWakes", "(II)I"⟩, 63), (⟨"OneBlanketModel", "whyNoPlace", "(II)I"⟩, 63)]
theorem lw_r5 : ∀ q ∈ lw_privs_5, lw_okq q := List.forall_mem_cons.mpr ⟨lw_p64, List.forall_mem_cons.mpr ⟨lw_p65, List.forall_mem_cons.mpr ⟨lw_p66, List.forall_mem_cons.mpr ⟨lw_p67, List.forall_mem_cons.mpr ⟨lw_p68, List.forall_mem_cons.mpr ⟨lw_p69, List.forall_mem_cons.mpr ⟨lw_p70, List.forall_mem_cons.mpr ⟨lw_p71, List.forall_mem_cons.mpr ⟨lw_p72, List.forall_mem_cons.mpr ⟨lw_p73, List.forall_mem_cons.mpr ⟨lw_p74, List.forall_mem_cons.mpr ⟨lw_p75, List.forall_mem_cons.mpr ⟨lw_p76, List.forall_mem_cons.mpr ⟨lw_p77, fun _ h => absurd h List.not_mem_nil⟩⟩⟩⟩⟩⟩⟩⟩⟩⟩⟩⟩⟩⟩
def lw_privs : List (MethodName × Nat) := lw_privs_1 ++ (lw_privs_2 ++ (lw_privs_3 ++ (lw_privs_4 ++ (lw_privs_5))))
def lw_tbl : List Cond := k2_sels lw_privs ++ tables_1
theorem lw_privs_ok : ∀ q ∈ lw_privs, lw_okq q := by
  show ∀ q ∈ lw_privs_1 ++ (lw_privs_2 ++ (lw_privs_3 ++ (lw_privs_4 ++ (lw_privs_5)))), lw_okq q
  exact List.forall_mem_append.mpr ⟨lw_r1, List.forall_mem_append.mpr ⟨lw_r2, List.forall_mem_append.mpr ⟨lw_r3, List.forall_mem_append.mpr ⟨lw_r4, lw_r5⟩⟩⟩⟩
/-! class tables and the words that hold in every method -/
def zz_fl : List (List (String × String × String × Bool)) := [
  [("OneBlanket$Bed", "cells", "I", false), ("OneBlanket$Bed", "sleepers", "I", false), ("OneBlanket$Bed", "covers", "I", false), ("OneBlanket$Bed", "place", "[I", true), ("OneBlanket$Bed", "breadth", "[I", true), ("OneBlanket$Bed", "want", "[I", true), ("OneBlanket$Bed", "heat", "[I", true), ("OneBlanket$Bed", "left", "[I", true), ("OneBlanket$Bed", "width", "[I", true), ("OneBlanket$Bed", "warmth", "[I", true), ("OneBlanket$Bed", "tuck", "[I", true)],
  [("OneBlanket$Bodies", "count", "I", false), ("OneBlanket$Bodies", "ran", "I", false), ("OneBlanket$Bodies", "kinds", "[I", true), ("OneBlanket$Bodies", "traced", "[I", true)],
  [("OneBlanket$Changes", "done", "I", false), ("OneBlanket$Changes", "known", "I", false), ("OneBlanket$Changes", "number", "[I", true), ("OneBlanket$Changes", "what", "[I", true), ("OneBlanket$Changes", "was", "[I", true), ("OneBlanket$Changes", "became", "[I", true)],
  [("OneBlanket$Lie", "bed", "LOneBlanket$Bed;", true), ("OneBlanket$Lie", "place", "[I", true), ("OneBlanket$Lie", "covered", "[I", true), ("OneBlanket$Lie", "ownWarm", "[I", true), ("OneBlanket$Lie", "left", "[I", true), ("OneBlanket$Lie", "sleeperBits", "[J", true), ("OneBlanket$Lie", "coverBits", "[J", true)],
  [("OneBlanket$Night", "bed", "LOneBlanket$Bed;", true), ("OneBlanket$Night", "turns", "LOneBlanket$Turns;", true), ("OneBlanket$Night", "room", "LOneBlanket$Room;", true), ("OneBlanket$Night", "laws", "[LOneBlanket$Text;", true), ("OneBlanket$Night", "lie", "LOneBlanket$Lie;", true), ("OneBlanket$Night", "tally", "LOneBlanket$Tally;", true), ("OneBlanket$Night", "drew", "[I", true), ("OneBlanket$Night", "lastWay", "[I", true), ("OneBlanket$Night", "pull", "[I", true), ("OneBlanket$Night", "names", "[I", true), ("OneBlanket$Night", "law", "I", false), ("OneBlanket$Night", "next", "I", false), ("OneBlanket$Night", "nextTurn", "I", false), ("OneBlanket$Night", "moreDegrees", "I", false), ("OneBlanket$Night", "only", "I", false), ("OneBlanket$Night", "dice", "I", false), ("OneBlanket$Night", "odds", "I", false)],
  [("OneBlanket$Room", "degrees", "[I", true), ("OneBlanket$Room", "sameTill", "[I", true), ("OneBlanket$Room", "names", "[I", true)],
  [("OneBlanket$Shelf", "holds", "I", false), ("OneBlanket$Shelf", "body", "I", false), ("OneBlanket$Shelf", "sort", "I", false), ("OneBlanket$Shelf", "size", "I", false), ("OneBlanket$Shelf", "elements", "[J", true)],
  [("OneBlanket$Tally", "easy", "[I", true), ("OneBlanket$Tally", "cold", "[I", true), ("OneBlanket$Tally", "bare", "[I", true), ("OneBlanket$Tally", "wokenAt", "[I", true), ("OneBlanket$Tally", "wokenBy", "[I", true), ("OneBlanket$Tally", "coldInARow", "[I", true)],
  [("OneBlanket$Tape", "length", "I", false), ("OneBlanket$Tape", "text", "LOneBlanket$Text;", true), ("OneBlanket$Tape", "bytes", "[I", true), ("OneBlanket$Tape", "at", "I", false), ("OneBlanket$Tape", "fault", "I", false)],
  [("OneBlanket$Text", "size", "I", false), ("OneBlanket$Text", "codes", "[I", true), ("OneBlanket$Text", "stack", "[I", true)],
  [("OneBlanket$Turns", "count", "I", false), ("OneBlanket$Turns", "minute", "[I", true), ("OneBlanket$Turns", "sleeper", "[I", true), ("OneBlanket$Turns", "cells", "[I", true), ("OneBlanket$Turns", "byMinute", "[I", true)],
  [("OneBlanket", "bed", "LOneBlanket$Bed;", true), ("OneBlanket", "turns", "LOneBlanket$Turns;", true), ("OneBlanket", "room", "LOneBlanket$Room;", true), ("OneBlanket", "laws", "[LOneBlanket$Text;", true), ("OneBlanket", "night", "LOneBlanket$Night;", true), ("OneBlanket", "changes", "LOneBlanket$Changes;", true), ("OneBlanket", "tape", "LOneBlanket$Tape;", true), ("OneBlanket", "bodies", "LOneBlanket$Bodies;", true), ("OneBlanket", "shelves", "[LOneBlanket$Shelf;", true), ("OneBlanket", "order", "[I", true), ("OneBlanket", "sideBySide", "[I", true), ("OneBlanket", "lawCount", "I", false), ("OneBlanket", "inForce", "I", false)],
  [("OneBlanketModel", "code", "I", false), ("OneBlanketModel", "wide", "I", false), ("OneBlanketModel", "sleepers", "I", false), ("OneBlanketModel", "place", "[I", true), ("OneBlanketModel", "breadth", "[I", true), ("OneBlanketModel", "want", "[I", true), ("OneBlanketModel", "heat", "[I", true), ("OneBlanketModel", "covers", "I", false), ("OneBlanketModel", "left", "[I", true), ("OneBlanketModel", "width", "[I", true), ("OneBlanketModel", "warmth", "[I", true), ("OneBlanketModel", "tuck", "[I", true), ("OneBlanketModel", "turns", "I", false), ("OneBlanketModel", "turnMinute", "[I", true), ("OneBlanketModel", "turnBy", "[I", true), ("OneBlanketModel", "turnCells", "[I", true), ("OneBlanketModel", "doneMany", "I", false), ("OneBlanketModel", "undoneMany", "I", false), ("OneBlanketModel", "changeOf", "[I", true), ("OneBlanketModel", "changeAt", "[I", true), ("OneBlanketModel", "before", "[I", true), ("OneBlanketModel", "behind", "[I", true), ("OneBlanketModel", "tape", "[B", true), ("OneBlanketModel", "taped", "I", false), ("OneBlanketModel", "here", "I", false), ("OneBlanketModel", "fault", "I", false), ("OneBlanketModel", "open", "I", false), ("OneBlanketModel", "laid", "I", false), ("OneBlanketModel", "act", "[B", true), ("OneBlanketModel", "with", "[I", true), ("OneBlanketModel", "lineMany", "[I", true), ("OneBlanketModel", "testEnd", "[S", true), ("OneBlanketModel", "lineEnd", "[S", true), ("OneBlanketModel", "facts", "[I", true), ("OneBlanketModel", "pile", "[I", true), ("OneBlanketModel", "laws", "I", false), ("OneBlanketModel", "inForce", "I", false), ("OneBlanketModel", "hasRoom", "Z", false), ("OneBlanketModel", "window", "I", false), ("OneBlanketModel", "at", "[I", true), ("OneBlanketModel", "lies", "[I", true), ("OneBlanketModel", "lastWay", "[I", true), ("OneBlanketModel", "by", "[I", true), ("OneBlanketModel", "easy", "[I", true), ("OneBlanketModel", "cold", "[I", true), ("OneBlanketModel", "bare", "[I", true), ("OneBlanketModel", "coldRow", "[I", true), ("OneBlanketModel", "wokeIn", "[I", true), ("OneBlanketModel", "wokeBy", "[I", true), ("OneBlanketModel", "took", "[I", true), ("OneBlanketModel", "was", "[I", true), ("OneBlanketModel", "alone", "I", false), ("OneBlanketModel", "wasPlace", "[I", true), ("OneBlanketModel", "order", "[I", true), ("OneBlanketModel", "drawn", "I", false), ("OneBlanketModel", "bodies", "I", false), ("OneBlanketModel", "kind", "[I", true), ("OneBlanketModel", "traces", "I", false), ("OneBlanketModel", "traced", "[I", true), ("OneBlanketModel", "holds", "[I", true), ("OneBlanketModel", "size", "[I", true), ("OneBlanketModel", "elements", "[J", true), ("OneBlanketModel", "shifted", "[J", true)]]
def zz_F (ci : Nat) : u_T := fun k => (zz_fl.getD ci []).getD k ("", "", "", false)
def zz_N (ci : Nat) : Nat := (zz_fl.getD ci []).length
def zz_nm : List String := ["OneBlanket$Bed", "OneBlanket$Bodies", "OneBlanket$Changes", "OneBlanket$Lie", "OneBlanket$Night", "OneBlanket$Room", "OneBlanket$Shelf", "OneBlanket$Tally", "OneBlanket$Tape", "OneBlanket$Text", "OneBlanket$Turns", "OneBlanket", "OneBlanketModel"]
def zz_cl : List vw_C := [("OneBlanket$Bed", zz_F 0, 11), ("OneBlanket$Bodies", zz_F 1, 4), ("OneBlanket$Changes", zz_F 2, 6), ("OneBlanket$Lie", zz_F 3, 7), ("OneBlanket$Night", zz_F 4, 17), ("OneBlanket$Room", zz_F 5, 3), ("OneBlanket$Shelf", zz_F 6, 5), ("OneBlanket$Tally", zz_F 7, 6), ("OneBlanket$Tape", zz_F 8, 5), ("OneBlanket$Text", zz_F 9, 3), ("OneBlanket$Turns", zz_F 10, 5), ("OneBlanket", zz_F 11, 13), ("OneBlanketModel", zz_F 12, 63)]
def zz_ft (ci : Nat) : Nat → FieldType := fun k => (parseFieldDescriptor (zz_F ci k).2.2.1).getD .int
def zz_T : List Cond := lw_tbl.filter goodWord
theorem zz_mem {w : Cond} (i : Nat) (h : lw_tbl[i]? = some w) (g : goodWord w = true) : w ∈ zz_T := List.mem_filter.mpr ⟨List.mem_of_getElem? h, g⟩
theorem zz_sub {w : Cond} (h : w ∈ zz_T) : w ∈ lw_tbl := (List.mem_filter.mp h).1
theorem zz_goodT : GoodIn zz_T zz_T := fun w h => ⟨h, good_of_word (List.mem_filter.mp h).2⟩
set_option maxRecDepth 100000 in
theorem zz_ws0 : ∀ w ∈ u_ws "OneBlanket$Bed" (zz_F 0) 11, w ∈ zz_T := by
  have h : (u_ws "OneBlanket$Bed" (zz_F 0) 11).map some = ([144, 146, 148, 150, 152, 154, 156, 158, 160, 162, 164] : List Nat).map (fun i => lw_tbl[i]?) := by decide +kernel
  have g : (u_ws "OneBlanket$Bed" (zz_F 0) 11).all goodWord = true := by decide +kernel
  intro w hw
  have h1 : some w ∈ ([144, 146, 148, 150, 152, 154, 156, 158, 160, 162, 164] : List Nat).map (fun i => lw_tbl[i]?) := by rw [← h]; exact List.mem_map.mpr ⟨w, hw, rfl⟩
  obtain ⟨i, -, hi⟩ := List.mem_map.mp h1
  exact zz_mem i hi (List.all_eq_true.mp g w hw)
theorem zz_nmo0 : ∀ a, a < 11 → ∀ b, b < 11 → a ≠ b → (zz_F 0 a).2.1 ≠ (zz_F 0 b).2.1 := by decide +kernel
theorem zz_tyo0 : ∀ k, k < 11 → parseFieldDescriptor (zz_F 0 k).2.2.1 = some (zz_ft 0 k) := by decide +kernel
set_option maxRecDepth 100000 in
theorem zz_ws1 : ∀ w ∈ u_ws "OneBlanket$Bodies" (zz_F 1) 4, w ∈ zz_T := by
  have h : (u_ws "OneBlanket$Bodies" (zz_F 1) 4).map some = ([444, 446, 448, 450] : List Nat).map (fun i => lw_tbl[i]?) := by decide +kernel
  have g : (u_ws "OneBlanket$Bodies" (zz_F 1) 4).all goodWord = true := by decide +kernel
  intro w hw
  have h1 : some w ∈ ([444, 446, 448, 450] : List Nat).map (fun i => lw_tbl[i]?) := by rw [← h]; exact List.mem_map.mpr ⟨w, hw, rfl⟩
  obtain ⟨i, -, hi⟩ := List.mem_map.mp h1
  exact zz_mem i hi (List.all_eq_true.mp g w hw)
theorem zz_nmo1 : ∀ a, a < 4 → ∀ b, b < 4 → a ≠ b → (zz_F 1 a).2.1 ≠ (zz_F 1 b).2.1 := by decide +kernel
theorem zz_tyo1 : ∀ k, k < 4 → parseFieldDescriptor (zz_F 1 k).2.2.1 = some (zz_ft 1 k) := by decide +kernel
set_option maxRecDepth 100000 in
theorem zz_ws2 : ∀ w ∈ u_ws "OneBlanket$Changes" (zz_F 2) 6, w ∈ zz_T := by
  have h : (u_ws "OneBlanket$Changes" (zz_F 2) 6).map some = ([376, 378, 380, 382, 384, 386] : List Nat).map (fun i => lw_tbl[i]?) := by decide +kernel
  have g : (u_ws "OneBlanket$Changes" (zz_F 2) 6).all goodWord = true := by decide +kernel
  intro w hw
  have h1 : some w ∈ ([376, 378, 380, 382, 384, 386] : List Nat).map (fun i => lw_tbl[i]?) := by rw [← h]; exact List.mem_map.mpr ⟨w, hw, rfl⟩
  obtain ⟨i, -, hi⟩ := List.mem_map.mp h1
  exact zz_mem i hi (List.all_eq_true.mp g w hw)
theorem zz_nmo2 : ∀ a, a < 6 → ∀ b, b < 6 → a ≠ b → (zz_F 2 a).2.1 ≠ (zz_F 2 b).2.1 := by decide +kernel
theorem zz_tyo2 : ∀ k, k < 6 → parseFieldDescriptor (zz_F 2 k).2.2.1 = some (zz_ft 2 k) := by decide +kernel
set_option maxRecDepth 100000 in
theorem zz_ws3 : ∀ w ∈ u_ws "OneBlanket$Lie" (zz_F 3) 7, w ∈ zz_T := by
  have h : (u_ws "OneBlanket$Lie" (zz_F 3) 7).map some = ([288, 290, 292, 294, 296, 298, 300] : List Nat).map (fun i => lw_tbl[i]?) := by decide +kernel
  have g : (u_ws "OneBlanket$Lie" (zz_F 3) 7).all goodWord = true := by decide +kernel
  intro w hw
  have h1 : some w ∈ ([288, 290, 292, 294, 296, 298, 300] : List Nat).map (fun i => lw_tbl[i]?) := by rw [← h]; exact List.mem_map.mpr ⟨w, hw, rfl⟩
  obtain ⟨i, -, hi⟩ := List.mem_map.mp h1
  exact zz_mem i hi (List.all_eq_true.mp g w hw)
theorem zz_nmo3 : ∀ a, a < 7 → ∀ b, b < 7 → a ≠ b → (zz_F 3 a).2.1 ≠ (zz_F 3 b).2.1 := by decide +kernel
theorem zz_tyo3 : ∀ k, k < 7 → parseFieldDescriptor (zz_F 3 k).2.2.1 = some (zz_ft 3 k) := by decide +kernel
set_option maxRecDepth 100000 in
theorem zz_ws4 : ∀ w ∈ u_ws "OneBlanket$Night" (zz_F 4) 17, w ∈ zz_T := by
  have h : (u_ws "OneBlanket$Night" (zz_F 4) 17).map some = ([327, 329, 331, 333, 335, 337, 339, 341, 343, 345, 347, 349, 351, 353, 355, 357, 359] : List Nat).map (fun i => lw_tbl[i]?) := by decide +kernel
  have g : (u_ws "OneBlanket$Night" (zz_F 4) 17).all goodWord = true := by decide +kernel
  intro w hw
  have h1 : some w ∈ ([327, 329, 331, 333, 335, 337, 339, 341, 343, 345, 347, 349, 351, 353, 355, 357, 359] : List Nat).map (fun i => lw_tbl[i]?) := by rw [← h]; exact List.mem_map.mpr ⟨w, hw, rfl⟩
  obtain ⟨i, -, hi⟩ := List.mem_map.mp h1
  exact zz_mem i hi (List.all_eq_true.mp g w hw)
theorem zz_nmo4 : ∀ a, a < 17 → ∀ b, b < 17 → a ≠ b → (zz_F 4 a).2.1 ≠ (zz_F 4 b).2.1 := by decide +kernel
theorem zz_tyo4 : ∀ k, k < 17 → parseFieldDescriptor (zz_F 4 k).2.2.1 = some (zz_ft 4 k) := by decide +kernel
set_option maxRecDepth 100000 in
theorem zz_ws5 : ∀ w ∈ u_ws "OneBlanket$Room" (zz_F 5) 3, w ∈ zz_T := by
  have h : (u_ws "OneBlanket$Room" (zz_F 5) 3).map some = ([221, 223, 225] : List Nat).map (fun i => lw_tbl[i]?) := by decide +kernel
  have g : (u_ws "OneBlanket$Room" (zz_F 5) 3).all goodWord = true := by decide +kernel
  intro w hw
  have h1 : some w ∈ ([221, 223, 225] : List Nat).map (fun i => lw_tbl[i]?) := by rw [← h]; exact List.mem_map.mpr ⟨w, hw, rfl⟩
  obtain ⟨i, -, hi⟩ := List.mem_map.mp h1
  exact zz_mem i hi (List.all_eq_true.mp g w hw)
theorem zz_nmo5 : ∀ a, a < 3 → ∀ b, b < 3 → a ≠ b → (zz_F 5 a).2.1 ≠ (zz_F 5 b).2.1 := by decide +kernel
theorem zz_tyo5 : ∀ k, k < 3 → parseFieldDescriptor (zz_F 5 k).2.2.1 = some (zz_ft 5 k) := by decide +kernel
set_option maxRecDepth 100000 in
theorem zz_ws6 : ∀ w ∈ u_ws "OneBlanket$Shelf" (zz_F 6) 5, w ∈ zz_T := by
  have h : (u_ws "OneBlanket$Shelf" (zz_F 6) 5).map some = ([470, 472, 474, 476, 478] : List Nat).map (fun i => lw_tbl[i]?) := by decide +kernel
  have g : (u_ws "OneBlanket$Shelf" (zz_F 6) 5).all goodWord = true := by decide +kernel
  intro w hw
  have h1 : some w ∈ ([470, 472, 474, 476, 478] : List Nat).map (fun i => lw_tbl[i]?) := by rw [← h]; exact List.mem_map.mpr ⟨w, hw, rfl⟩
  obtain ⟨i, -, hi⟩ := List.mem_map.mp h1
  exact zz_mem i hi (List.all_eq_true.mp g w hw)
theorem zz_nmo6 : ∀ a, a < 5 → ∀ b, b < 5 → a ≠ b → (zz_F 6 a).2.1 ≠ (zz_F 6 b).2.1 := by decide +kernel
theorem zz_tyo6 : ∀ k, k < 5 → parseFieldDescriptor (zz_F 6 k).2.2.1 = some (zz_ft 6 k) := by decide +kernel
set_option maxRecDepth 100000 in
theorem zz_ws7 : ∀ w ∈ u_ws "OneBlanket$Tally" (zz_F 7) 6, w ∈ zz_T := by
  have h : (u_ws "OneBlanket$Tally" (zz_F 7) 6).map some = ([256, 258, 260, 262, 264, 266] : List Nat).map (fun i => lw_tbl[i]?) := by decide +kernel
  have g : (u_ws "OneBlanket$Tally" (zz_F 7) 6).all goodWord = true := by decide +kernel
  intro w hw
  have h1 : some w ∈ ([256, 258, 260, 262, 264, 266] : List Nat).map (fun i => lw_tbl[i]?) := by rw [← h]; exact List.mem_map.mpr ⟨w, hw, rfl⟩
  obtain ⟨i, -, hi⟩ := List.mem_map.mp h1
  exact zz_mem i hi (List.all_eq_true.mp g w hw)
theorem zz_nmo7 : ∀ a, a < 6 → ∀ b, b < 6 → a ≠ b → (zz_F 7 a).2.1 ≠ (zz_F 7 b).2.1 := by decide +kernel
theorem zz_tyo7 : ∀ k, k < 6 → parseFieldDescriptor (zz_F 7 k).2.2.1 = some (zz_ft 7 k) := by decide +kernel
set_option maxRecDepth 100000 in
theorem zz_ws8 : ∀ w ∈ u_ws "OneBlanket$Tape" (zz_F 8) 5, w ∈ zz_T := by
  have h : (u_ws "OneBlanket$Tape" (zz_F 8) 5).map some = ([419, 421, 423, 425, 427] : List Nat).map (fun i => lw_tbl[i]?) := by decide +kernel
  have g : (u_ws "OneBlanket$Tape" (zz_F 8) 5).all goodWord = true := by decide +kernel
  intro w hw
  have h1 : some w ∈ ([419, 421, 423, 425, 427] : List Nat).map (fun i => lw_tbl[i]?) := by rw [← h]; exact List.mem_map.mpr ⟨w, hw, rfl⟩
  obtain ⟨i, -, hi⟩ := List.mem_map.mp h1
  exact zz_mem i hi (List.all_eq_true.mp g w hw)
theorem zz_nmo8 : ∀ a, a < 5 → ∀ b, b < 5 → a ≠ b → (zz_F 8 a).2.1 ≠ (zz_F 8 b).2.1 := by decide +kernel
theorem zz_tyo8 : ∀ k, k < 5 → parseFieldDescriptor (zz_F 8 k).2.2.1 = some (zz_ft 8 k) := by decide +kernel
set_option maxRecDepth 100000 in
theorem zz_ws9 : ∀ w ∈ u_ws "OneBlanket$Text" (zz_F 9) 3, w ∈ zz_T := by
  have h : (u_ws "OneBlanket$Text" (zz_F 9) 3).map some = ([405, 407, 409] : List Nat).map (fun i => lw_tbl[i]?) := by decide +kernel
  have g : (u_ws "OneBlanket$Text" (zz_F 9) 3).all goodWord = true := by decide +kernel
  intro w hw
  have h1 : some w ∈ ([405, 407, 409] : List Nat).map (fun i => lw_tbl[i]?) := by rw [← h]; exact List.mem_map.mpr ⟨w, hw, rfl⟩
  obtain ⟨i, -, hi⟩ := List.mem_map.mp h1
  exact zz_mem i hi (List.all_eq_true.mp g w hw)
theorem zz_nmo9 : ∀ a, a < 3 → ∀ b, b < 3 → a ≠ b → (zz_F 9 a).2.1 ≠ (zz_F 9 b).2.1 := by decide +kernel
theorem zz_tyo9 : ∀ k, k < 3 → parseFieldDescriptor (zz_F 9 k).2.2.1 = some (zz_ft 9 k) := by decide +kernel
set_option maxRecDepth 100000 in
theorem zz_ws10 : ∀ w ∈ u_ws "OneBlanket$Turns" (zz_F 10) 5, w ∈ zz_T := by
  have h : (u_ws "OneBlanket$Turns" (zz_F 10) 5).map some = ([185, 187, 189, 191, 193] : List Nat).map (fun i => lw_tbl[i]?) := by decide +kernel
  have g : (u_ws "OneBlanket$Turns" (zz_F 10) 5).all goodWord = true := by decide +kernel
  intro w hw
  have h1 : some w ∈ ([185, 187, 189, 191, 193] : List Nat).map (fun i => lw_tbl[i]?) := by rw [← h]; exact List.mem_map.mpr ⟨w, hw, rfl⟩
  obtain ⟨i, -, hi⟩ := List.mem_map.mp h1
  exact zz_mem i hi (List.all_eq_true.mp g w hw)
theorem zz_nmo10 : ∀ a, a < 5 → ∀ b, b < 5 → a ≠ b → (zz_F 10 a).2.1 ≠ (zz_F 10 b).2.1 := by decide +kernel
theorem zz_tyo10 : ∀ k, k < 5 → parseFieldDescriptor (zz_F 10 k).2.2.1 = some (zz_ft 10 k) := by decide +kernel
set_option maxRecDepth 100000 in
theorem zz_ws11 : ∀ w ∈ u_ws "OneBlanket" (zz_F 11) 13, w ∈ zz_T := by
  have h : (u_ws "OneBlanket" (zz_F 11) 13).map some = ([494, 496, 498, 500, 502, 504, 506, 508, 510, 512, 514, 516, 518] : List Nat).map (fun i => lw_tbl[i]?) := by decide +kernel
  have g : (u_ws "OneBlanket" (zz_F 11) 13).all goodWord = true := by decide +kernel
  intro w hw
  have h1 : some w ∈ ([494, 496, 498, 500, 502, 504, 506, 508, 510, 512, 514, 516, 518] : List Nat).map (fun i => lw_tbl[i]?) := by rw [← h]; exact List.mem_map.mpr ⟨w, hw, rfl⟩
  obtain ⟨i, -, hi⟩ := List.mem_map.mp h1
  exact zz_mem i hi (List.all_eq_true.mp g w hw)
theorem zz_nmo11 : ∀ a, a < 13 → ∀ b, b < 13 → a ≠ b → (zz_F 11 a).2.1 ≠ (zz_F 11 b).2.1 := by decide +kernel
theorem zz_tyo11 : ∀ k, k < 13 → parseFieldDescriptor (zz_F 11 k).2.2.1 = some (zz_ft 11 k) := by decide +kernel
set_option maxRecDepth 100000 in
theorem zz_ws12 : ∀ w ∈ u_ws "OneBlanketModel" (zz_F 12) 63, w ∈ zz_T := by
  have h : (u_ws "OneBlanketModel" (zz_F 12) 63).map some = ([1228, 1230, 1232, 1234, 1236, 1238, 1240, 1242, 1244, 1246, 1248, 1250, 1252, 1254, 1256, 1258, 1260, 1262, 1264, 1266, 1268, 1270, 1272, 1274, 1276, 1278, 1280, 1282, 1284, 1286, 1288, 1290, 1292, 1294, 1296, 1298, 1300, 1302, 1304, 1306, 1308, 1310, 1312, 1314, 1316, 1318, 1320, 1322, 1324, 1326, 1328, 1330, 1332, 1334, 1336, 1338, 1340, 1342, 1344, 1346, 1348, 1350, 1352] : List Nat).map (fun i => lw_tbl[i]?) := by decide +kernel
  have g : (u_ws "OneBlanketModel" (zz_F 12) 63).all goodWord = true := by decide +kernel
  intro w hw
  have h1 : some w ∈ ([1228, 1230, 1232, 1234, 1236, 1238, 1240, 1242, 1244, 1246, 1248, 1250, 1252, 1254, 1256, 1258, 1260, 1262, 1264, 1266, 1268, 1270, 1272, 1274, 1276, 1278, 1280, 1282, 1284, 1286, 1288, 1290, 1292, 1294, 1296, 1298, 1300, 1302, 1304, 1306, 1308, 1310, 1312, 1314, 1316, 1318, 1320, 1322, 1324, 1326, 1328, 1330, 1332, 1334, 1336, 1338, 1340, 1342, 1344, 1346, 1348, 1350, 1352] : List Nat).map (fun i => lw_tbl[i]?) := by rw [← h]; exact List.mem_map.mpr ⟨w, hw, rfl⟩
  obtain ⟨i, -, hi⟩ := List.mem_map.mp h1
  exact zz_mem i hi (List.all_eq_true.mp g w hw)
theorem zz_nmo12 : ∀ a, a < 63 → ∀ b, b < 63 → a ≠ b → (zz_F 12 a).2.1 ≠ (zz_F 12 b).2.1 := by decide +kernel
theorem zz_tyo12 : ∀ k, k < 63 → parseFieldDescriptor (zz_F 12 k).2.2.1 = some (zz_ft 12 k) := by decide +kernel
theorem zz_cls {ci : Nat} {C : String} {T : u_T} {N : Nat} (h : zz_cl[ci]? = some (C, T, N)) : (∀ w ∈ u_ws C T N, w ∈ zz_T) ∧ (∀ a, a < N → ∀ b, b < N → a ≠ b → (T a).2.1 ≠ (T b).2.1) ∧ (∀ k, k < N → parseFieldDescriptor (T k).2.2.1 = some (zz_ft ci k)) := by
  match ci, h with
  | 0, h => cases h; exact ⟨zz_ws0, zz_nmo0, zz_tyo0⟩
  | 1, h => cases h; exact ⟨zz_ws1, zz_nmo1, zz_tyo1⟩
  | 2, h => cases h; exact ⟨zz_ws2, zz_nmo2, zz_tyo2⟩
  | 3, h => cases h; exact ⟨zz_ws3, zz_nmo3, zz_tyo3⟩
  | 4, h => cases h; exact ⟨zz_ws4, zz_nmo4, zz_tyo4⟩
  | 5, h => cases h; exact ⟨zz_ws5, zz_nmo5, zz_tyo5⟩
  | 6, h => cases h; exact ⟨zz_ws6, zz_nmo6, zz_tyo6⟩
  | 7, h => cases h; exact ⟨zz_ws7, zz_nmo7, zz_tyo7⟩
  | 8, h => cases h; exact ⟨zz_ws8, zz_nmo8, zz_tyo8⟩
  | 9, h => cases h; exact ⟨zz_ws9, zz_nmo9, zz_tyo9⟩
  | 10, h => cases h; exact ⟨zz_ws10, zz_nmo10, zz_tyo10⟩
  | 11, h => cases h; exact ⟨zz_ws11, zz_nmo11, zz_tyo11⟩
  | 12, h => cases h; exact ⟨zz_ws12, zz_nmo12, zz_tyo12⟩
  | n + 13, h => simp [zz_cl] at h
