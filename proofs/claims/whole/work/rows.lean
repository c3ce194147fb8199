section
-- ===== PART A: goes FIRST, ahead of the names: the tables' words, and 'selects' of the private methods out of them =====
/-- a private method of a class that the tables say can be made, by its rows of tables_1 -/
def lw_okq (q : MethodName × Nat) : Prop := (q.1.cls ≠ "java/lang/invoke/MethodHandle" ∧ q.1.cls ≠ "java/lang/invoke/VarHandle") ∧ Cond.instantiable q.1.cls q.2 ∈ tables_1 ∧ Cond.privateMethod q.1 ∈ tables_1 ∧ Cond.instanceMethod q.1 ∈ tables_1
theorem lw_p0 : lw_okq (⟨"BagsRiver$Tape", "put", "(I)V"⟩, 11) := ⟨⟨by decide +kernel, by decide +kernel⟩, List.mem_of_getElem? (i := 32) (by decide +kernel), List.mem_of_getElem? (i := 542) (by decide +kernel), List.mem_of_getElem? (i := 543) (by decide +kernel)⟩
theorem lw_p1 : lw_okq (⟨"BagsRiver$Tape", "readRun", "()V"⟩, 11) := ⟨⟨by decide +kernel, by decide +kernel⟩, List.mem_of_getElem? (i := 32) (by decide +kernel), List.mem_of_getElem? (i := 575) (by decide +kernel), List.mem_of_getElem? (i := 576) (by decide +kernel)⟩
theorem lw_p2 : lw_okq (⟨"BagsRiver$StreetReader", "readLine", "()Z"⟩, 5) := ⟨⟨by decide +kernel, by decide +kernel⟩, List.mem_of_getElem? (i := 86) (by decide +kernel), List.mem_of_getElem? (i := 596) (by decide +kernel), List.mem_of_getElem? (i := 597) (by decide +kernel)⟩
theorem lw_p3 : lw_okq (⟨"BagsRiver$StreetReader", "readWall", "()Z"⟩, 5) := ⟨⟨by decide +kernel, by decide +kernel⟩, List.mem_of_getElem? (i := 86) (by decide +kernel), List.mem_of_getElem? (i := 612) (by decide +kernel), List.mem_of_getElem? (i := 613) (by decide +kernel)⟩
theorem lw_p4 : lw_okq (⟨"BagsRiver$StreetReader", "takeNewName", "()Z"⟩, 5) := ⟨⟨by decide +kernel, by decide +kernel⟩, List.mem_of_getElem? (i := 86) (by decide +kernel), List.mem_of_getElem? (i := 617) (by decide +kernel), List.mem_of_getElem? (i := 618) (by decide +kernel)⟩
theorem lw_p5 : lw_okq (⟨"BagsRiver$StreetReader", "readHouse", "()Z"⟩, 5) := ⟨⟨by decide +kernel, by decide +kernel⟩, List.mem_of_getElem? (i := 86) (by decide +kernel), List.mem_of_getElem? (i := 645) (by decide +kernel), List.mem_of_getElem? (i := 646) (by decide +kernel)⟩
theorem lw_p6 : lw_okq (⟨"BagsRiver$StreetReader", "seeWallOrOutside", "()I"⟩, 5) := ⟨⟨by decide +kernel, by decide +kernel⟩, List.mem_of_getElem? (i := 86) (by decide +kernel), List.mem_of_getElem? (i := 649) (by decide +kernel), List.mem_of_getElem? (i := 650) (by decide +kernel)⟩
theorem lw_p7 : lw_okq (⟨"BagsRiver$StreetReader", "readDrain", "()Z"⟩, 5) := ⟨⟨by decide +kernel, by decide +kernel⟩, List.mem_of_getElem? (i := 86) (by decide +kernel), List.mem_of_getElem? (i := 665) (by decide +kernel), List.mem_of_getElem? (i := 666) (by decide +kernel)⟩
theorem lw_p8 : lw_okq (⟨"BagsRiver$StreetReader", "readPair", "(LBagsRiver$Pairs;III)Z"⟩, 5) := ⟨⟨by decide +kernel, by decide +kernel⟩, List.mem_of_getElem? (i := 86) (by decide +kernel), List.mem_of_getElem? (i := 673) (by decide +kernel), List.mem_of_getElem? (i := 674) (by decide +kernel)⟩
theorem lw_p9 : lw_okq (⟨"BagsRiver$StreetReader", "readPeople", "()Z"⟩, 5) := ⟨⟨by decide +kernel, by decide +kernel⟩, List.mem_of_getElem? (i := 86) (by decide +kernel), List.mem_of_getElem? (i := 691) (by decide +kernel), List.mem_of_getElem? (i := 692) (by decide +kernel)⟩
theorem lw_p10 : lw_okq (⟨"BagsRiver$StreetReader", "readSand", "()Z"⟩, 5) := ⟨⟨by decide +kernel, by decide +kernel⟩, List.mem_of_getElem? (i := 86) (by decide +kernel), List.mem_of_getElem? (i := 695) (by decide +kernel), List.mem_of_getElem? (i := 696) (by decide +kernel)⟩
theorem lw_p11 : lw_okq (⟨"BagsRiver$StreetReader", "readRate", "()Z"⟩, 5) := ⟨⟨by decide +kernel, by decide +kernel⟩, List.mem_of_getElem? (i := 86) (by decide +kernel), List.mem_of_getElem? (i := 699) (by decide +kernel), List.mem_of_getElem? (i := 700) (by decide +kernel)⟩
theorem lw_p12 : lw_okq (⟨"BagsRiver$State", "layDown", "(LBagsRiver$Street;I)V"⟩, 14) := ⟨⟨by decide +kernel, by decide +kernel⟩, List.mem_of_getElem? (i := 250) (by decide +kernel), List.mem_of_getElem? (i := 882) (by decide +kernel), List.mem_of_getElem? (i := 883) (by decide +kernel)⟩
theorem lw_p13 : lw_okq (⟨"BagsRiver", "bagsCarriedBy", "(III)I"⟩, 18) := ⟨⟨by decide +kernel, by decide +kernel⟩, List.mem_of_getElem? (i := 24) (by decide +kernel), List.mem_of_getElem? (i := 930) (by decide +kernel), List.mem_of_getElem? (i := 931) (by decide +kernel)⟩
theorem lw_p14 : lw_okq (⟨"BagsRiver", "savedInGame", "(IIII)I"⟩, 18) := ⟨⟨by decide +kernel, by decide +kernel⟩, List.mem_of_getElem? (i := 24) (by decide +kernel), List.mem_of_getElem? (i := 957) (by decide +kernel), List.mem_of_getElem? (i := 958) (by decide +kernel)⟩
theorem lw_p15 : lw_okq (⟨"BagsRiver", "tryToTheEnd", "()V"⟩, 18) := ⟨⟨by decide +kernel, by decide +kernel⟩, List.mem_of_getElem? (i := 24) (by decide +kernel), List.mem_of_getElem? (i := 984) (by decide +kernel), List.mem_of_getElem? (i := 985) (by decide +kernel)⟩
def lw_privs_1 : List (MethodName × Nat) := [(⟨"BagsRiver$Tape", "put", "(I)V"⟩, 11), (⟨"BagsRiver$Tape", "readRun", "()V"⟩, 11), (⟨"BagsRiver$StreetReader", "readLine", "()Z"⟩, 5), (⟨"BagsRiver$StreetReader", "readWall", "()Z"⟩, 5), (⟨"BagsRiver$StreetReader", "takeNewName", "()Z"⟩, 5), (⟨"BagsRiver$StreetReader", "readHouse", "()Z"⟩, 5), (⟨"BagsRiver$StreetReader", "seeWallOrOutside", "()I"⟩, 5), (⟨"BagsRiver$StreetReader", "readDrain", "()Z"⟩, 5), (⟨"BagsRiver$StreetReader", "readPair", "(LBagsRiver$Pairs;III)Z"⟩, 5), (⟨"BagsRiver$StreetReader", "readPeople", "()Z"⟩, 5), (⟨"BagsRiver$StreetReader", "readSand", "()Z"⟩, 5), (⟨"BagsRiver$StreetReader", "readRate", "()Z"⟩, 5), (⟨"BagsRiver$State", "layDown", "(LBagsRiver$Street;I)V"⟩, 14), (⟨"BagsRiver", "bagsCarriedBy", "(III)I"⟩, 18), (⟨"BagsRiver", "savedInGame", "(IIII)I"⟩, 18), (⟨"BagsRiver", "tryToTheEnd", "()V"⟩, 18)]
theorem lw_r1 : ∀ q ∈ lw_privs_1, lw_okq q := List.forall_mem_cons.mpr ⟨lw_p0, List.forall_mem_cons.mpr ⟨lw_p1, List.forall_mem_cons.mpr ⟨lw_p2, List.forall_mem_cons.mpr ⟨lw_p3, List.forall_mem_cons.mpr ⟨lw_p4, List.forall_mem_cons.mpr ⟨lw_p5, List.forall_mem_cons.mpr ⟨lw_p6, List.forall_mem_cons.mpr ⟨lw_p7, List.forall_mem_cons.mpr ⟨lw_p8, List.forall_mem_cons.mpr ⟨lw_p9, List.forall_mem_cons.mpr ⟨lw_p10, List.forall_mem_cons.mpr ⟨lw_p11, List.forall_mem_cons.mpr ⟨lw_p12, List.forall_mem_cons.mpr ⟨lw_p13, List.forall_mem_cons.mpr ⟨lw_p14, List.forall_mem_cons.mpr ⟨lw_p15, fun _ h => absurd h List.not_mem_nil⟩⟩⟩⟩⟩⟩⟩⟩⟩⟩⟩⟩⟩⟩⟩⟩
theorem lw_p16 : lw_okq (⟨"BagsRiver", "dearestCarpets", "(I)I"⟩, 18) := ⟨⟨by decide +kernel, by decide +kernel⟩, List.mem_of_getElem? (i := 24) (by decide +kernel), List.mem_of_getElem? (i := 996) (by decide +kernel), List.mem_of_getElem? (i := 997) (by decide +kernel)⟩
theorem lw_p17 : lw_okq (⟨"BagsRiver$Book", "readLine", "(LBagsRiver$Tape;LBagsRiver$Street;)Z"⟩, 10) := ⟨⟨by decide +kernel, by decide +kernel⟩, List.mem_of_getElem? (i := 367) (by decide +kernel), List.mem_of_getElem? (i := 1033) (by decide +kernel), List.mem_of_getElem? (i := 1034) (by decide +kernel)⟩
theorem lw_p18 : lw_okq (⟨"BagsRiver$Book", "readPost", "(LBagsRiver$Tape;LBagsRiver$Street;)Z"⟩, 10) := ⟨⟨by decide +kernel, by decide +kernel⟩, List.mem_of_getElem? (i := 367) (by decide +kernel), List.mem_of_getElem? (i := 1047) (by decide +kernel), List.mem_of_getElem? (i := 1048) (by decide +kernel)⟩
theorem lw_p19 : lw_okq (⟨"BagsRiver$Book", "readPlace", "(LBagsRiver$Tape;LBagsRiver$Street;LBagsRiver$Word;)Z"⟩, 10) := ⟨⟨by decide +kernel, by decide +kernel⟩, List.mem_of_getElem? (i := 367) (by decide +kernel), List.mem_of_getElem? (i := 1061) (by decide +kernel), List.mem_of_getElem? (i := 1062) (by decide +kernel)⟩
theorem lw_p20 : lw_okq (⟨"BagsRiver$Book", "whyWrong", "(LBagsRiver$Street;LBagsRiver$State;I)I"⟩, 10) := ⟨⟨by decide +kernel, by decide +kernel⟩, List.mem_of_getElem? (i := 367) (by decide +kernel), List.mem_of_getElem? (i := 1071) (by decide +kernel), List.mem_of_getElem? (i := 1072) (by decide +kernel)⟩
theorem lw_p21 : lw_okq (⟨"BagsRiver$Book", "live", "(LBagsRiver$Street;LBagsRiver$State;I)V"⟩, 10) := ⟨⟨by decide +kernel, by decide +kernel⟩, List.mem_of_getElem? (i := 367) (by decide +kernel), List.mem_of_getElem? (i := 1078) (by decide +kernel), List.mem_of_getElem? (i := 1079) (by decide +kernel)⟩
theorem lw_p22 : lw_okq (⟨"BagsRiver$Sentence", "readCond", "(LBagsRiver$Tape;LBagsRiver$Street;I)Z"⟩, 6) := ⟨⟨by decide +kernel, by decide +kernel⟩, List.mem_of_getElem? (i := 339) (by decide +kernel), List.mem_of_getElem? (i := 1104) (by decide +kernel), List.mem_of_getElem? (i := 1105) (by decide +kernel)⟩
theorem lw_p23 : lw_okq (⟨"BagsRiver$Sentence", "readAll", "(LBagsRiver$Tape;LBagsRiver$Street;I)Z"⟩, 6) := ⟨⟨by decide +kernel, by decide +kernel⟩, List.mem_of_getElem? (i := 339) (by decide +kernel), List.mem_of_getElem? (i := 1108) (by decide +kernel), List.mem_of_getElem? (i := 1109) (by decide +kernel)⟩
theorem lw_p24 : lw_okq (⟨"BagsRiver$Sentence", "readOne", "(LBagsRiver$Tape;LBagsRiver$Street;I)Z"⟩, 6) := ⟨⟨by decide +kernel, by decide +kernel⟩, List.mem_of_getElem? (i := 339) (by decide +kernel), List.mem_of_getElem? (i := 1112) (by decide +kernel), List.mem_of_getElem? (i := 1113) (by decide +kernel)⟩
theorem lw_p25 : lw_okq (⟨"BagsRiver$Sentence", "addStep", "(LBagsRiver$Word;II)Z"⟩, 6) := ⟨⟨by decide +kernel, by decide +kernel⟩, List.mem_of_getElem? (i := 339) (by decide +kernel), List.mem_of_getElem? (i := 1140) (by decide +kernel), List.mem_of_getElem? (i := 1141) (by decide +kernel)⟩
theorem lw_p26 : lw_okq (⟨"BagsRiver$Sentence", "readBehind", "(LBagsRiver$Tape;LBagsRiver$Street;)Z"⟩, 6) := ⟨⟨by decide +kernel, by decide +kernel⟩, List.mem_of_getElem? (i := 339) (by decide +kernel), List.mem_of_getElem? (i := 1144) (by decide +kernel), List.mem_of_getElem? (i := 1145) (by decide +kernel)⟩
theorem lw_p27 : lw_okq (⟨"BagsRiver$Sentence", "readComparison", "(LBagsRiver$Tape;LBagsRiver$Word;)Z"⟩, 6) := ⟨⟨by decide +kernel, by decide +kernel⟩, List.mem_of_getElem? (i := 339) (by decide +kernel), List.mem_of_getElem? (i := 1149) (by decide +kernel), List.mem_of_getElem? (i := 1150) (by decide +kernel)⟩
theorem lw_p28 : lw_okq (⟨"BagsRiver$Sentence", "housesOfStep", "(LBagsRiver$Street;LBagsRiver$State;I)I"⟩, 6) := ⟨⟨by decide +kernel, by decide +kernel⟩, List.mem_of_getElem? (i := 339) (by decide +kernel), List.mem_of_getElem? (i := 1166) (by decide +kernel), List.mem_of_getElem? (i := 1167) (by decide +kernel)⟩
theorem lw_p29 : lw_okq (⟨"BagsRiver$Sentence", "isSo", "(LBagsRiver$Street;LBagsRiver$State;II)Z"⟩, 6) := ⟨⟨by decide +kernel, by decide +kernel⟩, List.mem_of_getElem? (i := 339) (by decide +kernel), List.mem_of_getElem? (i := 1170) (by decide +kernel), List.mem_of_getElem? (i := 1171) (by decide +kernel)⟩
theorem lw_p30 : lw_okq (⟨"BagsRiver$Sentence", "compares", "(II)Z"⟩, 6) := ⟨⟨by decide +kernel, by decide +kernel⟩, List.mem_of_getElem? (i := 339) (by decide +kernel), List.mem_of_getElem? (i := 1180) (by decide +kernel), List.mem_of_getElem? (i := 1181) (by decide +kernel)⟩
theorem lw_p31 : lw_okq (⟨"java/lang/Throwable", "fillInStackTrace", "(I)Ljava/lang/Throwable;"⟩, 6) := ⟨⟨by decide +kernel, by decide +kernel⟩, List.mem_of_getElem? (i := 1258) (by decide +kernel), List.mem_of_getElem? (i := 1256) (by decide +kernel), List.mem_of_getElem? (i := 1257) (by decide +kernel)⟩
def lw_privs_2 : List (MethodName × Nat) := [(⟨"BagsRiver", "dearestCarpets", "(I)I"⟩, 18), (⟨"BagsRiver$Book", "readLine", "(LBagsRiver$Tape;LBagsRiver$Street;)Z"⟩, 10), (⟨"BagsRiver$Book", "readPost", "(LBagsRiver$Tape;LBagsRiver$Street;)Z"⟩, 10), (⟨"BagsRiver$Book", "readPlace", "(LBagsRiver$Tape;LBagsRiver$Street;LBagsRiver$Word;)Z"⟩, 10), (⟨"BagsRiver$Book", "whyWrong", "(LBagsRiver$Street;LBagsRiver$State;I)I"⟩, 10), (⟨"BagsRiver$Book", "live", "(LBagsRiver$Street;LBagsRiver$State;I)V"⟩, 10), (⟨"BagsRiver$Sentence", "readCond", "(LBagsRiver$Tape;LBagsRiver$Street;I)Z"⟩, 6), (⟨"BagsRiver$Sentence", "readAll", "(LBagsRiver$Tape;LBagsRiver$Street;I)Z"⟩, 6), (⟨"BagsRiver$Sentence", "readOne", "(LBagsRiver$Tape;LBagsRiver$Street;I)Z"⟩, 6), (⟨"BagsRiver$Sentence", "addStep", "(LBagsRiver$Word;II)Z"⟩, 6), (⟨"BagsRiver$Sentence", "readBehind", "(LBagsRiver$Tape;LBagsRiver$Street;)Z"⟩, 6), (⟨"BagsRiver$Sentence", "readComparison", "(LBagsRiver$Tape;LBagsRiver$Word;)Z"⟩, 6), (⟨"BagsRiver$Sentence", "housesOfStep", "(LBagsRiver$Street;LBagsRiver$State;I)I"⟩, 6), (⟨"BagsRiver$Sentence", "isSo", "(LBagsRiver$Street;LBagsRiver$State;II)Z"⟩, 6), (⟨"BagsRiver$Sentence", "compares", "(II)Z"⟩, 6), (⟨"java/lang/Throwable", "fillInStackTrace", "(I)Ljava/lang/Throwable;"⟩, 6)]
theorem lw_r2 : ∀ q ∈ lw_privs_2, lw_okq q := List.forall_mem_cons.mpr ⟨lw_p16, List.forall_mem_cons.mpr ⟨lw_p17, List.forall_mem_cons.mpr ⟨lw_p18, List.forall_mem_cons.mpr ⟨lw_p19, List.forall_mem_cons.mpr ⟨lw_p20, List.forall_mem_cons.mpr ⟨lw_p21, List.forall_mem_cons.mpr ⟨lw_p22, List.forall_mem_cons.mpr ⟨lw_p23, List.forall_mem_cons.mpr ⟨lw_p24, List.forall_mem_cons.mpr ⟨lw_p25, List.forall_mem_cons.mpr ⟨lw_p26, List.forall_mem_cons.mpr ⟨lw_p27, List.forall_mem_cons.mpr ⟨lw_p28, List.forall_mem_cons.mpr ⟨lw_p29, List.forall_mem_cons.mpr ⟨lw_p30, List.forall_mem_cons.mpr ⟨lw_p31, fun _ h => absurd h List.not_mem_nil⟩⟩⟩⟩⟩⟩⟩⟩⟩⟩⟩⟩⟩⟩⟩⟩
theorem lw_p32 : lw_okq (⟨"BagsRiver$Planner", "findChoices", "(LBagsRiver$Street;)V"⟩, 11) := ⟨⟨by decide +kernel, by decide +kernel⟩, List.mem_of_getElem? (i := 407) (by decide +kernel), List.mem_of_getElem? (i := 1300) (by decide +kernel), List.mem_of_getElem? (i := 1301) (by decide +kernel)⟩
theorem lw_p33 : lw_okq (⟨"BagsRiver$Planner", "tryWall", "(III)V"⟩, 11) := ⟨⟨by decide +kernel, by decide +kernel⟩, List.mem_of_getElem? (i := 407) (by decide +kernel), List.mem_of_getElem? (i := 1309) (by decide +kernel), List.mem_of_getElem? (i := 1310) (by decide +kernel)⟩
theorem lw_p34 : lw_okq (⟨"BagsRiverModel", "four", "(I)V"⟩, 54) := ⟨⟨by decide +kernel, by decide +kernel⟩, List.mem_of_getElem? (i := 1342) (by decide +kernel), List.mem_of_getElem? (i := 1340) (by decide +kernel), List.mem_of_getElem? (i := 1341) (by decide +kernel)⟩
theorem lw_p35 : lw_okq (⟨"BagsRiverModel", "clears", "()V"⟩, 54) := ⟨⟨by decide +kernel, by decide +kernel⟩, List.mem_of_getElem? (i := 1342) (by decide +kernel), List.mem_of_getElem? (i := 1377) (by decide +kernel), List.mem_of_getElem? (i := 1378) (by decide +kernel)⟩
theorem lw_p36 : lw_okq (⟨"BagsRiverModel", "taken", "(I)V"⟩, 54) := ⟨⟨by decide +kernel, by decide +kernel⟩, List.mem_of_getElem? (i := 1342) (by decide +kernel), List.mem_of_getElem? (i := 1549) (by decide +kernel), List.mem_of_getElem? (i := 1550) (by decide +kernel)⟩
theorem lw_p37 : lw_okq (⟨"BagsRiverModel", "next", "()V"⟩, 54) := ⟨⟨by decide +kernel, by decide +kernel⟩, List.mem_of_getElem? (i := 1342) (by decide +kernel), List.mem_of_getElem? (i := 1553) (by decide +kernel), List.mem_of_getElem? (i := 1554) (by decide +kernel)⟩
theorem lw_p38 : lw_okq (⟨"BagsRiverModel", "peek", "()I"⟩, 54) := ⟨⟨by decide +kernel, by decide +kernel⟩, List.mem_of_getElem? (i := 1342) (by decide +kernel), List.mem_of_getElem? (i := 1557) (by decide +kernel), List.mem_of_getElem? (i := 1558) (by decide +kernel)⟩
theorem lw_p39 : lw_okq (⟨"BagsRiverModel", "line", "()Z"⟩, 54) := ⟨⟨by decide +kernel, by decide +kernel⟩, List.mem_of_getElem? (i := 1342) (by decide +kernel), List.mem_of_getElem? (i := 1567) (by decide +kernel), List.mem_of_getElem? (i := 1568) (by decide +kernel)⟩
theorem lw_p40 : lw_okq (⟨"BagsRiverModel", "isWord", "(J)Z"⟩, 54) := ⟨⟨by decide +kernel, by decide +kernel⟩, List.mem_of_getElem? (i := 1342) (by decide +kernel), List.mem_of_getElem? (i := 1571) (by decide +kernel), List.mem_of_getElem? (i := 1572) (by decide +kernel)⟩
theorem lw_p41 : lw_okq (⟨"BagsRiverModel", "bad", "(I)Z"⟩, 54) := ⟨⟨by decide +kernel, by decide +kernel⟩, List.mem_of_getElem? (i := 1342) (by decide +kernel), List.mem_of_getElem? (i := 1575) (by decide +kernel), List.mem_of_getElem? (i := 1576) (by decide +kernel)⟩
theorem lw_p42 : lw_okq (⟨"BagsRiverModel", "fresh", "(I)Z"⟩, 54) := ⟨⟨by decide +kernel, by decide +kernel⟩, List.mem_of_getElem? (i := 1342) (by decide +kernel), List.mem_of_getElem? (i := 1579) (by decide +kernel), List.mem_of_getElem? (i := 1580) (by decide +kernel)⟩
theorem lw_p43 : lw_okq (⟨"BagsRiverModel", "isName", "()Z"⟩, 54) := ⟨⟨by decide +kernel, by decide +kernel⟩, List.mem_of_getElem? (i := 1342) (by decide +kernel), List.mem_of_getElem? (i := 1583) (by decide +kernel), List.mem_of_getElem? (i := 1584) (by decide +kernel)⟩
theorem lw_p44 : lw_okq (⟨"BagsRiverModel", "find", "(II)I"⟩, 54) := ⟨⟨by decide +kernel, by decide +kernel⟩, List.mem_of_getElem? (i := 1342) (by decide +kernel), List.mem_of_getElem? (i := 1587) (by decide +kernel), List.mem_of_getElem? (i := 1588) (by decide +kernel)⟩
theorem lw_p45 : lw_okq (⟨"BagsRiverModel", "puts", "(III)Z"⟩, 54) := ⟨⟨by decide +kernel, by decide +kernel⟩, List.mem_of_getElem? (i := 1342) (by decide +kernel), List.mem_of_getElem? (i := 1591) (by decide +kernel), List.mem_of_getElem? (i := 1592) (by decide +kernel)⟩
theorem lw_p46 : lw_okq (⟨"BagsRiverModel", "takesNumber", "(II)Z"⟩, 54) := ⟨⟨by decide +kernel, by decide +kernel⟩, List.mem_of_getElem? (i := 1342) (by decide +kernel), List.mem_of_getElem? (i := 1595) (by decide +kernel), List.mem_of_getElem? (i := 1596) (by decide +kernel)⟩
theorem lw_p47 : lw_okq (⟨"BagsRiverModel", "readHouse", "()Z"⟩, 54) := ⟨⟨by decide +kernel, by decide +kernel⟩, List.mem_of_getElem? (i := 1342) (by decide +kernel), List.mem_of_getElem? (i := 1602) (by decide +kernel), List.mem_of_getElem? (i := 1603) (by decide +kernel)⟩
def lw_privs_3 : List (MethodName × Nat) := [(⟨"BagsRiver$Planner", "findChoices", "(LBagsRiver$Street;)V"⟩, 11), (⟨"BagsRiver$Planner", "tryWall", "(III)V"⟩, 11), (⟨"BagsRiverModel", "four", "(I)V"⟩, 54), (⟨"BagsRiverModel", "clears", "()V"⟩, 54), (⟨"BagsRiverModel", "taken", "(I)V"⟩, 54), (⟨"BagsRiverModel", "next", "()V"⟩, 54), (⟨"BagsRiverModel", "peek", "()I"⟩, 54), (⟨"BagsRiverModel", "line", "()Z"⟩, 54), (⟨"BagsRiverModel", "isWord", "(J)Z"⟩, 54), (⟨"BagsRiverModel", "bad", "(I)Z"⟩, 54), (⟨"BagsRiverModel", "fresh", "(I)Z"⟩, 54), (⟨"BagsRiverModel", "isName", "()Z"⟩, 54), (⟨"BagsRiverModel", "find", "(II)I"⟩, 54), (⟨"BagsRiverModel", "puts", "(III)Z"⟩, 54), (⟨"BagsRiverModel", "takesNumber", "(II)Z"⟩, 54), (⟨"BagsRiverModel", "readHouse", "()Z"⟩, 54)]
theorem lw_r3 : ∀ q ∈ lw_privs_3, lw_okq q := List.forall_mem_cons.mpr ⟨lw_p32, List.forall_mem_cons.mpr ⟨lw_p33, List.forall_mem_cons.mpr ⟨lw_p34, List.forall_mem_cons.mpr ⟨lw_p35, List.forall_mem_cons.mpr ⟨lw_p36, List.forall_mem_cons.mpr ⟨lw_p37, List.forall_mem_cons.mpr ⟨lw_p38, List.forall_mem_cons.mpr ⟨lw_p39, List.forall_mem_cons.mpr ⟨lw_p40, List.forall_mem_cons.mpr ⟨lw_p41, List.forall_mem_cons.mpr ⟨lw_p42, List.forall_mem_cons.mpr ⟨lw_p43, List.forall_mem_cons.mpr ⟨lw_p44, List.forall_mem_cons.mpr ⟨lw_p45, List.forall_mem_cons.mpr ⟨lw_p46, List.forall_mem_cons.mpr ⟨lw_p47, fun _ h => absurd h List.not_mem_nil⟩⟩⟩⟩⟩⟩⟩⟩⟩⟩⟩⟩⟩⟩⟩⟩
theorem lw_p48 : lw_okq (⟨"BagsRiverModel", "takesName", "(II)Z"⟩, 54) := ⟨⟨by decide +kernel, by decide +kernel⟩, List.mem_of_getElem? (i := 1342) (by decide +kernel), List.mem_of_getElem? (i := 1606) (by decide +kernel), List.mem_of_getElem? (i := 1607) (by decide +kernel)⟩
theorem lw_p49 : lw_okq (⟨"BagsRiverModel", "looksAt", "(II)Z"⟩, 54) := ⟨⟨by decide +kernel, by decide +kernel⟩, List.mem_of_getElem? (i := 1342) (by decide +kernel), List.mem_of_getElem? (i := 1610) (by decide +kernel), List.mem_of_getElem? (i := 1611) (by decide +kernel)⟩
theorem lw_p50 : lw_okq (⟨"BagsRiverModel", "pair", "(IIIIIII)Z"⟩, 54) := ⟨⟨by decide +kernel, by decide +kernel⟩, List.mem_of_getElem? (i := 1342) (by decide +kernel), List.mem_of_getElem? (i := 1614) (by decide +kernel), List.mem_of_getElem? (i := 1615) (by decide +kernel)⟩
theorem lw_p51 : lw_okq (⟨"BagsRiverModel", "once", "(IIII)Z"⟩, 54) := ⟨⟨by decide +kernel, by decide +kernel⟩, List.mem_of_getElem? (i := 1342) (by decide +kernel), List.mem_of_getElem? (i := 1618) (by decide +kernel), List.mem_of_getElem? (i := 1619) (by decide +kernel)⟩
theorem lw_p52 : lw_okq (⟨"BagsRiverModel", "sign", "(I)Z"⟩, 54) := ⟨⟨by decide +kernel, by decide +kernel⟩, List.mem_of_getElem? (i := 1342) (by decide +kernel), List.mem_of_getElem? (i := 1625) (by decide +kernel), List.mem_of_getElem? (i := 1626) (by decide +kernel)⟩
theorem lw_p53 : lw_okq (⟨"BagsRiverModel", "isSign", "(I)Z"⟩, 54) := ⟨⟨by decide +kernel, by decide +kernel⟩, List.mem_of_getElem? (i := 1342) (by decide +kernel), List.mem_of_getElem? (i := 1629) (by decide +kernel), List.mem_of_getElem? (i := 1630) (by decide +kernel)⟩
theorem lw_p54 : lw_okq (⟨"BagsRiverModel", "isWall", "(I)Z"⟩, 54) := ⟨⟨by decide +kernel, by decide +kernel⟩, List.mem_of_getElem? (i := 1342) (by decide +kernel), List.mem_of_getElem? (i := 1641) (by decide +kernel), List.mem_of_getElem? (i := 1642) (by decide +kernel)⟩
theorem lw_p55 : lw_okq (⟨"BagsRiverModel", "heightOf", "(I)I"⟩, 54) := ⟨⟨by decide +kernel, by decide +kernel⟩, List.mem_of_getElem? (i := 1342) (by decide +kernel), List.mem_of_getElem? (i := 1645) (by decide +kernel), List.mem_of_getElem? (i := 1646) (by decide +kernel)⟩
theorem lw_p56 : lw_okq (⟨"BagsRiverModel", "takesOf", "(II)I"⟩, 54) := ⟨⟨by decide +kernel, by decide +kernel⟩, List.mem_of_getElem? (i := 1342) (by decide +kernel), List.mem_of_getElem? (i := 1649) (by decide +kernel), List.mem_of_getElem? (i := 1650) (by decide +kernel)⟩
theorem lw_p57 : lw_okq (⟨"BagsRiverModel", "housesOf", "(I)I"⟩, 54) := ⟨⟨by decide +kernel, by decide +kernel⟩, List.mem_of_getElem? (i := 1342) (by decide +kernel), List.mem_of_getElem? (i := 1653) (by decide +kernel), List.mem_of_getElem? (i := 1654) (by decide +kernel)⟩
theorem lw_p58 : lw_okq (⟨"BagsRiverModel", "isHouse", "(I)Z"⟩, 54) := ⟨⟨by decide +kernel, by decide +kernel⟩, List.mem_of_getElem? (i := 1342) (by decide +kernel), List.mem_of_getElem? (i := 1661) (by decide +kernel), List.mem_of_getElem? (i := 1662) (by decide +kernel)⟩
theorem lw_p59 : lw_okq (⟨"BagsRiverModel", "throwsIf", "(Z)Z"⟩, 54) := ⟨⟨by decide +kernel, by decide +kernel⟩, List.mem_of_getElem? (i := 1342) (by decide +kernel), List.mem_of_getElem? (i := 1665) (by decide +kernel), List.mem_of_getElem? (i := 1666) (by decide +kernel)⟩
theorem lw_p60 : lw_okq (⟨"BagsRiverModel", "isDrain", "(I)Z"⟩, 54) := ⟨⟨by decide +kernel, by decide +kernel⟩, List.mem_of_getElem? (i := 1342) (by decide +kernel), List.mem_of_getElem? (i := 1673) (by decide +kernel), List.mem_of_getElem? (i := 1674) (by decide +kernel)⟩
theorem lw_p61 : lw_okq (⟨"BagsRiverModel", "isStopped", "(I)Z"⟩, 54) := ⟨⟨by decide +kernel, by decide +kernel⟩, List.mem_of_getElem? (i := 1342) (by decide +kernel), List.mem_of_getElem? (i := 1677) (by decide +kernel), List.mem_of_getElem? (i := 1678) (by decide +kernel)⟩
theorem lw_p62 : lw_okq (⟨"BagsRiverModel", "riverAt", "(I)I"⟩, 54) := ⟨⟨by decide +kernel, by decide +kernel⟩, List.mem_of_getElem? (i := 1342) (by decide +kernel), List.mem_of_getElem? (i := 1685) (by decide +kernel), List.mem_of_getElem? (i := 1686) (by decide +kernel)⟩
theorem lw_p63 : lw_okq (⟨"BagsRiverModel", "eachBy", "(I)I"⟩, 54) := ⟨⟨by decide +kernel, by decide +kernel⟩, List.mem_of_getElem? (i := 1342) (by decide +kernel), List.mem_of_getElem? (i := 1689) (by decide +kernel), List.mem_of_getElem? (i := 1690) (by decide +kernel)⟩
def lw_privs_4 : List (MethodName × Nat) := [(⟨"BagsRiverModel", "takesName", "(II)Z"⟩, 54), (⟨"BagsRiverModel", "looksAt", "(II)Z"⟩, 54), (⟨"BagsRiverModel", "pair", "(IIIIIII)Z"⟩, 54), (⟨"BagsRiverModel", "once", "(IIII)Z"⟩, 54), (⟨"BagsRiverModel", "sign", "(I)Z"⟩, 54), (⟨"BagsRiverModel", "isSign", "(I)Z"⟩, 54), (⟨"BagsRiverModel", "isWall", "(I)Z"⟩, 54), (⟨"BagsRiverModel", "heightOf", "(I)I"⟩, 54), (⟨"BagsRiverModel", "takesOf", "(II)I"⟩, 54), (⟨"BagsRiverModel", "housesOf", "(I)I"⟩, 54), (⟨"BagsRiverModel", "isHouse", "(I)Z"⟩, 54), (⟨"BagsRiverModel", "throwsIf", "(Z)Z"⟩, 54), (⟨"BagsRiverModel", "isDrain", "(I)Z"⟩, 54), (⟨"BagsRiverModel", "isStopped", "(I)Z"⟩, 54), (⟨"BagsRiverModel", "riverAt", "(I)I"⟩, 54), (⟨"BagsRiverModel", "eachBy", "(I)I"⟩, 54)]
theorem lw_r4 : ∀ q ∈ lw_privs_4, lw_okq q := List.forall_mem_cons.mpr ⟨lw_p48, List.forall_mem_cons.mpr ⟨lw_p49, List.forall_mem_cons.mpr ⟨lw_p50, List.forall_mem_cons.mpr ⟨lw_p51, List.forall_mem_cons.mpr ⟨lw_p52, List.forall_mem_cons.mpr ⟨lw_p53, List.forall_mem_cons.mpr ⟨lw_p54, List.forall_mem_cons.mpr ⟨lw_p55, List.forall_mem_cons.mpr ⟨lw_p56, List.forall_mem_cons.mpr ⟨lw_p57, List.forall_mem_cons.mpr ⟨lw_p58, List.forall_mem_cons.mpr ⟨lw_p59, List.forall_mem_cons.mpr ⟨lw_p60, List.forall_mem_cons.mpr ⟨lw_p61, List.forall_mem_cons.mpr ⟨lw_p62, List.forall_mem_cons.mpr ⟨lw_p63, fun _ h => absurd h List.not_mem_nil⟩⟩⟩⟩⟩⟩⟩⟩⟩⟩⟩⟩⟩⟩⟩⟩
theorem lw_p64 : lw_okq (⟨"BagsRiverModel", "saved", "()I"⟩, 54) := ⟨⟨by decide +kernel, by decide +kernel⟩, List.mem_of_getElem? (i := 1342) (by decide +kernel), List.mem_of_getElem? (i := 1696) (by decide +kernel), List.mem_of_getElem? (i := 1697) (by decide +kernel)⟩
theorem lw_p65 : lw_okq (⟨"BagsRiverModel", "isWhere", "(I)Z"⟩, 54) := ⟨⟨by decide +kernel, by decide +kernel⟩, List.mem_of_getElem? (i := 1342) (by decide +kernel), List.mem_of_getElem? (i := 1708) (by decide +kernel), List.mem_of_getElem? (i := 1709) (by decide +kernel)⟩
theorem lw_p66 : lw_okq (⟨"BagsRiverModel", "isPosted", "(III)Z"⟩, 54) := ⟨⟨by decide +kernel, by decide +kernel⟩, List.mem_of_getElem? (i := 1342) (by decide +kernel), List.mem_of_getElem? (i := 1712) (by decide +kernel), List.mem_of_getElem? (i := 1713) (by decide +kernel)⟩
theorem lw_p67 : lw_okq (⟨"BagsRiverModel", "keep", "()V"⟩, 54) := ⟨⟨by decide +kernel, by decide +kernel⟩, List.mem_of_getElem? (i := 1342) (by decide +kernel), List.mem_of_getElem? (i := 1716) (by decide +kernel), List.mem_of_getElem? (i := 1717) (by decide +kernel)⟩
theorem lw_p68 : lw_okq (⟨"BagsRiverModel", "posts", "(III)V"⟩, 54) := ⟨⟨by decide +kernel, by decide +kernel⟩, List.mem_of_getElem? (i := 1342) (by decide +kernel), List.mem_of_getElem? (i := 1720) (by decide +kernel), List.mem_of_getElem? (i := 1721) (by decide +kernel)⟩
theorem lw_p69 : lw_okq (⟨"BagsRiverModel", "quits", "(I)V"⟩, 54) := ⟨⟨by decide +kernel, by decide +kernel⟩, List.mem_of_getElem? (i := 1342) (by decide +kernel), List.mem_of_getElem? (i := 1728) (by decide +kernel), List.mem_of_getElem? (i := 1729) (by decide +kernel)⟩
theorem lw_p70 : lw_okq (⟨"BagsRiverModel", "whyUp", "(I)I"⟩, 54) := ⟨⟨by decide +kernel, by decide +kernel⟩, List.mem_of_getElem? (i := 1342) (by decide +kernel), List.mem_of_getElem? (i := 1736) (by decide +kernel), List.mem_of_getElem? (i := 1737) (by decide +kernel)⟩
theorem lw_p71 : lw_okq (⟨"BagsRiverModel", "carriesUp", "(I)V"⟩, 54) := ⟨⟨by decide +kernel, by decide +kernel⟩, List.mem_of_getElem? (i := 1342) (by decide +kernel), List.mem_of_getElem? (i := 1740) (by decide +kernel), List.mem_of_getElem? (i := 1741) (by decide +kernel)⟩
theorem lw_p72 : lw_okq (⟨"BagsRiverModel", "goesOn", "(I)I"⟩, 54) := ⟨⟨by decide +kernel, by decide +kernel⟩, List.mem_of_getElem? (i := 1342) (by decide +kernel), List.mem_of_getElem? (i := 1748) (by decide +kernel), List.mem_of_getElem? (i := 1749) (by decide +kernel)⟩
theorem lw_p73 : lw_okq (⟨"BagsRiverModel", "hour", "()V"⟩, 54) := ⟨⟨by decide +kernel, by decide +kernel⟩, List.mem_of_getElem? (i := 1342) (by decide +kernel), List.mem_of_getElem? (i := 1752) (by decide +kernel), List.mem_of_getElem? (i := 1753) (by decide +kernel)⟩
theorem lw_p74 : lw_okq (⟨"BagsRiverModel", "isOpen", "()Z"⟩, 54) := ⟨⟨by decide +kernel, by decide +kernel⟩, List.mem_of_getElem? (i := 1342) (by decide +kernel), List.mem_of_getElem? (i := 1759) (by decide +kernel), List.mem_of_getElem? (i := 1760) (by decide +kernel)⟩
theorem lw_p75 : lw_okq (⟨"BagsRiverModel", "wouldFlood", "(II)Z"⟩, 54) := ⟨⟨by decide +kernel, by decide +kernel⟩, List.mem_of_getElem? (i := 1342) (by decide +kernel), List.mem_of_getElem? (i := 1763) (by decide +kernel), List.mem_of_getElem? (i := 1764) (by decide +kernel)⟩
theorem lw_p76 : lw_okq (⟨"BagsRiverModel", "isOutside", "(I)Z"⟩, 54) := ⟨⟨by decide +kernel, by decide +kernel⟩, List.mem_of_getElem? (i := 1342) (by decide +kernel), List.mem_of_getElem? (i := 1767) (by decide +kernel), List.mem_of_getElem? (i := 1768) (by decide +kernel)⟩
theorem lw_p77 : lw_okq (⟨"BagsRiverModel", "leaksOf", "(II)I"⟩, 54) := ⟨⟨by decide +kernel, by decide +kernel⟩, List.mem_of_getElem? (i := 1342) (by decide +kernel), List.mem_of_getElem? (i := 1771) (by decide +kernel), List.mem_of_getElem? (i := 1772) (by decide +kernel)⟩
theorem lw_p78 : lw_okq (⟨"BagsRiverModel", "laysHeights", "()V"⟩, 54) := ⟨⟨by decide +kernel, by decide +kernel⟩, List.mem_of_getElem? (i := 1342) (by decide +kernel), List.mem_of_getElem? (i := 1791) (by decide +kernel), List.mem_of_getElem? (i := 1792) (by decide +kernel)⟩
theorem lw_p79 : lw_okq (⟨"BagsRiverModel", "gainOf", "(II)I"⟩, 54) := ⟨⟨by decide +kernel, by decide +kernel⟩, List.mem_of_getElem? (i := 1342) (by decide +kernel), List.mem_of_getElem? (i := 1795) (by decide +kernel), List.mem_of_getElem? (i := 1796) (by decide +kernel)⟩
def lw_privs_5 : List (MethodName × Nat) := [(⟨"BagsRiverModel", "saved", "()I"⟩, 54), (⟨"BagsRiverModel", "isWhere", "(I)Z"⟩, 54), (⟨"BagsRiverModel", "isPosted", "(III)Z"⟩, 54), (⟨"BagsRiverModel", "keep", "()V"⟩, 54), (⟨"BagsRiverModel", "posts", "(III)V"⟩, 54), (⟨"BagsRiverModel", "quits", "(I)V"⟩, 54), (⟨"BagsRiverModel", "whyUp", "(I)I"⟩, 54), (⟨"BagsRiverModel", "carriesUp", "(I)V"⟩, 54), (⟨"BagsRiverModel", "goesOn", "(I)I"⟩, 54), (⟨"BagsRiverModel", "hour", "()V"⟩, 54), (⟨"BagsRiverModel", "isOpen", "()Z"⟩, 54), (⟨"BagsRiverModel", "wouldFlood", "(II)Z"⟩, 54), (⟨"BagsRiverModel", "isOutside", "(I)Z"⟩, 54), (⟨"BagsRiverModel", "leaksOf", "(II)I"⟩, 54), (⟨"BagsRiverModel", "laysHeights", "()V"⟩, 54), (⟨"BagsRiverModel", "gainOf", "(II)I"⟩, 54)]
theorem lw_r5 : ∀ q ∈ lw_privs_5, lw_okq q := List.forall_mem_cons.mpr ⟨lw_p64, List.forall_mem_cons.mpr ⟨lw_p65, List.forall_mem_cons.mpr ⟨lw_p66, List.forall_mem_cons.mpr ⟨lw_p67, List.forall_mem_cons.mpr ⟨lw_p68, List.forall_mem_cons.mpr ⟨lw_p69, List.forall_mem_cons.mpr ⟨lw_p70, List.forall_mem_cons.mpr ⟨lw_p71, List.forall_mem_cons.mpr ⟨lw_p72, List.forall_mem_cons.mpr ⟨lw_p73, List.forall_mem_cons.mpr ⟨lw_p74, List.forall_mem_cons.mpr ⟨lw_p75, List.forall_mem_cons.mpr ⟨lw_p76, List.forall_mem_cons.mpr ⟨lw_p77, List.forall_mem_cons.mpr ⟨lw_p78, List.forall_mem_cons.mpr ⟨lw_p79, fun _ h => absurd h List.not_mem_nil⟩⟩⟩⟩⟩⟩⟩⟩⟩⟩⟩⟩⟩⟩⟩⟩
theorem lw_p80 : lw_okq (⟨"BagsRiverModel", "digit", "(II)I"⟩, 54) := ⟨⟨by decide +kernel, by decide +kernel⟩, List.mem_of_getElem? (i := 1342) (by decide +kernel), List.mem_of_getElem? (i := 1799) (by decide +kernel), List.mem_of_getElem? (i := 1800) (by decide +kernel)⟩
theorem lw_p81 : lw_okq (⟨"BagsRiverModel", "allOdds", "()I"⟩, 54) := ⟨⟨by decide +kernel, by decide +kernel⟩, List.mem_of_getElem? (i := 1342) (by decide +kernel), List.mem_of_getElem? (i := 1803) (by decide +kernel), List.mem_of_getElem? (i := 1804) (by decide +kernel)⟩
theorem lw_p82 : lw_okq (⟨"BagsRiverModel", "carriedBy", "(III)I"⟩, 54) := ⟨⟨by decide +kernel, by decide +kernel⟩, List.mem_of_getElem? (i := 1342) (by decide +kernel), List.mem_of_getElem? (i := 1822) (by decide +kernel), List.mem_of_getElem? (i := 1823) (by decide +kernel)⟩
theorem lw_p83 : lw_okq (⟨"BagsRiverModel", "restsAt", "(IIIII)Z"⟩, 54) := ⟨⟨by decide +kernel, by decide +kernel⟩, List.mem_of_getElem? (i := 1342) (by decide +kernel), List.mem_of_getElem? (i := 1834) (by decide +kernel), List.mem_of_getElem? (i := 1835) (by decide +kernel)⟩
theorem lw_p84 : lw_okq (⟨"BagsRiverModel", "isSavedBy", "(IIII)Z"⟩, 54) := ⟨⟨by decide +kernel, by decide +kernel⟩, List.mem_of_getElem? (i := 1342) (by decide +kernel), List.mem_of_getElem? (i := 1838) (by decide +kernel), List.mem_of_getElem? (i := 1839) (by decide +kernel)⟩
theorem lw_p85 : lw_okq (⟨"BagsRiverModel", "holds", "(III)Z"⟩, 54) := ⟨⟨by decide +kernel, by decide +kernel⟩, List.mem_of_getElem? (i := 1342) (by decide +kernel), List.mem_of_getElem? (i := 1842) (by decide +kernel), List.mem_of_getElem? (i := 1843) (by decide +kernel)⟩
theorem lw_p86 : lw_okq (⟨"BagsRiverModel", "greatestCrest", "()I"⟩, 54) := ⟨⟨by decide +kernel, by decide +kernel⟩, List.mem_of_getElem? (i := 1342) (by decide +kernel), List.mem_of_getElem? (i := 1849) (by decide +kernel), List.mem_of_getElem? (i := 1850) (by decide +kernel)⟩
theorem lw_p87 : lw_okq (⟨"BagsRiverModel", "tries", "()V"⟩, 54) := ⟨⟨by decide +kernel, by decide +kernel⟩, List.mem_of_getElem? (i := 1342) (by decide +kernel), List.mem_of_getElem? (i := 1869) (by decide +kernel), List.mem_of_getElem? (i := 1870) (by decide +kernel)⟩
theorem lw_p88 : lw_okq (⟨"BagsRiverModel", "back", "()V"⟩, 54) := ⟨⟨by decide +kernel, by decide +kernel⟩, List.mem_of_getElem? (i := 1342) (by decide +kernel), List.mem_of_getElem? (i := 1873) (by decide +kernel), List.mem_of_getElem? (i := 1874) (by decide +kernel)⟩
theorem lw_p89 : lw_okq (⟨"BagsRiverModel", "octet", "(I)I"⟩, 54) := ⟨⟨by decide +kernel, by decide +kernel⟩, List.mem_of_getElem? (i := 1342) (by decide +kernel), List.mem_of_getElem? (i := 1893) (by decide +kernel), List.mem_of_getElem? (i := 1894) (by decide +kernel)⟩
theorem lw_p90 : lw_okq (⟨"BagsRiverModel", "draws", "(II)I"⟩, 54) := ⟨⟨by decide +kernel, by decide +kernel⟩, List.mem_of_getElem? (i := 1342) (by decide +kernel), List.mem_of_getElem? (i := 1905) (by decide +kernel), List.mem_of_getElem? (i := 1906) (by decide +kernel)⟩
theorem lw_p91 : lw_okq (⟨"BagsRiverModel", "draw", "(I)I"⟩, 54) := ⟨⟨by decide +kernel, by decide +kernel⟩, List.mem_of_getElem? (i := 1342) (by decide +kernel), List.mem_of_getElem? (i := 1909) (by decide +kernel), List.mem_of_getElem? (i := 1910) (by decide +kernel)⟩
theorem lw_p92 : lw_okq (⟨"BagsRiverModel", "bookLine", "()Z"⟩, 54) := ⟨⟨by decide +kernel, by decide +kernel⟩, List.mem_of_getElem? (i := 1342) (by decide +kernel), List.mem_of_getElem? (i := 1922) (by decide +kernel), List.mem_of_getElem? (i := 1923) (by decide +kernel)⟩
theorem lw_p93 : lw_okq (⟨"BagsRiverModel", "postLine", "(I)Z"⟩, 54) := ⟨⟨by decide +kernel, by decide +kernel⟩, List.mem_of_getElem? (i := 1342) (by decide +kernel), List.mem_of_getElem? (i := 1926) (by decide +kernel), List.mem_of_getElem? (i := 1927) (by decide +kernel)⟩
theorem lw_p94 : lw_okq (⟨"BagsRiverModel", "does", "(IIII)I"⟩, 54) := ⟨⟨by decide +kernel, by decide +kernel⟩, List.mem_of_getElem? (i := 1342) (by decide +kernel), List.mem_of_getElem? (i := 1930) (by decide +kernel), List.mem_of_getElem? (i := 1931) (by decide +kernel)⟩
theorem lw_p95 : lw_okq (⟨"BagsRiverModel", "nots", "()V"⟩, 54) := ⟨⟨by decide +kernel, by decide +kernel⟩, List.mem_of_getElem? (i := 1342) (by decide +kernel), List.mem_of_getElem? (i := 1942) (by decide +kernel), List.mem_of_getElem? (i := 1943) (by decide +kernel)⟩
def lw_privs_6 : List (MethodName × Nat) := [(⟨"BagsRiverModel", "digit", "(II)I"⟩, 54), (⟨"BagsRiverModel", "allOdds", "()I"⟩, 54), (⟨"BagsRiverModel", "carriedBy", "(III)I"⟩, 54), (⟨"BagsRiverModel", "restsAt", "(IIIII)Z"⟩, 54), (⟨"BagsRiverModel", "isSavedBy", "(IIII)Z"⟩, 54), (⟨"BagsRiverModel", "holds", "(III)Z"⟩, 54), (⟨"BagsRiverModel", "greatestCrest", "()I"⟩, 54), (⟨"BagsRiverModel", "tries", "()V"⟩, 54), (⟨"BagsRiverModel", "back", "()V"⟩, 54), (⟨"BagsRiverModel", "octet", "(I)I"⟩, 54), (⟨"BagsRiverModel", "draws", "(II)I"⟩, 54), (⟨"BagsRiverModel", "draw", "(I)I"⟩, 54), (⟨"BagsRiverModel", "bookLine", "()Z"⟩, 54), (⟨"BagsRiverModel", "postLine", "(I)Z"⟩, 54), (⟨"BagsRiverModel", "does", "(IIII)I"⟩, 54), (⟨"BagsRiverModel", "nots", "()V"⟩, 54)]
theorem lw_r6 : ∀ q ∈ lw_privs_6, lw_okq q := List.forall_mem_cons.mpr ⟨lw_p80, List.forall_mem_cons.mpr ⟨lw_p81, List.forall_mem_cons.mpr ⟨lw_p82, List.forall_mem_cons.mpr ⟨lw_p83, List.forall_mem_cons.mpr ⟨lw_p84, List.forall_mem_cons.mpr ⟨lw_p85, List.forall_mem_cons.mpr ⟨lw_p86, List.forall_mem_cons.mpr ⟨lw_p87, List.forall_mem_cons.mpr ⟨lw_p88, List.forall_mem_cons.mpr ⟨lw_p89, List.forall_mem_cons.mpr ⟨lw_p90, List.forall_mem_cons.mpr ⟨lw_p91, List.forall_mem_cons.mpr ⟨lw_p92, List.forall_mem_cons.mpr ⟨lw_p93, List.forall_mem_cons.mpr ⟨lw_p94, List.forall_mem_cons.mpr ⟨lw_p95, fun _ h => absurd h List.not_mem_nil⟩⟩⟩⟩⟩⟩⟩⟩⟩⟩⟩⟩⟩⟩⟩⟩
theorem lw_p96 : lw_okq (⟨"BagsRiverModel", "code", "(III)V"⟩, 54) := ⟨⟨by decide +kernel, by decide +kernel⟩, List.mem_of_getElem? (i := 1342) (by decide +kernel), List.mem_of_getElem? (i := 1946) (by decide +kernel), List.mem_of_getElem? (i := 1947) (by decide +kernel)⟩
theorem lw_p97 : lw_okq (⟨"BagsRiverModel", "joins", "(I)V"⟩, 54) := ⟨⟨by decide +kernel, by decide +kernel⟩, List.mem_of_getElem? (i := 1342) (by decide +kernel), List.mem_of_getElem? (i := 1950) (by decide +kernel), List.mem_of_getElem? (i := 1951) (by decide +kernel)⟩
theorem lw_p98 : lw_okq (⟨"BagsRiverModel", "behind", "()Z"⟩, 54) := ⟨⟨by decide +kernel, by decide +kernel⟩, List.mem_of_getElem? (i := 1342) (by decide +kernel), List.mem_of_getElem? (i := 1954) (by decide +kernel), List.mem_of_getElem? (i := 1955) (by decide +kernel)⟩
theorem lw_p99 : lw_okq (⟨"BagsRiverModel", "operand", "()Z"⟩, 54) := ⟨⟨by decide +kernel, by decide +kernel⟩, List.mem_of_getElem? (i := 1342) (by decide +kernel), List.mem_of_getElem? (i := 1958) (by decide +kernel), List.mem_of_getElem? (i := 1959) (by decide +kernel)⟩
theorem lw_p100 : lw_okq (⟨"BagsRiverModel", "leafOf", "()I"⟩, 54) := ⟨⟨by decide +kernel, by decide +kernel⟩, List.mem_of_getElem? (i := 1342) (by decide +kernel), List.mem_of_getElem? (i := 1962) (by decide +kernel), List.mem_of_getElem? (i := 1963) (by decide +kernel)⟩
theorem lw_p101 : lw_okq (⟨"BagsRiverModel", "isSaid", "(I)Z"⟩, 54) := ⟨⟨by decide +kernel, by decide +kernel⟩, List.mem_of_getElem? (i := 1342) (by decide +kernel), List.mem_of_getElem? (i := 1970) (by decide +kernel), List.mem_of_getElem? (i := 1971) (by decide +kernel)⟩
theorem lw_p102 : lw_okq (⟨"BagsRiverModel", "isLeaf", "(IIII)Z"⟩, 54) := ⟨⟨by decide +kernel, by decide +kernel⟩, List.mem_of_getElem? (i := 1342) (by decide +kernel), List.mem_of_getElem? (i := 1974) (by decide +kernel), List.mem_of_getElem? (i := 1975) (by decide +kernel)⟩
def lw_privs_7 : List (MethodName × Nat) := [(⟨"BagsRiverModel", "code", "(III)V"⟩, 54), (⟨"BagsRiverModel", "joins", "(I)V"⟩, 54), (⟨"BagsRiverModel", "behind", "()Z"⟩, 54), (⟨"BagsRiverModel", "operand", "()Z"⟩, 54), (⟨"BagsRiverModel", "leafOf", "()I"⟩, 54), (⟨"BagsRiverModel", "isSaid", "(I)Z"⟩, 54), (⟨"BagsRiverModel", "isLeaf", "(IIII)Z"⟩, 54)]
theorem lw_r7 : ∀ q ∈ lw_privs_7, lw_okq q := List.forall_mem_cons.mpr ⟨lw_p96, List.forall_mem_cons.mpr ⟨lw_p97, List.forall_mem_cons.mpr ⟨lw_p98, List.forall_mem_cons.mpr ⟨lw_p99, List.forall_mem_cons.mpr ⟨lw_p100, List.forall_mem_cons.mpr ⟨lw_p101, List.forall_mem_cons.mpr ⟨lw_p102, fun _ h => absurd h List.not_mem_nil⟩⟩⟩⟩⟩⟩⟩
def lw_privs : List (MethodName × Nat) := lw_privs_1 ++ (lw_privs_2 ++ (lw_privs_3 ++ (lw_privs_4 ++ (lw_privs_5 ++ (lw_privs_6 ++ (lw_privs_7))))))
def lw_tbl : List Cond := k2_sels lw_privs ++ tables_1
theorem lw_privs_ok : ∀ q ∈ lw_privs, lw_okq q := by
  show ∀ q ∈ lw_privs_1 ++ (lw_privs_2 ++ (lw_privs_3 ++ (lw_privs_4 ++ (lw_privs_5 ++ (lw_privs_6 ++ (lw_privs_7)))))), lw_okq q
  exact List.forall_mem_append.mpr ⟨lw_r1, List.forall_mem_append.mpr ⟨lw_r2, List.forall_mem_append.mpr ⟨lw_r3, List.forall_mem_append.mpr ⟨lw_r4, List.forall_mem_append.mpr ⟨lw_r5, List.forall_mem_append.mpr ⟨lw_r6, lw_r7⟩⟩⟩⟩⟩⟩
-- ===== end of PART A; then your names; then what follows =====
end
section
/-! ===== BEGIN words of one list among another's, by their places ===== -/
theorem goodIn_r {big : List Cond} (ws : List Cond) (ps : List Nat) (hp : ws = ps.filterMap (fun i => big[i]?)) (h : ws.all goodWord = true) : GoodIn big ws := by
  intro w hw
  have h1 := List.all_eq_true.mp h w hw
  rw [hp] at hw
  obtain ⟨i, -, hi⟩ := List.mem_filterMap.mp hw
  have hm : w ∈ big := by first | exact List.mem_of_getElem? hi | exact List.getElem?_mem hi
  exact ⟨hm, good_of_word h1⟩
theorem goodIn_app {big a b : List Cond} (ha : GoodIn big a) (hb : GoodIn big b) : GoodIn big (a ++ b) := fun w h => (List.mem_append.mp h).elim (ha w) (hb w)
theorem goodIn_ca {big a b : List Cond} {c : Cond} (ha : GoodIn big (c :: a)) (hb : GoodIn big b) : GoodIn big (c :: (a ++ b)) := fun w h => (List.mem_cons.mp h).elim (fun e => ha w (List.mem_cons.mpr (Or.inl e))) (fun h => (List.mem_append.mp h).elim (fun h => ha w (List.mem_cons.mpr (Or.inr h))) (hb w))
theorem goodIn_sub {big ws : List Cond} (hm : ∀ w ∈ ws, w ∈ big) (h : ws.all goodWord = true) : GoodIn big ws := fun w hw => ⟨hm w hw, good_of_word (List.all_eq_true.mp h w hw)⟩
/-! ===== END ===== -/
/-! ===== BEGIN exceptions that leave a method, and their catching by the caller (launches without stack traces) ===== -/
section VXA
/-! The laws vx_back, vx_callV, vx_callS, vx_callSW, vx_throw0, vx_throwS follow proofs of the library, with one case more: JvmDerived/Free/Laws.lean (Back.of_free), Shelf42/LK1.lean (callV, callS), Shelf/KitTraced.lean (throwNew0V, throwNewS). -/
/-- where a method has thrown q: the class by its name, the cell, what was written, the world -/
def vx_T (XC : String → State → State → Prop) (st : State) (q : Addr) (t : State) (mc ms : Nat) (free : Addr → Prop) : Prop :=
  ∃ (E : String) (ce : Cell) (L : List Loc), XC E st t ∧ t.heap[q]? = some ce ∧ ce.vm = .none ∧ st.vm.findClass E = some ce.cls ∧ st.WarmedH t.vm ∧ st.sameButNew ({ t with vm := st.vm } : State) L mc ms ∧ ∀ z ∈ L, free z.base
def vx_Q (Qc : Array Value → State → Outcome → State → Prop) (XC : String → State → State → Prop) (mc ms : Nat) (free : Addr → Prop) : Array Value → State → Outcome → State → Prop := fun a st o t =>
  (Qc a st o t ∧ ∃ L, FrameEnd st o t L mc ms ∧ ∀ q ∈ L, free q.base) ∨ ∃ q, o = .threw q ∧ vx_T XC st q t mc ms free
/-- a callee that returns or throws -/
def vx_Met (l : Launch) (y : MethodName) (ws : List Cond) (rm : Room) (Pc : Array Value → State → Prop) (Qc : Array Value → State → Outcome → State → Prop) (XC : String → State → State → Prop) (mc ms : Nat) (free : Addr → Prop) : Prop :=
  MetFree l y (headSpec ws rm) Pc (fun _ _ _ _ _ => True) (vx_Q Qc XC mc ms free)
def vx_Post (XC : String → State → State → Prop) (mc ms : Nat) (free : Addr → Prop) : Pt → Array Value → Addr → Pt → Prop := fun A a q B =>
  ∃ (g : JFrame) (mk : MethodId) (t : State) (L : List Loc) (E : String) (ce : Cell), B.U.heap = t.heap ∧ B.U.vm = t.vm ∧ XC E (A.U.calling g mk a) t ∧ t.heap[q]? = some ce ∧ ce.vm = .none ∧ A.U.vm.findClass E = some ce.cls ∧ B.locs = A.locs ++ L ∧ (∀ z ∈ L, free z.base) ∧ B.cells = A.cells + mc ∧ B.slots = A.slots + ms
def vx_Back (l : Launch) (R : Room) (p : Program) (e : Env) (below : List Frame) (s : State) (sargs : Array Value) (y : MethodName) (len W9 : Nat)
    (Pre : Pt → Array Value → Prop) (Post : Pt → Array Value → Option Value → Pt → Prop) (PostX : Pt → Array Value → Addr → Pt → Prop) : Prop :=
  ∀ (m : MethodId) (meth : Method) (c : Code) (A : Pt) (g : JFrame) (ig : Instr) (mk : MethodId) (a : Array Value),
    Stand p l e R s m sargs below meth c A.U A.locs A.cells A.slots → g.method = m → g.locals.size = c.maxLocals → decode c.code g.pc = .ok (ig, len) →
    2 * g.monitorRoom + (g.stack.map fun v => v.category).sum ≤ W9 → A.U.methodNamed? y = some mk → Pre A a →
    (∃ (v : Option Value) (B : Pt), Stand p l e R s m sargs below meth c B.U B.locs B.cells B.slots ∧ Post A a v B ∧
      Steps p.tables e below (doInvoke e (A.U.setTop g) [] mk a).1 (B.U.setTop { g with pc := g.pc + len, stack := v.toList ++ g.stack })) ∨
    (∃ (q : Addr) (B : Pt), Stand p l e R s m sargs below meth c B.U B.locs B.cells B.slots ∧ PostX A a q B ∧
      Steps p.tables e below (doInvoke e (A.U.setTop g) [] mk a).1 ((B.U.setTop g).pushFrame (.throwing q)))
section Payer
variable {l : Launch} {R : Room} {p : Program} {e : Env} {below : List Frame} {s : State} {sargs : Array Value} {y : MethodName} {len W9 : Nat}
theorem vx_back {ws : List Cond} {rm : Room} {Pc : Array Value → State → Prop} {Qc : Array Value → State → Outcome → State → Prop} {XC : String → State → State → Prop} {mc ms : Nat} {free : Addr → Prop} {bytes : ByteArray} {maxL : Nat} {ret : Option FieldType}
    (hM : vx_Met l y ws rm Pc Qc XC mc ms free) (hblind : FrameBlind Pc) (hrc : rm.cells = mc) (hrs : rm.slots = ms)
    (hframes : rm.frames + 1 ≤ R.frames) (hlocals : W9 + (maxL + 11) + rm.locals ≤ R.locals)
    (hws : ∀ w ∈ ws, ∀ a' U, s.WarmedH U.vm → w.before a' U = true) (hcode : Cond.code y bytes maxL ret ∈ ws) (hinit : ∀ a' U, s.WarmedH U.vm → (Cond.initialized y.cls).before a' U = true) :
    vx_Back l R p e below s sargs y len W9 (PreOf R mc ms Pc) (PostOf Qc mc ms free) (vx_Post XC mc ms free) := by
  intro m meth c A g ig mk a X hg hsize hdg hW hn hp
  have h1 : (headSpec ws rm).pre.before a A.U = true := atoms_intro fun w hw => hws w hw _ _ X.warmed
  have h2 : (Cond.code y bytes maxL ret).before a A.U = true := hws _ hcode _ _ X.warmed
  have h3 : (Cond.initialized y.cls).before a A.U = true := hinit _ _ X.warmed
  have h4 : A.cells + (headSpec ws rm).room.cells ≤ R.cells := by rw [show (headSpec ws rm).room.cells = mc from hrc]; exact hp.1
  have h5 : A.slots + (headSpec ws rm).room.slots ≤ R.slots := by rw [show (headSpec ws rm).room.slots = ms from hrs]; exact hp.2.1
  have hPc : Pc a (A.U.calling g mk a) := hblind _ _ _ _ hp.2.2
  obtain ⟨U, Ls, c0, s0⟩ := A
  dsimp only [Pt.U, Pt.locs, Pt.cells, Pt.slots] at h1 h2 h3 h4 h5 X hn hPc ⊢
  obtain ⟨methY, cY, hmY, hcY, -, hlY, -, -, -, -⟩ := Cond.code_spec hn h2
  obtain ⟨kY, hkY, -⟩ := className_of_methodNamed hn
  have hinitY : kY.init = .initialized := Cond.initialized_spec (findClass_of_methodNamed hn) hkY h3
  have h : At U g.method c below := by rw [hg]; exact X.here
  have hlocals9 : W9 + (maxL + 11) + (headSpec ws rm).room.locals ≤ R.locals := hlocals
  have happ : (headSpec ws rm).appliesLoose y e.platform (U.calling g mk a) = true :=
    Spec.appliesLoose_calling (g := g) h hdg hn hkY hinitY
      (X.room_calling (g := g) (R' := (headSpec ws rm).room) hsize hmY hcY hframes (by rw [hlY]; omega) h4 h5) h1
  obtain ⟨mid, hmid⟩ := h.above
  have hfr : (U.setTop g).frames = (.java g :: mid) ++ below := by rw [State.frames_setTop' g h.top, hmid]; rfl
  obtain ⟨o, s₂, hsteps, -, hend, hq⟩ := Steps.callFree hM p X.admits X.cas X.clock (acts := []) hfr happ hPc trivial
  have hq' : vx_Q Qc XC mc ms free a (U.calling g mk a) o s₂ := hq
  rw [State.frames_setTop' g h.top] at hend
  obtain ⟨g₀, hg0⟩ := Option.isSome_iff_exists.mp h.top
  obtain ⟨r, hr⟩ := State.topJava?_eq_some.mp hg0
  have hr' : (({ U with heap := s₂.heap, slotsUsed := s₂.slotsUsed } : State).setVm s₂.vm).frames = .java g₀ :: r := hr
  rcases hq' with ⟨hqc, L, hfe, hL⟩ | ⟨q, rfl, E, ce, L, hx, hce, hcv, hcl, hW₂, hsm, hL⟩
  · obtain ⟨⟨v, rfl⟩, hW₂, e2, q2, q3, q4, q5, q6⟩ := id hfe
    have e3 : s₂ = ({ (U.calling g mk a).setFrames s₂.frames with heap := s₂.heap, slotsUsed := s₂.slotsUsed } : State).setVm s₂.vm := by
      have : s₂ = ({ s₂ with vm := (U.calling g mk a).vm } : State).setVm s₂.vm := rfl
      rw [e2] at this
      exact this
    obtain ⟨c₂, i₂, len₂, hc₂, hd₂, hf₂⟩ := hend
    have hW' : U.WarmedH s₂.vm := hW₂
    have hcc : c₂ = c := by
      have h1 : s₂.code? g.method = U.code? g.method := by
        rw [State.code?_eq, State.code?_eq, hW'.alike.method?]
      exact Option.some.inj (hc₂.symm.trans (h1.trans h.code))
    subst hcc
    have hlen : len₂ = len := by rw [hdg] at hd₂; cases hd₂; rfl
    subst hlen
    have hs₂ : s₂ = (({ U with heap := s₂.heap, slotsUsed := s₂.slotsUsed } : State).setVm s₂.vm).setTop { g with pc := g.pc + len₂, stack := v.toList ++ g.stack } := by
      refine e3.trans ?_
      rw [hf₂, State.calling_eq h.top, State.setFrames_setFrames, State.setTop_of_frames _ hr', hr]
      rfl
    have hsame : U.sameButNew ({ U with heap := s₂.heap, slotsUsed := s₂.slotsUsed } : State) L mc ms := by
      refine ⟨?_, q2, q3, q4, q5, q6⟩
      obtain ⟨t, ht, -⟩ := State.frames_cons hr
      show ({ U with heap := s₂.heap, slotsUsed := s₂.slotsUsed } : State) = { U.setFrames U.frames with heap := s₂.heap, slotsUsed := s₂.slotsUsed }
      rw [State.setFrames_self ht]
    subst hg
    refine Or.inl ⟨v, ⟨(({ U with heap := s₂.heap, slotsUsed := s₂.slotsUsed } : State).setVm s₂.vm), Ls ++ L, c0 + mc, s0 + ms⟩,
      ⟨X.admits, X.cas, X.clock, X.frames, X.room, X.hears, X.method, X.code, (X.here.setHeapUsed s₂.heap s₂.slotsUsed).setVm hW'.alike, X.tail, State.WarmedH.trans X.warmed hW', X.limits, X.bytes, X.same.trans (hsame.setVm s.vm)⟩,
      ⟨g, mk, s₂, L, rfl, rfl, hqc, rfl, hL, rfl, rfl⟩, ?_⟩
    show Steps p.tables e below _ ((({ U with heap := s₂.heap, slotsUsed := s₂.slotsUsed } : State).setVm s₂.vm).setTop { g with pc := g.pc + len₂, stack := v.toList ++ g.stack })
    rw [← hs₂]
    exact hsteps
  · obtain ⟨e2, q2, q3, q4, q5, q6⟩ := id hsm
    have e3 : s₂ = ({ (U.calling g mk a).setFrames s₂.frames with heap := s₂.heap, slotsUsed := s₂.slotsUsed } : State).setVm s₂.vm := by
      have : s₂ = ({ s₂ with vm := (U.calling g mk a).vm } : State).setVm s₂.vm := rfl
      rw [e2] at this
      exact this
    have hf₂ : s₂.frames = .throwing q :: .java g :: U.frames.tail := hend
    have hW' : U.WarmedH s₂.vm := hW₂
    have hs₂ : s₂ = ((({ U with heap := s₂.heap, slotsUsed := s₂.slotsUsed } : State).setVm s₂.vm).setTop g).pushFrame (.throwing q) := by
      refine e3.trans ?_
      rw [hf₂, State.calling_eq h.top, State.setFrames_setFrames, State.pushFrame, State.frames_setTop _ hr', State.setTop_of_frames _ hr', State.setFrames_setFrames, hr]
      rfl
    have hsame : U.sameButNew ({ U with heap := s₂.heap, slotsUsed := s₂.slotsUsed } : State) L mc ms := by
      refine ⟨?_, q2, q3, q4, q5, q6⟩
      obtain ⟨t, ht, -⟩ := State.frames_cons hr
      show ({ U with heap := s₂.heap, slotsUsed := s₂.slotsUsed } : State) = { U.setFrames U.frames with heap := s₂.heap, slotsUsed := s₂.slotsUsed }
      rw [State.setFrames_self ht]
    subst hg
    refine Or.inr ⟨q, ⟨(({ U with heap := s₂.heap, slotsUsed := s₂.slotsUsed } : State).setVm s₂.vm), Ls ++ L, c0 + mc, s0 + ms⟩,
      ⟨X.admits, X.cas, X.clock, X.frames, X.room, X.hears, X.method, X.code, (X.here.setHeapUsed s₂.heap s₂.slotsUsed).setVm hW'.alike, X.tail, State.WarmedH.trans X.warmed hW', X.limits, X.bytes, X.same.trans (hsame.setVm s.vm)⟩,
      ⟨g, mk, s₂, L, E, ce, rfl, rfl, hx, hce, hcv, hcl, rfl, hL, rfl, rfl⟩, ?_⟩
    show Steps p.tables e below _ (((({ U with heap := s₂.heap, slotsUsed := s₂.slotsUsed } : State).setVm s₂.vm).setTop g).pushFrame (.throwing q))
    rw [← hs₂]
    exact hsteps
end Payer
section Calls
variable {p : Program} {l : Launch} {e : Env} {R : Room} {s : State} {m : MethodId} {args : Array Value} {below : List Frame} {meth : Method} {c : Code} {T : State} {locs : List Loc} {cells slots : Nat}
theorem vx_callV (X : Stand p l e R s m args below meth c T locs cells slots) (hexec : p.tables.exec = Jvm.exec) {own C : String} {index : Nat} {y : MethodName} {bytes : ByteArray} {maxL : Nat} {ret : Option FieldType}
    (hown : s.vm.findClass own = some m.cls) (hlink : (Cond.methodLink own index y).before args s = true) (hinst : (Cond.instanceMethod y).before args s = true) (hsel : (Cond.selects C y y).before args s = true)
    (hcode : (Cond.code y bytes maxL ret).before args s = true) (hy : y.cls ≠ "java/lang/invoke/MethodHandle" ∧ y.cls ≠ "java/lang/invoke/VarHandle")
    {W9 : Nat} {Pre : Pt → Array Value → Prop} {Post : Pt → Array Value → Option Value → Pt → Prop} {PostX : Pt → Array Value → Addr → Pt → Prop} (hK : vx_Back l R p e below s args y 3 W9 Pre Post PostX)
    {b : Addr} {cellB : Cell} (hcell : T.heap[b]? = some cellB) (hobj : cellB.vm.isStatics = false) (hcls : s.vm.findClass C = some cellB.cls)
    {g : JFrame} (hg : g.method = m) (hsize : g.locals.size = c.maxLocals) {argsL rest : List Value} (hlen : ∀ sig, parseMethodDescriptor y.desc = some sig → argsL.length = sig.parameters.length)
    (hstack : g.stack = argsL.reverse ++ .ref b :: rest) (hW : 2 * g.monitorRoom + (rest.map fun v => v.category).sum ≤ W9) (hdg : decode c.code g.pc = .ok (.invokevirtual index, 3))
    (hpre : ∀ vm₁, s.WarmedH vm₁ → Pre ⟨T.setVm vm₁, locs, cells, slots⟩ (Value.ref b :: argsL).toArray) :
    (∃ (v : Option Value) (vm₁ : Vm) (B : Pt), s.WarmedH vm₁ ∧ Stand p l e R s m args below meth c B.U B.locs B.cells B.slots ∧ Post ⟨T.setVm vm₁, locs, cells, slots⟩ (Value.ref b :: argsL).toArray v B ∧
      ∀ target, Steps p.tables e below (B.U.setTop { g with pc := g.pc + 3, stack := v.toList ++ rest }) target → Steps p.tables e below (T.setTop g) target) ∨
    (∃ (q : Addr) (vm₁ : Vm) (B : Pt), s.WarmedH vm₁ ∧ Stand p l e R s m args below meth c B.U B.locs B.cells B.slots ∧ PostX ⟨T.setVm vm₁, locs, cells, slots⟩ (Value.ref b :: argsL).toArray q B ∧
      Steps p.tables e below (T.setTop g) ((B.U.setTop { g with stack := rest }).pushFrame (.throwing q))) := by
  obtain ⟨mk, methM, hnamed, hmethM, hstM, habM⟩ := Cond.instanceMethod_spec hinst
  obtain ⟨methM', cM, hmethM', -, -, -, -, -, -, hsigM⟩ := Cond.code_spec hnamed hcode
  cases hmethM.symm.trans hmethM'
  obtain ⟨c2, r2, m2, q1, q2, q3, q4, kP, hkP, hkPi⟩ := Cond.selects_spec hsel
  cases hcls.symm.trans q1
  cases (State.methodFound?_of_named hnamed hy).symm.trans q2
  cases hnamed.symm.trans q3
  have hselP : selectMethod e.platform s.vm cellB.cls mk = .method mk := by rw [Launch.admits_selectMethod X.admits]; exact q4
  obtain ⟨vm₁, X₁, hstep₁⟩ := X.invokevirtual hexec hown hlink hnamed hmethM hstM hkP hkPi hy (a := b) (cell := cellB) hcell
    (fun z h => by rw [h] at hobj; cases hobj) hselP hmethM habM hkP hkPi (g := g) hg (argsL := argsL) (rest := rest) (hlen _ hsigM) hstack hdg
  rcases hK m meth c ⟨T.setVm vm₁, locs, cells, slots⟩ { g with stack := rest } (.invokevirtual index) mk (Value.ref b :: argsL).toArray X₁ hg hsize hdg hW (X₁.named hnamed) (hpre vm₁ X₁.warmed) with ⟨v, B, X', hpost, hsteps⟩ | ⟨q, B, X', hpost, hsteps⟩
  · exact Or.inl ⟨v, vm₁, B, X₁.warmed, X', hpost, fun target h => hstep₁ _ fun acts => by rw [doInvoke_state]; exact hsteps.trans h⟩
  · exact Or.inr ⟨q, vm₁, B, X₁.warmed, X', hpost, hstep₁ _ fun acts => by rw [doInvoke_state]; exact hsteps⟩
theorem vx_callS (X : Stand p l e R s m args below meth c T locs cells slots) (hexec : p.tables.exec = Jvm.exec) {own : String} {index : Nat} {y : MethodName} {bytes : ByteArray} {maxL : Nat} {ret : Option FieldType}
    (hown : s.vm.findClass own = some m.cls) (hlink : (Cond.methodLink own index y).before args s = true) (hstat : (Cond.static y).before args s = true) (hinit : (Cond.initialized y.cls).before args s = true)
    (hcode : (Cond.code y bytes maxL ret).before args s = true) (hy : y.cls ≠ "java/lang/invoke/MethodHandle" ∧ y.cls ≠ "java/lang/invoke/VarHandle")
    {W9 : Nat} {Pre : Pt → Array Value → Prop} {Post : Pt → Array Value → Option Value → Pt → Prop} {PostX : Pt → Array Value → Addr → Pt → Prop} (hK : vx_Back l R p e below s args y 3 W9 Pre Post PostX)
    {g : JFrame} (hg : g.method = m) (hsize : g.locals.size = c.maxLocals) {argsL rest : List Value} (hlen : ∀ sig, parseMethodDescriptor y.desc = some sig → argsL.length = sig.parameters.length)
    (hstack : g.stack = argsL.reverse ++ rest) (hW : 2 * g.monitorRoom + (rest.map fun v => v.category).sum ≤ W9) (hdg : decode c.code g.pc = .ok (.invokestatic index, 3))
    (hpre : ∀ vm₁, s.WarmedH vm₁ → Pre ⟨T.setVm vm₁, locs, cells, slots⟩ argsL.toArray) :
    (∃ (v : Option Value) (vm₁ : Vm) (B : Pt), s.WarmedH vm₁ ∧ Stand p l e R s m args below meth c B.U B.locs B.cells B.slots ∧ Post ⟨T.setVm vm₁, locs, cells, slots⟩ argsL.toArray v B ∧
      ∀ target, Steps p.tables e below (B.U.setTop { g with pc := g.pc + 3, stack := v.toList ++ rest }) target → Steps p.tables e below (T.setTop g) target) ∨
    (∃ (q : Addr) (vm₁ : Vm) (B : Pt), s.WarmedH vm₁ ∧ Stand p l e R s m args below meth c B.U B.locs B.cells B.slots ∧ PostX ⟨T.setVm vm₁, locs, cells, slots⟩ argsL.toArray q B ∧
      Steps p.tables e below (T.setTop g) ((B.U.setTop { g with stack := rest }).pushFrame (.throwing q))) := by
  obtain ⟨mk, hnamed⟩ := Cond.code_named hcode
  obtain ⟨methM, cM, hmethM, -, -, -, -, -, -, hsigM⟩ := Cond.code_spec hnamed hcode
  have hstatic : methM.isStatic = true := Cond.static_spec hnamed hmethM hstat
  obtain ⟨kP, hkP, -⟩ := className_of_methodNamed hnamed
  have hinitP : kP.init = .initialized := Cond.initialized_spec (findClass_of_methodNamed hnamed) hkP hinit
  obtain ⟨vm₁, X₁, hstep₁⟩ := X.invokestatic hexec hown hlink hnamed hmethM hstatic hkP hinitP hy (g := g) hg (argsL := argsL) (rest := rest) (hlen _ hsigM) hstack hdg
  rcases hK m meth c ⟨T.setVm vm₁, locs, cells, slots⟩ { g with stack := rest } (.invokestatic index) mk argsL.toArray X₁ hg hsize hdg hW (X₁.named hnamed) (hpre vm₁ X₁.warmed) with ⟨v, B, X', hpost, hsteps⟩ | ⟨q, B, X', hpost, hsteps⟩
  · exact Or.inl ⟨v, vm₁, B, X₁.warmed, X', hpost, fun target h => hstep₁ _ fun acts => by rw [doInvoke_state]; exact hsteps.trans h⟩
  · exact Or.inr ⟨q, vm₁, B, X₁.warmed, X', hpost, hstep₁ _ fun acts => by rw [doInvoke_state]; exact hsteps⟩
end Calls
theorem vx_cls {s : State} {T : State} {vm₁ : Vm} {E : String} {k : ClassId} (hW : s.WarmedH vm₁) (h : (T.setVm vm₁).vm.findClass E = some k) : s.vm.findClass E = some k := by
  have h1 : vm₁.findClass E = some k := h
  rw [hW.alike.findClass] at h1
  exact h1
/-- the method's frame g, with q thrown over it -/
def vx_W (p : Program) (l : Launch) (e : Env) (R : Room) (s : State) (m : MethodId) (args : Array Value) (below : List Frame) (meth : Method) (c : Code) (H : Heap) (locs : List Loc) (cells slots : Nat) (Q : State → Prop) (g : JFrame) (q : Addr) : Prop :=
  ∀ T : State, T.heap = H → Stand p l e R s m args below meth c T locs cells slots → ∃ t, Steps p.tables e below ((T.setTop g).pushFrame (.throwing q)) t ∧ Q t
def vx_Run (p : Program) (l : Launch) (e : Env) (R : Room) (s : State) (m : MethodId) (args : Array Value) (below : List Frame) (meth : Method) (c : Code) (H : Heap) (locs : List Loc) (cells slots mc ms : Nat) (g : JFrame) (rest : List Value) (Qa : State → Outcome → State → Prop) (XC : String → State → State → Prop) (free : Addr → Prop) : Prop :=
  ∀ T : State, T.heap = H → Stand p l e R s m args below meth c T locs cells slots →
    (∃ (v : Option Value) (st₀ t T' : State) (L : List Loc), st₀.heap = H ∧ Stand p l e R s m args below meth c T' (locs ++ L) (cells + mc) (slots + ms) ∧ (∀ q ∈ L, free q.base) ∧ T'.heap = t.heap ∧ T'.vm = t.vm ∧ Qa st₀ (.returned v) t ∧
      Goes p e below T g T' { g with pc := g.pc + 3, stack := v.toList ++ rest }) ∨
    (∃ (q : Addr) (st₀ t T' : State) (L : List Loc) (E : String) (ce : Cell), st₀.heap = H ∧ Stand p l e R s m args below meth c T' (locs ++ L) (cells + mc) (slots + ms) ∧ (∀ z ∈ L, free z.base) ∧ T'.heap = t.heap ∧ T'.vm = t.vm ∧ XC E st₀ t ∧ t.heap[q]? = some ce ∧ ce.vm = .none ∧ s.vm.findClass E = some ce.cls ∧
      Steps p.tables e below (T.setTop g) ((T'.setTop { g with stack := rest }).pushFrame (.throwing q)))
def vx_X {S : Type} (px : S → Prop) (B : String → S → State → Prop) (A : Nat → Prop) : String → State → State → Prop := fun E st t => ∃ u : S, px u ∧ B E u t ∧ va_F A st t
section Runs
variable {p : Program} {l : Launch} {e : Env} {R : Room} {s : State} {m : MethodId} {args : Array Value} {below : List Frame} {meth : Method} {c : Code} {H : Heap} {locs : List Loc} {cells slots : Nat}
variable {y : MethodName} {bytes cc : ByteArray} {maxL nL mc ms n index : Nat} {ret : Option FieldType} {ws : List Cond} {rm : Room} {Pc : Array Value → State → Prop} {Qc : Array Value → State → Outcome → State → Prop} {XC : String → State → State → Prop} {free : Addr → Prop} {Ts : List Cond} {own C : String} {b : Addr} {As rest : List Value} {g : JFrame}
theorem vx_callBack (cb : CallB R s args own index y bytes maxL ret ws rm mc ms n) (hM : vx_Met l y ws rm Pc Qc XC mc ms free) (hbl : FrameBlind Pc) : vx_Back l R p e below s args y 3 8 (PreOf R mc ms Pc) (PostOf Qc mc ms free) (vx_Post XC mc ms free) := by
  obtain ⟨hrc, hrs, hfr, hlo, hws, hcw, -, hini, -⟩ := cb
  exact vx_back (bytes := bytes) (maxL := maxL) (ret := ret) hM hbl hrc hrs hfr hlo hws hcw (fun a' U hW => word_at hW (Or.inl (by first | rfl | simp [Cond.onTables, Cond.keeps, Cond.steady])) hini)
theorem vx_runV (S : CallFix p m c cc nL s args Ts own) (hM : vx_Met l y ws rm Pc Qc XC mc ms free) (cw : CallW R s args own C index y bytes maxL ret ws rm mc ms n) (hp : PreV s H C b Pc As)
    (hg : g.method = m) (hn : As.length = n) (hsize : g.locals.size = nL) (hstack : g.stack = As.reverse ++ .ref b :: rest) (hW : 2 * g.monitorRoom + (rest.map fun v => v.category).sum ≤ 8) (hdg : decode cc g.pc = .ok (.invokevirtual index, 3)) (hf : cells + mc ≤ R.cells ∧ slots + ms ≤ R.slots) :
    vx_Run p l e R s m args below meth c H locs cells slots mc ms g rest (Qc (Value.ref b :: As).toArray) XC free := by
  have hK : vx_Back l R p e below s args y 3 8 (PreOf R mc ms Pc) (PostOf Qc mc ms free) (vx_Post XC mc ms free) := vx_callBack cw.1 hM hp.1
  obtain ⟨⟨-, -, -, -, -, -, hcode, -, hy, hlen, hl⟩, hin, hse⟩ := cw
  obtain ⟨hx, hb, hml, ho, -⟩ := S
  obtain ⟨-, ⟨cellB, hcB, hoB, hclB⟩, hPc⟩ := hp
  intro T hT X
  rcases vx_callV X hx (C := C) (bytes := bytes) (maxL := maxL) (ret := ret) ho hl hin hse hcode hy hK (by rw [hT]; exact hcB) hoB hclB hg (hsize.trans hml.symm) (argsL := As) (rest := rest) (fun sig h => hn.trans (hlen sig h)) hstack hW (by rw [hb]; exact hdg)
    (fun vm₁ hW₁ => ⟨hf.1, hf.2, hPc (T.setVm vm₁) hT hW₁⟩) with ⟨v, vm₁, ⟨U', l2, c2, s2⟩, hW₁, X', ⟨g', mk, t, L, e1, e2, hq, h1, hL, h2, h3⟩, st⟩ | ⟨q, vm₁, ⟨U', l2, c2, s2⟩, hW₁, X', ⟨g', mk, t, L, E, ce, e1, e2, hq, hce, hcv, hcl, h1, hL, h2, h3⟩, st⟩
  · dsimp only [Pt.U, Pt.locs, Pt.cells, Pt.slots] at X' e1 e2 h1 h2 h3 st
    subst h1; subst h2; subst h3
    exact Or.inl ⟨v, (T.setVm vm₁).calling g' mk (Value.ref b :: As).toArray, t, U', L, hT, X', hL, e1, e2, hq, st⟩
  · dsimp only [Pt.U, Pt.locs, Pt.cells, Pt.slots] at X' e1 e2 h1 h2 h3 st hcl
    subst h1; subst h2; subst h3
    exact Or.inr ⟨q, (T.setVm vm₁).calling g' mk (Value.ref b :: As).toArray, t, U', L, E, ce, hT, X', hL, e1, e2, hq, hce, hcv, vx_cls hW₁ hcl, st⟩
theorem vx_runS (S : CallFix p m c cc nL s args Ts own) (hM : vx_Met l y ws rm Pc Qc XC mc ms free) (cw : CallB R s args own index y bytes maxL ret ws rm mc ms n ∧ (Cond.static y).before args s = true) (hp : PreS s H Pc As)
    (hg : g.method = m) (hn : As.length = n) (hsize : g.locals.size = nL) (hstack : g.stack = As.reverse ++ rest) (hW : 2 * g.monitorRoom + (rest.map fun v => v.category).sum ≤ 8) (hdg : decode cc g.pc = .ok (.invokestatic index, 3)) (hf : cells + mc ≤ R.cells ∧ slots + ms ≤ R.slots) :
    vx_Run p l e R s m args below meth c H locs cells slots mc ms g rest (Qc As.toArray) XC free := by
  have hK : vx_Back l R p e below s args y 3 8 (PreOf R mc ms Pc) (PostOf Qc mc ms free) (vx_Post XC mc ms free) := vx_callBack cw.1 hM hp.1
  obtain ⟨⟨-, -, -, -, -, -, hcode, hini, hy, hlen, hl⟩, hstt⟩ := cw
  obtain ⟨hx, hb, hml, ho, -⟩ := S
  intro T hT X
  rcases vx_callS X hx (bytes := bytes) (maxL := maxL) (ret := ret) ho hl hstt hini hcode hy hK hg (hsize.trans hml.symm) (argsL := As) (rest := rest) (fun sig h => hn.trans (hlen sig h)) hstack hW (by rw [hb]; exact hdg)
    (fun vm₁ hW₁ => ⟨hf.1, hf.2, hp.2 (T.setVm vm₁) hT hW₁⟩) with ⟨v, vm₁, ⟨U', l2, c2, s2⟩, hW₁, X', ⟨g', mk, t, L, e1, e2, hq, h1, hL, h2, h3⟩, st⟩ | ⟨q, vm₁, ⟨U', l2, c2, s2⟩, hW₁, X', ⟨g', mk, t, L, E, ce, e1, e2, hq, hce, hcv, hcl, h1, hL, h2, h3⟩, st⟩
  · dsimp only [Pt.U, Pt.locs, Pt.cells, Pt.slots] at X' e1 e2 h1 h2 h3 st
    subst h1; subst h2; subst h3
    exact Or.inl ⟨v, (T.setVm vm₁).calling g' mk As.toArray, t, U', L, hT, X', hL, e1, e2, hq, st⟩
  · dsimp only [Pt.U, Pt.locs, Pt.cells, Pt.slots] at X' e1 e2 h1 h2 h3 st hcl
    subst h1; subst h2; subst h3
    exact Or.inr ⟨q, (T.setVm vm₁).calling g' mk As.toArray, t, U', L, E, ce, hT, X', hL, e1, e2, hq, hce, hcv, vx_cls hW₁ hcl, st⟩
end Runs
section Rows
variable {p : Program} {l : Launch} {e : Env} {R : Room} {s : State} {m : MethodId} {args : Array Value} {below : List Frame} {meth : Method} {c : Code} {H : Heap} {locs : List Loc} {cells slots : Nat} {Q : State → Prop}
variable {mc ms : Nat} {free : Addr → Prop} {A0 A1 : Nat → Prop} {H0 : Heap} {a : Array Value} {pc : Nat} {ls : Array Slot} {st0 rest : List Value}
theorem vx_keep {st₀ t T' : State} {L : List Loc} (h0 : st₀.heap = H) (e1 : T'.heap = t.heap) (hS : va_S A0 H0 H locs) (hA : ∀ q, q < H.size → A1 q → A0 q) (hf : ∀ q, free q → A0 q) (hL : ∀ q ∈ L, free q.base) (hF : va_F A1 st₀ t) :
    H.size ≤ T'.heap.size ∧ (∀ q : Nat, q < H.size → ¬ A1 q → T'.heap[q]? = H[q]?) ∧ va_S A0 H0 T'.heap (locs ++ L) := by
  obtain ⟨hz, hk⟩ := hF
  rw [h0] at hz hk
  exact ⟨by rw [e1]; exact hz, fun q h1 h2 => by rw [e1]; exact hk q h1 h2,
    ⟨Nat.le_trans hS.1 (by rw [e1]; exact hz), fun q h1 h2 => by rw [e1, hk q (Nat.lt_of_lt_of_le h1 hS.1) (fun z => h2 (hA q (Nat.lt_of_lt_of_le h1 hS.1) z))]; exact hS.2.1 q h1 h2, fun q hq => by
      rcases List.mem_append.mp hq with h | h
      · exact hS.2.2 q h
      · exact hf _ (hL q h)⟩⟩
theorem vx_calli {S SX : Type} {post : Int32 → S → Prop} {px : SX → Prop} {B : S → State → Prop} {BX : String → SX → State → Prop} {AX : Nat → Prop} (hr : vx_Run p l e R s m args below meth c H locs cells slots mc ms (F0 m pc ls st0) rest (va_Qi post B A1 a) (vx_X px BX AX) free) (hS : va_S A0 H0 H locs) (hA : ∀ q, q < H.size → A1 q → A0 q) (hf : ∀ q, free q → A0 q) (hAX : ∀ q, q < H.size → AX q → A0 q)
    (kx : ∀ (E : String) (ce : Cell) (q9 : Addr) (u : SX) (t : State) (H1 : Heap) (locs1 : List Loc), t.heap = H1 → s.vm.Alike t.vm → px u → BX E u t → H.size ≤ H1.size → (∀ q : Nat, q < H.size → ¬ AX q → H1[q]? = H[q]?) → va_S A0 H0 H1 locs1 → H1[q9]? = some ce → ce.vm = .none → s.vm.findClass E = some ce.cls → vx_W p l e R s m args below meth c H1 locs1 (cells + mc) (slots + ms) Q (F0 m pc ls rest) q9)
    (kk : ∀ (r : Int32) (u : S) (t : State) (H1 : Heap) (locs1 : List Loc), t.heap = H1 → s.vm.Alike t.vm → post r u → B u t → H.size ≤ H1.size → (∀ q : Nat, q < H.size → ¬ A1 q → H1[q]? = H[q]?) → va_S A0 H0 H1 locs1 → W p l e R s m args below meth c H1 locs1 (cells + mc) (slots + ms) Q (F0 m (pc + 3) ls (.int r :: rest))) : W p l e R s m args below meth c H locs cells slots Q (F0 m pc ls st0) := by
  intro T hT X
  rcases hr T hT X with ⟨v, st₀, t, T', L, h0, X', hL, e1, e2, ⟨⟨r, u, hv, hp, hb⟩, hF⟩, st⟩ | ⟨q, st₀, t, T', L, E, ce, h0, X', hL, e1, e2, ⟨u, hp, hb, hF⟩, hce, hcv, hcl, st⟩
  · cases hv
    obtain ⟨k1, k2, k3⟩ := vx_keep h0 e1 hS hA hf hL hF
    obtain ⟨t2, a1, b1⟩ := kk r u t T'.heap (locs ++ L) e1.symm (by rw [← e2]; exact X'.warmed.alike) hp hb k1 k2 k3 T' rfl X'
    exact ⟨t2, st t2 a1, b1⟩
  · obtain ⟨k1, k2, k3⟩ := vx_keep h0 e1 hS hAX hf hL hF
    obtain ⟨t2, a1, b1⟩ := kx E ce q u t T'.heap (locs ++ L) e1.symm (by rw [← e2]; exact X'.warmed.alike) hp hb k1 k2 k3 (by rw [e1]; exact hce) hcv hcl T' rfl X'
    exact ⟨t2, st.trans a1, b1⟩
theorem vx_calll {S SX : Type} {post : Int64 → S → Prop} {px : SX → Prop} {B : S → State → Prop} {BX : String → SX → State → Prop} {AX : Nat → Prop} (hr : vx_Run p l e R s m args below meth c H locs cells slots mc ms (F0 m pc ls st0) rest (va_Ql post B A1 a) (vx_X px BX AX) free) (hS : va_S A0 H0 H locs) (hA : ∀ q, q < H.size → A1 q → A0 q) (hf : ∀ q, free q → A0 q) (hAX : ∀ q, q < H.size → AX q → A0 q)
    (kx : ∀ (E : String) (ce : Cell) (q9 : Addr) (u : SX) (t : State) (H1 : Heap) (locs1 : List Loc), t.heap = H1 → s.vm.Alike t.vm → px u → BX E u t → H.size ≤ H1.size → (∀ q : Nat, q < H.size → ¬ AX q → H1[q]? = H[q]?) → va_S A0 H0 H1 locs1 → H1[q9]? = some ce → ce.vm = .none → s.vm.findClass E = some ce.cls → vx_W p l e R s m args below meth c H1 locs1 (cells + mc) (slots + ms) Q (F0 m pc ls rest) q9)
    (kk : ∀ (r : Int64) (u : S) (t : State) (H1 : Heap) (locs1 : List Loc), t.heap = H1 → s.vm.Alike t.vm → post r u → B u t → H.size ≤ H1.size → (∀ q : Nat, q < H.size → ¬ A1 q → H1[q]? = H[q]?) → va_S A0 H0 H1 locs1 → W p l e R s m args below meth c H1 locs1 (cells + mc) (slots + ms) Q (F0 m (pc + 3) ls (.long r :: rest))) : W p l e R s m args below meth c H locs cells slots Q (F0 m pc ls st0) := by
  intro T hT X
  rcases hr T hT X with ⟨v, st₀, t, T', L, h0, X', hL, e1, e2, ⟨⟨r, u, hv, hp, hb⟩, hF⟩, st⟩ | ⟨q, st₀, t, T', L, E, ce, h0, X', hL, e1, e2, ⟨u, hp, hb, hF⟩, hce, hcv, hcl, st⟩
  · cases hv
    obtain ⟨k1, k2, k3⟩ := vx_keep h0 e1 hS hA hf hL hF
    obtain ⟨t2, a1, b1⟩ := kk r u t T'.heap (locs ++ L) e1.symm (by rw [← e2]; exact X'.warmed.alike) hp hb k1 k2 k3 T' rfl X'
    exact ⟨t2, st t2 a1, b1⟩
  · obtain ⟨k1, k2, k3⟩ := vx_keep h0 e1 hS hAX hf hL hF
    obtain ⟨t2, a1, b1⟩ := kx E ce q u t T'.heap (locs ++ L) e1.symm (by rw [← e2]; exact X'.warmed.alike) hp hb k1 k2 k3 (by rw [e1]; exact hce) hcv hcl T' rfl X'
    exact ⟨t2, st.trans a1, b1⟩
theorem vx_callf {S SX : Type} {post : UInt32 → S → Prop} {px : SX → Prop} {B : S → State → Prop} {BX : String → SX → State → Prop} {AX : Nat → Prop} (hr : vx_Run p l e R s m args below meth c H locs cells slots mc ms (F0 m pc ls st0) rest (va_Qf post B A1 a) (vx_X px BX AX) free) (hS : va_S A0 H0 H locs) (hA : ∀ q, q < H.size → A1 q → A0 q) (hf : ∀ q, free q → A0 q) (hAX : ∀ q, q < H.size → AX q → A0 q)
    (kx : ∀ (E : String) (ce : Cell) (q9 : Addr) (u : SX) (t : State) (H1 : Heap) (locs1 : List Loc), t.heap = H1 → s.vm.Alike t.vm → px u → BX E u t → H.size ≤ H1.size → (∀ q : Nat, q < H.size → ¬ AX q → H1[q]? = H[q]?) → va_S A0 H0 H1 locs1 → H1[q9]? = some ce → ce.vm = .none → s.vm.findClass E = some ce.cls → vx_W p l e R s m args below meth c H1 locs1 (cells + mc) (slots + ms) Q (F0 m pc ls rest) q9)
    (kk : ∀ (r : UInt32) (u : S) (t : State) (H1 : Heap) (locs1 : List Loc), t.heap = H1 → s.vm.Alike t.vm → post r u → B u t → H.size ≤ H1.size → (∀ q : Nat, q < H.size → ¬ A1 q → H1[q]? = H[q]?) → va_S A0 H0 H1 locs1 → W p l e R s m args below meth c H1 locs1 (cells + mc) (slots + ms) Q (F0 m (pc + 3) ls (.float r :: rest))) : W p l e R s m args below meth c H locs cells slots Q (F0 m pc ls st0) := by
  intro T hT X
  rcases hr T hT X with ⟨v, st₀, t, T', L, h0, X', hL, e1, e2, ⟨⟨r, u, hv, hp, hb⟩, hF⟩, st⟩ | ⟨q, st₀, t, T', L, E, ce, h0, X', hL, e1, e2, ⟨u, hp, hb, hF⟩, hce, hcv, hcl, st⟩
  · cases hv
    obtain ⟨k1, k2, k3⟩ := vx_keep h0 e1 hS hA hf hL hF
    obtain ⟨t2, a1, b1⟩ := kk r u t T'.heap (locs ++ L) e1.symm (by rw [← e2]; exact X'.warmed.alike) hp hb k1 k2 k3 T' rfl X'
    exact ⟨t2, st t2 a1, b1⟩
  · obtain ⟨k1, k2, k3⟩ := vx_keep h0 e1 hS hAX hf hL hF
    obtain ⟨t2, a1, b1⟩ := kx E ce q u t T'.heap (locs ++ L) e1.symm (by rw [← e2]; exact X'.warmed.alike) hp hb k1 k2 k3 (by rw [e1]; exact hce) hcv hcl T' rfl X'
    exact ⟨t2, st.trans a1, b1⟩
theorem vx_calld {S SX : Type} {post : UInt64 → S → Prop} {px : SX → Prop} {B : S → State → Prop} {BX : String → SX → State → Prop} {AX : Nat → Prop} (hr : vx_Run p l e R s m args below meth c H locs cells slots mc ms (F0 m pc ls st0) rest (va_Qd post B A1 a) (vx_X px BX AX) free) (hS : va_S A0 H0 H locs) (hA : ∀ q, q < H.size → A1 q → A0 q) (hf : ∀ q, free q → A0 q) (hAX : ∀ q, q < H.size → AX q → A0 q)
    (kx : ∀ (E : String) (ce : Cell) (q9 : Addr) (u : SX) (t : State) (H1 : Heap) (locs1 : List Loc), t.heap = H1 → s.vm.Alike t.vm → px u → BX E u t → H.size ≤ H1.size → (∀ q : Nat, q < H.size → ¬ AX q → H1[q]? = H[q]?) → va_S A0 H0 H1 locs1 → H1[q9]? = some ce → ce.vm = .none → s.vm.findClass E = some ce.cls → vx_W p l e R s m args below meth c H1 locs1 (cells + mc) (slots + ms) Q (F0 m pc ls rest) q9)
    (kk : ∀ (r : UInt64) (u : S) (t : State) (H1 : Heap) (locs1 : List Loc), t.heap = H1 → s.vm.Alike t.vm → post r u → B u t → H.size ≤ H1.size → (∀ q : Nat, q < H.size → ¬ A1 q → H1[q]? = H[q]?) → va_S A0 H0 H1 locs1 → W p l e R s m args below meth c H1 locs1 (cells + mc) (slots + ms) Q (F0 m (pc + 3) ls (.double r :: rest))) : W p l e R s m args below meth c H locs cells slots Q (F0 m pc ls st0) := by
  intro T hT X
  rcases hr T hT X with ⟨v, st₀, t, T', L, h0, X', hL, e1, e2, ⟨⟨r, u, hv, hp, hb⟩, hF⟩, st⟩ | ⟨q, st₀, t, T', L, E, ce, h0, X', hL, e1, e2, ⟨u, hp, hb, hF⟩, hce, hcv, hcl, st⟩
  · cases hv
    obtain ⟨k1, k2, k3⟩ := vx_keep h0 e1 hS hA hf hL hF
    obtain ⟨t2, a1, b1⟩ := kk r u t T'.heap (locs ++ L) e1.symm (by rw [← e2]; exact X'.warmed.alike) hp hb k1 k2 k3 T' rfl X'
    exact ⟨t2, st t2 a1, b1⟩
  · obtain ⟨k1, k2, k3⟩ := vx_keep h0 e1 hS hAX hf hL hF
    obtain ⟨t2, a1, b1⟩ := kx E ce q u t T'.heap (locs ++ L) e1.symm (by rw [← e2]; exact X'.warmed.alike) hp hb k1 k2 k3 (by rw [e1]; exact hce) hcv hcl T' rfl X'
    exact ⟨t2, st.trans a1, b1⟩
theorem vx_callv {S SX : Type} {post : S → Prop} {px : SX → Prop} {B : S → State → Prop} {BX : String → SX → State → Prop} {AX : Nat → Prop} (hr : vx_Run p l e R s m args below meth c H locs cells slots mc ms (F0 m pc ls st0) rest (va_Qv post B A1 a) (vx_X px BX AX) free) (hS : va_S A0 H0 H locs) (hA : ∀ q, q < H.size → A1 q → A0 q) (hf : ∀ q, free q → A0 q) (hAX : ∀ q, q < H.size → AX q → A0 q)
    (kx : ∀ (E : String) (ce : Cell) (q9 : Addr) (u : SX) (t : State) (H1 : Heap) (locs1 : List Loc), t.heap = H1 → s.vm.Alike t.vm → px u → BX E u t → H.size ≤ H1.size → (∀ q : Nat, q < H.size → ¬ AX q → H1[q]? = H[q]?) → va_S A0 H0 H1 locs1 → H1[q9]? = some ce → ce.vm = .none → s.vm.findClass E = some ce.cls → vx_W p l e R s m args below meth c H1 locs1 (cells + mc) (slots + ms) Q (F0 m pc ls rest) q9)
    (kk : ∀ (u : S) (t : State) (H1 : Heap) (locs1 : List Loc), t.heap = H1 → s.vm.Alike t.vm → post u → B u t → H.size ≤ H1.size → (∀ q : Nat, q < H.size → ¬ A1 q → H1[q]? = H[q]?) → va_S A0 H0 H1 locs1 → W p l e R s m args below meth c H1 locs1 (cells + mc) (slots + ms) Q (F0 m (pc + 3) ls (rest))) : W p l e R s m args below meth c H locs cells slots Q (F0 m pc ls st0) := by
  intro T hT X
  rcases hr T hT X with ⟨v, st₀, t, T', L, h0, X', hL, e1, e2, ⟨⟨u, hv, hp, hb⟩, hF⟩, st⟩ | ⟨q, st₀, t, T', L, E, ce, h0, X', hL, e1, e2, ⟨u, hp, hb, hF⟩, hce, hcv, hcl, st⟩
  · cases hv
    obtain ⟨k1, k2, k3⟩ := vx_keep h0 e1 hS hA hf hL hF
    obtain ⟨t2, a1, b1⟩ := kk u t T'.heap (locs ++ L) e1.symm (by rw [← e2]; exact X'.warmed.alike) hp hb k1 k2 k3 T' rfl X'
    exact ⟨t2, st t2 a1, b1⟩
  · obtain ⟨k1, k2, k3⟩ := vx_keep h0 e1 hS hAX hf hL hF
    obtain ⟨t2, a1, b1⟩ := kx E ce q u t T'.heap (locs ++ L) e1.symm (by rw [← e2]; exact X'.warmed.alike) hp hb k1 k2 k3 (by rw [e1]; exact hce) hcv hcl T' rfl X'
    exact ⟨t2, st.trans a1, b1⟩
/-- caught by the row x of this method's table; the rows ahead don't take it -/
theorem vx_catch {own name : String} {E : String} {ce : Cell} {q : Addr} (hown : s.vm.findClass own = some m.cls) (pre : List ExceptionTableEntry) (x : ExceptionTableEntry) (suf : List ExceptionTableEntry) (hsplit : c.exceptionTable.toList = pre ++ x :: suf)
    (hpass : ∀ z ∈ pre, covers z pc = false ∨ (z.catchType ≠ 0 ∧ ∃ nm : String, (Cond.classLink own z.catchType nm).before args s = true ∧ va_Nc E nm s)) (hx : covers x pc = true) (h0 : x.catchType ≠ 0)
    (hlink : (Cond.classLink own x.catchType name).before args s = true) (hcast : (Cond.castable E name).before args s = true) (hcell : H[q]? = some ce) (hv : ce.vm = .none) (hcl : s.vm.findClass E = some ce.cls)
    (kk : W p l e R s m args below meth c H locs cells slots Q (F0 m x.handlerPc ls [.ref q])) : vx_W p l e R s m args below meth c H locs cells slots Q (F0 m pc ls rest) q := by
  intro T hT X
  have hpl : e.platform.magicAccessors = ({} : Platform).magicAccessors := by rw [X.admits.platform]
  obtain ⟨c3, c4, hc3, hc4, hasg⟩ := Cond.castable_spec hcast
  cases Option.some.inj (hc3.symm.trans hcl)
  obtain ⟨c5, hc5, hcl5⟩ := Cond.classLink_spec hown hlink e.platform hpl
  cases Option.some.inj (hc4.symm.trans hc5)
  obtain ⟨vm', X', st⟩ := X.thenCaughtThrough q (g := F0 m pc ls rest) rfl (Steps.refl _) (by rw [hT]; exact hcell) (by rw [hv]; rfl) (by obtain ⟨k9, h9, -⟩ := Vm.findClass_spec hcl; exact ⟨k9, h9⟩) pre x suf hsplit
    (fun z hz => by
      rcases hpass z hz with h | ⟨hz0, nm, hl1, hn1⟩
      · exact Or.inl h
      · obtain ⟨c6, hc6, hcl6⟩ := Cond.classLink_spec hown hl1 e.platform hpl
        obtain ⟨a8, b8, h1, h2, h3⟩ := hn1
        cases Option.some.inj (h1.symm.trans hcl)
        cases Option.some.inj (h2.symm.trans hc6)
        exact Or.inr ⟨hz0, _, hcl6, h3⟩) hx (Or.inr ⟨h0, c4, hcl5, hasg⟩)
  obtain ⟨t, a1, b1⟩ := kk (T.setVm vm') hT X'
  exact ⟨t, st.trans a1, b1⟩
end Rows
section Ends
variable {p : Program} {l : Launch} {e : Env} {R : Room} {s : State} {m : MethodId} {args : Array Value} {below : List Frame} {meth : Method} {c : Code} {H : Heap} {locs : List Loc} {cells slots : Nat} {Q : State → Prop}
variable {mc ms : Nat} {free : Addr → Prop} {A0 A1 : Nat → Prop} {H0 : Heap} {a : Array Value} {ls : Array Slot} {st0 rest : List Value}
variable {Qc : Array Value → State → Outcome → State → Prop} {XC : String → State → State → Prop}
/-- what a body that may throw owes at its end -/
def vx_MQ (below : List Frame) (Qc : Array Value → State → Outcome → State → Prop) (XC : String → State → State → Prop) (a : Array Value) (s : State) (mc ms : Nat) (free : Addr → Prop) : State → Prop := fun t =>
  ∃ o, t.status = .running ∧ Ended t below o ∧ vx_Q Qc XC mc ms free a s o t
theorem vx_ret {g : JFrame} {mc ms : Nat} (k : W p l e R s m args below meth c H locs cells slots (MQ below Qc args s mc ms free) g) : W p l e R s m args below meth c H locs cells slots (vx_MQ below Qc XC args s mc ms free) g := by
  intro T hT X
  obtain ⟨t, a1, o, b1, b2, b3, b4⟩ := k T hT X
  exact ⟨t, a1, o, b1, b2, Or.inl ⟨b3, b4⟩⟩
/-- not caught here: it goes on to the caller -/
theorem vx_widen {g : JFrame} {q : Addr} {k n : Nat} (h1 : cells ≤ k) (h2 : slots ≤ n) (kk : vx_W p l e R s m args below meth c H locs k n Q g q) : vx_W p l e R s m args below meth c H locs cells slots Q g q := fun T hT X => kk T hT (stand_widen X h1 h2)
theorem vx_out {pc : Nat} {E : String} {ce : Cell} {q : Addr} {mc ms : Nat} (hout : ∀ x ∈ c.exceptionTable.toList, covers x pc = false) (hlocks : meth.locks = false) (hcell : H[q]? = some ce) (hv : ce.vm = .none) (hcl : s.vm.findClass E = some ce.cls)
    (hx : ∀ t : State, t.heap = H → s.vm.Alike t.vm → XC E s t) (hf : ∀ z ∈ locs, free z.base) (hc : cells ≤ mc) (hs : slots ≤ ms) :
    vx_W p l e R s m args below meth c H locs cells slots (vx_MQ below Qc XC args s mc ms free) (F0 m pc ls rest) q := by
  intro T hT X
  obtain ⟨st1, hrun, hend, hW, hsm⟩ := X.leaveThrown q (g := F0 m pc ls rest) rfl rfl rfl hout hlocks
  have hcell9 : (T.setFrames (.throwing q :: below)).heap[q]? = some ce := by
    show T.heap[q]? = some ce
    rw [hT]; exact hcell
  exact ⟨_, st1, .threw q, hrun, hend, Or.inr ⟨q, rfl, E, ce, locs, hx _ hT hW.alike, hcell9, hv, hcl, hW, hsm.mono hc hs, hf⟩⟩
theorem vx_frame {U : State} {k n : Nat} (h : s.sameButNew ({ U with vm := s.vm } : State) locs k n) : s.heap.size ≤ U.heap.size ∧ ∀ q : Nat, q < s.heap.size → (∀ z ∈ locs, z.base ≠ q) → U.heap[q]? = s.heap[q]? := by
  obtain ⟨-, h2, -, -, -, h6⟩ := h
  refine ⟨h2, fun q hq hz => ?_⟩
  obtain ⟨c9, e1, e2, e3, e4⟩ := h6 q _ (Array.getElem?_eq_getElem hq)
  have hs : c9.slots = (s.heap[q]).slots := Array.ext_getElem? fun i => e4 i fun hm => hz _ hm rfl
  have h9 : c9 = s.heap[q] := by
    rw [hs] at e2
    exact e2
  have e5 : U.heap[q]? = some c9 := e1
  rw [e5, h9, Array.getElem?_eq_getElem hq]
/-- the words of a throw but the four that speak of the heap -/
def vx_no (w : Cond) : Bool := decide (w ≠ .isRef (.static Bundle.tN "UNASSIGNED_STACK" Bundle.steD)) && decide (w ≠ .isRef (.static Bundle.tN "SUPPRESSED_SENTINEL" Bundle.listD)) && decide (w ≠ .laysStatic Bundle.tN "UNASSIGNED_STACK" Bundle.steD) && decide (w ≠ .laysStatic Bundle.tN "SUPPRESSED_SENTINEL" Bundle.listD)
def vx_at0 (own : String) (ic : Nat) (X : String) (names : List String) : List Cond := (Bundle.ownAtoms0 own ic X names).filter vx_no
def vx_atS (own : String) (ic : Nat) (X : String) (names : List String) : List Cond := (Bundle.ownAtoms own ic X names).filter vx_no
/-- a word that the tables alone decide, or a good one -/
def vx_ot (w : Cond) : Bool := w.onTables || goodWord w
theorem vx_ot_at {args a' : Array Value} {s U : State} {w : Cond} (hW : s.WarmedH U.vm) (hvm : s.vm = U.vm) (hg : vx_ot w = true) (h : w.before args s = true) : w.before a' U = true := by
  simp only [vx_ot, Bool.or_eq_true] at hg
  rcases hg with hg | hg
  · exact va_tabs hg hvm h
  · exact word_at hW (good_of_word hg) h
/-- a list's words: the good ones out of the method's own list, the others by premises of their own -/
theorem vx_hat {args : Array Value} {s : State} {L B : List Cond} (h1 : ∀ w ∈ L.filter goodWord, w.before args s = true) (h2 : ∀ w ∈ L.filter (fun w => !goodWord w), w ∈ B) (h3 : ∀ w ∈ B, w.before args s = true) : ∀ w ∈ L, w.before args s = true := by
  intro w hw
  by_cases g : goodWord w = true
  · exact h1 w (List.mem_filter.mpr ⟨hw, g⟩)
  · refine h3 w (h2 w (List.mem_filter.mpr ⟨hw, ?_⟩))
    show (!goodWord w) = true
    cases hgw : goodWord w
    · rfl
    · exact absurd hgw g
theorem vx_c {args : Array Value} {s : State} {w : Cond} {B : List Cond} (h : w.before args s = true) (t : ∀ w ∈ B, w.before args s = true) : ∀ w' ∈ w :: B, w'.before args s = true := fun w' h' => (List.mem_cons.mp h').elim (fun e => by rw [e]; exact h) (t w')
theorem vx_n {args : Array Value} {s : State} : ∀ w ∈ ([] : List Cond), w.before args s = true := fun _ h => nomatch h
theorem vx_own {args : Array Value} {s : State} {L : List Cond} (h1 : ∀ w ∈ L.filter vx_no, w.before args s = true)
    (hU : (Cond.isRef (.static Bundle.tN "UNASSIGNED_STACK" Bundle.steD)).before args s = true) (hN : (Cond.isRef (.static Bundle.tN "SUPPRESSED_SENTINEL" Bundle.listD)).before args s = true)
    (lU : (Cond.laysStatic Bundle.tN "UNASSIGNED_STACK" Bundle.steD).before args s = true) (lN : (Cond.laysStatic Bundle.tN "SUPPRESSED_SENTINEL" Bundle.listD).before args s = true) : ∀ w ∈ L, w.before args s = true := by
  intro w hw
  by_cases e1 : w = .isRef (.static Bundle.tN "UNASSIGNED_STACK" Bundle.steD)
  · rw [e1]; exact hU
  · by_cases e2 : w = .isRef (.static Bundle.tN "SUPPRESSED_SENTINEL" Bundle.listD)
    · rw [e2]; exact hN
    · by_cases e3 : w = .laysStatic Bundle.tN "UNASSIGNED_STACK" Bundle.steD
      · rw [e3]; exact lU
      · by_cases e4 : w = .laysStatic Bundle.tN "SUPPRESSED_SENTINEL" Bundle.listD
        · rw [e4]; exact lN
        · exact h1 w (List.mem_filter.mpr ⟨hw, by unfold vx_no; rw [decide_eq_true e1, decide_eq_true e2, decide_eq_true e3, decide_eq_true e4]; rfl⟩)
/-- where a static field lies, its class's statics cell in H -/
def vx_L (C n d : String) (A : Nat → Prop) (U : State) (H : Heap) : Prop := ∃ (c : ClassId) (k : Class) (i : Nat) (f : Field) (a : Nat) (cell : Cell), U.vm.findClass C = some c ∧ U.fieldFound? C n d = some (c, k, i, f) ∧ f.isStatic = true ∧ k.statics = some a ∧ H[a]? = some cell ∧ cell.vm.isStatics = true ∧ cell.cls = c ∧ f.slot < cell.slots.size ∧ k.staticTypes[f.slot]? = some f.type ∧ ¬ A a
theorem vx_L.moved {C n d : String} {A : Nat → Prop} {u U : State} {H : Heap} (hvm : u.vm.Alike U.vm) (h : vx_L C n d A u H) : vx_L C n d A U H := by
  obtain ⟨c, k, i, f, a, cell, h1, h2, h3, h4, h5, h6, h7, h8, h9, h10⟩ := h
  obtain ⟨k', hi', he⟩ := State.fieldFound?_setVm hvm h2
  exact ⟨c, k', i, f, a, cell, by rw [hvm.findClass]; exact h1, hi', h3, by rw [he]; exact h4, h5, h6, h7, h8, by rw [he]; exact h9, h10⟩
theorem vx_L.kept {C n d : String} {A : Nat → Prop} {U : State} {H H1 : Heap} (h : vx_L C n d A U H) (hq : ∀ a : Nat, a < H.size → ¬ A a → H1[a]? = H[a]?) : vx_L C n d A U H1 := by
  obtain ⟨c, k, i, f, a, cell, h1, h2, h3, h4, h5, h6, h7, h8, h9, h10⟩ := h
  exact ⟨c, k, i, f, a, cell, h1, h2, h3, h4, by rw [hq a (Array.getElem?_eq_some_iff.mp h5).1 h10]; exact h5, h6, h7, h8, h9, h10⟩
theorem vx_L.narrow {C n d : String} {A B : Nat → Prop} {U : State} {H : Heap} (h : vx_L C n d A U H) (hAB : ∀ q, B q → A q) : vx_L C n d B U H := by
  obtain ⟨c, k, i, f, a, cell, h1, h2, h3, h4, h5, h6, h7, h8, h9, h10⟩ := h
  exact ⟨c, k, i, f, a, cell, h1, h2, h3, h4, h5, h6, h7, h8, h9, fun z => h10 (hAB _ z)⟩
theorem vx_L.word {C n d : String} {A : Nat → Prop} {s : State} {args : Array Value} (h : vx_L C n d A s s.heap) : (Cond.laysStatic C n d).before args s = true := by
  obtain ⟨c, k, i, f, a, cell, h1, h2, h3, h4, h5, h6, h7, h8, h9, -⟩ := h
  show (Cond.laysStatic C n d).holds args s none s [] = true
  exact Cond.laysStatic_of h1 h2 h3 h4 h5 h6 h7 h8 h9
/-- .. and what it holds: null or some reference -/
def vx_Zq (C n d : String) (A : Nat → Prop) (U : State) (H : Heap) : Prop := va_Zq C n d A U H ∧ vx_L C n d A U H
theorem vx_Zq.moved {C n d : String} {A : Nat → Prop} {u U : State} {H : Heap} (hvm : u.vm.Alike U.vm) (h : vx_Zq C n d A u H) : vx_Zq C n d A U H := ⟨va_Zq.moved hvm h.1, vx_L.moved hvm h.2⟩
theorem vx_Zq.kept {C n d : String} {A : Nat → Prop} {U : State} {H H1 : Heap} (h : vx_Zq C n d A U H) (hq : ∀ a : Nat, a < H.size → ¬ A a → H1[a]? = H[a]?) : vx_Zq C n d A U H1 := ⟨va_Zq.kept h.1 hq, vx_L.kept h.2 hq⟩
theorem vx_Zq.narrow {C n d : String} {A B : Nat → Prop} {U : State} {H : Heap} (h : vx_Zq C n d A U H) (hAB : ∀ q, B q → A q) : vx_Zq C n d B U H := ⟨va_Zq.narrow h.1 hAB, vx_L.narrow h.2 hAB⟩
theorem vx_Zqof {args : Array Value} {s : State} {C n d : String} {A : Nat → Prop} (hl : (Cond.laysStatic C n d).before args s = true) (hini : (Cond.initialized C).before args s = true) (h : (Cond.isRef (.static C n d)).before args s = true) (hA : ∀ a : Nat, a < s.heap.size → ¬ A a) : vx_Zq C n d A s s.heap := by
  refine ⟨va_Zqof hl hini h hA, ?_⟩
  obtain ⟨c, k, i, f, a, cell, h1, h2, h3, h4, h5, h6, h7, h8, h9⟩ := Cond.laysStatic_spec hl
  exact ⟨c, k, i, f, a, cell, h1, h2, h3, h4, h5, h6, h7, h8, h9, hA a (Array.getElem?_eq_some_iff.mp h5).1⟩
theorem vx_isRef {C n d : String} {v : Value} {A : Nat → Prop} {s : State} {args : Array Value} (h : va_Z C n d v A s s.heap) (hv : v.isRef = true) : (Cond.isRef (.static C n d)).before args s = true := by
  obtain ⟨cf, kf, fi, f, a, cell, h1, h2, h3, h4, h5, h6, h7, -⟩ := h
  have he : (Term.static C n d).eval args s none [] s = some v := by
    simp [Term.eval, State.fieldNamed?, h1, h2, h4, h5, h6, h7]
  simp only [Cond.before, Cond.holds, Cond.value, he]
  cases v <;> simp_all [Value.isRef]
theorem vx_isRefq {C n d : String} {A : Nat → Prop} {s : State} {args : Array Value} (h : va_Zq C n d A s s.heap) : (Cond.isRef (.static C n d)).before args s = true := by
  rcases h with h | ⟨t, h⟩
  · exact vx_isRef h rfl
  · exact vx_isRef h rfl
/-- the same frame, seen from here: as if the method were called anew in this heap -/
theorem vx_rebase {T : State} (X : Stand p l e R s m args below meth c T locs cells slots) {R' : Room} (hf : R'.frames ≤ R.frames) (hl : R'.locals ≤ R.locals) (hc : cells + R'.cells ≤ R.cells) (hs : slots + R'.slots ≤ R.slots) :
    Stand p l e R' ((T.setVm s.vm).setFrames (.invoking m args :: below)) m args below meth c T [] 0 0 := by
  have htop : (T.setVm s.vm).topJava?.isSome := X.here.top
  have hF : ((T.setVm s.vm).setFrames (.invoking m args :: below)).frames = .invoking m args :: below := State.frames_setFrames _ (State.cur_lt_of_top htop)
  obtain ⟨g₀, hg0⟩ := Option.isSome_iff_exists.mp htop
  obtain ⟨r, hr⟩ := State.topJava?_eq_some.mp hg0
  have hl9 : e.platform.stackLimits (T.setVm s.vm).me = e.platform.stackLimits s.me := X.limits
  have hb9 : (T.setVm s.vm).me.stackBytes = s.me.stackBytes := X.bytes
  refine ⟨X.admits, X.cas, X.clock, hF, ?_, X.hears, X.method, X.code, X.here, X.tail, X.warmed, ?_, ?_, ?_⟩
  · have h := X.room
    have hU : ((T.setVm s.vm).setFrames (.invoking m args :: below)).localsInUse = s.localsInUse := by
      rw [State.localsInUse_invoking hF (meth := meth) (c := c) X.method X.code, State.localsInUse_invoking X.frames X.method X.code]
    simp only [State.hasRoom, Bool.and_eq_true, decide_eq_true_eq] at h ⊢
    obtain ⟨⟨⟨⟨h1, h2, h3, h4, h5, h6⟩, h7⟩, h8⟩, h9⟩ := h
    rw [X.frames, List.length_cons] at h2 h3
    have q1 := X.heapSize
    have q2 := X.used
    simp only [hF, hU, List.length_cons, State.stackLimits_setFrames, State.stackBytes_setFrames, hl9, hb9]
    refine ⟨⟨⟨⟨by omega, by omega, by omega, by omega, by omega, h6⟩, ?_⟩, ?_⟩, X.book⟩
    · show T.heap.size + R'.cells ≤ e.platform.maxCells
      omega
    · show T.slotsUsed + R'.slots ≤ e.platform.maxSlots
      omega
  · rw [State.stackLimits_setFrames]; rfl
  · rw [State.stackBytes_setFrames]; rfl
  · refine ⟨?_, Nat.le_refl _, Nat.le_refl _, ?_, ?_, fun a c9 h9 => ⟨c9, h9, rfl, rfl, fun _ _ => rfl⟩⟩
    · obtain ⟨t, ht, -⟩ := State.frames_cons hr
      show T.setVm s.vm = { ((T.setVm s.vm).setFrames (.invoking m args :: below)).setFrames (T.setVm s.vm).frames with heap := T.heap, slotsUsed := T.slotsUsed }
      rw [State.setFrames_setFrames, State.setFrames_self ht]
      rfl
    · show T.slotsUsed = T.slotsUsed + ((T.heap.toList.drop T.heap.size).map (·.slots.size)).sum
      rw [List.drop_eq_nil_of_le (Nat.le_of_eq Array.length_toList)]
      rfl
    · show ((T.heap.toList.drop T.heap.size).map (·.slots.size)).sum ≤ 0
      rw [List.drop_eq_nil_of_le (Nat.le_of_eq Array.length_toList)]
      exact Nat.le_refl _
/-- 'throw new E()': new; dup; invokespecial; athrow -/
theorem vx_throw0 {cc : ByteArray} {pc : Nat} (hexec : p.tables.exec = Jvm.exec) (hb : c.code = cc) (hl : l.stackTraces = false) {own cls : String} {names : List String} {ik ic mc ms : Nat} {A : Nat → Prop}
    (hown : s.vm.findClass own = some m.cls) (hcls : Bundle.fit cls = true) (hnames : ∀ n ∈ names, Bundle.fit n = true)
    (hk : (Cond.classLink own ik cls).before args s = true) (hini : (Cond.initialized cls).before args s = true) (hat : ∀ w ∈ vx_at0 own ic cls names, w.before args s = true)
    (hgood : ∀ w ∈ Cond.classLink own ik cls :: Cond.initialized cls :: vx_at0 own ic cls names, vx_ot w = true)
    (hU : vx_Zq Bundle.tN "UNASSIGNED_STACK" Bundle.steD A s s.heap) (hN : vx_Zq Bundle.tN "SUPPRESSED_SENTINEL" Bundle.listD A s s.heap) (hS : va_S A s.heap H locs) (hsize : ls.size = c.maxLocals)
    (d0 : decode cc pc = .ok (.new ik, 3)) (d3 : decode cc (pc + 3) = .ok (.dup, 1)) (d4 : decode cc (pc + 4) = .ok (.invokespecial ic, 3)) (d7 : decode cc (pc + 7) = .ok (.athrow, 1))
    (hout : ∀ x ∈ c.exceptionTable.toList, covers x (pc + 7) = false)
    (hRframes : names.length + 3 < R.frames) (hRlocals : (rest.map fun v => v.category).sum + (13 * (names.length + 1) + 42) ≤ R.locals) (hRcells : cells + 1 ≤ R.cells) (hRslots : slots + 6 ≤ R.slots) (hlocks : meth.locks = false)
    (hx : ∀ t : State, s.vm.Alike t.vm → H.size ≤ t.heap.size → (∀ q : Nat, q < H.size → t.heap[q]? = H[q]?) → XC cls s t)
    (hf : ∀ z ∈ locs, free z.base) (hc : cells + 1 ≤ mc) (hs : slots + 6 ≤ ms) :
    W p l e R s m args below meth c H locs cells slots (vx_MQ below Qc XC args s mc ms free) (F0 m pc ls rest) := by
  intro T hT X
  have htr : e.platform.stackTraces = false := (show e.platform.stackTraces = l.stackTraces by rw [X.admits.platform]).trans hl
  have Y := vx_rebase X (R' := { frames := R.frames, locals := R.locals, cells := 1, slots := 6 }) (Nat.le_refl _) (Nat.le_refl _) hRcells hRslots
  obtain ⟨s', hA⟩ : ∃ z, z = (T.setVm s.vm).setFrames (.invoking m args :: below) := ⟨_, rfl⟩
  rw [← hA] at Y
  have hvm : s'.vm = s.vm := by rw [hA]; rfl
  have hhp : s'.heap = H := by rw [hA]; exact hT
  have hW0 : s.WarmedH s'.vm := by rw [hvm]; exact State.WarmedH.refl s
  have hat' : ∀ w ∈ vx_at0 own ic cls names, w.before args s' = true := fun w hw => vx_ot_at hW0 hvm.symm (hgood w (List.mem_cons_of_mem _ (List.mem_cons_of_mem _ hw))) (hat w hw)
  have hk' : (Cond.classLink own ik cls).before args s' = true := vx_ot_at hW0 hvm.symm (hgood _ List.mem_cons_self) hk
  have hini' : (Cond.initialized cls).before args s' = true := vx_ot_at hW0 hvm.symm (hgood _ (List.mem_cons_of_mem _ List.mem_cons_self)) hini
  have hU' : vx_Zq Bundle.tN "UNASSIGNED_STACK" Bundle.steD A s' s'.heap := by rw [hhp]; exact vx_Zq.moved hW0.alike (hU.kept hS.2.1)
  have hN' : vx_Zq Bundle.tN "SUPPRESSED_SENTINEL" Bundle.listD A s' s'.heap := by rw [hhp]; exact vx_Zq.moved hW0.alike (hN.kept hS.2.1)
  have h : ∀ w ∈ Bundle.ownAtoms0 own ic cls names, w.before args s' = true := vx_own hat' (vx_isRefq hU'.1) (vx_isRefq hN'.1) hU'.2.word hN'.2.word
  have hown' : s'.vm.findClass own = some m.cls := by rw [hvm]; exact hown
  have hins : (Cond.instantiable cls 6).before args s' = true := h _ (by simp [Bundle.ownAtoms0])
  obtain ⟨vm₁, cX, kX, hfX, hkX, -, -, X₁, st1⟩ := Y.newCold hexec (own := own) (C := cls) (index := ik) (n := 6) hown' hk' hins hini'
    (g := F0 m pc ls rest) rfl (by rw [hb]; exact d0) (Nat.le_refl _) (Nat.le_refl _)
  generalize hT1 : (T.setVm vm₁).pushCell { cls := cX, slots := kX.instanceTypes.map defaultValue, vm := .none } = T1 at X₁ st1
  have hcat : (Value.ref T.heap.size).category = 1 := rfl
  have hcellA : T1.heap[T.heap.size]? = some (freshCell cX kX) := by rw [← hT1]; exact State.heap_pushCell_size _ _
  have d3' : decode c.code (pc + 3) = .ok (.dup, 1) := by rw [hb]; exact d3
  obtain ⟨U, hsteps, hrun, hend, hW, hsame, ce, hce, hO⟩ := X₁.ctorThrow0 hexec htr (own := own) (cls := cls) (names := names) (ic := ic) hown' hcls hnames h (fun x hx => nomatch hx) hfX hkX hcellA (by rw [hhp, hT]; exact Nat.le_refl _)
    (g := { method := m, pc := pc + 4, locals := ls, stack := .ref T.heap.size :: .ref T.heap.size :: rest, locked := none }) rfl hsize rfl rfl (rest := rest) rfl
    (by rw [hb]; exact d4) (by rw [hb]; exact d7) hout hRframes (by simp only [List.map_cons, List.sum_cons, hcat]; omega) hlocks
  obtain ⟨f1, f2⟩ := vx_frame hsame
  rw [hhp] at f1 f2
  have hWs : s.WarmedH U.vm := State.WarmedH.trans hW0 hW
  have hcl : s.vm.findClass cls = some ce.cls := by
    have h9 := hO.cls
    rw [hvm] at h9
    exact h9
  have hall : s.sameButNew ({ U with vm := s.vm } : State) locs mc ms := by
    subst hA
    obtain ⟨e1, e2⟩ := hsame
    rw [State.setFrames_setFrames] at e1
    have h2 : (T.setVm s.vm).sameButNew ({ U with vm := s.vm } : State) [] (0 + 1) (0 + 6) := ⟨e1, e2⟩
    have h3 := X.same.trans h2
    rw [List.append_nil] at h3
    exact h3.mono hc hs
  refine ⟨U, ?_, .threw T.heap.size, hrun, hend, Or.inr ⟨T.heap.size, rfl, cls, ce, locs, hx U hWs.alike f1 (fun q hq => f2 q hq (fun z hz => nomatch hz)), hce, hO.vm, hcl, hWs, hall, hf⟩⟩
  refine st1 _ ?_
  show Steps p.tables e below (T1.setTop { method := m, pc := pc + 3, locals := ls, stack := .ref T.heap.size :: rest, locked := none }) _
  jvm_step X₁.here [X₁.here.top, hexec, d3', Value.category]
  exact hsteps
/-- 'throw new E("text")': new; dup; ldc; invokespecial; athrow -/
theorem vx_throwS {cc : ByteArray} {pc : Nat} (hexec : p.tables.exec = Jvm.exec) (hb : c.code = cc) (hl : l.stackTraces = false) {own cls text : String} {names : List String} {ik is ic mc ms sa : Nat} {A : Nat → Prop}
    (hown : s.vm.findClass own = some m.cls) (hcls : Bundle.fit cls = true) (hnames : ∀ n ∈ names, Bundle.fit n = true)
    (hk : (Cond.classLink own ik cls).before args s = true) (hini : (Cond.initialized cls).before args s = true) (hstr : vk_R own is text sa s) (hat : ∀ w ∈ vx_atS own ic cls names, w.before args s = true)
    (hgood : ∀ w ∈ Cond.classLink own ik cls :: Cond.initialized cls :: vx_atS own ic cls names, vx_ot w = true)
    (hU : vx_Zq Bundle.tN "UNASSIGNED_STACK" Bundle.steD A s s.heap) (hN : vx_Zq Bundle.tN "SUPPRESSED_SENTINEL" Bundle.listD A s s.heap) (hS : va_S A s.heap H locs) (hsize : ls.size = c.maxLocals)
    (d0 : decode cc pc = .ok (.new ik, 3)) (d3 : decode cc (pc + 3) = .ok (.dup, 1)) (d4 : decode cc (pc + 4) = .ok (.ldc is, 2)) (d6 : decode cc (pc + 6) = .ok (.invokespecial ic, 3)) (d9 : decode cc (pc + 9) = .ok (.athrow, 1))
    (hout : ∀ x ∈ c.exceptionTable.toList, covers x (pc + 9) = false)
    (hRframes : names.length + 3 < R.frames) (hRlocals : (rest.map fun v => v.category).sum + (13 * (names.length + 1) + 43) ≤ R.locals) (hRcells : cells + 1 ≤ R.cells) (hRslots : slots + 6 ≤ R.slots) (hlocks : meth.locks = false)
    (hx : ∀ t : State, s.vm.Alike t.vm → H.size ≤ t.heap.size → (∀ q : Nat, q < H.size → t.heap[q]? = H[q]?) → XC cls s t)
    (hf : ∀ z ∈ locs, free z.base) (hc : cells + 1 ≤ mc) (hs : slots + 6 ≤ ms) :
    W p l e R s m args below meth c H locs cells slots (vx_MQ below Qc XC args s mc ms free) (F0 m pc ls rest) := by
  intro T hT X
  have htr : e.platform.stackTraces = false := (show e.platform.stackTraces = l.stackTraces by rw [X.admits.platform]).trans hl
  have Y := vx_rebase X (R' := { frames := R.frames, locals := R.locals, cells := 1, slots := 6 }) (Nat.le_refl _) (Nat.le_refl _) hRcells hRslots
  obtain ⟨s', hA⟩ : ∃ z, z = (T.setVm s.vm).setFrames (.invoking m args :: below) := ⟨_, rfl⟩
  rw [← hA] at Y
  have hvm : s'.vm = s.vm := by rw [hA]; rfl
  have hhp : s'.heap = H := by rw [hA]; exact hT
  have hW0 : s.WarmedH s'.vm := by rw [hvm]; exact State.WarmedH.refl s
  have hat' : ∀ w ∈ vx_atS own ic cls names, w.before args s' = true := fun w hw => vx_ot_at hW0 hvm.symm (hgood w (List.mem_cons_of_mem _ (List.mem_cons_of_mem _ hw))) (hat w hw)
  have hk' : (Cond.classLink own ik cls).before args s' = true := vx_ot_at hW0 hvm.symm (hgood _ List.mem_cons_self) hk
  have hini' : (Cond.initialized cls).before args s' = true := vx_ot_at hW0 hvm.symm (hgood _ (List.mem_cons_of_mem _ List.mem_cons_self)) hini
  have hU' : vx_Zq Bundle.tN "UNASSIGNED_STACK" Bundle.steD A s' s'.heap := by rw [hhp]; exact vx_Zq.moved hW0.alike (hU.kept hS.2.1)
  have hN' : vx_Zq Bundle.tN "SUPPRESSED_SENTINEL" Bundle.listD A s' s'.heap := by rw [hhp]; exact vx_Zq.moved hW0.alike (hN.kept hS.2.1)
  have h : ∀ w ∈ Bundle.ownAtoms own ic cls names, w.before args s' = true := vx_own hat' (vx_isRefq hU'.1) (vx_isRefq hN'.1) hU'.2.word hN'.2.word
  have hown' : s'.vm.findClass own = some m.cls := by rw [hvm]; exact hown
  have hins : (Cond.instantiable cls 6).before args s' = true := h _ (by simp [Bundle.ownAtoms])
  obtain ⟨vm₁, cX, kX, hfX, hkX, -, -, X₁, st1⟩ := Y.newCold hexec (own := own) (C := cls) (index := ik) (n := 6) hown' hk' hins hini'
    (g := F0 m pc ls rest) rfl (by rw [hb]; exact d0) (Nat.le_refl _) (Nat.le_refl _)
  generalize hT1 : (T.setVm vm₁).pushCell { cls := cX, slots := kX.instanceTypes.map defaultValue, vm := .none } = T1 at X₁ st1
  have hcat : (Value.ref T.heap.size).category = 1 := rfl
  have hcellA : T1.heap[T.heap.size]? = some (freshCell cX kX) := by rw [← hT1]; exact State.heap_pushCell_size _ _
  have d3' : decode c.code (pc + 3) = .ok (.dup, 1) := by rw [hb]; exact d3
  have d4' : decode c.code (pc + 4) = .ok (.ldc is, 2) := by rw [hb]; exact d4
  have hstr' : vk_R own is text sa s' := vk_R.warm hW0 hstr
  obtain ⟨U, hsteps, hrun, hend, hW, hsame, ce, hce, hO⟩ := X₁.ctorThrowS hexec htr (own := own) (cls := cls) (names := names) (ic := ic) hown' hcls hnames h (fun x hx => nomatch hx) hfX hkX hcellA (by rw [hhp, hT]; exact Nat.le_refl _) (msg := .ref sa) rfl
    (g := { method := m, pc := pc + 6, locals := ls, stack := .ref sa :: .ref T.heap.size :: .ref T.heap.size :: rest, locked := none }) rfl hsize rfl rfl (rest := rest) rfl
    (by rw [hb]; exact d6) (by rw [hb]; exact d9) hout hRframes (by simp only [List.map_cons, List.sum_cons, hcat]; omega) hlocks
  obtain ⟨f1, f2⟩ := vx_frame hsame
  rw [hhp] at f1 f2
  have hWs : s.WarmedH U.vm := State.WarmedH.trans hW0 hW
  have hcl : s.vm.findClass cls = some ce.cls := by
    have h9 := hO.cls
    rw [hvm] at h9
    exact h9
  have hall : s.sameButNew ({ U with vm := s.vm } : State) locs mc ms := by
    subst hA
    obtain ⟨e1, e2⟩ := hsame
    rw [State.setFrames_setFrames] at e1
    have h2 : (T.setVm s.vm).sameButNew ({ U with vm := s.vm } : State) [] (0 + 1) (0 + 6) := ⟨e1, e2⟩
    have h3 := X.same.trans h2
    rw [List.append_nil] at h3
    exact h3.mono hc hs
  refine ⟨U, ?_, .threw T.heap.size, hrun, hend, Or.inr ⟨T.heap.size, rfl, cls, ce, locs, hx U hWs.alike f1 (fun q hq => f2 q hq (fun z hz => nomatch hz)), hce, hO.vm, hcl, hWs, hall, hf⟩⟩
  refine st1 _ ?_
  show Steps p.tables e below (T1.setTop { method := m, pc := pc + 3, locals := ls, stack := .ref T.heap.size :: rest, locked := none }) _
  jvm_step X₁.here [X₁.here.top, hexec, d3', Value.category]
  exact X₁.ldcString hexec (own := own) (text := text) (index := is) (a := sa) hown' hstr'.1 hstr'.2
    (g := { method := m, pc := pc + 4, locals := ls, stack := .ref T.heap.size :: .ref T.heap.size :: rest, locked := none }) rfl d4' _ hsteps
/-- 'throw new E("text")', the text by a wide index -/
theorem vx_throwSW {cc : ByteArray} {pc : Nat} (hexec : p.tables.exec = Jvm.exec) (hb : c.code = cc) (hl : l.stackTraces = false) {own cls text : String} {names : List String} {ik is ic mc ms sa : Nat} {A : Nat → Prop}
    (hown : s.vm.findClass own = some m.cls) (hcls : Bundle.fit cls = true) (hnames : ∀ n ∈ names, Bundle.fit n = true)
    (hk : (Cond.classLink own ik cls).before args s = true) (hini : (Cond.initialized cls).before args s = true) (hstr : vk_R own is text sa s) (hat : ∀ w ∈ vx_atS own ic cls names, w.before args s = true)
    (hgood : ∀ w ∈ Cond.classLink own ik cls :: Cond.initialized cls :: vx_atS own ic cls names, vx_ot w = true)
    (hU : vx_Zq Bundle.tN "UNASSIGNED_STACK" Bundle.steD A s s.heap) (hN : vx_Zq Bundle.tN "SUPPRESSED_SENTINEL" Bundle.listD A s s.heap) (hS : va_S A s.heap H locs) (hsize : ls.size = c.maxLocals)
    (d0 : decode cc pc = .ok (.new ik, 3)) (d3 : decode cc (pc + 3) = .ok (.dup, 1)) (d4 : decode cc (pc + 4) = .ok (.ldc_w is, 3)) (d7 : decode cc (pc + 7) = .ok (.invokespecial ic, 3)) (d10 : decode cc (pc + 10) = .ok (.athrow, 1))
    (hout : ∀ x ∈ c.exceptionTable.toList, covers x (pc + 10) = false)
    (hRframes : names.length + 3 < R.frames) (hRlocals : (rest.map fun v => v.category).sum + (13 * (names.length + 1) + 43) ≤ R.locals) (hRcells : cells + 1 ≤ R.cells) (hRslots : slots + 6 ≤ R.slots) (hlocks : meth.locks = false)
    (hx : ∀ t : State, s.vm.Alike t.vm → H.size ≤ t.heap.size → (∀ q : Nat, q < H.size → t.heap[q]? = H[q]?) → XC cls s t)
    (hf : ∀ z ∈ locs, free z.base) (hc : cells + 1 ≤ mc) (hs : slots + 6 ≤ ms) :
    W p l e R s m args below meth c H locs cells slots (vx_MQ below Qc XC args s mc ms free) (F0 m pc ls rest) := by
  intro T hT X
  have htr : e.platform.stackTraces = false := (show e.platform.stackTraces = l.stackTraces by rw [X.admits.platform]).trans hl
  have Y := vx_rebase X (R' := { frames := R.frames, locals := R.locals, cells := 1, slots := 6 }) (Nat.le_refl _) (Nat.le_refl _) hRcells hRslots
  obtain ⟨s', hA⟩ : ∃ z, z = (T.setVm s.vm).setFrames (.invoking m args :: below) := ⟨_, rfl⟩
  rw [← hA] at Y
  have hvm : s'.vm = s.vm := by rw [hA]; rfl
  have hhp : s'.heap = H := by rw [hA]; exact hT
  have hW0 : s.WarmedH s'.vm := by rw [hvm]; exact State.WarmedH.refl s
  have hat' : ∀ w ∈ vx_atS own ic cls names, w.before args s' = true := fun w hw => vx_ot_at hW0 hvm.symm (hgood w (List.mem_cons_of_mem _ (List.mem_cons_of_mem _ hw))) (hat w hw)
  have hk' : (Cond.classLink own ik cls).before args s' = true := vx_ot_at hW0 hvm.symm (hgood _ List.mem_cons_self) hk
  have hini' : (Cond.initialized cls).before args s' = true := vx_ot_at hW0 hvm.symm (hgood _ (List.mem_cons_of_mem _ List.mem_cons_self)) hini
  have hU' : vx_Zq Bundle.tN "UNASSIGNED_STACK" Bundle.steD A s' s'.heap := by rw [hhp]; exact vx_Zq.moved hW0.alike (hU.kept hS.2.1)
  have hN' : vx_Zq Bundle.tN "SUPPRESSED_SENTINEL" Bundle.listD A s' s'.heap := by rw [hhp]; exact vx_Zq.moved hW0.alike (hN.kept hS.2.1)
  have h : ∀ w ∈ Bundle.ownAtoms own ic cls names, w.before args s' = true := vx_own hat' (vx_isRefq hU'.1) (vx_isRefq hN'.1) hU'.2.word hN'.2.word
  have hown' : s'.vm.findClass own = some m.cls := by rw [hvm]; exact hown
  have hins : (Cond.instantiable cls 6).before args s' = true := h _ (by simp [Bundle.ownAtoms])
  obtain ⟨vm₁, cX, kX, hfX, hkX, -, -, X₁, st1⟩ := Y.newCold hexec (own := own) (C := cls) (index := ik) (n := 6) hown' hk' hins hini'
    (g := F0 m pc ls rest) rfl (by rw [hb]; exact d0) (Nat.le_refl _) (Nat.le_refl _)
  generalize hT1 : (T.setVm vm₁).pushCell { cls := cX, slots := kX.instanceTypes.map defaultValue, vm := .none } = T1 at X₁ st1
  have hcat : (Value.ref T.heap.size).category = 1 := rfl
  have hcellA : T1.heap[T.heap.size]? = some (freshCell cX kX) := by rw [← hT1]; exact State.heap_pushCell_size _ _
  have d3' : decode c.code (pc + 3) = .ok (.dup, 1) := by rw [hb]; exact d3
  have d4' : decode c.code (pc + 4) = .ok (.ldc_w is, 3) := by rw [hb]; exact d4
  have hstr' : vk_R own is text sa s' := vk_R.warm hW0 hstr
  obtain ⟨U, hsteps, hrun, hend, hW, hsame, ce, hce, hO⟩ := X₁.ctorThrowS hexec htr (own := own) (cls := cls) (names := names) (ic := ic) hown' hcls hnames h (fun x hx => nomatch hx) hfX hkX hcellA (by rw [hhp, hT]; exact Nat.le_refl _) (msg := .ref sa) rfl
    (g := { method := m, pc := pc + 7, locals := ls, stack := .ref sa :: .ref T.heap.size :: .ref T.heap.size :: rest, locked := none }) rfl hsize rfl rfl (rest := rest) rfl
    (by rw [hb]; exact d7) (by rw [hb]; exact d10) hout hRframes (by simp only [List.map_cons, List.sum_cons, hcat]; omega) hlocks
  obtain ⟨f1, f2⟩ := vx_frame hsame
  rw [hhp] at f1 f2
  have hWs : s.WarmedH U.vm := State.WarmedH.trans hW0 hW
  have hcl : s.vm.findClass cls = some ce.cls := by
    have h9 := hO.cls
    rw [hvm] at h9
    exact h9
  have hall : s.sameButNew ({ U with vm := s.vm } : State) locs mc ms := by
    subst hA
    obtain ⟨e1, e2⟩ := hsame
    rw [State.setFrames_setFrames] at e1
    have h2 : (T.setVm s.vm).sameButNew ({ U with vm := s.vm } : State) [] (0 + 1) (0 + 6) := ⟨e1, e2⟩
    have h3 := X.same.trans h2
    rw [List.append_nil] at h3
    exact h3.mono hc hs
  refine ⟨U, ?_, .threw T.heap.size, hrun, hend, Or.inr ⟨T.heap.size, rfl, cls, ce, locs, hx U hWs.alike f1 (fun q hq => f2 q hq (fun z hz => nomatch hz)), hce, hO.vm, hcl, hWs, hall, hf⟩⟩
  refine st1 _ ?_
  show Steps p.tables e below (T1.setTop { method := m, pc := pc + 3, locals := ls, stack := .ref T.heap.size :: rest, locked := none }) _
  jvm_step X₁.here [X₁.here.top, hexec, d3', Value.category]
  exact X₁.ldcStringW hexec (own := own) (text := text) (index := is) (a := sa) hown' hstr'.1 hstr'.2
    (g := { method := m, pc := pc + 4, locals := ls, stack := .ref T.heap.size :: .ref T.heap.size :: rest, locked := none }) rfl d4' _ hsteps
end Ends
section Bodies
variable {l : Launch}
theorem vx_ofW {y : MethodName} {ws ws' : List Cond} {rm : Room} {Pc : Array Value → State → Prop} {Qc : Array Value → State → Outcome → State → Prop} {XC : String → State → State → Prop} {mc ms : Nat} {free : Addr → Prop} {cc : ByteArray} {maxL : Nat} {ret : Option FieldType}
    (hy : plainName y.cls = true) (hw : ws = Cond.code y cc maxL ret :: ws')
    (body : ∀ p e s m args below meth c s₁, BodyLoose p l y (headSpec ws rm) cc maxL ret e s m args below meth c s₁ → c.maxLocals = maxL → (∀ x ∈ c.exceptionTable.toList, False) → Pc args s →
      W p l e (headSpec ws rm).room s m args below meth c s.heap [] 0 0 (vx_MQ below Qc XC args s mc ms free) (entryFrame m args maxL)) : vx_Met l y ws rm Pc Qc XC mc ms free := by
  refine MetFree.of_bodyS (code := cc) (maxLocals := maxL) (ret := ret) hy ?_ ?_
  · intro args s m h hn
    obtain ⟨meth, c, h1, h2, h3, h4, h5, h6, -, -⟩ := Cond.code_spec hn (atoms_spec (ws := ws) h _ (by rw [hw]; exact List.mem_cons_self))
    exact ⟨meth, c, h1, h2, h3, h4, h5, h6⟩
  · intro p e s m args below meth c s₁ B hml hP _
    have hh0 : s₁.heap = s.heap := by rw [B.state]; rfl
    have ht : ∀ x ∈ c.exceptionTable.toList, False := by
      obtain ⟨meth9, c9, h1, h2, -, -, -, -, h7, -⟩ := Cond.code_spec B.named (atoms_spec (ws := ws) B.pre _ (by rw [hw]; exact List.mem_cons_self))
      cases Option.some.inj (h1.symm.trans B.method)
      cases Option.some.inj (h2.symm.trans (Stand.of_body B).code)
      intro x hx
      rw [Array.isEmpty_iff.mp h7] at hx
      cases hx
    obtain ⟨t, a1, o, b1, b2, b3⟩ := body p e s m args below meth c s₁ B hml ht hP s₁ hh0 (Stand.of_body B)
    exact ⟨t, o, a1, b1, b2, b3⟩
/-- the table of a body with handlers -/
theorem vx_table {p : Program} {x y : MethodName} {S : Spec} {cc bytes : ByteArray} {maxL maxL' : Nat} {ret ret' : Option FieldType} {e : Env} {s s₁ : State} {m : MethodId} {args : Array Value} {below : List Frame} {meth : Method} {c : Code} {hh : List (Nat × Nat × Nat × Nat)}
    (B : BodyLoose p l y S cc maxL ret e s m args below meth c s₁) (h : (Cond.codeWith y bytes maxL' ret' hh).before args s = true) : c.exceptionTable.toList = tableOf hh := by
  obtain ⟨m9, meth9, c9, hn9, h1, h2, -, -, h6, -⟩ := Cond.codeWith_spec h
  cases Option.some.inj (hn9.symm.trans B.named)
  cases Option.some.inj (h1.symm.trans B.method)
  cases Option.some.inj (h2.symm.trans (Stand.of_body B).code)
  rw [← h6, table_eq]
end Bodies
end VXA
/-! ===== END ===== -/
/-! ===== BEGIN a static call of a method with an exception table ===== -/
section VXS
variable {p : Program} {l : Launch} {e : Env} {R : Room} {s : State} {m : MethodId} {args : Array Value} {below : List Frame} {meth : Method} {c : Code} {T : State} {H : Heap} {locs : List Loc} {cells slots : Nat}
abbrev vx_CSW (R : Room) (s : State) (args : Array Value) (own : String) (index : Nat) (y : MethodName) (bytes : ByteArray) (maxL : Nat) (ret : Option FieldType) (hh : List (Nat × Nat × Nat × Nat)) (ws : List Cond) (rm : Room) (mc ms n : Nat) : Prop :=
  (rm.cells = mc ∧ rm.slots = ms ∧ rm.frames + 1 ≤ R.frames ∧ 8 + (maxL + 11) + rm.locals ≤ R.locals ∧ (∀ w ∈ ws, ∀ (a' : Array Value) (U : State), s.WarmedH U.vm → w.before a' U = true) ∧ Cond.codeWith y bytes maxL ret hh ∈ ws) ∧
  (Cond.codeWith y bytes maxL ret hh).before args s = true ∧ (Cond.initialized y.cls).before args s = true ∧ (y.cls ≠ "java/lang/invoke/MethodHandle" ∧ y.cls ≠ "java/lang/invoke/VarHandle") ∧
  (∀ sig, parseMethodDescriptor y.desc = some sig → n = sig.parameters.length) ∧ (Cond.methodLink own index y).before args s = true ∧ (Cond.static y).before args s = true
theorem vx_cwSW {own : String} {index maxL mc ms : Nat} {y : MethodName} {bytes : ByteArray} {ret : Option FieldType} {hh : List (Nat × Nat × Nat × Nat)} {Ts ws ws' : List Cond} {rm : Room} (n : Nat) (ht : ∀ w ∈ Ts, w.before args s = true) (hT : GoodIn Ts (va_wsS own index y ws)) (hw : ws = Cond.codeWith y bytes maxL ret hh :: ws') (hrc : rm.cells = mc) (hrs : rm.slots = ms)
    (hd : y.cls ≠ "java/lang/invoke/MethodHandle" ∧ y.cls ≠ "java/lang/invoke/VarHandle" ∧ (parseMethodDescriptor y.desc).map (fun d => d.parameters.length) = some n) (hR : rm.frames + 1 ≤ R.frames ∧ 8 + (maxL + 11) + rm.locals ≤ R.locals) :
    vx_CSW R s args own index y bytes maxL ret hh ws rm mc ms n := by
  have ok : ∀ w ∈ va_wsS own index y ws, w.before args s = true := fun w h => ht w (hT w h).1
  have hG : GoodIn Ts ws := fun w h => hT w (by unfold va_wsS; exact List.mem_append_right _ h)
  have hc : Cond.codeWith y bytes maxL ret hh ∈ ws := by rw [hw]; exact List.mem_cons_self
  refine ⟨⟨hrc, hrs, hR.1, hR.2, pay_in ht hG, hc⟩, ht _ (hG _ hc).1, ok _ (by simp [va_wsS]), ⟨hd.1, hd.2.1⟩, fun sig h => ?_, ok _ (by simp [va_wsS]), ok _ (by simp [va_wsS])⟩
  have h2 := hd.2.2
  rw [h] at h2
  exact (Option.some.inj h2).symm
theorem vx_callSW (X : Stand p l e R s m args below meth c T locs cells slots) (hexec : p.tables.exec = Jvm.exec) {own : String} {index : Nat} {y : MethodName} {bytes : ByteArray} {maxL : Nat} {ret : Option FieldType} {hh : List (Nat × Nat × Nat × Nat)}
    (hown : s.vm.findClass own = some m.cls) (hlink : (Cond.methodLink own index y).before args s = true) (hstat : (Cond.static y).before args s = true) (hinit : (Cond.initialized y.cls).before args s = true)
    (hcode : (Cond.codeWith y bytes maxL ret hh).before args s = true) (hy : y.cls ≠ "java/lang/invoke/MethodHandle" ∧ y.cls ≠ "java/lang/invoke/VarHandle")
    {W9 : Nat} {Pre : Pt → Array Value → Prop} {Post : Pt → Array Value → Option Value → Pt → Prop} (hK : Back l R p e below s args y 3 W9 Pre Post)
    {g : JFrame} (hg : g.method = m) (hsize : g.locals.size = c.maxLocals) {argsL rest : List Value} (hlen : ∀ sig, parseMethodDescriptor y.desc = some sig → argsL.length = sig.parameters.length)
    (hstack : g.stack = argsL.reverse ++ rest) (hW : 2 * g.monitorRoom + (rest.map fun v => v.category).sum ≤ W9) (hdg : decode c.code g.pc = .ok (.invokestatic index, 3))
    (hpre : ∀ vm₁, s.WarmedH vm₁ → Pre ⟨T.setVm vm₁, locs, cells, slots⟩ argsL.toArray) :
    ∃ (v : Option Value) (vm₁ : Vm) (B : Pt), s.WarmedH vm₁ ∧ Stand p l e R s m args below meth c B.U B.locs B.cells B.slots ∧ Post ⟨T.setVm vm₁, locs, cells, slots⟩ argsL.toArray v B ∧
      ∀ target, Steps p.tables e below (B.U.setTop { g with pc := g.pc + 3, stack := v.toList ++ rest }) target → Steps p.tables e below (T.setTop g) target := by
  obtain ⟨mk, methM, cM, hnamed, hmethM, -, -, -, -, -, -, hsigM⟩ := Cond.codeWith_spec hcode
  have hstatic : methM.isStatic = true := Cond.static_spec hnamed hmethM hstat
  obtain ⟨kP, hkP, -⟩ := className_of_methodNamed hnamed
  have hinitP : kP.init = .initialized := Cond.initialized_spec (findClass_of_methodNamed hnamed) hkP hinit
  obtain ⟨vm₁, X₁, hstep₁⟩ := X.invokestatic hexec hown hlink hnamed hmethM hstatic hkP hinitP hy (g := g) hg (argsL := argsL) (rest := rest) (hlen _ hsigM) hstack hdg
  obtain ⟨v, B, X', hpost, hsteps⟩ := hK m meth c ⟨T.setVm vm₁, locs, cells, slots⟩ { g with stack := rest } (.invokestatic index) mk argsL.toArray X₁ hg hsize hdg hW (X₁.named hnamed) (hpre vm₁ X₁.warmed)
  exact ⟨v, vm₁, B, X₁.warmed, X', hpost, fun target h => hstep₁ _ fun acts => by rw [doInvoke_state]; exact hsteps.trans h⟩
theorem vx_runSW {y : MethodName} {bytes cc : ByteArray} {maxL nL mc ms n index : Nat} {ret : Option FieldType} {hh : List (Nat × Nat × Nat × Nat)} {ws : List Cond} {rm : Room} {Pc : Array Value → State → Prop} {Qc : Array Value → State → Outcome → State → Prop} {free : Addr → Prop} {Ts : List Cond} {own : String} {As rest : List Value} {g : JFrame}
    (S : CallFix p m c cc nL s args Ts own) (hM : Met l y ws rm Pc Qc mc ms free) (cw : vx_CSW R s args own index y bytes maxL ret hh ws rm mc ms n) (hp : PreS s H Pc As)
    (hg : g.method = m) (hn : As.length = n) (hsize : g.locals.size = nL) (hstack : g.stack = As.reverse ++ rest) (hW : 2 * g.monitorRoom + (rest.map fun v => v.category).sum ≤ 8) (hdg : decode cc g.pc = .ok (.invokestatic index, 3)) (hf : cells + mc ≤ R.cells ∧ slots + ms ≤ R.slots) :
    va_Run p l e R s m args below meth c H locs cells slots mc ms g rest (Qc As.toArray) (free) := by
  obtain ⟨⟨hrc, hrs, hfr, hlo, hws, hcw⟩, hcode, hini, hy, hlen, hl, hstt⟩ := cw
  have hK : Back l R p e below s args y 3 8 (PreOf R mc ms Pc) (PostOf Qc mc ms free) := va_backW (hh := hh) (bytes := bytes) (maxL := maxL) (ret := ret) hM hp.1 hrc hrs hfr hlo hws hcw (fun a' U hW => word_at hW (Or.inl (by first | rfl | simp [Cond.onTables, Cond.keeps, Cond.steady])) hini)
  obtain ⟨hx, hb, hml, ho, -⟩ := S
  intro T hT X
  obtain ⟨v, vm₁, ⟨U', l2, c2, s2⟩, hW₁, X', ⟨g', mk, t, L, e1, e2, hq, h1, hL, h2, h3⟩, st⟩ := vx_callSW X hx (hh := hh) (bytes := bytes) (maxL := maxL) (ret := ret) ho hl hstt hini hcode hy hK hg (hsize.trans hml.symm) (argsL := As) (rest := rest) (fun sig h => hn.trans (hlen sig h)) hstack hW (by rw [hb]; exact hdg)
    (fun vm₁ hW₁ => ⟨hf.1, hf.2, hp.2 (T.setVm vm₁) hT hW₁⟩)
  dsimp only [Pt.U, Pt.locs, Pt.cells, Pt.slots] at X' e1 e2 h1 h2 h3 st
  subst h1; subst h2; subst h3
  exact ⟨v, (T.setVm vm₁).calling g' mk As.toArray, t, U', L, hT, X', hL, e1, e2, hq, st⟩
/-- not caught here, past rows that name other classes: it goes on to the caller -/
theorem vx_outP {p : Program} {l : Launch} {e : Env} {R : Room} {s : State} {m : MethodId} {args : Array Value} {below : List Frame} {meth : Method} {c : Code} {H : Heap} {locs : List Loc} {cells slots : Nat} {free : Addr → Prop} {ls : Array Slot} {rest : List Value} {Qc : Array Value → State → Outcome → State → Prop} {XC : String → State → State → Prop}
    {pc : Nat} {own E : String} {ce : Cell} {q : Addr} {mc ms : Nat} (hown : s.vm.findClass own = some m.cls) (hlocks : meth.locks = false)
    (hpass : ∀ z ∈ c.exceptionTable.toList, covers z pc = false ∨ (z.catchType ≠ 0 ∧ ∃ nm : String, (Cond.classLink own z.catchType nm).before args s = true ∧ va_Nc E nm s)) (hcell : H[q]? = some ce) (hv : ce.vm = .none) (hcl : s.vm.findClass E = some ce.cls)
    (hx : ∀ t : State, t.heap = H → s.vm.Alike t.vm → XC E s t) (hf : ∀ z ∈ locs, free z.base) (hc : cells ≤ mc) (hs : slots ≤ ms) :
    vx_W p l e R s m args below meth c H locs cells slots (vx_MQ below Qc XC args s mc ms free) (F0 m pc ls rest) q := by
  intro T hT X
  have hpl : e.platform.magicAccessors = ({} : Platform).magicAccessors := by rw [X.admits.platform]
  obtain ⟨vm', hW', X', st⟩ := X.outThrough hlocks q (g := F0 m pc ls rest) rfl rfl rfl (cell := ce) (by rw [hT]; exact hcell) (by rw [hv]; rfl)
    (by obtain ⟨k9, h9, -⟩ := Vm.findClass_spec hcl; exact ⟨k9, h9⟩) (fun z hz => by
      rcases hpass z hz with h | ⟨hz0, nm, hl1, hn1⟩
      · exact Or.inl h
      · obtain ⟨c6, hc6, hcl6⟩ := Cond.classLink_spec hown hl1 e.platform hpl
        obtain ⟨a8, b8, h1, h2, h3⟩ := hn1
        cases Option.some.inj (h1.symm.trans hcl)
        cases Option.some.inj (h2.symm.trans hc6)
        exact Or.inr ⟨hz0, _, hcl6, h3⟩)
  obtain ⟨g₀, hfr⟩ := X'.frames_eq
  have hcell9 : ((T.setVm vm').setFrames (.throwing q :: below)).heap[q]? = some ce := by
    show T.heap[q]? = some ce
    rw [hT]; exact hcell
  have hend : Ended ((T.setVm vm').setFrames (.throwing q :: below)) below (.threw q) := State.frames_setFrames _ (State.cur_lt_of_frames hfr)
  refine ⟨(T.setVm vm').setFrames (.throwing q :: below), ?_, .threw q, X'.here.running, hend, Or.inr ⟨q, rfl, E, ce, locs, hx _ hT (X'.ends _).1.alike, hcell9, hv, hcl, (X'.ends _).1, (X'.ends _).2.mono hc hs, hf⟩⟩
  rw [X.pushThrowing_eq]
  exact st
/-- a thing of a world lies in the heap -/
theorem vx_lt {D : va_G} {cl : List vw_C} {ws : va_W} {H1 : Heap} (h : va_P D cl ws H1) {k : Nat} {q : Nat × va_E} (hk : ws[k]? = some q) : q.1 < H1.size := (h k q hk).lt
end VXS
/-! ===== END ===== -/
/-! ===== BEGIN methods with a table of their own: called by a name, returning or throwing ===== -/
section VXH
/-! vx_backW, vx_callVX, vx_callSX, vx_callVW, vx_runVW, vx_runVX, vx_runSX, vx_ofWH follow the same proofs as their sisters above (Free/Laws.lean, Shelf42/LK1.lean); vx_outP calls Shelf42/NT130.lean (outThrough). -/
section
variable {l : Launch} {R : Room} {p : Program} {e : Env} {below : List Frame} {s : State} {sargs : Array Value} {y : MethodName} {len W9 : Nat}
theorem vx_backW {ws : List Cond} {rm : Room} {Pc : Array Value → State → Prop} {Qc : Array Value → State → Outcome → State → Prop} {XC : String → State → State → Prop} {mc ms : Nat} {free : Addr → Prop} {bytes : ByteArray} {maxL : Nat} {ret : Option FieldType} {hh : List (Nat × Nat × Nat × Nat)}
    (hM : vx_Met l y ws rm Pc Qc XC mc ms free) (hblind : FrameBlind Pc) (hrc : rm.cells = mc) (hrs : rm.slots = ms)
    (hframes : rm.frames + 1 ≤ R.frames) (hlocals : W9 + (maxL + 11) + rm.locals ≤ R.locals)
    (hws : ∀ w ∈ ws, ∀ a' U, s.WarmedH U.vm → w.before a' U = true) (hcode : Cond.codeWith y bytes maxL ret hh ∈ ws) (hinit : ∀ a' U, s.WarmedH U.vm → (Cond.initialized y.cls).before a' U = true) :
    vx_Back l R p e below s sargs y len W9 (PreOf R mc ms Pc) (PostOf Qc mc ms free) (vx_Post XC mc ms free) := by
  intro m meth c A g ig mk a X hg hsize hdg hW hn hp
  have h1 : (headSpec ws rm).pre.before a A.U = true := atoms_intro fun w hw => hws w hw _ _ X.warmed
  have h2 : (Cond.codeWith y bytes maxL ret hh).before a A.U = true := hws _ hcode _ _ X.warmed
  have h3 : (Cond.initialized y.cls).before a A.U = true := hinit _ _ X.warmed
  have h4 : A.cells + (headSpec ws rm).room.cells ≤ R.cells := by rw [show (headSpec ws rm).room.cells = mc from hrc]; exact hp.1
  have h5 : A.slots + (headSpec ws rm).room.slots ≤ R.slots := by rw [show (headSpec ws rm).room.slots = ms from hrs]; exact hp.2.1
  have hPc : Pc a (A.U.calling g mk a) := hblind _ _ _ _ hp.2.2
  obtain ⟨U, Ls, c0, s0⟩ := A
  dsimp only [Pt.U, Pt.locs, Pt.cells, Pt.slots] at h1 h2 h3 h4 h5 X hn hPc ⊢
  obtain ⟨m9, methY, cY, hn9, hmY, hcY, -, hlY, -⟩ := Cond.codeWith_spec h2
  cases Option.some.inj (hn9.symm.trans hn)
  obtain ⟨kY, hkY, -⟩ := className_of_methodNamed hn
  have hinitY : kY.init = .initialized := Cond.initialized_spec (findClass_of_methodNamed hn) hkY h3
  have h : At U g.method c below := by rw [hg]; exact X.here
  have hlocals9 : W9 + (maxL + 11) + (headSpec ws rm).room.locals ≤ R.locals := hlocals
  have happ : (headSpec ws rm).appliesLoose y e.platform (U.calling g mk a) = true :=
    Spec.appliesLoose_calling (g := g) h hdg hn hkY hinitY
      (X.room_calling (g := g) (R' := (headSpec ws rm).room) hsize hmY hcY hframes (by rw [hlY]; omega) h4 h5) h1
  obtain ⟨mid, hmid⟩ := h.above
  have hfr : (U.setTop g).frames = (.java g :: mid) ++ below := by rw [State.frames_setTop' g h.top, hmid]; rfl
  obtain ⟨o, s₂, hsteps, -, hend, hq⟩ := Steps.callFree hM p X.admits X.cas X.clock (acts := []) hfr happ hPc trivial
  have hq' : vx_Q Qc XC mc ms free a (U.calling g mk a) o s₂ := hq
  rw [State.frames_setTop' g h.top] at hend
  obtain ⟨g₀, hg0⟩ := Option.isSome_iff_exists.mp h.top
  obtain ⟨r, hr⟩ := State.topJava?_eq_some.mp hg0
  have hr' : (({ U with heap := s₂.heap, slotsUsed := s₂.slotsUsed } : State).setVm s₂.vm).frames = .java g₀ :: r := hr
  rcases hq' with ⟨hqc, L, hfe, hL⟩ | ⟨q, rfl, E, ce, L, hx, hce, hcv, hcl, hW₂, hsm, hL⟩
  · obtain ⟨⟨v, rfl⟩, hW₂, e2, q2, q3, q4, q5, q6⟩ := id hfe
    have e3 : s₂ = ({ (U.calling g mk a).setFrames s₂.frames with heap := s₂.heap, slotsUsed := s₂.slotsUsed } : State).setVm s₂.vm := by
      have : s₂ = ({ s₂ with vm := (U.calling g mk a).vm } : State).setVm s₂.vm := rfl
      rw [e2] at this
      exact this
    obtain ⟨c₂, i₂, len₂, hc₂, hd₂, hf₂⟩ := hend
    have hW' : U.WarmedH s₂.vm := hW₂
    have hcc : c₂ = c := by
      have h1 : s₂.code? g.method = U.code? g.method := by
        rw [State.code?_eq, State.code?_eq, hW'.alike.method?]
      exact Option.some.inj (hc₂.symm.trans (h1.trans h.code))
    subst hcc
    have hlen : len₂ = len := by rw [hdg] at hd₂; cases hd₂; rfl
    subst hlen
    have hs₂ : s₂ = (({ U with heap := s₂.heap, slotsUsed := s₂.slotsUsed } : State).setVm s₂.vm).setTop { g with pc := g.pc + len₂, stack := v.toList ++ g.stack } := by
      refine e3.trans ?_
      rw [hf₂, State.calling_eq h.top, State.setFrames_setFrames, State.setTop_of_frames _ hr', hr]
      rfl
    have hsame : U.sameButNew ({ U with heap := s₂.heap, slotsUsed := s₂.slotsUsed } : State) L mc ms := by
      refine ⟨?_, q2, q3, q4, q5, q6⟩
      obtain ⟨t, ht, -⟩ := State.frames_cons hr
      show ({ U with heap := s₂.heap, slotsUsed := s₂.slotsUsed } : State) = { U.setFrames U.frames with heap := s₂.heap, slotsUsed := s₂.slotsUsed }
      rw [State.setFrames_self ht]
    subst hg
    refine Or.inl ⟨v, ⟨(({ U with heap := s₂.heap, slotsUsed := s₂.slotsUsed } : State).setVm s₂.vm), Ls ++ L, c0 + mc, s0 + ms⟩,
      ⟨X.admits, X.cas, X.clock, X.frames, X.room, X.hears, X.method, X.code, (X.here.setHeapUsed s₂.heap s₂.slotsUsed).setVm hW'.alike, X.tail, State.WarmedH.trans X.warmed hW', X.limits, X.bytes, X.same.trans (hsame.setVm s.vm)⟩,
      ⟨g, mk, s₂, L, rfl, rfl, hqc, rfl, hL, rfl, rfl⟩, ?_⟩
    show Steps p.tables e below _ ((({ U with heap := s₂.heap, slotsUsed := s₂.slotsUsed } : State).setVm s₂.vm).setTop { g with pc := g.pc + len₂, stack := v.toList ++ g.stack })
    rw [← hs₂]
    exact hsteps
  · obtain ⟨e2, q2, q3, q4, q5, q6⟩ := id hsm
    have e3 : s₂ = ({ (U.calling g mk a).setFrames s₂.frames with heap := s₂.heap, slotsUsed := s₂.slotsUsed } : State).setVm s₂.vm := by
      have : s₂ = ({ s₂ with vm := (U.calling g mk a).vm } : State).setVm s₂.vm := rfl
      rw [e2] at this
      exact this
    have hf₂ : s₂.frames = .throwing q :: .java g :: U.frames.tail := hend
    have hW' : U.WarmedH s₂.vm := hW₂
    have hs₂ : s₂ = ((({ U with heap := s₂.heap, slotsUsed := s₂.slotsUsed } : State).setVm s₂.vm).setTop g).pushFrame (.throwing q) := by
      refine e3.trans ?_
      rw [hf₂, State.calling_eq h.top, State.setFrames_setFrames, State.pushFrame, State.frames_setTop _ hr', State.setTop_of_frames _ hr', State.setFrames_setFrames, hr]
      rfl
    have hsame : U.sameButNew ({ U with heap := s₂.heap, slotsUsed := s₂.slotsUsed } : State) L mc ms := by
      refine ⟨?_, q2, q3, q4, q5, q6⟩
      obtain ⟨t, ht, -⟩ := State.frames_cons hr
      show ({ U with heap := s₂.heap, slotsUsed := s₂.slotsUsed } : State) = { U.setFrames U.frames with heap := s₂.heap, slotsUsed := s₂.slotsUsed }
      rw [State.setFrames_self ht]
    subst hg
    refine Or.inr ⟨q, ⟨(({ U with heap := s₂.heap, slotsUsed := s₂.slotsUsed } : State).setVm s₂.vm), Ls ++ L, c0 + mc, s0 + ms⟩,
      ⟨X.admits, X.cas, X.clock, X.frames, X.room, X.hears, X.method, X.code, (X.here.setHeapUsed s₂.heap s₂.slotsUsed).setVm hW'.alike, X.tail, State.WarmedH.trans X.warmed hW', X.limits, X.bytes, X.same.trans (hsame.setVm s.vm)⟩,
      ⟨g, mk, s₂, L, E, ce, rfl, rfl, hx, hce, hcv, hcl, rfl, hL, rfl, rfl⟩, ?_⟩
    show Steps p.tables e below _ (((({ U with heap := s₂.heap, slotsUsed := s₂.slotsUsed } : State).setVm s₂.vm).setTop g).pushFrame (.throwing q))
    rw [← hs₂]
    exact hsteps
end
variable {p : Program} {l : Launch} {e : Env} {R : Room} {s : State} {m : MethodId} {args : Array Value} {below : List Frame} {meth : Method} {c : Code} {T : State} {H : Heap} {locs : List Loc} {cells slots : Nat}
theorem vx_callVX (X : Stand p l e R s m args below meth c T locs cells slots) (hexec : p.tables.exec = Jvm.exec) {own C : String} {index : Nat} {y : MethodName} {bytes : ByteArray} {maxL : Nat} {ret : Option FieldType} {hh : List (Nat × Nat × Nat × Nat)}
    (hown : s.vm.findClass own = some m.cls) (hlink : (Cond.methodLink own index y).before args s = true) (hinst : (Cond.instanceMethod y).before args s = true) (hsel : (Cond.selects C y y).before args s = true)
    (hcode : (Cond.codeWith y bytes maxL ret hh).before args s = true) (hy : y.cls ≠ "java/lang/invoke/MethodHandle" ∧ y.cls ≠ "java/lang/invoke/VarHandle")
    {W9 : Nat} {Pre : Pt → Array Value → Prop} {Post : Pt → Array Value → Option Value → Pt → Prop} {PostX : Pt → Array Value → Addr → Pt → Prop} (hK : vx_Back l R p e below s args y 3 W9 Pre Post PostX)
    {b : Addr} {cellB : Cell} (hcell : T.heap[b]? = some cellB) (hobj : cellB.vm.isStatics = false) (hcls : s.vm.findClass C = some cellB.cls)
    {g : JFrame} (hg : g.method = m) (hsize : g.locals.size = c.maxLocals) {argsL rest : List Value} (hlen : ∀ sig, parseMethodDescriptor y.desc = some sig → argsL.length = sig.parameters.length)
    (hstack : g.stack = argsL.reverse ++ .ref b :: rest) (hW : 2 * g.monitorRoom + (rest.map fun v => v.category).sum ≤ W9) (hdg : decode c.code g.pc = .ok (.invokevirtual index, 3))
    (hpre : ∀ vm₁, s.WarmedH vm₁ → Pre ⟨T.setVm vm₁, locs, cells, slots⟩ (Value.ref b :: argsL).toArray) :
    (∃ (v : Option Value) (vm₁ : Vm) (B : Pt), s.WarmedH vm₁ ∧ Stand p l e R s m args below meth c B.U B.locs B.cells B.slots ∧ Post ⟨T.setVm vm₁, locs, cells, slots⟩ (Value.ref b :: argsL).toArray v B ∧
      ∀ target, Steps p.tables e below (B.U.setTop { g with pc := g.pc + 3, stack := v.toList ++ rest }) target → Steps p.tables e below (T.setTop g) target) ∨
    (∃ (q : Addr) (vm₁ : Vm) (B : Pt), s.WarmedH vm₁ ∧ Stand p l e R s m args below meth c B.U B.locs B.cells B.slots ∧ PostX ⟨T.setVm vm₁, locs, cells, slots⟩ (Value.ref b :: argsL).toArray q B ∧
      Steps p.tables e below (T.setTop g) ((B.U.setTop { g with stack := rest }).pushFrame (.throwing q))) := by
  obtain ⟨mk, methM, hnamed, hmethM, hstM, habM⟩ := Cond.instanceMethod_spec hinst
  obtain ⟨m8, methM', cM, hn8, hmethM', -, -, -, -, -, -, hsigM⟩ := Cond.codeWith_spec hcode
  cases Option.some.inj (hn8.symm.trans hnamed)
  cases hmethM.symm.trans hmethM'
  obtain ⟨c2, r2, m2, q1, q2, q3, q4, kP, hkP, hkPi⟩ := Cond.selects_spec hsel
  cases hcls.symm.trans q1
  cases (State.methodFound?_of_named hnamed hy).symm.trans q2
  cases hnamed.symm.trans q3
  have hselP : selectMethod e.platform s.vm cellB.cls mk = .method mk := by rw [Launch.admits_selectMethod X.admits]; exact q4
  obtain ⟨vm₁, X₁, hstep₁⟩ := X.invokevirtual hexec hown hlink hnamed hmethM hstM hkP hkPi hy (a := b) (cell := cellB) hcell
    (fun z h => by rw [h] at hobj; cases hobj) hselP hmethM habM hkP hkPi (g := g) hg (argsL := argsL) (rest := rest) (hlen _ hsigM) hstack hdg
  rcases hK m meth c ⟨T.setVm vm₁, locs, cells, slots⟩ { g with stack := rest } (.invokevirtual index) mk (Value.ref b :: argsL).toArray X₁ hg hsize hdg hW (X₁.named hnamed) (hpre vm₁ X₁.warmed) with ⟨v, B, X', hpost, hsteps⟩ | ⟨q, B, X', hpost, hsteps⟩
  · exact Or.inl ⟨v, vm₁, B, X₁.warmed, X', hpost, fun target h => hstep₁ _ fun acts => by rw [doInvoke_state]; exact hsteps.trans h⟩
  · exact Or.inr ⟨q, vm₁, B, X₁.warmed, X', hpost, hstep₁ _ fun acts => by rw [doInvoke_state]; exact hsteps⟩
theorem vx_callSX (X : Stand p l e R s m args below meth c T locs cells slots) (hexec : p.tables.exec = Jvm.exec) {own : String} {index : Nat} {y : MethodName} {bytes : ByteArray} {maxL : Nat} {ret : Option FieldType} {hh : List (Nat × Nat × Nat × Nat)}
    (hown : s.vm.findClass own = some m.cls) (hlink : (Cond.methodLink own index y).before args s = true) (hstat : (Cond.static y).before args s = true) (hinit : (Cond.initialized y.cls).before args s = true)
    (hcode : (Cond.codeWith y bytes maxL ret hh).before args s = true) (hy : y.cls ≠ "java/lang/invoke/MethodHandle" ∧ y.cls ≠ "java/lang/invoke/VarHandle")
    {W9 : Nat} {Pre : Pt → Array Value → Prop} {Post : Pt → Array Value → Option Value → Pt → Prop} {PostX : Pt → Array Value → Addr → Pt → Prop} (hK : vx_Back l R p e below s args y 3 W9 Pre Post PostX)
    {g : JFrame} (hg : g.method = m) (hsize : g.locals.size = c.maxLocals) {argsL rest : List Value} (hlen : ∀ sig, parseMethodDescriptor y.desc = some sig → argsL.length = sig.parameters.length)
    (hstack : g.stack = argsL.reverse ++ rest) (hW : 2 * g.monitorRoom + (rest.map fun v => v.category).sum ≤ W9) (hdg : decode c.code g.pc = .ok (.invokestatic index, 3))
    (hpre : ∀ vm₁, s.WarmedH vm₁ → Pre ⟨T.setVm vm₁, locs, cells, slots⟩ argsL.toArray) :
    (∃ (v : Option Value) (vm₁ : Vm) (B : Pt), s.WarmedH vm₁ ∧ Stand p l e R s m args below meth c B.U B.locs B.cells B.slots ∧ Post ⟨T.setVm vm₁, locs, cells, slots⟩ argsL.toArray v B ∧
      ∀ target, Steps p.tables e below (B.U.setTop { g with pc := g.pc + 3, stack := v.toList ++ rest }) target → Steps p.tables e below (T.setTop g) target) ∨
    (∃ (q : Addr) (vm₁ : Vm) (B : Pt), s.WarmedH vm₁ ∧ Stand p l e R s m args below meth c B.U B.locs B.cells B.slots ∧ PostX ⟨T.setVm vm₁, locs, cells, slots⟩ argsL.toArray q B ∧
      Steps p.tables e below (T.setTop g) ((B.U.setTop { g with stack := rest }).pushFrame (.throwing q))) := by
  obtain ⟨mk, methM, cM, hnamed, hmethM, -, -, -, -, -, -, hsigM⟩ := Cond.codeWith_spec hcode
  have hstatic : methM.isStatic = true := Cond.static_spec hnamed hmethM hstat
  obtain ⟨kP, hkP, -⟩ := className_of_methodNamed hnamed
  have hinitP : kP.init = .initialized := Cond.initialized_spec (findClass_of_methodNamed hnamed) hkP hinit
  obtain ⟨vm₁, X₁, hstep₁⟩ := X.invokestatic hexec hown hlink hnamed hmethM hstatic hkP hinitP hy (g := g) hg (argsL := argsL) (rest := rest) (hlen _ hsigM) hstack hdg
  rcases hK m meth c ⟨T.setVm vm₁, locs, cells, slots⟩ { g with stack := rest } (.invokestatic index) mk argsL.toArray X₁ hg hsize hdg hW (X₁.named hnamed) (hpre vm₁ X₁.warmed) with ⟨v, B, X', hpost, hsteps⟩ | ⟨q, B, X', hpost, hsteps⟩
  · exact Or.inl ⟨v, vm₁, B, X₁.warmed, X', hpost, fun target h => hstep₁ _ fun acts => by rw [doInvoke_state]; exact hsteps.trans h⟩
  · exact Or.inr ⟨q, vm₁, B, X₁.warmed, X', hpost, hstep₁ _ fun acts => by rw [doInvoke_state]; exact hsteps⟩
theorem vx_callVW (X : Stand p l e R s m args below meth c T locs cells slots) (hexec : p.tables.exec = Jvm.exec) {own C : String} {index : Nat} {y : MethodName} {bytes : ByteArray} {maxL : Nat} {ret : Option FieldType} {hh : List (Nat × Nat × Nat × Nat)}
    (hown : s.vm.findClass own = some m.cls) (hlink : (Cond.methodLink own index y).before args s = true) (hinst : (Cond.instanceMethod y).before args s = true) (hsel : (Cond.selects C y y).before args s = true)
    (hcode : (Cond.codeWith y bytes maxL ret hh).before args s = true) (hy : y.cls ≠ "java/lang/invoke/MethodHandle" ∧ y.cls ≠ "java/lang/invoke/VarHandle")
    {W9 : Nat} {Pre : Pt → Array Value → Prop} {Post : Pt → Array Value → Option Value → Pt → Prop} (hK : Back l R p e below s args y 3 W9 Pre Post)
    {b : Addr} {cellB : Cell} (hcell : T.heap[b]? = some cellB) (hobj : cellB.vm.isStatics = false) (hcls : s.vm.findClass C = some cellB.cls)
    {g : JFrame} (hg : g.method = m) (hsize : g.locals.size = c.maxLocals) {argsL rest : List Value} (hlen : ∀ sig, parseMethodDescriptor y.desc = some sig → argsL.length = sig.parameters.length)
    (hstack : g.stack = argsL.reverse ++ .ref b :: rest) (hW : 2 * g.monitorRoom + (rest.map fun v => v.category).sum ≤ W9) (hdg : decode c.code g.pc = .ok (.invokevirtual index, 3))
    (hpre : ∀ vm₁, s.WarmedH vm₁ → Pre ⟨T.setVm vm₁, locs, cells, slots⟩ (Value.ref b :: argsL).toArray) :
    ∃ (v : Option Value) (vm₁ : Vm) (B : Pt), s.WarmedH vm₁ ∧ Stand p l e R s m args below meth c B.U B.locs B.cells B.slots ∧ Post ⟨T.setVm vm₁, locs, cells, slots⟩ (Value.ref b :: argsL).toArray v B ∧
      ∀ target, Steps p.tables e below (B.U.setTop { g with pc := g.pc + 3, stack := v.toList ++ rest }) target → Steps p.tables e below (T.setTop g) target := by
  obtain ⟨mk, methM, hnamed, hmethM, hstM, habM⟩ := Cond.instanceMethod_spec hinst
  obtain ⟨m8, methM', cM, hn8, hmethM', -, -, -, -, -, -, hsigM⟩ := Cond.codeWith_spec hcode
  cases Option.some.inj (hn8.symm.trans hnamed)
  cases hmethM.symm.trans hmethM'
  obtain ⟨c2, r2, m2, q1, q2, q3, q4, kP, hkP, hkPi⟩ := Cond.selects_spec hsel
  cases hcls.symm.trans q1
  cases (State.methodFound?_of_named hnamed hy).symm.trans q2
  cases hnamed.symm.trans q3
  have hselP : selectMethod e.platform s.vm cellB.cls mk = .method mk := by rw [Launch.admits_selectMethod X.admits]; exact q4
  obtain ⟨vm₁, X₁, hstep₁⟩ := X.invokevirtual hexec hown hlink hnamed hmethM hstM hkP hkPi hy (a := b) (cell := cellB) hcell
    (fun z h => by rw [h] at hobj; cases hobj) hselP hmethM habM hkP hkPi (g := g) hg (argsL := argsL) (rest := rest) (hlen _ hsigM) hstack hdg
  obtain ⟨v, B, X', hpost, hsteps⟩ := hK m meth c ⟨T.setVm vm₁, locs, cells, slots⟩ { g with stack := rest } (.invokevirtual index) mk (Value.ref b :: argsL).toArray X₁ hg hsize hdg hW (X₁.named hnamed) (hpre vm₁ X₁.warmed)
  exact ⟨v, vm₁, B, X₁.warmed, X', hpost, fun target h => hstep₁ _ fun acts => by rw [doInvoke_state]; exact hsteps.trans h⟩
abbrev vx_CVW (R : Room) (s : State) (args : Array Value) (own C : String) (index : Nat) (y : MethodName) (bytes : ByteArray) (maxL : Nat) (ret : Option FieldType) (hh : List (Nat × Nat × Nat × Nat)) (ws : List Cond) (rm : Room) (mc ms n : Nat) : Prop :=
  (rm.cells = mc ∧ rm.slots = ms ∧ rm.frames + 1 ≤ R.frames ∧ 8 + (maxL + 11) + rm.locals ≤ R.locals ∧ (∀ w ∈ ws, ∀ (a' : Array Value) (U : State), s.WarmedH U.vm → w.before a' U = true) ∧ Cond.codeWith y bytes maxL ret hh ∈ ws) ∧
  (Cond.codeWith y bytes maxL ret hh).before args s = true ∧ (Cond.initialized y.cls).before args s = true ∧ (y.cls ≠ "java/lang/invoke/MethodHandle" ∧ y.cls ≠ "java/lang/invoke/VarHandle") ∧
  (∀ sig, parseMethodDescriptor y.desc = some sig → n = sig.parameters.length) ∧ (Cond.methodLink own index y).before args s = true ∧ (Cond.instanceMethod y).before args s = true ∧ (Cond.selects C y y).before args s = true
theorem vx_cwVW {own C : String} {index maxL mc ms : Nat} {y : MethodName} {bytes : ByteArray} {ret : Option FieldType} {hh : List (Nat × Nat × Nat × Nat)} {Ts ws ws' : List Cond} {rm : Room} (n : Nat) (ht : ∀ w ∈ Ts, w.before args s = true) (hT : GoodIn Ts (wsV own index C y ws)) (hw : ws = Cond.codeWith y bytes maxL ret hh :: ws') (hrc : rm.cells = mc) (hrs : rm.slots = ms)
    (hd : y.cls = C ∧ y.cls ≠ "java/lang/invoke/MethodHandle" ∧ y.cls ≠ "java/lang/invoke/VarHandle" ∧ (parseMethodDescriptor y.desc).map (fun d => d.parameters.length) = some n) (hR : rm.frames + 1 ≤ R.frames ∧ 8 + (maxL + 11) + rm.locals ≤ R.locals) :
    vx_CVW R s args own C index y bytes maxL ret hh ws rm mc ms n := by
  obtain ⟨hC, hd⟩ := hd
  subst hC
  have ok : ∀ w ∈ wsV own index y.cls y ws, w.before args s = true := fun w h => ht w (hT w h).1
  have hG : GoodIn Ts ws := fun w h => hT w (by unfold wsV; exact List.mem_append_right _ h)
  have hc : Cond.codeWith y bytes maxL ret hh ∈ ws := by rw [hw]; exact List.mem_cons_self
  refine ⟨⟨hrc, hrs, hR.1, hR.2, pay_in ht hG, hc⟩, ht _ (hG _ hc).1, ok _ (by simp [wsV]), ⟨hd.1, hd.2.1⟩, fun sig h => ?_, ok _ (by simp [wsV]), ok _ (by simp [wsV]), ok _ (by simp [wsV])⟩
  have h2 := hd.2.2
  rw [h] at h2
  exact (Option.some.inj h2).symm
theorem vx_runVW {y : MethodName} {bytes cc : ByteArray} {maxL nL mc ms n index : Nat} {ret : Option FieldType} {hh : List (Nat × Nat × Nat × Nat)} {ws : List Cond} {rm : Room} {Pc : Array Value → State → Prop} {Qc : Array Value → State → Outcome → State → Prop} {free : Addr → Prop} {Ts : List Cond} {own C : String} {b : Addr} {As rest : List Value} {g : JFrame}
    (S : CallFix p m c cc nL s args Ts own) (hM : Met l y ws rm Pc Qc mc ms free) (cw : vx_CVW R s args own C index y bytes maxL ret hh ws rm mc ms n) (hp : PreV s H C b Pc As)
    (hg : g.method = m) (hn : As.length = n) (hsize : g.locals.size = nL) (hstack : g.stack = As.reverse ++ .ref b :: rest) (hW : 2 * g.monitorRoom + (rest.map fun v => v.category).sum ≤ 8) (hdg : decode cc g.pc = .ok (.invokevirtual index, 3)) (hf : cells + mc ≤ R.cells ∧ slots + ms ≤ R.slots) :
    va_Run p l e R s m args below meth c H locs cells slots mc ms g rest (Qc (Value.ref b :: As).toArray) free := by
  obtain ⟨⟨hrc, hrs, hfr, hlo, hws, hcw⟩, hcode, hini, hy, hlen, hl, hin, hse⟩ := cw
  have hK : Back l R p e below s args y 3 8 (PreOf R mc ms Pc) (PostOf Qc mc ms free) := va_backW (hh := hh) (bytes := bytes) (maxL := maxL) (ret := ret) hM hp.1 hrc hrs hfr hlo hws hcw (fun a' U hW => word_at hW (Or.inl (by first | rfl | simp [Cond.onTables, Cond.keeps, Cond.steady])) hini)
  obtain ⟨hx, hb, hml, ho, -⟩ := S
  obtain ⟨-, ⟨cellB, hcB, hoB, hclB⟩, hPc⟩ := hp
  intro T hT X
  obtain ⟨v, vm₁, ⟨U', l2, c2, s2⟩, hW₁, X', ⟨g', mk, t, L, e1, e2, hq, h1, hL, h2, h3⟩, st⟩ := vx_callVW X hx (C := C) (hh := hh) (bytes := bytes) (maxL := maxL) (ret := ret) ho hl hin hse hcode hy hK (by rw [hT]; exact hcB) hoB hclB hg (hsize.trans hml.symm) (argsL := As) (rest := rest) (fun sig h => hn.trans (hlen sig h)) hstack hW (by rw [hb]; exact hdg)
    (fun vm₁ hW₁ => ⟨hf.1, hf.2, hPc (T.setVm vm₁) hT hW₁⟩)
  dsimp only [Pt.U, Pt.locs, Pt.cells, Pt.slots] at X' e1 e2 h1 h2 h3 st
  subst h1; subst h2; subst h3
  exact ⟨v, (T.setVm vm₁).calling g' mk (Value.ref b :: As).toArray, t, U', L, hT, X', hL, e1, e2, hq, st⟩
section
variable {y : MethodName} {bytes cc : ByteArray} {maxL nL mc ms n index : Nat} {ret : Option FieldType} {ws : List Cond} {rm : Room} {Pc : Array Value → State → Prop} {Qc : Array Value → State → Outcome → State → Prop} {XC : String → State → State → Prop} {free : Addr → Prop} {Ts : List Cond} {own C : String} {b : Addr} {As rest : List Value} {g : JFrame}
theorem vx_runVX {hh : List (Nat × Nat × Nat × Nat)} (S : CallFix p m c cc nL s args Ts own) (hM : vx_Met l y ws rm Pc Qc XC mc ms free) (cw : vx_CVW R s args own C index y bytes maxL ret hh ws rm mc ms n) (hp : PreV s H C b Pc As)
    (hg : g.method = m) (hn : As.length = n) (hsize : g.locals.size = nL) (hstack : g.stack = As.reverse ++ .ref b :: rest) (hW : 2 * g.monitorRoom + (rest.map fun v => v.category).sum ≤ 8) (hdg : decode cc g.pc = .ok (.invokevirtual index, 3)) (hf : cells + mc ≤ R.cells ∧ slots + ms ≤ R.slots) :
    vx_Run p l e R s m args below meth c H locs cells slots mc ms g rest (Qc (Value.ref b :: As).toArray) XC free := by
  obtain ⟨⟨hrc, hrs, hfr, hlo, hws, hcw⟩, hcode, hini, hy, hlen, hl, hin, hse⟩ := cw
  have hK : vx_Back l R p e below s args y 3 8 (PreOf R mc ms Pc) (PostOf Qc mc ms free) (vx_Post XC mc ms free) := vx_backW (hh := hh) (bytes := bytes) (maxL := maxL) (ret := ret) hM hp.1 hrc hrs hfr hlo hws hcw (fun a' U hW => word_at hW (Or.inl (by first | rfl | simp [Cond.onTables, Cond.keeps, Cond.steady])) hini)
  obtain ⟨hx, hb, hml, ho, -⟩ := S
  obtain ⟨-, ⟨cellB, hcB, hoB, hclB⟩, hPc⟩ := hp
  intro T hT X
  rcases vx_callVX X hx (C := C) (hh := hh) (bytes := bytes) (maxL := maxL) (ret := ret) ho hl hin hse hcode hy hK (by rw [hT]; exact hcB) hoB hclB hg (hsize.trans hml.symm) (argsL := As) (rest := rest) (fun sig h => hn.trans (hlen sig h)) hstack hW (by rw [hb]; exact hdg)
    (fun vm₁ hW₁ => ⟨hf.1, hf.2, hPc (T.setVm vm₁) hT hW₁⟩) with ⟨v, vm₁, ⟨U', l2, c2, s2⟩, hW₁, X', ⟨g', mk, t, L, e1, e2, hq, h1, hL, h2, h3⟩, st⟩ | ⟨q, vm₁, ⟨U', l2, c2, s2⟩, hW₁, X', ⟨g', mk, t, L, E, ce, e1, e2, hq, hce, hcv, hcl, h1, hL, h2, h3⟩, st⟩
  · dsimp only [Pt.U, Pt.locs, Pt.cells, Pt.slots] at X' e1 e2 h1 h2 h3 st
    subst h1; subst h2; subst h3
    exact Or.inl ⟨v, (T.setVm vm₁).calling g' mk (Value.ref b :: As).toArray, t, U', L, hT, X', hL, e1, e2, hq, st⟩
  · dsimp only [Pt.U, Pt.locs, Pt.cells, Pt.slots] at X' e1 e2 h1 h2 h3 st hcl
    subst h1; subst h2; subst h3
    exact Or.inr ⟨q, (T.setVm vm₁).calling g' mk (Value.ref b :: As).toArray, t, U', L, E, ce, hT, X', hL, e1, e2, hq, hce, hcv, vx_cls hW₁ hcl, st⟩
theorem vx_runSX {hh : List (Nat × Nat × Nat × Nat)} (S : CallFix p m c cc nL s args Ts own) (hM : vx_Met l y ws rm Pc Qc XC mc ms free) (cw : vx_CSW R s args own index y bytes maxL ret hh ws rm mc ms n) (hp : PreS s H Pc As)
    (hg : g.method = m) (hn : As.length = n) (hsize : g.locals.size = nL) (hstack : g.stack = As.reverse ++ rest) (hW : 2 * g.monitorRoom + (rest.map fun v => v.category).sum ≤ 8) (hdg : decode cc g.pc = .ok (.invokestatic index, 3)) (hf : cells + mc ≤ R.cells ∧ slots + ms ≤ R.slots) :
    vx_Run p l e R s m args below meth c H locs cells slots mc ms g rest (Qc As.toArray) XC free := by
  obtain ⟨⟨hrc, hrs, hfr, hlo, hws, hcw⟩, hcode, hini, hy, hlen, hl, hstt⟩ := cw
  have hK : vx_Back l R p e below s args y 3 8 (PreOf R mc ms Pc) (PostOf Qc mc ms free) (vx_Post XC mc ms free) := vx_backW (hh := hh) (bytes := bytes) (maxL := maxL) (ret := ret) hM hp.1 hrc hrs hfr hlo hws hcw (fun a' U hW => word_at hW (Or.inl (by first | rfl | simp [Cond.onTables, Cond.keeps, Cond.steady])) hini)
  obtain ⟨hx, hb, hml, ho, -⟩ := S
  intro T hT X
  rcases vx_callSX X hx (hh := hh) (bytes := bytes) (maxL := maxL) (ret := ret) ho hl hstt hini hcode hy hK hg (hsize.trans hml.symm) (argsL := As) (rest := rest) (fun sig h => hn.trans (hlen sig h)) hstack hW (by rw [hb]; exact hdg)
    (fun vm₁ hW₁ => ⟨hf.1, hf.2, hp.2 (T.setVm vm₁) hT hW₁⟩) with ⟨v, vm₁, ⟨U', l2, c2, s2⟩, hW₁, X', ⟨g', mk, t, L, e1, e2, hq, h1, hL, h2, h3⟩, st⟩ | ⟨q, vm₁, ⟨U', l2, c2, s2⟩, hW₁, X', ⟨g', mk, t, L, E, ce, e1, e2, hq, hce, hcv, hcl, h1, hL, h2, h3⟩, st⟩
  · dsimp only [Pt.U, Pt.locs, Pt.cells, Pt.slots] at X' e1 e2 h1 h2 h3 st
    subst h1; subst h2; subst h3
    exact Or.inl ⟨v, (T.setVm vm₁).calling g' mk As.toArray, t, U', L, hT, X', hL, e1, e2, hq, st⟩
  · dsimp only [Pt.U, Pt.locs, Pt.cells, Pt.slots] at X' e1 e2 h1 h2 h3 st hcl
    subst h1; subst h2; subst h3
    exact Or.inr ⟨q, (T.setVm vm₁).calling g' mk As.toArray, t, U', L, E, ce, hT, X', hL, e1, e2, hq, hce, hcv, vx_cls hW₁ hcl, st⟩
end
end VXH
theorem vx_ofWH {l : Launch} {y : MethodName} {ws ws' : List Cond} {rm : Room} {Pc : Array Value → State → Prop} {Qc : Array Value → State → Outcome → State → Prop} {XC : String → State → State → Prop} {mc ms : Nat} {free : Addr → Prop} {cc : ByteArray} {maxL : Nat} {ret : Option FieldType} {hh : List (Nat × Nat × Nat × Nat)}
    (hy : plainName y.cls = true) (hw : ws = Cond.codeWith y cc maxL ret hh :: ws')
    (body : ∀ p e s m args below meth c s₁, BodyLoose p l y (headSpec ws rm) cc maxL ret e s m args below meth c s₁ → c.maxLocals = maxL → Pc args s →
      W p l e (headSpec ws rm).room s m args below meth c s.heap [] 0 0 (vx_MQ below Qc XC args s mc ms free) (entryFrame m args maxL)) : vx_Met l y ws rm Pc Qc XC mc ms free := by
  refine MetFree.of_bodyS (code := cc) (maxLocals := maxL) (ret := ret) hy ?_ ?_
  · intro args s m h hn
    obtain ⟨m9, meth, c, hn9, h1, h2, h3, h4, -, h5, h6, -⟩ := Cond.codeWith_spec (atoms_spec (ws := ws) h _ (by rw [hw]; exact List.mem_cons_self))
    cases hn.symm.trans hn9
    exact ⟨meth, c, h1, h2, h3, h4, h5, h6⟩
  · intro p e s m args below meth c s₁ B hml hP _
    have hh0 : s₁.heap = s.heap := by rw [B.state]; rfl
    obtain ⟨t, a1, o, b1, b2, b3⟩ := body p e s m args below meth c s₁ B hml hP s₁ hh0 (Stand.of_body B)
    exact ⟨t, o, a1, b1, b2, b3⟩
/-! ===== END ===== -/
end
section
/-! ===== BEGIN printed: names, fields, word lists, decode rows ===== -/
def RX0 : String := "BagsRiver$1"
def TX0 : u_T := fun k => match k with
  | _ => ("", "", "", false)
def tyX0 : Nat → FieldType := fun k => match k with
  | _ => .int
abbrev wsX00 : List Cond := u_ws RX0 TX0 0
theorem nmX0 : ∀ a, a < 0 → ∀ b, b < 0 → a ≠ b → (TX0 a).2.1 ≠ (TX0 b).2.1 := by decide +kernel
theorem tyX0_ok : ∀ k, k < 0 → parseFieldDescriptor (TX0 k).2.2.1 = some (tyX0 k) := by decide +kernel
def RX1 : String := "BagsRiver$Book"
def TX1 : u_T := fun k => match k with
  | 0 => ("BagsRiver$Book", "verbs", "[LBagsRiver$Word;", true)
  | 1 => ("BagsRiver$Book", "first", "[I", true)
  | 2 => ("BagsRiver$Book", "second", "[I", true)
  | 3 => ("BagsRiver$Book", "place", "[I", true)
  | 4 => ("BagsRiver$Book", "lines", "I", false)
  | 5 => ("BagsRiver$Book", "known", "Z", false)
  | 6 => ("BagsRiver$Book", "wrong", "I", false)
  | 7 => ("BagsRiver$Book", "livedLines", "I", false)
  | 8 => ("BagsRiver$Book", "hourThen", "I", false)
  | _ => ("BagsRiver$Book", "savedThen", "I", false)
def tyX1 : Nat → FieldType := fun k => match k with
  | 0 => .array (.object "BagsRiver$Word")
  | 1 => .array .int
  | 2 => .array .int
  | 3 => .array .int
  | 4 => .int
  | 5 => .boolean
  | 6 => .int
  | 7 => .int
  | 8 => .int
  | _ => .int
abbrev wsX10 : List Cond := u_ws RX1 TX1 10
theorem nmX1 : ∀ a, a < 10 → ∀ b, b < 10 → a ≠ b → (TX1 a).2.1 ≠ (TX1 b).2.1 := by decide +kernel
theorem tyX1_ok : ∀ k, k < 10 → parseFieldDescriptor (TX1 k).2.2.1 = some (tyX1 k) := by decide +kernel
abbrev cX1_init : ByteArray := prog_3_method_1_code
def yX1_init : MethodName := ⟨RX1, "<init>", "()V"⟩
abbrev cX1_read : ByteArray := prog_3_method_2_code
def yX1_read : MethodName := ⟨RX1, "read", "(LBagsRiver$Tape;LBagsRiver$Street;)V"⟩
abbrev cX1_readLine : ByteArray := prog_3_method_3_code
def yX1_readLine : MethodName := ⟨RX1, "readLine", "(LBagsRiver$Tape;LBagsRiver$Street;)Z"⟩
abbrev cX1_readPost : ByteArray := prog_3_method_4_code
def yX1_readPost : MethodName := ⟨RX1, "readPost", "(LBagsRiver$Tape;LBagsRiver$Street;)Z"⟩
abbrev cX1_seeTarget : ByteArray := prog_3_method_5_code
def yX1_seeTarget : MethodName := ⟨RX1, "seeTarget", "(LBagsRiver$Tape;LBagsRiver$Street;)I"⟩
abbrev cX1_readPlace : ByteArray := prog_3_method_6_code
def yX1_readPlace : MethodName := ⟨RX1, "readPlace", "(LBagsRiver$Tape;LBagsRiver$Street;LBagsRiver$Word;)Z"⟩
abbrev cX1_movesOn : ByteArray := prog_3_method_7_code
def yX1_movesOn : MethodName := ⟨RX1, "movesOn", "(LBagsRiver$Tape;I)Z"⟩
abbrev cX1_judge : ByteArray := prog_3_method_8_code
def yX1_judge : MethodName := ⟨RX1, "judge", "(LBagsRiver$Street;LBagsRiver$State;)V"⟩
abbrev cX1_whyWrong : ByteArray := prog_3_method_9_code
def yX1_whyWrong : MethodName := ⟨RX1, "whyWrong", "(LBagsRiver$Street;LBagsRiver$State;I)I"⟩
abbrev cX1_live : ByteArray := prog_3_method_10_code
def yX1_live : MethodName := ⟨RX1, "live", "(LBagsRiver$Street;LBagsRiver$State;I)V"⟩
abbrev cX1_tell : ByteArray := prog_3_method_11_code
def yX1_tell : MethodName := ⟨RX1, "tell", "(I)I"⟩
def RX2 : String := "BagsRiver$Image"
def TX2 : u_T := fun k => match k with
  | 0 => ("BagsRiver$Image", "street", "LBagsRiver$Street;", true)
  | 1 => ("BagsRiver$Image", "state", "LBagsRiver$State;", true)
  | 2 => ("BagsRiver$Image", "sentence", "LBagsRiver$Sentence;", true)
  | _ => ("BagsRiver$Image", "kept", "Z", false)
def tyX2 : Nat → FieldType := fun k => match k with
  | 0 => .object "BagsRiver$Street"
  | 1 => .object "BagsRiver$State"
  | 2 => .object "BagsRiver$Sentence"
  | _ => .boolean
abbrev wsX20 : List Cond := u_ws RX2 TX2 4
theorem nmX2 : ∀ a, a < 4 → ∀ b, b < 4 → a ≠ b → (TX2 a).2.1 ≠ (TX2 b).2.1 := by decide +kernel
theorem tyX2_ok : ∀ k, k < 4 → parseFieldDescriptor (TX2 k).2.2.1 = some (tyX2 k) := by decide +kernel
abbrev cX2_init : ByteArray := prog_4_method_1_code
def yX2_init : MethodName := ⟨RX2, "<init>", "()V"⟩
def RX3 : String := "BagsRiver$Pairs"
def TX3 : u_T := fun k => match k with
  | 0 => ("BagsRiver$Pairs", "keys", "[I", true)
  | 1 => ("BagsRiver$Pairs", "values", "[I", true)
  | _ => ("BagsRiver$Pairs", "count", "I", false)
def tyX3 : Nat → FieldType := fun k => match k with
  | 0 => .array .int
  | 1 => .array .int
  | _ => .int
abbrev wsX30 : List Cond := u_ws RX3 TX3 3
theorem nmX3 : ∀ a, a < 3 → ∀ b, b < 3 → a ≠ b → (TX3 a).2.1 ≠ (TX3 b).2.1 := by decide +kernel
theorem tyX3_ok : ∀ k, k < 3 → parseFieldDescriptor (TX3 k).2.2.1 = some (tyX3 k) := by decide +kernel
abbrev cX3_init : ByteArray := prog_5_method_1_code
def yX3_init : MethodName := ⟨RX3, "<init>", "(I)V"⟩
abbrev cX3_isFull : ByteArray := prog_5_method_2_code
def yX3_isFull : MethodName := ⟨RX3, "isFull", "()Z"⟩
abbrev cX3_has : ByteArray := prog_5_method_3_code
def yX3_has : MethodName := ⟨RX3, "has", "(I)Z"⟩
abbrev cX3_add : ByteArray := prog_5_method_4_code
def yX3_add : MethodName := ⟨RX3, "add", "(II)V"⟩
abbrev cX3_sumFrom : ByteArray := prog_5_method_5_code
def yX3_sumFrom : MethodName := ⟨RX3, "sumFrom", "(I)I"⟩
abbrev cX3_greatestKey : ByteArray := prog_5_method_6_code
def yX3_greatestKey : MethodName := ⟨RX3, "greatestKey", "()I"⟩
abbrev cX3_latestValue : ByteArray := prog_5_method_7_code
def yX3_latestValue : MethodName := ⟨RX3, "latestValue", "(I)I"⟩
abbrev cX3_copyFrom : ByteArray := prog_5_method_8_code
def yX3_copyFrom : MethodName := ⟨RX3, "copyFrom", "(LBagsRiver$Pairs;)V"⟩
def RX4 : String := "BagsRiver$Past"
def TX4 : u_T := fun k => match k with
  | 0 => ("BagsRiver$Past", "kept", "[LBagsRiver$State;", true)
  | 1 => ("BagsRiver$Past", "next", "I", false)
  | _ => ("BagsRiver$Past", "count", "I", false)
def tyX4 : Nat → FieldType := fun k => match k with
  | 0 => .array (.object "BagsRiver$State")
  | 1 => .int
  | _ => .int
abbrev wsX40 : List Cond := u_ws RX4 TX4 3
theorem nmX4 : ∀ a, a < 3 → ∀ b, b < 3 → a ≠ b → (TX4 a).2.1 ≠ (TX4 b).2.1 := by decide +kernel
theorem tyX4_ok : ∀ k, k < 3 → parseFieldDescriptor (TX4 k).2.2.1 = some (tyX4 k) := by decide +kernel
abbrev cX4_init : ByteArray := prog_6_method_1_code
def yX4_init : MethodName := ⟨RX4, "<init>", "()V"⟩
abbrev cX4_keep : ByteArray := prog_6_method_2_code
def yX4_keep : MethodName := ⟨RX4, "keep", "(LBagsRiver$State;)V"⟩
abbrev cX4_giveBack : ByteArray := prog_6_method_3_code
def yX4_giveBack : MethodName := ⟨RX4, "giveBack", "(LBagsRiver$State;)I"⟩
def RX5 : String := "BagsRiver$Planner"
def TX5 : u_T := fun k => match k with
  | 0 => ("BagsRiver$Planner", "inches", "[I", true)
  | 1 => ("BagsRiver$Planner", "choices", "I", false)
  | 2 => ("BagsRiver$Planner", "gains", "[[I", true)
  | 3 => ("BagsRiver$Planner", "bags", "[[I", true)
  | 4 => ("BagsRiver$Planner", "chosen", "[I", true)
  | 5 => ("BagsRiver$Planner", "planned", "[I", true)
  | 6 => ("BagsRiver$Planner", "plannedWalls", "I", false)
  | 7 => ("BagsRiver$Planner", "walls", "I", false)
  | 8 => ("BagsRiver$Planner", "mostBags", "I", false)
  | 9 => ("BagsRiver$Planner", "bestBags", "I", false)
  | _ => ("BagsRiver$Planner", "bestGain", "I", false)
def tyX5 : Nat → FieldType := fun k => match k with
  | 0 => .array .int
  | 1 => .int
  | 2 => .array (.array .int)
  | 3 => .array (.array .int)
  | 4 => .array .int
  | 5 => .array .int
  | 6 => .int
  | 7 => .int
  | 8 => .int
  | 9 => .int
  | _ => .int
abbrev wsX50 : List Cond := u_ws RX5 TX5 11
theorem nmX5 : ∀ a, a < 11 → ∀ b, b < 11 → a ≠ b → (TX5 a).2.1 ≠ (TX5 b).2.1 := by decide +kernel
theorem tyX5_ok : ∀ k, k < 11 → parseFieldDescriptor (TX5 k).2.2.1 = some (tyX5 k) := by decide +kernel
abbrev cX5_init : ByteArray := prog_7_method_1_code
def yX5_init : MethodName := ⟨RX5, "<init>", "()V"⟩
abbrev cX5_choose : ByteArray := prog_7_method_2_code
def yX5_choose : MethodName := ⟨RX5, "choose", "(LBagsRiver$Street;I)V"⟩
abbrev cX5_findChoices : ByteArray := prog_7_method_3_code
def yX5_findChoices : MethodName := ⟨RX5, "findChoices", "(LBagsRiver$Street;)V"⟩
abbrev cX5_gainOf : ByteArray := prog_7_method_4_code
def yX5_gainOf : MethodName := ⟨RX5, "gainOf", "(LBagsRiver$Street;II)I"⟩
abbrev cX5_tryWall : ByteArray := prog_7_method_5_code
def yX5_tryWall : MethodName := ⟨RX5, "tryWall", "(III)V"⟩
abbrev cX5_plannedHeight : ByteArray := prog_7_method_6_code
def yX5_plannedHeight : MethodName := ⟨RX5, "plannedHeight", "(I)I"⟩
def RX6 : String := "BagsRiver$Sentence"
def TX6 : u_T := fun k => match k with
  | 0 => ("BagsRiver$Sentence", "verbs", "[LBagsRiver$Word;", true)
  | 1 => ("BagsRiver$Sentence", "signs", "[I", true)
  | 2 => ("BagsRiver$Sentence", "numbers", "[I", true)
  | 3 => ("BagsRiver$Sentence", "stack", "[I", true)
  | 4 => ("BagsRiver$Sentence", "steps", "I", false)
  | _ => ("BagsRiver$Sentence", "ones", "I", false)
def tyX6 : Nat → FieldType := fun k => match k with
  | 0 => .array (.object "BagsRiver$Word")
  | 1 => .array .int
  | 2 => .array .int
  | 3 => .array .int
  | 4 => .int
  | _ => .int
abbrev wsX60 : List Cond := u_ws RX6 TX6 6
theorem nmX6 : ∀ a, a < 6 → ∀ b, b < 6 → a ≠ b → (TX6 a).2.1 ≠ (TX6 b).2.1 := by decide +kernel
theorem tyX6_ok : ∀ k, k < 6 → parseFieldDescriptor (TX6 k).2.2.1 = some (tyX6 k) := by decide +kernel
abbrev cX6_init : ByteArray := prog_8_method_1_code
def yX6_init : MethodName := ⟨RX6, "<init>", "()V"⟩
abbrev cX6_clear : ByteArray := prog_8_method_2_code
def yX6_clear : MethodName := ⟨RX6, "clear", "()V"⟩
abbrev cX6_copyFrom : ByteArray := prog_8_method_3_code
def yX6_copyFrom : MethodName := ⟨RX6, "copyFrom", "(LBagsRiver$Sentence;)V"⟩
abbrev cX6_read : ByteArray := prog_8_method_4_code
def yX6_read : MethodName := ⟨RX6, "read", "(LBagsRiver$Tape;LBagsRiver$Street;)V"⟩
abbrev cX6_readCond : ByteArray := prog_8_method_5_code
def yX6_readCond : MethodName := ⟨RX6, "readCond", "(LBagsRiver$Tape;LBagsRiver$Street;I)Z"⟩
abbrev cX6_readAll : ByteArray := prog_8_method_6_code
def yX6_readAll : MethodName := ⟨RX6, "readAll", "(LBagsRiver$Tape;LBagsRiver$Street;I)Z"⟩
abbrev cX6_readOne : ByteArray := prog_8_method_7_code
def yX6_readOne : MethodName := ⟨RX6, "readOne", "(LBagsRiver$Tape;LBagsRiver$Street;I)Z"⟩
abbrev cX6_readBehind : ByteArray := prog_8_method_8_code
def yX6_readBehind : MethodName := ⟨RX6, "readBehind", "(LBagsRiver$Tape;LBagsRiver$Street;)Z"⟩
abbrev cX6_beginsOne : ByteArray := prog_8_method_9_code
def yX6_beginsOne : MethodName := ⟨RX6, "beginsOne", "(LBagsRiver$Word;)Z"⟩
abbrev cX6_readComparison : ByteArray := prog_8_method_10_code
def yX6_readComparison : MethodName := ⟨RX6, "readComparison", "(LBagsRiver$Tape;LBagsRiver$Word;)Z"⟩
abbrev cX6_addStep : ByteArray := prog_8_method_11_code
def yX6_addStep : MethodName := ⟨RX6, "addStep", "(LBagsRiver$Word;II)Z"⟩
abbrev cX6_housesSaid : ByteArray := prog_8_method_12_code
def yX6_housesSaid : MethodName := ⟨RX6, "housesSaid", "(LBagsRiver$Street;LBagsRiver$State;)I"⟩
abbrev cX6_housesOfStep : ByteArray := prog_8_method_13_code
def yX6_housesOfStep : MethodName := ⟨RX6, "housesOfStep", "(LBagsRiver$Street;LBagsRiver$State;I)I"⟩
abbrev cX6_isSo : ByteArray := prog_8_method_14_code
def yX6_isSo : MethodName := ⟨RX6, "isSo", "(LBagsRiver$Street;LBagsRiver$State;II)Z"⟩
abbrev cX6_compares : ByteArray := prog_8_method_15_code
def yX6_compares : MethodName := ⟨RX6, "compares", "(II)Z"⟩
def RX7 : String := "BagsRiver$State"
def TX7 : u_T := fun k => match k with
  | 0 => ("BagsRiver$State", "hour", "I", false)
  | 1 => ("BagsRiver$State", "sand", "I", false)
  | 2 => ("BagsRiver$State", "ready", "I", false)
  | 3 => ("BagsRiver$State", "tired", "I", false)
  | 4 => ("BagsRiver$State", "rain", "I", false)
  | 5 => ("BagsRiver$State", "carriedBags", "I", false)
  | 6 => ("BagsRiver$State", "fillers", "I", false)
  | 7 => ("BagsRiver$State", "carriers", "I", false)
  | 8 => ("BagsRiver$State", "target", "I", false)
  | 9 => ("BagsRiver$State", "quitWalls", "I", false)
  | 10 => ("BagsRiver$State", "upHouses", "I", false)
  | 11 => ("BagsRiver$State", "wallBags", "[I", true)
  | 12 => ("BagsRiver$State", "drainBags", "[I", true)
  | _ => ("BagsRiver$State", "floodHour", "[I", true)
def tyX7 : Nat → FieldType := fun k => match k with
  | 0 => .int
  | 1 => .int
  | 2 => .int
  | 3 => .int
  | 4 => .int
  | 5 => .int
  | 6 => .int
  | 7 => .int
  | 8 => .int
  | 9 => .int
  | 10 => .int
  | 11 => .array .int
  | 12 => .array .int
  | _ => .array .int
abbrev wsX70 : List Cond := u_ws RX7 TX7 14
theorem nmX7 : ∀ a, a < 14 → ∀ b, b < 14 → a ≠ b → (TX7 a).2.1 ≠ (TX7 b).2.1 := by decide +kernel
theorem tyX7_ok : ∀ k, k < 14 → parseFieldDescriptor (TX7 k).2.2.1 = some (tyX7 k) := by decide +kernel
abbrev cX7_init : ByteArray := prog_9_method_1_code
def yX7_init : MethodName := ⟨RX7, "<init>", "()V"⟩
abbrev cX7_begin : ByteArray := prog_9_method_2_code
def yX7_begin : MethodName := ⟨RX7, "begin", "(LBagsRiver$Street;)V"⟩
abbrev cX7_copyFrom : ByteArray := prog_9_method_3_code
def yX7_copyFrom : MethodName := ⟨RX7, "copyFrom", "(LBagsRiver$State;)V"⟩
abbrev cX7_river : ByteArray := prog_9_method_4_code
def yX7_river : MethodName := ⟨RX7, "river", "(LBagsRiver$Street;)I"⟩
abbrev cX7_greatestRiver : ByteArray := prog_9_method_5_code
def yX7_greatestRiver : MethodName := ⟨RX7, "greatestRiver", "(LBagsRiver$Street;)I"⟩
abbrev cX7_bagsEach : ByteArray := prog_9_method_6_code
def yX7_bagsEach : MethodName := ⟨RX7, "bagsEach", "(LBagsRiver$Street;)I"⟩
abbrev cX7_isFlooded : ByteArray := prog_9_method_7_code
def yX7_isFlooded : MethodName := ⟨RX7, "isFlooded", "(I)Z"⟩
abbrev cX7_floodedHouses : ByteArray := prog_9_method_8_code
def yX7_floodedHouses : MethodName := ⟨RX7, "floodedHouses", "(LBagsRiver$Street;)I"⟩
abbrev cX7_isStopped : ByteArray := prog_9_method_9_code
def yX7_isStopped : MethodName := ⟨RX7, "isStopped", "(LBagsRiver$Street;I)Z"⟩
abbrev cX7_leakingDrains : ByteArray := prog_9_method_10_code
def yX7_leakingDrains : MethodName := ⟨RX7, "leakingDrains", "(LBagsRiver$Street;II)I"⟩
abbrev cX7_heightOf : ByteArray := prog_9_method_11_code
def yX7_heightOf : MethodName := ⟨RX7, "heightOf", "(LBagsRiver$Street;I)I"⟩
abbrev cX7_wouldFlood : ByteArray := prog_9_method_12_code
def yX7_wouldFlood : MethodName := ⟨RX7, "wouldFlood", "(LBagsRiver$Street;II)Z"⟩
abbrev cX7_savedWorth : ByteArray := prog_9_method_13_code
def yX7_savedWorth : MethodName := ⟨RX7, "savedWorth", "(LBagsRiver$Street;)I"⟩
abbrev cX7_isPosted : ByteArray := prog_9_method_14_code
def yX7_isPosted : MethodName := ⟨RX7, "isPosted", "(III)Z"⟩
abbrev cX7_takePosts : ByteArray := prog_9_method_15_code
def yX7_takePosts : MethodName := ⟨RX7, "takePosts", "(III)V"⟩
abbrev cX7_whyNotQuit : ByteArray := prog_9_method_16_code
def yX7_whyNotQuit : MethodName := ⟨RX7, "whyNotQuit", "(I)I"⟩
abbrev cX7_giveUpWall : ByteArray := prog_9_method_17_code
def yX7_giveUpWall : MethodName := ⟨RX7, "giveUpWall", "(I)V"⟩
abbrev cX7_whyNotUp : ByteArray := prog_9_method_18_code
def yX7_whyNotUp : MethodName := ⟨RX7, "whyNotUp", "(I)I"⟩
abbrev cX7_carryUp : ByteArray := prog_9_method_19_code
def yX7_carryUp : MethodName := ⟨RX7, "carryUp", "(I)V"⟩
abbrev cX7_work : ByteArray := prog_9_method_20_code
def yX7_work : MethodName := ⟨RX7, "work", "(LBagsRiver$Street;)V"⟩
abbrev cX7_layDown : ByteArray := prog_9_method_21_code
def yX7_layDown : MethodName := ⟨RX7, "layDown", "(LBagsRiver$Street;I)V"⟩
abbrev cX7_goHour : ByteArray := prog_9_method_22_code
def yX7_goHour : MethodName := ⟨RX7, "goHour", "(LBagsRiver$Street;)V"⟩
abbrev cX7_goHours : ByteArray := prog_9_method_23_code
def yX7_goHours : MethodName := ⟨RX7, "goHours", "(LBagsRiver$Street;I)V"⟩
abbrev cX7_drawHours : ByteArray := prog_9_method_24_code
def yX7_drawHours : MethodName := ⟨RX7, "drawHours", "(LBagsRiver$Street;II)V"⟩
def RX8 : String := "BagsRiver$Street"
def TX8 : u_T := fun k => match k with
  | 0 => ("BagsRiver$Street", "wallNames", "[J", true)
  | 1 => ("BagsRiver$Street", "wide", "[I", true)
  | 2 => ("BagsRiver$Street", "walls", "I", false)
  | 3 => ("BagsRiver$Street", "houseNames", "[J", true)
  | 4 => ("BagsRiver$Street", "wallOf", "[I", true)
  | 5 => ("BagsRiver$Street", "worth", "[I", true)
  | 6 => ("BagsRiver$Street", "floor", "[I", true)
  | 7 => ("BagsRiver$Street", "houses", "I", false)
  | 8 => ("BagsRiver$Street", "drainNames", "[J", true)
  | 9 => ("BagsRiver$Street", "drainWall", "[I", true)
  | 10 => ("BagsRiver$Street", "drainInch", "[I", true)
  | 11 => ("BagsRiver$Street", "drainTakes", "[I", true)
  | 12 => ("BagsRiver$Street", "drains", "I", false)
  | 13 => ("BagsRiver$Street", "crests", "LBagsRiver$Pairs;", true)
  | 14 => ("BagsRiver$Street", "gauges", "LBagsRiver$Pairs;", true)
  | 15 => ("BagsRiver$Street", "people", "I", false)
  | 16 => ("BagsRiver$Street", "sand", "I", false)
  | _ => ("BagsRiver$Street", "rate", "I", false)
def tyX8 : Nat → FieldType := fun k => match k with
  | 0 => .array .long
  | 1 => .array .int
  | 2 => .int
  | 3 => .array .long
  | 4 => .array .int
  | 5 => .array .int
  | 6 => .array .int
  | 7 => .int
  | 8 => .array .long
  | 9 => .array .int
  | 10 => .array .int
  | 11 => .array .int
  | 12 => .int
  | 13 => .object "BagsRiver$Pairs"
  | 14 => .object "BagsRiver$Pairs"
  | 15 => .int
  | 16 => .int
  | _ => .int
abbrev wsX80 : List Cond := u_ws RX8 TX8 18
theorem nmX8 : ∀ a, a < 18 → ∀ b, b < 18 → a ≠ b → (TX8 a).2.1 ≠ (TX8 b).2.1 := by decide +kernel
theorem tyX8_ok : ∀ k, k < 18 → parseFieldDescriptor (TX8 k).2.2.1 = some (tyX8 k) := by decide +kernel
abbrev cX8_init : ByteArray := prog_10_method_1_code
def yX8_init : MethodName := ⟨RX8, "<init>", "()V"⟩
abbrev cX8_clear : ByteArray := prog_10_method_2_code
def yX8_clear : MethodName := ⟨RX8, "clear", "()V"⟩
abbrev cX8_copyFrom : ByteArray := prog_10_method_3_code
def yX8_copyFrom : MethodName := ⟨RX8, "copyFrom", "(LBagsRiver$Street;)V"⟩
abbrev cX8_indexOf : ByteArray := prog_10_method_4_code
def yX8_indexOf : MethodName := ⟨RX8, "indexOf", "([JIJ)I"⟩
abbrev cX8_knows : ByteArray := prog_10_method_5_code
def yX8_knows : MethodName := ⟨RX8, "knows", "(J)Z"⟩
abbrev cX8_addWall : ByteArray := prog_10_method_6_code
def yX8_addWall : MethodName := ⟨RX8, "addWall", "(JI)V"⟩
abbrev cX8_addHouse : ByteArray := prog_10_method_7_code
def yX8_addHouse : MethodName := ⟨RX8, "addHouse", "(JIII)V"⟩
abbrev cX8_addDrain : ByteArray := prog_10_method_8_code
def yX8_addDrain : MethodName := ⟨RX8, "addDrain", "(JIII)V"⟩
abbrev cX8_hasWall : ByteArray := prog_10_method_9_code
def yX8_hasWall : MethodName := ⟨RX8, "hasWall", "(I)Z"⟩
abbrev cX8_hasHouse : ByteArray := prog_10_method_10_code
def yX8_hasHouse : MethodName := ⟨RX8, "hasHouse", "(I)Z"⟩
abbrev cX8_hasDrain : ByteArray := prog_10_method_11_code
def yX8_hasDrain : MethodName := ⟨RX8, "hasDrain", "(I)Z"⟩
abbrev cX8_hasTarget : ByteArray := prog_10_method_12_code
def yX8_hasTarget : MethodName := ⟨RX8, "hasTarget", "(I)Z"⟩
abbrev cX8_bagsFor : ByteArray := prog_10_method_13_code
def yX8_bagsFor : MethodName := ⟨RX8, "bagsFor", "(II)I"⟩
abbrev cX8_housesBehind : ByteArray := prog_10_method_14_code
def yX8_housesBehind : MethodName := ⟨RX8, "housesBehind", "(I)I"⟩
abbrev cX8_drainsOf : ByteArray := prog_10_method_15_code
def yX8_drainsOf : MethodName := ⟨RX8, "drainsOf", "(I)I"⟩
abbrev cX8_worthOf : ByteArray := prog_10_method_16_code
def yX8_worthOf : MethodName := ⟨RX8, "worthOf", "(I)I"⟩
def RX9 : String := "BagsRiver$StreetReader"
def TX9 : u_T := fun k => match k with
  | 0 => ("BagsRiver$StreetReader", "tape", "LBagsRiver$Tape;", true)
  | 1 => ("BagsRiver$StreetReader", "into", "LBagsRiver$Street;", false)
  | 2 => ("BagsRiver$StreetReader", "peopleTold", "Z", false)
  | 3 => ("BagsRiver$StreetReader", "sandTold", "Z", false)
  | _ => ("BagsRiver$StreetReader", "rateTold", "Z", false)
def tyX9 : Nat → FieldType := fun k => match k with
  | 0 => .object "BagsRiver$Tape"
  | 1 => .object "BagsRiver$Street"
  | 2 => .boolean
  | 3 => .boolean
  | _ => .boolean
abbrev wsX90 : List Cond := u_ws RX9 TX9 5
theorem nmX9 : ∀ a, a < 5 → ∀ b, b < 5 → a ≠ b → (TX9 a).2.1 ≠ (TX9 b).2.1 := by decide +kernel
theorem tyX9_ok : ∀ k, k < 5 → parseFieldDescriptor (TX9 k).2.2.1 = some (tyX9 k) := by decide +kernel
abbrev cX9_init : ByteArray := prog_11_method_1_code
def yX9_init : MethodName := ⟨RX9, "<init>", "(LBagsRiver$Tape;)V"⟩
abbrev cX9_read : ByteArray := prog_11_method_2_code
def yX9_read : MethodName := ⟨RX9, "read", "(LBagsRiver$Street;)I"⟩
abbrev cX9_readLine : ByteArray := prog_11_method_3_code
def yX9_readLine : MethodName := ⟨RX9, "readLine", "()Z"⟩
abbrev cX9_readWall : ByteArray := prog_11_method_4_code
def yX9_readWall : MethodName := ⟨RX9, "readWall", "()Z"⟩
abbrev cX9_readHouse : ByteArray := prog_11_method_5_code
def yX9_readHouse : MethodName := ⟨RX9, "readHouse", "()Z"⟩
abbrev cX9_seeWallOrOutside : ByteArray := prog_11_method_6_code
def yX9_seeWallOrOutside : MethodName := ⟨RX9, "seeWallOrOutside", "()I"⟩
abbrev cX9_readDrain : ByteArray := prog_11_method_7_code
def yX9_readDrain : MethodName := ⟨RX9, "readDrain", "()Z"⟩
abbrev cX9_takeNewName : ByteArray := prog_11_method_8_code
def yX9_takeNewName : MethodName := ⟨RX9, "takeNewName", "()Z"⟩
abbrev cX9_readPair : ByteArray := prog_11_method_9_code
def yX9_readPair : MethodName := ⟨RX9, "readPair", "(LBagsRiver$Pairs;III)Z"⟩
abbrev cX9_readPeople : ByteArray := prog_11_method_10_code
def yX9_readPeople : MethodName := ⟨RX9, "readPeople", "()Z"⟩
abbrev cX9_readSand : ByteArray := prog_11_method_11_code
def yX9_readSand : MethodName := ⟨RX9, "readSand", "()Z"⟩
abbrev cX9_readRate : ByteArray := prog_11_method_12_code
def yX9_readRate : MethodName := ⟨RX9, "readRate", "()Z"⟩
def RX10 : String := "BagsRiver$Tape"
def TX10 : u_T := fun k => match k with
  | 0 => ("BagsRiver$Tape", "bytes", "[I", true)
  | 1 => ("BagsRiver$Tape", "length", "I", false)
  | 2 => ("BagsRiver$Tape", "limit", "I", false)
  | 3 => ("BagsRiver$Tape", "at", "I", false)
  | 4 => ("BagsRiver$Tape", "start", "I", false)
  | 5 => ("BagsRiver$Tape", "kind", "I", false)
  | 6 => ("BagsRiver$Tape", "value", "I", false)
  | 7 => ("BagsRiver$Tape", "letters", "J", false)
  | 8 => ("BagsRiver$Tape", "word", "LBagsRiver$Word;", false)
  | 9 => ("BagsRiver$Tape", "faultKind", "I", false)
  | _ => ("BagsRiver$Tape", "faultPlace", "I", false)
def tyX10 : Nat → FieldType := fun k => match k with
  | 0 => .array .int
  | 1 => .int
  | 2 => .int
  | 3 => .int
  | 4 => .int
  | 5 => .int
  | 6 => .int
  | 7 => .long
  | 8 => .object "BagsRiver$Word"
  | 9 => .int
  | _ => .int
abbrev wsX100 : List Cond := u_ws RX10 TX10 11
theorem nmX10 : ∀ a, a < 11 → ∀ b, b < 11 → a ≠ b → (TX10 a).2.1 ≠ (TX10 b).2.1 := by decide +kernel
theorem tyX10_ok : ∀ k, k < 11 → parseFieldDescriptor (TX10 k).2.2.1 = some (tyX10 k) := by decide +kernel
abbrev cX10_init : ByteArray := prog_12_method_1_code
def yX10_init : MethodName := ⟨RX10, "<init>", "()V"⟩
abbrev cX10_append : ByteArray := prog_12_method_2_code
def yX10_append : MethodName := ⟨RX10, "append", "(IIIII)I"⟩
abbrev cX10_put : ByteArray := prog_12_method_3_code
def yX10_put : MethodName := ⟨RX10, "put", "(I)V"⟩
abbrev cX10_cutTo : ByteArray := prog_12_method_4_code
def yX10_cutTo : MethodName := ⟨RX10, "cutTo", "(I)Z"⟩
abbrev cX10_begin : ByteArray := prog_12_method_5_code
def yX10_begin : MethodName := ⟨RX10, "begin", "(I)V"⟩
abbrev cX10_next : ByteArray := prog_12_method_6_code
def yX10_next : MethodName := ⟨RX10, "next", "()V"⟩
abbrev cX10_readRun : ByteArray := prog_12_method_7_code
def yX10_readRun : MethodName := ⟨RX10, "readRun", "()V"⟩
abbrev cX10_isBlank : ByteArray := prog_12_method_8_code
def yX10_isBlank : MethodName := ⟨RX10, "isBlank", "(I)Z"⟩
abbrev cX10_isLetter : ByteArray := prog_12_method_9_code
def yX10_isLetter : MethodName := ⟨RX10, "isLetter", "(I)Z"⟩
abbrev cX10_isDigit : ByteArray := prog_12_method_10_code
def yX10_isDigit : MethodName := ⟨RX10, "isDigit", "(I)Z"⟩
abbrev cX10_isSign : ByteArray := prog_12_method_11_code
def yX10_isSign : MethodName := ⟨RX10, "isSign", "(I)Z"⟩
abbrev cX10_fail : ByteArray := prog_12_method_12_code
def yX10_fail : MethodName := ⟨RX10, "fail", "(I)Z"⟩
abbrev cX10_atSign : ByteArray := prog_12_method_13_code
def yX10_atSign : MethodName := ⟨RX10, "atSign", "(I)Z"⟩
abbrev cX10_takeSign : ByteArray := prog_12_method_14_code
def yX10_takeSign : MethodName := ⟨RX10, "takeSign", "(I)Z"⟩
abbrev cX10_atName : ByteArray := prog_12_method_15_code
def yX10_atName : MethodName := ⟨RX10, "atName", "()Z"⟩
abbrev cX10_seeNumber : ByteArray := prog_12_method_16_code
def yX10_seeNumber : MethodName := ⟨RX10, "seeNumber", "(II)I"⟩
abbrev cX10_takeNumber : ByteArray := prog_12_method_17_code
def yX10_takeNumber : MethodName := ⟨RX10, "takeNumber", "(II)I"⟩
abbrev cX10_seeNamed : ByteArray := prog_12_method_18_code
def yX10_seeNamed : MethodName := ⟨RX10, "seeNamed", "([JI)I"⟩
def RX11 : String := "BagsRiver$Word"
def TX11 : u_T := fun k => match k with
  | _ => ("", "", "", false)
def tyX11 : Nat → FieldType := fun k => match k with
  | _ => .int
abbrev wsX110 : List Cond := u_ws RX11 TX11 0
theorem nmX11 : ∀ a, a < 0 → ∀ b, b < 0 → a ≠ b → (TX11 a).2.1 ≠ (TX11 b).2.1 := by decide +kernel
theorem tyX11_ok : ∀ k, k < 0 → parseFieldDescriptor (TX11 k).2.2.1 = some (tyX11 k) := by decide +kernel
abbrev cX11_packedWith : ByteArray := prog_13_method_4_code
def yX11_packedWith : MethodName := ⟨RX11, "packedWith", "(JI)J"⟩
abbrev cX11_of : ByteArray := prog_13_method_5_code
def yX11_of : MethodName := ⟨RX11, "of", "(J)LBagsRiver$Word;"⟩
def RX12 : String := "BagsRiver"
def TX12 : u_T := fun k => match k with
  | 0 => ("BagsRiver", "tape", "LBagsRiver$Tape;", true)
  | 1 => ("BagsRiver", "streetReader", "LBagsRiver$StreetReader;", true)
  | 2 => ("BagsRiver", "street", "LBagsRiver$Street;", false)
  | 3 => ("BagsRiver", "nextStreet", "LBagsRiver$Street;", false)
  | 4 => ("BagsRiver", "state", "LBagsRiver$State;", true)
  | 5 => ("BagsRiver", "trial", "LBagsRiver$State;", true)
  | 6 => ("BagsRiver", "past", "LBagsRiver$Past;", true)
  | 7 => ("BagsRiver", "sentence", "LBagsRiver$Sentence;", false)
  | 8 => ("BagsRiver", "nextSentence", "LBagsRiver$Sentence;", false)
  | 9 => ("BagsRiver", "book", "LBagsRiver$Book;", true)
  | 10 => ("BagsRiver", "planner", "LBagsRiver$Planner;", true)
  | 11 => ("BagsRiver", "images", "[LBagsRiver$Image;", true)
  | 12 => ("BagsRiver", "faultKind", "I", false)
  | 13 => ("BagsRiver", "crewFill", "I", false)
  | 14 => ("BagsRiver", "crewCarry", "I", false)
  | 15 => ("BagsRiver", "wallingBits", "I", false)
  | 16 => ("BagsRiver", "carriedBits", "I", false)
  | _ => ("BagsRiver", "mostBags", "I", false)
def tyX12 : Nat → FieldType := fun k => match k with
  | 0 => .object "BagsRiver$Tape"
  | 1 => .object "BagsRiver$StreetReader"
  | 2 => .object "BagsRiver$Street"
  | 3 => .object "BagsRiver$Street"
  | 4 => .object "BagsRiver$State"
  | 5 => .object "BagsRiver$State"
  | 6 => .object "BagsRiver$Past"
  | 7 => .object "BagsRiver$Sentence"
  | 8 => .object "BagsRiver$Sentence"
  | 9 => .object "BagsRiver$Book"
  | 10 => .object "BagsRiver$Planner"
  | 11 => .array (.object "BagsRiver$Image")
  | 12 => .int
  | 13 => .int
  | 14 => .int
  | 15 => .int
  | 16 => .int
  | _ => .int
abbrev wsX120 : List Cond := u_ws RX12 TX12 18
theorem nmX12 : ∀ a, a < 18 → ∀ b, b < 18 → a ≠ b → (TX12 a).2.1 ≠ (TX12 b).2.1 := by decide +kernel
theorem tyX12_ok : ∀ k, k < 18 → parseFieldDescriptor (TX12 k).2.2.1 = some (tyX12 k) := by decide +kernel
abbrev cX12_init : ByteArray := prog_1_method_1_code
def yX12_init : MethodName := ⟨RX12, "<init>", "()V"⟩
abbrev cX12_feed : ByteArray := prog_1_method_2_code
def yX12_feed : MethodName := ⟨RX12, "feed", "(IIIII)I"⟩
abbrev cX12_end : ByteArray := prog_1_method_3_code
def yX12_end : MethodName := ⟨RX12, "end", "(I)Z"⟩
abbrev cX12_street : ByteArray := prog_1_method_4_code
def yX12_street : MethodName := ⟨RX12, "street", "()I"⟩
abbrev cX12_fault : ByteArray := prog_1_method_5_code
def yX12_fault : MethodName := ⟨RX12, "fault", "()I"⟩
abbrev cX12_wall : ByteArray := prog_1_method_6_code
def yX12_wall : MethodName := ⟨RX12, "wall", "(II)I"⟩
abbrev cX12_house : ByteArray := prog_1_method_7_code
def yX12_house : MethodName := ⟨RX12, "house", "(II)I"⟩
abbrev cX12_drain : ByteArray := prog_1_method_8_code
def yX12_drain : MethodName := ⟨RX12, "drain", "(II)I"⟩
abbrev cX12_now : ByteArray := prog_1_method_9_code
def yX12_now : MethodName := ⟨RX12, "now", "(I)I"⟩
abbrev cX12_posted : ByteArray := prog_1_method_10_code
def yX12_posted : MethodName := ⟨RX12, "posted", "(I)I"⟩
abbrev cX12_post : ByteArray := prog_1_method_11_code
def yX12_post : MethodName := ⟨RX12, "post", "(III)I"⟩
abbrev cX12_quit : ByteArray := prog_1_method_12_code
def yX12_quit : MethodName := ⟨RX12, "quit", "(I)I"⟩
abbrev cX12_up : ByteArray := prog_1_method_13_code
def yX12_up : MethodName := ⟨RX12, "up", "(I)I"⟩
abbrev cX12_hours : ByteArray := prog_1_method_14_code
def yX12_hours : MethodName := ⟨RX12, "hours", "(I)I"⟩
abbrev cX12_undo : ByteArray := prog_1_method_15_code
def yX12_undo : MethodName := ⟨RX12, "undo", "()I"⟩
abbrev cX12_takes : ByteArray := prog_1_method_16_code
def yX12_takes : MethodName := ⟨RX12, "takes", "(II)I"⟩
abbrev cX12_lacks : ByteArray := prog_1_method_17_code
def yX12_lacks : MethodName := ⟨RX12, "lacks", "(I)I"⟩
abbrev cX12_plan : ByteArray := prog_1_method_18_code
def yX12_plan : MethodName := ⟨RX12, "plan", "(II)I"⟩
abbrev cX12_planAt : ByteArray := prog_1_method_19_code
def yX12_planAt : MethodName := ⟨RX12, "planAt", "(I)I"⟩
abbrev cX12_sure : ByteArray := prog_1_method_20_code
def yX12_sure : MethodName := ⟨RX12, "sure", "(III)I"⟩
abbrev cX12_crew : ByteArray := prog_1_method_21_code
def yX12_crew : MethodName := ⟨RX12, "crew", "(I)I"⟩
abbrev cX12_bagsCarriedBy : ByteArray := prog_1_method_22_code
def yX12_bagsCarriedBy : MethodName := ⟨RX12, "bagsCarriedBy", "(III)I"⟩
abbrev cX12_crewed : ByteArray := prog_1_method_23_code
def yX12_crewed : MethodName := ⟨RX12, "crewed", "(I)I"⟩
abbrev cX12_rests : ByteArray := prog_1_method_24_code
def yX12_rests : MethodName := ⟨RX12, "rests", "(II)I"⟩
abbrev cX12_isRest : ByteArray := prog_1_method_25_code
def yX12_isRest : MethodName := ⟨RX12, "isRest", "(IIII)Z"⟩
abbrev cX12_savedInGame : ByteArray := prog_1_method_26_code
def yX12_savedInGame : MethodName := ⟨RX12, "savedInGame", "(IIII)I"⟩
abbrev cX12_walling : ByteArray := prog_1_method_27_code
def yX12_walling : MethodName := ⟨RX12, "walling", "()I"⟩
abbrev cX12_due : ByteArray := prog_1_method_28_code
def yX12_due : MethodName := ⟨RX12, "due", "(II)I"⟩
abbrev cX12_leaks : ByteArray := prog_1_method_29_code
def yX12_leaks : MethodName := ⟨RX12, "leaks", "(II)I"⟩
abbrev cX12_when : ByteArray := prog_1_method_30_code
def yX12_when : MethodName := ⟨RX12, "when", "(I)I"⟩
abbrev cX12_last : ByteArray := prog_1_method_31_code
def yX12_last : MethodName := ⟨RX12, "last", "()I"⟩
abbrev cX12_tryToTheEnd : ByteArray := prog_1_method_32_code
def yX12_tryToTheEnd : MethodName := ⟨RX12, "tryToTheEnd", "()V"⟩
abbrev cX12_carpets : ByteArray := prog_1_method_33_code
def yX12_carpets : MethodName := ⟨RX12, "carpets", "(I)I"⟩
abbrev cX12_dearestCarpets : ByteArray := prog_1_method_34_code
def yX12_dearestCarpets : MethodName := ⟨RX12, "dearestCarpets", "(I)I"⟩
abbrev cX12_carried : ByteArray := prog_1_method_35_code
def yX12_carried : MethodName := ⟨RX12, "carried", "()I"⟩
abbrev cX12_built : ByteArray := prog_1_method_36_code
def yX12_built : MethodName := ⟨RX12, "built", "()I"⟩
abbrev cX12_most : ByteArray := prog_1_method_37_code
def yX12_most : MethodName := ⟨RX12, "most", "()I"⟩
abbrev cX12_drawn : ByteArray := prog_1_method_38_code
def yX12_drawn : MethodName := ⟨RX12, "drawn", "(II)I"⟩
abbrev cX12_odds : ByteArray := prog_1_method_39_code
def yX12_odds : MethodName := ⟨RX12, "odds", "(III)I"⟩
abbrev cX12_book : ByteArray := prog_1_method_40_code
def yX12_book : MethodName := ⟨RX12, "book", "(I)I"⟩
abbrev cX12_told : ByteArray := prog_1_method_41_code
def yX12_told : MethodName := ⟨RX12, "told", "(I)I"⟩
abbrev cX12_sentence : ByteArray := prog_1_method_42_code
def yX12_sentence : MethodName := ⟨RX12, "sentence", "()I"⟩
abbrev cX12_said : ByteArray := prog_1_method_43_code
def yX12_said : MethodName := ⟨RX12, "said", "(I)I"⟩
abbrev cX12_image : ByteArray := prog_1_method_44_code
def yX12_image : MethodName := ⟨RX12, "image", "(I)Z"⟩
abbrev cX12_restore : ByteArray := prog_1_method_45_code
def yX12_restore : MethodName := ⟨RX12, "restore", "(I)Z"⟩
abbrev cX12_count : ByteArray := prog_1_method_46_code
def yX12_count : MethodName := ⟨RX12, "count", "(I)I"⟩
abbrev cX12_isWithin : ByteArray := prog_1_method_47_code
def yX12_isWithin : MethodName := ⟨RX12, "isWithin", "(III)Z"⟩
abbrev cX12_bit : ByteArray := prog_1_method_48_code
def yX12_bit : MethodName := ⟨RX12, "bit", "(II)I"⟩
abbrev cX12_fraction : ByteArray := prog_1_method_49_code
def yX12_fraction : MethodName := ⟨RX12, "fraction", "(III)I"⟩
abbrev cX12_greatestCommon : ByteArray := prog_1_method_50_code
def yX12_greatestCommon : MethodName := ⟨RX12, "greatestCommon", "(II)I"⟩
abbrev cX12_copyInts : ByteArray := prog_1_method_51_code
def yX12_copyInts : MethodName := ⟨RX12, "copyInts", "([I[I)V"⟩
abbrev cX12_copyLongs : ByteArray := prog_1_method_52_code
def yX12_copyLongs : MethodName := ⟨RX12, "copyLongs", "([J[J)V"⟩
def RX13 : String := "BagsRiverModel"
def TX13 : u_T := fun k => match k with
  | 0 => ("BagsRiverModel", "thrown", "I", false)
  | 1 => ("BagsRiverModel", "tape", "[B", true)
  | 2 => ("BagsRiverModel", "length", "I", false)
  | 3 => ("BagsRiverModel", "size", "I", false)
  | 4 => ("BagsRiverModel", "p", "I", false)
  | 5 => ("BagsRiverModel", "limit", "I", false)
  | 6 => ("BagsRiverModel", "s", "[I", true)
  | 7 => ("BagsRiverModel", "h", "[I", true)
  | 8 => ("BagsRiverModel", "read", "[I", true)
  | 9 => ("BagsRiverModel", "names", "[J", true)
  | 10 => ("BagsRiverModel", "reserved", "[J", true)
  | 11 => ("BagsRiverModel", "token", "I", false)
  | 12 => ("BagsRiverModel", "at", "I", false)
  | 13 => ("BagsRiverModel", "span", "I", false)
  | 14 => ("BagsRiverModel", "number", "I", false)
  | 15 => ("BagsRiverModel", "fault", "I", false)
  | 16 => ("BagsRiverModel", "faultAt", "I", false)
  | 17 => ("BagsRiverModel", "word", "J", false)
  | 18 => ("BagsRiverModel", "got", "I", false)
  | 19 => ("BagsRiverModel", "lines", "I", false)
  | 20 => ("BagsRiverModel", "onces", "I", false)
  | 21 => ("BagsRiverModel", "undone", "[I", true)
  | 22 => ("BagsRiverModel", "before", "[I", true)
  | 23 => ("BagsRiverModel", "undoMany", "I", false)
  | 24 => ("BagsRiverModel", "heights", "[I", true)
  | 25 => ("BagsRiverModel", "gains", "[I", true)
  | 26 => ("BagsRiverModel", "planRow", "[I", true)
  | 27 => ("BagsRiverModel", "heightMany", "I", false)
  | 28 => ("BagsRiverModel", "planMany", "I", false)
  | 29 => ("BagsRiverModel", "crewFill", "I", false)
  | 30 => ("BagsRiverModel", "crewCarry", "I", false)
  | 31 => ("BagsRiverModel", "hasCrew", "Z", false)
  | 32 => ("BagsRiverModel", "wallingSet", "I", false)
  | 33 => ("BagsRiverModel", "hasWalling", "Z", false)
  | 34 => ("BagsRiverModel", "parts", "[I", true)
  | 35 => ("BagsRiverModel", "left", "[I", true)
  | 36 => ("BagsRiverModel", "carpetSet", "I", false)
  | 37 => ("BagsRiverModel", "hasCarpets", "Z", false)
  | 38 => ("BagsRiverModel", "builtMost", "I", false)
  | 39 => ("BagsRiverModel", "hasBuilt", "Z", false)
  | 40 => ("BagsRiverModel", "seed", "I", false)
  | 41 => ("BagsRiverModel", "toldMany", "I", false)
  | 42 => ("BagsRiverModel", "toldAt", "[I", true)
  | 43 => ("BagsRiverModel", "hasTold", "Z", false)
  | 44 => ("BagsRiverModel", "stack", "[I", true)
  | 45 => ("BagsRiverModel", "codes", "I", false)
  | 46 => ("BagsRiverModel", "ones", "I", false)
  | 47 => ("BagsRiverModel", "top", "I", false)
  | 48 => ("BagsRiverModel", "deep", "I", false)
  | 49 => ("BagsRiverModel", "isWhole", "Z", false)
  | 50 => ("BagsRiverModel", "truths", "[Z", true)
  | 51 => ("BagsRiverModel", "kept", "[I", true)
  | 52 => ("BagsRiverModel", "namesKept", "[J", true)
  | _ => ("BagsRiverModel", "areKept", "[Z", true)
def tyX13 : Nat → FieldType := fun k => match k with
  | 0 => .int
  | 1 => .array .byte
  | 2 => .int
  | 3 => .int
  | 4 => .int
  | 5 => .int
  | 6 => .array .int
  | 7 => .array .int
  | 8 => .array .int
  | 9 => .array .long
  | 10 => .array .long
  | 11 => .int
  | 12 => .int
  | 13 => .int
  | 14 => .int
  | 15 => .int
  | 16 => .int
  | 17 => .long
  | 18 => .int
  | 19 => .int
  | 20 => .int
  | 21 => .array .int
  | 22 => .array .int
  | 23 => .int
  | 24 => .array .int
  | 25 => .array .int
  | 26 => .array .int
  | 27 => .int
  | 28 => .int
  | 29 => .int
  | 30 => .int
  | 31 => .boolean
  | 32 => .int
  | 33 => .boolean
  | 34 => .array .int
  | 35 => .array .int
  | 36 => .int
  | 37 => .boolean
  | 38 => .int
  | 39 => .boolean
  | 40 => .int
  | 41 => .int
  | 42 => .array .int
  | 43 => .boolean
  | 44 => .array .int
  | 45 => .int
  | 46 => .int
  | 47 => .int
  | 48 => .int
  | 49 => .boolean
  | 50 => .array .boolean
  | 51 => .array .int
  | 52 => .array .long
  | _ => .array .boolean
abbrev wsX130 : List Cond := u_ws RX13 TX13 54
theorem nmX13 : ∀ a, a < 54 → ∀ b, b < 54 → a ≠ b → (TX13 a).2.1 ≠ (TX13 b).2.1 := by decide +kernel
theorem tyX13_ok : ∀ k, k < 54 → parseFieldDescriptor (TX13 k).2.2.1 = some (tyX13 k) := by decide +kernel
abbrev cX13_thrown : ByteArray := prog_15_method_1_code
def yX13_thrown : MethodName := ⟨RX13, "thrown", "()I"⟩
abbrev cX13_throwsIf : ByteArray := prog_15_method_2_code
def yX13_throwsIf : MethodName := ⟨RX13, "throwsIf", "(Z)Z"⟩
abbrev cX13_feed : ByteArray := prog_15_method_3_code
def yX13_feed : MethodName := ⟨RX13, "feed", "(IIIII)I"⟩
abbrev cX13_four : ByteArray := prog_15_method_4_code
def yX13_four : MethodName := ⟨RX13, "four", "(I)V"⟩
abbrev cX13_end : ByteArray := prog_15_method_5_code
def yX13_end : MethodName := ⟨RX13, "end", "(I)Z"⟩
abbrev cX13_taken : ByteArray := prog_15_method_6_code
def yX13_taken : MethodName := ⟨RX13, "taken", "(I)V"⟩
abbrev cX13_isIn : ByteArray := prog_15_method_7_code
def yX13_isIn : MethodName := ⟨RX13, "isIn", "(III)Z"⟩
abbrev cX13_bitOf : ByteArray := prog_15_method_8_code
def yX13_bitOf : MethodName := ⟨RX13, "bitOf", "(II)Z"⟩
abbrev cX13_lesser : ByteArray := prog_15_method_9_code
def yX13_lesser : MethodName := ⟨RX13, "lesser", "(II)I"⟩
abbrev cX13_greater : ByteArray := prog_15_method_10_code
def yX13_greater : MethodName := ⟨RX13, "greater", "(II)I"⟩
abbrev cX13_bits : ByteArray := prog_15_method_11_code
def yX13_bits : MethodName := ⟨RX13, "bits", "(I)I"⟩
abbrev cX13_part : ByteArray := prog_15_method_12_code
def yX13_part : MethodName := ⟨RX13, "part", "(III)I"⟩
abbrev cX13_octet : ByteArray := prog_15_method_13_code
def yX13_octet : MethodName := ⟨RX13, "octet", "(I)I"⟩
abbrev cX13_init : ByteArray := prog_15_method_14_code
def yX13_init : MethodName := ⟨RX13, "<init>", "()V"⟩
abbrev cX13_clears : ByteArray := prog_15_method_15_code
def yX13_clears : MethodName := ⟨RX13, "clears", "()V"⟩
abbrev cX13_peek : ByteArray := prog_15_method_16_code
def yX13_peek : MethodName := ⟨RX13, "peek", "()I"⟩
abbrev cX13_isSmall : ByteArray := prog_15_method_17_code
def yX13_isSmall : MethodName := ⟨RX13, "isSmall", "(I)Z"⟩
abbrev cX13_isDigit : ByteArray := prog_15_method_18_code
def yX13_isDigit : MethodName := ⟨RX13, "isDigit", "(I)Z"⟩
abbrev cX13_next : ByteArray := prog_15_method_19_code
def yX13_next : MethodName := ⟨RX13, "next", "()V"⟩
abbrev cX13_bad : ByteArray := prog_15_method_20_code
def yX13_bad : MethodName := ⟨RX13, "bad", "(I)Z"⟩
abbrev cX13_isWord : ByteArray := prog_15_method_21_code
def yX13_isWord : MethodName := ⟨RX13, "isWord", "(J)Z"⟩
abbrev cX13_isSign : ByteArray := prog_15_method_22_code
def yX13_isSign : MethodName := ⟨RX13, "isSign", "(I)Z"⟩
abbrev cX13_sign : ByteArray := prog_15_method_23_code
def yX13_sign : MethodName := ⟨RX13, "sign", "(I)Z"⟩
abbrev cX13_isName : ByteArray := prog_15_method_24_code
def yX13_isName : MethodName := ⟨RX13, "isName", "()Z"⟩
abbrev cX13_takesNumber : ByteArray := prog_15_method_25_code
def yX13_takesNumber : MethodName := ⟨RX13, "takesNumber", "(II)Z"⟩
abbrev cX13_puts : ByteArray := prog_15_method_26_code
def yX13_puts : MethodName := ⟨RX13, "puts", "(III)Z"⟩
abbrev cX13_find : ByteArray := prog_15_method_27_code
def yX13_find : MethodName := ⟨RX13, "find", "(II)I"⟩
abbrev cX13_fresh : ByteArray := prog_15_method_28_code
def yX13_fresh : MethodName := ⟨RX13, "fresh", "(I)Z"⟩
abbrev cX13_looksAt : ByteArray := prog_15_method_29_code
def yX13_looksAt : MethodName := ⟨RX13, "looksAt", "(II)Z"⟩
abbrev cX13_takesName : ByteArray := prog_15_method_30_code
def yX13_takesName : MethodName := ⟨RX13, "takesName", "(II)Z"⟩
abbrev cX13_once : ByteArray := prog_15_method_31_code
def yX13_once : MethodName := ⟨RX13, "once", "(IIII)Z"⟩
abbrev cX13_line : ByteArray := prog_15_method_32_code
def yX13_line : MethodName := ⟨RX13, "line", "()Z"⟩
abbrev cX13_pair : ByteArray := prog_15_method_33_code
def yX13_pair : MethodName := ⟨RX13, "pair", "(IIIIIII)Z"⟩
abbrev cX13_readHouse : ByteArray := prog_15_method_34_code
def yX13_readHouse : MethodName := ⟨RX13, "readHouse", "()Z"⟩
abbrev cX13_street : ByteArray := prog_15_method_35_code
def yX13_street : MethodName := ⟨RX13, "street", "()I"⟩
abbrev cX13_fault : ByteArray := prog_15_method_36_code
def yX13_fault : MethodName := ⟨RX13, "fault", "()I"⟩
abbrev cX13_isWall : ByteArray := prog_15_method_37_code
def yX13_isWall : MethodName := ⟨RX13, "isWall", "(I)Z"⟩
abbrev cX13_isHouse : ByteArray := prog_15_method_38_code
def yX13_isHouse : MethodName := ⟨RX13, "isHouse", "(I)Z"⟩
abbrev cX13_isDrain : ByteArray := prog_15_method_39_code
def yX13_isDrain : MethodName := ⟨RX13, "isDrain", "(I)Z"⟩
abbrev cX13_isOutside : ByteArray := prog_15_method_40_code
def yX13_isOutside : MethodName := ⟨RX13, "isOutside", "(I)Z"⟩
abbrev cX13_takesOf : ByteArray := prog_15_method_41_code
def yX13_takesOf : MethodName := ⟨RX13, "takesOf", "(II)I"⟩
abbrev cX13_heightOf : ByteArray := prog_15_method_42_code
def yX13_heightOf : MethodName := ⟨RX13, "heightOf", "(I)I"⟩
abbrev cX13_riverAt : ByteArray := prog_15_method_43_code
def yX13_riverAt : MethodName := ⟨RX13, "riverAt", "(I)I"⟩
abbrev cX13_isStopped : ByteArray := prog_15_method_44_code
def yX13_isStopped : MethodName := ⟨RX13, "isStopped", "(I)Z"⟩
abbrev cX13_leaksOf : ByteArray := prog_15_method_45_code
def yX13_leaksOf : MethodName := ⟨RX13, "leaksOf", "(II)I"⟩
abbrev cX13_housesOf : ByteArray := prog_15_method_46_code
def yX13_housesOf : MethodName := ⟨RX13, "housesOf", "(I)I"⟩
abbrev cX13_wall : ByteArray := prog_15_method_47_code
def yX13_wall : MethodName := ⟨RX13, "wall", "(II)I"⟩
abbrev cX13_house : ByteArray := prog_15_method_48_code
def yX13_house : MethodName := ⟨RX13, "house", "(II)I"⟩
abbrev cX13_drain : ByteArray := prog_15_method_49_code
def yX13_drain : MethodName := ⟨RX13, "drain", "(II)I"⟩
abbrev cX13_eachBy : ByteArray := prog_15_method_50_code
def yX13_eachBy : MethodName := ⟨RX13, "eachBy", "(I)I"⟩
abbrev cX13_saved : ByteArray := prog_15_method_51_code
def yX13_saved : MethodName := ⟨RX13, "saved", "()I"⟩
abbrev cX13_now : ByteArray := prog_15_method_52_code
def yX13_now : MethodName := ⟨RX13, "now", "(I)I"⟩
abbrev cX13_posted : ByteArray := prog_15_method_53_code
def yX13_posted : MethodName := ⟨RX13, "posted", "(I)I"⟩
abbrev cX13_isWhere : ByteArray := prog_15_method_54_code
def yX13_isWhere : MethodName := ⟨RX13, "isWhere", "(I)Z"⟩
abbrev cX13_isPosted : ByteArray := prog_15_method_55_code
def yX13_isPosted : MethodName := ⟨RX13, "isPosted", "(III)Z"⟩
abbrev cX13_posts : ByteArray := prog_15_method_56_code
def yX13_posts : MethodName := ⟨RX13, "posts", "(III)V"⟩
abbrev cX13_quits : ByteArray := prog_15_method_57_code
def yX13_quits : MethodName := ⟨RX13, "quits", "(I)V"⟩
abbrev cX13_whyUp : ByteArray := prog_15_method_58_code
def yX13_whyUp : MethodName := ⟨RX13, "whyUp", "(I)I"⟩
abbrev cX13_carriesUp : ByteArray := prog_15_method_59_code
def yX13_carriesUp : MethodName := ⟨RX13, "carriesUp", "(I)V"⟩
abbrev cX13_isOpen : ByteArray := prog_15_method_60_code
def yX13_isOpen : MethodName := ⟨RX13, "isOpen", "()Z"⟩
abbrev cX13_wouldFlood : ByteArray := prog_15_method_61_code
def yX13_wouldFlood : MethodName := ⟨RX13, "wouldFlood", "(II)Z"⟩
abbrev cX13_hour : ByteArray := prog_15_method_62_code
def yX13_hour : MethodName := ⟨RX13, "hour", "()V"⟩
abbrev cX13_goesOn : ByteArray := prog_15_method_63_code
def yX13_goesOn : MethodName := ⟨RX13, "goesOn", "(I)I"⟩
abbrev cX13_post : ByteArray := prog_15_method_64_code
def yX13_post : MethodName := ⟨RX13, "post", "(III)I"⟩
abbrev cX13_quit : ByteArray := prog_15_method_65_code
def yX13_quit : MethodName := ⟨RX13, "quit", "(I)I"⟩
abbrev cX13_up : ByteArray := prog_15_method_66_code
def yX13_up : MethodName := ⟨RX13, "up", "(I)I"⟩
abbrev cX13_hours : ByteArray := prog_15_method_67_code
def yX13_hours : MethodName := ⟨RX13, "hours", "(I)I"⟩
abbrev cX13_keep : ByteArray := prog_15_method_68_code
def yX13_keep : MethodName := ⟨RX13, "keep", "()V"⟩
abbrev cX13_undo : ByteArray := prog_15_method_69_code
def yX13_undo : MethodName := ⟨RX13, "undo", "()I"⟩
abbrev cX13_tries : ByteArray := prog_15_method_70_code
def yX13_tries : MethodName := ⟨RX13, "tries", "()V"⟩
abbrev cX13_back : ByteArray := prog_15_method_71_code
def yX13_back : MethodName := ⟨RX13, "back", "()V"⟩
abbrev cX13_takes : ByteArray := prog_15_method_72_code
def yX13_takes : MethodName := ⟨RX13, "takes", "(II)I"⟩
abbrev cX13_lacks : ByteArray := prog_15_method_73_code
def yX13_lacks : MethodName := ⟨RX13, "lacks", "(I)I"⟩
abbrev cX13_allOdds : ByteArray := prog_15_method_74_code
def yX13_allOdds : MethodName := ⟨RX13, "allOdds", "()I"⟩
abbrev cX13_laysHeights : ByteArray := prog_15_method_75_code
def yX13_laysHeights : MethodName := ⟨RX13, "laysHeights", "()V"⟩
abbrev cX13_gainOf : ByteArray := prog_15_method_76_code
def yX13_gainOf : MethodName := ⟨RX13, "gainOf", "(II)I"⟩
abbrev cX13_digit : ByteArray := prog_15_method_77_code
def yX13_digit : MethodName := ⟨RX13, "digit", "(II)I"⟩
abbrev cX13_plan : ByteArray := prog_15_method_78_code
def yX13_plan : MethodName := ⟨RX13, "plan", "(II)I"⟩
abbrev cX13_planAt : ByteArray := prog_15_method_79_code
def yX13_planAt : MethodName := ⟨RX13, "planAt", "(I)I"⟩
abbrev cX13_sure : ByteArray := prog_15_method_80_code
def yX13_sure : MethodName := ⟨RX13, "sure", "(III)I"⟩
abbrev cX13_carriedBy : ByteArray := prog_15_method_81_code
def yX13_carriedBy : MethodName := ⟨RX13, "carriedBy", "(III)I"⟩
abbrev cX13_crew : ByteArray := prog_15_method_82_code
def yX13_crew : MethodName := ⟨RX13, "crew", "(I)I"⟩
abbrev cX13_crewed : ByteArray := prog_15_method_83_code
def yX13_crewed : MethodName := ⟨RX13, "crewed", "(I)I"⟩
abbrev cX13_greatestCrest : ByteArray := prog_15_method_84_code
def yX13_greatestCrest : MethodName := ⟨RX13, "greatestCrest", "()I"⟩
abbrev cX13_holds : ByteArray := prog_15_method_85_code
def yX13_holds : MethodName := ⟨RX13, "holds", "(III)Z"⟩
abbrev cX13_isSavedBy : ByteArray := prog_15_method_86_code
def yX13_isSavedBy : MethodName := ⟨RX13, "isSavedBy", "(IIII)Z"⟩
abbrev cX13_restsAt : ByteArray := prog_15_method_87_code
def yX13_restsAt : MethodName := ⟨RX13, "restsAt", "(IIIII)Z"⟩
abbrev cX13_rests : ByteArray := prog_15_method_88_code
def yX13_rests : MethodName := ⟨RX13, "rests", "(II)I"⟩
abbrev cX13_walling : ByteArray := prog_15_method_89_code
def yX13_walling : MethodName := ⟨RX13, "walling", "()I"⟩
abbrev cX13_due : ByteArray := prog_15_method_90_code
def yX13_due : MethodName := ⟨RX13, "due", "(II)I"⟩
abbrev cX13_leaks : ByteArray := prog_15_method_91_code
def yX13_leaks : MethodName := ⟨RX13, "leaks", "(II)I"⟩
abbrev cX13_when : ByteArray := prog_15_method_92_code
def yX13_when : MethodName := ⟨RX13, "when", "(I)I"⟩
abbrev cX13_last : ByteArray := prog_15_method_93_code
def yX13_last : MethodName := ⟨RX13, "last", "()I"⟩
abbrev cX13_carpets : ByteArray := prog_15_method_94_code
def yX13_carpets : MethodName := ⟨RX13, "carpets", "(I)I"⟩
abbrev cX13_carried : ByteArray := prog_15_method_95_code
def yX13_carried : MethodName := ⟨RX13, "carried", "()I"⟩
abbrev cX13_built : ByteArray := prog_15_method_96_code
def yX13_built : MethodName := ⟨RX13, "built", "()I"⟩
abbrev cX13_most : ByteArray := prog_15_method_97_code
def yX13_most : MethodName := ⟨RX13, "most", "()I"⟩
abbrev cX13_draw : ByteArray := prog_15_method_98_code
def yX13_draw : MethodName := ⟨RX13, "draw", "(I)I"⟩
abbrev cX13_draws : ByteArray := prog_15_method_99_code
def yX13_draws : MethodName := ⟨RX13, "draws", "(II)I"⟩
abbrev cX13_drawn : ByteArray := prog_15_method_100_code
def yX13_drawn : MethodName := ⟨RX13, "drawn", "(II)I"⟩
abbrev cX13_odds : ByteArray := prog_15_method_101_code
def yX13_odds : MethodName := ⟨RX13, "odds", "(III)I"⟩
abbrev cX13_bookLine : ByteArray := prog_15_method_102_code
def yX13_bookLine : MethodName := ⟨RX13, "bookLine", "()Z"⟩
abbrev cX13_postLine : ByteArray := prog_15_method_103_code
def yX13_postLine : MethodName := ⟨RX13, "postLine", "(I)Z"⟩
abbrev cX13_does : ByteArray := prog_15_method_104_code
def yX13_does : MethodName := ⟨RX13, "does", "(IIII)I"⟩
abbrev cX13_book : ByteArray := prog_15_method_105_code
def yX13_book : MethodName := ⟨RX13, "book", "(I)I"⟩
abbrev cX13_told : ByteArray := prog_15_method_106_code
def yX13_told : MethodName := ⟨RX13, "told", "(I)I"⟩
abbrev cX13_code : ByteArray := prog_15_method_107_code
def yX13_code : MethodName := ⟨RX13, "code", "(III)V"⟩
abbrev cX13_joins : ByteArray := prog_15_method_108_code
def yX13_joins : MethodName := ⟨RX13, "joins", "(I)V"⟩
abbrev cX13_nots : ByteArray := prog_15_method_109_code
def yX13_nots : MethodName := ⟨RX13, "nots", "()V"⟩
abbrev cX13_leafOf : ByteArray := prog_15_method_110_code
def yX13_leafOf : MethodName := ⟨RX13, "leafOf", "()I"⟩
abbrev cX13_operand : ByteArray := prog_15_method_111_code
def yX13_operand : MethodName := ⟨RX13, "operand", "()Z"⟩
abbrev cX13_behind : ByteArray := prog_15_method_112_code
def yX13_behind : MethodName := ⟨RX13, "behind", "()Z"⟩
abbrev cX13_sentence : ByteArray := prog_15_method_113_code
def yX13_sentence : MethodName := ⟨RX13, "sentence", "()I"⟩
abbrev cX13_isLeaf : ByteArray := prog_15_method_114_code
def yX13_isLeaf : MethodName := ⟨RX13, "isLeaf", "(IIII)Z"⟩
abbrev cX13_isSaid : ByteArray := prog_15_method_115_code
def yX13_isSaid : MethodName := ⟨RX13, "isSaid", "(I)Z"⟩
abbrev cX13_said : ByteArray := prog_15_method_116_code
def yX13_said : MethodName := ⟨RX13, "said", "(I)I"⟩
abbrev cX13_image : ByteArray := prog_15_method_117_code
def yX13_image : MethodName := ⟨RX13, "image", "(I)Z"⟩
abbrev cX13_restore : ByteArray := prog_15_method_118_code
def yX13_restore : MethodName := ⟨RX13, "restore", "(I)Z"⟩
abbrev cX13_count : ByteArray := prog_15_method_119_code
def yX13_count : MethodName := ⟨RX13, "count", "(I)I"⟩
def RJx145de : String := "java/io/Serializable"
def TJx145de : u_T := fun k => match k with
  | _ => ("", "", "", false)
def tyJx145de : Nat → FieldType := fun k => match k with
  | _ => .int
abbrev wsJx145de0 : List Cond := u_ws RJx145de TJx145de 0
theorem nmJx145de : ∀ a, a < 0 → ∀ b, b < 0 → a ≠ b → (TJx145de a).2.1 ≠ (TJx145de b).2.1 := by decide +kernel
theorem tyJx145de_ok : ∀ k, k < 0 → parseFieldDescriptor (TJx145de k).2.2.1 = some (tyJx145de k) := by decide +kernel
def RJxb160c : String := "java/lang/Comparable"
def TJxb160c : u_T := fun k => match k with
  | _ => ("", "", "", false)
def tyJxb160c : Nat → FieldType := fun k => match k with
  | _ => .int
abbrev wsJxb160c0 : List Cond := u_ws RJxb160c TJxb160c 0
theorem nmJxb160c : ∀ a, a < 0 → ∀ b, b < 0 → a ≠ b → (TJxb160c a).2.1 ≠ (TJxb160c b).2.1 := by decide +kernel
theorem tyJxb160c_ok : ∀ k, k < 0 → parseFieldDescriptor (TJxb160c k).2.2.1 = some (tyJxb160c k) := by decide +kernel
def RJx29ce0 : String := "java/lang/Enum"
def TJx29ce0 : u_T := fun k => match k with
  | _ => ("", "", "", false)
def tyJx29ce0 : Nat → FieldType := fun k => match k with
  | _ => .int
abbrev wsJx29ce00 : List Cond := u_ws RJx29ce0 TJx29ce0 0
theorem nmJx29ce0 : ∀ a, a < 0 → ∀ b, b < 0 → a ≠ b → (TJx29ce0 a).2.1 ≠ (TJx29ce0 b).2.1 := by decide +kernel
theorem tyJx29ce0_ok : ∀ k, k < 0 → parseFieldDescriptor (TJx29ce0 k).2.2.1 = some (tyJx29ce0 k) := by decide +kernel
abbrev cJx29ce0_ordinal_8abf5 : ByteArray := prog_18_method_2_code
def yJx29ce0_ordinal_8abf5 : MethodName := ⟨RJx29ce0, "ordinal", "()I"⟩
def RJ6 : String := "java/lang/Integer"
def TJ6 : u_T := fun k => match k with
  | _ => ("", "", "", false)
def tyJ6 : Nat → FieldType := fun k => match k with
  | _ => .int
abbrev wsJ60 : List Cond := u_ws RJ6 TJ6 0
theorem nmJ6 : ∀ a, a < 0 → ∀ b, b < 0 → a ≠ b → (TJ6 a).2.1 ≠ (TJ6 b).2.1 := by decide +kernel
theorem tyJ6_ok : ∀ k, k < 0 → parseFieldDescriptor (TJ6 k).2.2.1 = some (tyJ6 k) := by decide +kernel
abbrev cJ6_bitCount_0f7a4 : ByteArray := prog_20_method_49_code
def yJ6_bitCount_0f7a4 : MethodName := ⟨RJ6, "bitCount", "(I)I"⟩
def RJ9 : String := "java/lang/Math"
def TJ9 : u_T := fun k => match k with
  | _ => ("", "", "", false)
def tyJ9 : Nat → FieldType := fun k => match k with
  | _ => .int
abbrev wsJ90 : List Cond := u_ws RJ9 TJ9 0
theorem nmJ9 : ∀ a, a < 0 → ∀ b, b < 0 → a ≠ b → (TJ9 a).2.1 ≠ (TJ9 b).2.1 := by decide +kernel
theorem tyJ9_ok : ∀ k, k < 0 → parseFieldDescriptor (TJ9 k).2.2.1 = some (tyJ9 k) := by decide +kernel
abbrev cJ9_floorMod_7cf53 : ByteArray := prog_21_method_50_code
def yJ9_floorMod_7cf53 : MethodName := ⟨RJ9, "floorMod", "(II)I"⟩
abbrev cJ9_max_7cf53 : ByteArray := prog_21_method_65_code
def yJ9_max_7cf53 : MethodName := ⟨RJ9, "max", "(II)I"⟩
abbrev cJ9_min_7cf53 : ByteArray := prog_21_method_69_code
def yJ9_min_7cf53 : MethodName := ⟨RJ9, "min", "(II)I"⟩
def RJ0 : String := "java/lang/String"
def TJ0 : u_T := fun k => match k with
  | _ => ("", "", "", false)
def tyJ0 : Nat → FieldType := fun k => match k with
  | _ => .int
abbrev wsJ00 : List Cond := u_ws RJ0 TJ0 0
theorem nmJ0 : ∀ a, a < 0 → ∀ b, b < 0 → a ≠ b → (TJ0 a).2.1 ≠ (TJ0 b).2.1 := by decide +kernel
theorem tyJ0_ok : ∀ k, k < 0 → parseFieldDescriptor (TJ0 k).2.2.1 = some (tyJ0 k) := by decide +kernel
def RJ10 : String := "java/lang/System"
def TJ10 : u_T := fun k => match k with
  | _ => ("", "", "", false)
def tyJ10 : Nat → FieldType := fun k => match k with
  | _ => .int
abbrev wsJ100 : List Cond := u_ws RJ10 TJ10 0
theorem nmJ10 : ∀ a, a < 0 → ∀ b, b < 0 → a ≠ b → (TJ10 a).2.1 ≠ (TJ10 b).2.1 := by decide +kernel
theorem tyJ10_ok : ∀ k, k < 0 → parseFieldDescriptor (TJ10 k).2.2.1 = some (tyJ10 k) := by decide +kernel
def RJxfd54e : String := "java/lang/constant/Constable"
def TJxfd54e : u_T := fun k => match k with
  | _ => ("", "", "", false)
def tyJxfd54e : Nat → FieldType := fun k => match k with
  | _ => .int
abbrev wsJxfd54e0 : List Cond := u_ws RJxfd54e TJxfd54e 0
theorem nmJxfd54e : ∀ a, a < 0 → ∀ b, b < 0 → a ≠ b → (TJxfd54e a).2.1 ≠ (TJxfd54e b).2.1 := by decide +kernel
theorem tyJxfd54e_ok : ∀ k, k < 0 → parseFieldDescriptor (TJxfd54e k).2.2.1 = some (tyJxfd54e k) := by decide +kernel
def RL : String := "BagsRiverLaw"
abbrev cL_house : ByteArray := method_3_code
def yL_house : MethodName := ⟨RL, "house", "(LBagsRiver;II[J)I"⟩
abbrev cL_plan : ByteArray := method_4_code
def yL_plan : MethodName := ⟨RL, "plan", "(LBagsRiver;II[J)I"⟩
abbrev cL_sure : ByteArray := method_5_code
def yL_sure : MethodName := ⟨RL, "sure", "(LBagsRiver;III[J)I"⟩
abbrev cL_law : ByteArray := code
def yL_law : MethodName := ⟨RL, "law", "([I)Z"⟩
end
section
/-! THE SMALL MACHINE: values with logical addresses (0: null), a memory of ints, longs, references; 'wp' says what must hold so that the code comes to its end -/
abbrev Mm : Type := (Nat → Nat → Int32) × (Nat → Nat → Int64) × (Nat → Nat → Nat)
abbrev Op : Type := Nat × Instr × List Nat
abbrev I (k : Int) : Int32 := Int32.ofInt k
/-- which class lies at an address: 1 + its place in 'classes'; 100 int[], 101 long[], 102 byte[], 103 boolean[], 104 Word[], 105 State[], 106 Image[], 107 int[][] -/
def layN : Nat := 4351411569794259188571324361283572338231175497469368825399576094327917042519628684423179583048229327354124563243789744370054177617824605522707015870102371747853249292693755184139794776003783305443194193982722986190735056005000718187310036953296695773793193760374023469502943404372755421621599406563092975941219494284210200721481150020404199320459865046992166813108548249500859973238890523003335584338441458252449746766605874935426009257613350355620370374211293396698757511601095276684132069362614186107917719785981360953776482816071654193068870561433469911710555424075766611148009802925902826423115456915831863051984520936892634798658291553883995006321154918738939407391359444694878251573928706558176310288984626553452707497067807287186069182459051140421861402203955222676337333938709014878800359042075676803121394757789658486210753957814166921910371649712202336950547788698827232770796223852615345923706883852292978204136266919334034485453209807608703844895935567769116465031954478406835546911736242320385508336448872189338090723869819565538917297286144397283786114204000722259900076831021488608406221389938438801150250259327161214852585344259388183377382904023806490492102219811231159327622851646797120319295062010508239488855773893200367067804700047269303770868852877354111577723245106631756275815642134816157021259313428719173408561658329801912963965608320391184626418519084796468146222358401336258170761868953594862373966805900091887188297202636671301530117785220976424502139268911354244706757320284154231940858795197083825640541237286285336581925710280616122482562841321794608564400103208734584755844906325100635859721073474132983086826660053194486368649424823052502126781808461255948495713086236005834964361557724066359657665183962572128264686988971173208537302279137062890705227601437889390801486371595579567297042043544043430653212617989464011779578908838151613880795489421247824178304318158428506174792620676152870162198676500665139669330984932711689220388302174631562420441231732011679372558631640196214931988840355930956727832928939806558727572224
def alenN : Nat := 180566682105222609815111812071033180788930370703419786710934812138615437501854415094116268074047466152006692050134236714782757772507732579573747928851262155821351144695766529641945080827567948074604016586480856411605822750218730916744851514640571615193887338271925234892467786893224478577052447531382409287902521023509693978674906074854539108928743005447918144748889803026206472457744291001579488983923860520872023489559258249471745578869405084058015788185580134159455988212047031535567209018269625549656891575537452109805403162651198436203639275680214895492990342475732016833936627231398512876939763994054964511455734728019170184440286755406214350770824544337277951265158571277679418380237577210634132898637344754214885604478389821442311641323531781827957527817133903794391489791032475315124761379177309729182846974818563510694299961984116958762486534055030870410780548167397776567562139500131485978996603385903860054963996460026986899559491922702760932286273228156830702680958146672804388491431604732011176986121516997132627202974457041604455458165704348438071707893509718794958304206882659036105115999758202257175882175157384369876810317510931356837062812439671034615406222243052387444324853664854849221789864855312551872438957393979576637722109159315674802926544973917967705520813647005231540604196405385330720103121551979751525754379193475979290339162554098247730679268199831737715705733948813303848490366928398931484063715771829359652450572018490000654685560491609088651190224296132699014388212269178554515804022258216014821586888825719422894891999268848009977219065657860706196012010710296815856666893376253304069978965075401254617857292169698397381800391725807570578894422605324646632426155297084272374986845896265237141931957113373690097758459611445359560511777247852551972560108338806032958870259172668444809990273946002796101183100429448081625407284228400333281582715885130248815870025537684671370118991223468036151026464650154169688506916340155425240644398515576071712961134206621642678685136803484215561019396860005969768747309487342140714931333752875095580647355370133154799106061374410282201674512818822795327456468920975153694948881773721360398124921149333367228928836330427474528448799769178791007791410846487552352141920485031304745864452749441755783281046859890914407830764114421212800933940283249980152242184753850759366083696489285021237383200891605007114487775715254512523065872594616587808547067181319134359982794197472584539507707603261699030864233296357364448648125679806976004512127852155227776474550933828560247976398725330774994914810590973958357283555380758609929513717092352978723205737092901540548447644340350797345350761636049835964244862055379724556019269434039635965720126519194544637685644368644085983560503153637919711694504789229368845830138289326868573982718554655276984259970742786438483288138797238710019566039453632179466402450659157776840486782520813547769890233167332334389200802030293605675288176136364105973795675509206144831721718713954082171480281273412159784103268618322513694226518413761123140511038381552714925682062172161298664697888768
def lay (a : Nat) : Nat := Nat.land (Nat.shiftRight layN (Nat.mul 8 a)) 255
def alen (a : Nat) : Nat := Nat.land (Nat.shiftRight alenN (Nat.mul 12 a)) 4095
def upf {α : Type} (f : Nat → α) (k : Nat) (v : α) : Nat → α := fun j => if j = k then v else f j
def up2 {α : Type} (f : Nat → Nat → α) (a k : Nat) (v : α) : Nat → Nat → α := fun b => if b = a then upf (f a) k v else f b
def upr {α : Type} (f : Nat → Nat → α) (a : Nat) (g : Nat → α) : Nat → Nat → α := fun b => if b = a then g else f b
def cpf {α : Type} (f g : Nat → α) (sp dp n : Nat) : Nat → α := fun k => if dp ≤ k ∧ k < dp + n then f (sp + (k - dp)) else g k
def sI (M : Mm) (a k : Nat) (v : Int32) : Mm := (up2 M.1 a k v, M.2)
def sL (M : Mm) (a k : Nat) (v : Int64) : Mm := (M.1, up2 M.2.1 a k v, M.2.2)
def sR (M : Mm) (a k : Nat) (v : Nat) : Mm := (M.1, M.2.1, up2 M.2.2 a k v)
/-- an index of an array of n -/
def inR (i : Int32) (n : Nat) : Prop := ¬ (i < 0 ∨ n ≤ i.toNatClampNeg)
def stv (L : List Value) (k : Nat) (v : Value) : List Value := match k with
  | 0 => L.set 0 v
  | j + 1 => match L.getD j (.retAddr 0) with
    | .long _ => (L.set j (.retAddr 0)).set (j + 1) v
    | .double _ => (L.set j (.retAddr 0)).set (j + 1) v
    | _ => L.set (j + 1) v
def stw (L : List Value) (k : Nat) (v : Value) : List Value := (stv L k v).set (k + 1) (.retAddr 0)
def jm (C : List Op) (t : Nat) : List Op := match C with
  | [] => []
  | o :: r => cond (Nat.beq o.1 t) (o :: r) (jm r t)
def cmpI (c : Jvm.ClassFile.Cond) (a b : Int32) : Prop := match c with
  | .eq => a = b
  | .ne => ¬ a = b
  | .lt => a < b
  | .ge => b ≤ a
  | .gt => b < a
  | .le => a ≤ b
def swT (k : Nat → Prop) (x : Int32) (lo : Int) (dflt : Nat) (P : Prop) : List Nat → Prop
  | [] => P → k dflt
  | t :: r => (x = I lo → k t) ∧ swT k x (lo + 1) dflt (¬ x = I lo ∧ P) r

/-- what the enum's switch table holds, by ordinal -/
def swTab (k : Nat) : Int := match k with
  | 0 => 1 | 1 => 2 | 2 => 11 | 3 => 3 | 4 => 4 | 5 => 5 | 6 => 6 | 7 => 7 | 8 => 8 | 16 => 9 | 17 => 10 | 18 => 12 | 19 => 13 | 20 => 14 | 21 => 15 | 22 => 16 | _ => 0
def pkTab (k : Nat) : Int64 := match k with
  | 0 => 453774 | 1 => 4562600 | 2 => 6123643853 | 3 => 2481044 | 4 => 1952795 | 5 => 3755273 | 6 => 232546955 | 7 => 375088 | 8 => 355568 | 9 => 326396 | 10 => 350183 | 11 => 583 | 12 => 168984 | 13 => 423 | 14 => 1111 | 15 => 10631 | 16 => 2504979733 | 17 => 11486992 | 18 => 374873 | 19 => 31519426 | 20 => 12532058 | 21 => 3436200 | 22 => 212302449 | _ => 0
abbrev EE : Type := Nat → List Value → Mm → Option Value → Mm → Prop
abbrev JJ : Type := Nat → List Value → List Value → Mm → Prop
/-- null, or a constant of the enum -/
def rE (a : Nat) : Prop := a = 0 ∨ (600 ≤ a ∧ a < 623)
def cmpA (c : Jvm.ClassFile.ACond) (a b : Nat) : Prop := match c with
  | .eq => a = b
  | .ne => ¬ a = b
def ldI (L : List Value) (k : Nat) (K : Value → Prop) : Prop := match L.getD k (.retAddr 0) with
  | .int x => K (.int x)
  | _ => False
def ldL (L : List Value) (k : Nat) (K : Value → Prop) : Prop := match L.getD k (.retAddr 0) with
  | .long x => K (.long x)
  | _ => False
def ldA (L : List Value) (k : Nat) (K : Value → Prop) : Prop := match L.getD k (.retAddr 0) with
  | .ref x => K (.ref x)
  | _ => False
def popI (S : List Value) (K : Int32 → List Value → Prop) : Prop := match S with
  | .int x :: r => K x r
  | _ => False
def popL (S : List Value) (K : Int64 → List Value → Prop) : Prop := match S with
  | .long x :: r => K x r
  | _ => False
def popA (S : List Value) (K : Nat → List Value → Prop) : Prop := match S with
  | .ref x :: r => K x r
  | _ => False
/-- one slot, of the first category -/
def pop1 (S : List Value) (K : Value → List Value → Prop) : Prop := match S with
  | .ref x :: r => K (.ref x) r
  | .int x :: r => K (.int x) r
  | _ => False
/-- nothing -/
def popN (S : List Value) (K : Prop) : Prop := match S with
  | [] => K
  | _ => False
def wpGet (a ci k : Nat) (M : Mm) (K : Value → Prop) : List Nat → Prop
  | 0 :: _ => lay a = ci + 1 ∧ K (.int (M.1 a k))
  | 5 :: _ => lay a = ci + 1 ∧ K (.int (M.1 a k))
  | 1 :: _ => lay a = ci + 1 ∧ K (.long (M.2.1 a k))
  | 2 :: _ => lay a = ci + 1 ∧ K (.ref (M.2.2 a k))
  | 3 :: off :: _ => lay a = ci + 1 ∧ K (.ref (a + off))
  | 4 :: b :: _ => lay a = ci + 1 ∧ K (.ref b)
  | 6 :: _ => (600 ≤ a ∧ a < 623) ∧ K (.long (pkTab (a - 600)))
  | _ => False
def wpPut (S : List Value) (ci k : Nat) (M : Mm) (K : List Value → Mm → Prop) : List Nat → Prop
  | 0 :: _ => popI S fun v r => popA r fun a r => lay a = ci + 1 ∧ K r (sI M a k v)
  | 5 :: _ => popI S fun v r => popA r fun a r => lay a = ci + 1 ∧ (v = I 0 ∨ v = I 1) ∧ K r (sI M a k v)
  | 1 :: _ => popL S fun v r => popA r fun a r => lay a = ci + 1 ∧ K r (sL M a k v)
  | 2 :: _ => popA S fun v r => popA r fun a r => lay a = ci + 1 ∧ K r (sR M a k v)
  | _ => False
def wpInv (E : EE) (y : Nat) (as : List Value) (r : List Value) (M : Mm) (K : List Value → Mm → Prop) : Nat → Prop
  | 0 => ∃ M', E y as M none M' ∧ K r M'
  | 1 => ∃ (v : Int32) (M' : Mm), E y as M (some (.int v)) M' ∧ K (.int v :: r) M'
  | 2 => ∃ (v : Int64) (M' : Mm), E y as M (some (.long v)) M' ∧ K (.long v :: r) M'
  | 3 => ∃ (v : Nat) (M' : Mm), E y as M (some (.ref v)) M' ∧ K (.ref v :: r) M'
  | _ => False
/-- a static call's arguments and the rest; an instance call's receiver behind them -/
def wpCall (E : EE) (S : List Value) (M : Mm) (K : List Value → Mm → Prop) : List Nat → Prop
  | 0 :: y :: n :: rk :: _ => cond (Nat.ble n S.length && Nat.ble (S.drop n).length 4) (wpInv E y (S.take n).reverse (S.drop n) M K rk) False
  | 1 :: y :: n :: rk :: c :: _ => cond (Nat.ble (S.drop n).length 4) (popA (S.drop n) fun a r => lay a = c ∧ wpInv E y (.ref a :: (S.take n).reverse) r M K rk) False
  | 7 :: _ => popI S fun y r => popI r fun x r => cond (Nat.ble r.length 4) (K (.int (if x < y then y else x) :: r) M) False
  | 6 :: _ => popI S fun y r => popI r fun x r => cond (Nat.ble r.length 4) (K (.int (if y < x then y else x) :: r) M) False
  | 11 :: y :: n :: rk :: _ => cond (Nat.ble n S.length && Nat.ble (S.drop n).length 4) (wpInv E y (S.take n).reverse (S.drop n) M K rk) False
  | 8 :: _ => popI S fun n r => popI r fun dp r => popA r fun b r => popI r fun sp r => popA r fun a r => cond (Nat.ble r.length 4) True False ∧ lay a = 100 ∧ lay b = 100 ∧ ¬ sp < 0 ∧ ¬ dp < 0 ∧ ¬ n < 0 ∧ sp.toNatClampNeg + n.toNatClampNeg ≤ alen a ∧ dp.toNatClampNeg + n.toNatClampNeg ≤ alen b ∧ K r (upr M.1 b (cpf (M.1 a) (M.1 b) sp.toNatClampNeg dp.toNatClampNeg n.toNatClampNeg), M.2)
  | 9 :: _ => popI S fun n r => popI r fun dp r => popA r fun b r => popI r fun sp r => popA r fun a r => cond (Nat.ble r.length 4) True False ∧ lay a = 101 ∧ lay b = 101 ∧ ¬ sp < 0 ∧ ¬ dp < 0 ∧ ¬ n < 0 ∧ sp.toNatClampNeg + n.toNatClampNeg ≤ alen a ∧ dp.toNatClampNeg + n.toNatClampNeg ≤ alen b ∧ K r (M.1, upr M.2.1 b (cpf (M.2.1 a) (M.2.1 b) sp.toNatClampNeg dp.toNatClampNeg n.toNatClampNeg), M.2.2)
  | 10 :: _ => popA S fun a r => cond (Nat.ble r.length 4) True False ∧ (600 ≤ a ∧ a < 623) ∧ K (.int (I ((a - 600 : Nat) : Int)) :: r) M
  | _ => False
/-- 'X': the script's length and its ints -/
def wpAld (X : Nat × (Nat → Int32)) (S : List Value) (M : Mm) (K : List Value → Prop) : List Nat → Prop
  | [] => popI S fun i r => popA r fun a r => lay a = 100 ∧ inR i (alen a) ∧ K (.int (M.1 a i.toNatClampNeg) :: r)
  | 1 :: _ => popI S fun i r => popA r fun a r => a = 650 ∧ inR i 23 ∧ K (.int (I (swTab i.toNatClampNeg)) :: r)
  | 2 :: _ => popI S fun i r => popA r fun a r => a = 501 ∧ inR i X.1 ∧ K (.int (X.2 i.toNatClampNeg) :: r)
  | _ => False
def wpAald (S : List Value) (M : Mm) (K : List Value → Prop) : List Nat → Prop
  | [] => popI S fun i r => popA r fun a r => lay a = 104 ∧ inR i (alen a) ∧ K (.ref (M.2.2 a i.toNatClampNeg) :: r)
  | 1 :: b :: base :: stride :: _ => popI S fun i r => popA r fun a r => a = b ∧ inR i (alen b) ∧ K (.ref (base + stride * i.toNatClampNeg) :: r)
  | 2 :: _ => popI S fun i r => popA r fun a r => a = 651 ∧ inR i 23 ∧ K (.ref (600 + i.toNatClampNeg) :: r)
  | _ => False
def wpAlen (X : Nat × (Nat → Int32)) (a : Nat) (K : Int32 → Prop) : List Nat → Prop
  | [] => (100 ≤ lay a ∧ lay a < 108) ∧ K (I (alen a))
  | 2 :: _ => a = 501 ∧ K (I X.1)
  | 3 :: _ => a = 651 ∧ K (I 23)
  | _ => False
def wpRet (Rt : Option Value → Mm → Prop) (M : Mm) (x : Int32) : List Nat → Prop
  | [] => Rt (some (.int x)) M
  | _ => (x = I 0 ∨ x = I 1) ∧ Rt (some (.int x)) M
/-- the locals that are still wanted -/
def msk (inf : List Nat) (i : Nat) (L : List Value) : List Value := match L with
  | [] => []
  | v :: r => cond (inf.any (Nat.beq i)) v (.retAddr 0) :: msk inf (i + 1) r
section WP
variable (E : EE) (J : JJ) (Rt : Option Value → Mm → Prop) (X : Nat × (Nat → Int32)) (C : List Op)
def wp : Nat → List Op → List Value → List Value → Mm → Prop
  | 0, _, _, _, _ => False
  | _ + 1, [], _, _, _ => False
  | n + 1, (pc, i, inf) :: is, L, S, M => match i with
    | .nop => J pc (msk inf 0 L) S M
    | .iconst k => wp n is L (.int (I k) :: S) M
    | .bipush k => wp n is L (.int (I k) :: S) M
    | .sipush k => wp n is L (.int (I k) :: S) M
    | .ldc _ => wp n is L (.int (I (inf.getD 0 0)) :: S) M
    | .ldc_w _ => wp n is L (.int (I (inf.getD 0 0)) :: S) M
    | .ldc2_w _ => wp n is L (.long (Int64.ofNat (inf.getD 0 0)) :: S) M
    | .lconst k => wp n is L (.long (Int64.ofNat k.val) :: S) M
    | .aconst_null => wp n is L (.ref 0 :: S) M
    | .iload_n k => ldI L k.val fun v => wp n is L (v :: S) M
    | .iload k => ldI L k fun v => wp n is L (v :: S) M
    | .aload_n k => ldA L k.val fun v => wp n is L (v :: S) M
    | .aload k => ldA L k fun v => wp n is L (v :: S) M
    | .lload_n k => ldL L k.val fun v => wp n is L (v :: S) M
    | .lload k => ldL L k fun v => wp n is L (v :: S) M
    | .istore_n k => popI S fun v r => wp n is (stv L k.val (.int v)) r M
    | .istore k => popI S fun v r => wp n is (stv L k (.int v)) r M
    | .astore_n k => popA S fun v r => wp n is (stv L k.val (.ref v)) r M
    | .astore k => popA S fun v r => wp n is (stv L k (.ref v)) r M
    | .lstore_n k => popL S fun v r => wp n is (stw L k.val (.long v)) r M
    | .lstore k => popL S fun v r => wp n is (stw L k (.long v)) r M
    | .iinc k c => ldI L k fun v => popI [v] fun x _ => wp n is (stv L k (.int (x + I c))) S M
    | .iadd => popI S fun y r => popI r fun x r => wp n is L (.int (x + y) :: r) M
    | .isub => popI S fun y r => popI r fun x r => wp n is L (.int (x - y) :: r) M
    | .imul => popI S fun y r => popI r fun x r => wp n is L (.int (x * y) :: r) M
    | .idiv => popI S fun y r => popI r fun x r => ¬ y = 0 ∧ wp n is L (.int (x / y) :: r) M
    | .irem => popI S fun y r => popI r fun x r => ¬ y = 0 ∧ wp n is L (.int (x - x / y * y) :: r) M
    | .iand => popI S fun y r => popI r fun x r => wp n is L (.int (x &&& y) :: r) M
    | .ior => popI S fun y r => popI r fun x r => wp n is L (.int (x ||| y) :: r) M
    | .ixor => popI S fun y r => popI r fun x r => wp n is L (.int (x ^^^ y) :: r) M
    | .ishl => popI S fun y r => popI r fun x r => wp n is L (.int (x <<< (y &&& 31)) :: r) M
    | .ishr => popI S fun y r => popI r fun x r => wp n is L (.int (x >>> (y &&& 31)) :: r) M
    | .iushr => popI S fun y r => popI r fun x r => wp n is L (.int (x.toUInt32 >>> (y.toUInt32 &&& Int32.toUInt32 31)).toInt32 :: r) M
    | .i2l => popI S fun x r => wp n is L (.long x.toInt64 :: r) M
    | .i2b => popI S fun x r => wp n is L (.int x.toInt8.toInt32 :: r) M
    | .ladd => popL S fun y r => popL r fun x r => wp n is L (.long (x + y) :: r) M
    | .lmul => popL S fun y r => popL r fun x r => wp n is L (.long (x * y) :: r) M
    | .lor => popL S fun y r => popL r fun x r => wp n is L (.long (x ||| y) :: r) M
    | .lshl => popI S fun y r => popL r fun x r => wp n is L (.long (x <<< (y.toInt64 &&& 63)) :: r) M
    | .lcmp => popL S fun y r => popL r fun x r => wp n is L (.int (lg_cmp x y) :: r) M
    | .dup => pop1 S fun v r => wp n is L (v :: v :: r) M
    | .dup2 => pop1 S fun v r => pop1 r fun w r => wp n is L (v :: w :: v :: w :: r) M
    | .pop => pop1 S fun _ r => wp n is L r M
    | .goto _ => wp n (jm C (inf.getD 0 0)) L S M
    | .if_icmp c _ => popI S fun y r => popI r fun x r => (cmpI c x y → wp n (jm C (inf.getD 0 0)) L r M) ∧ (¬ cmpI c x y → wp n is L r M)
    | .ifCond c _ => popI S fun x r => (cmpI c x 0 → wp n (jm C (inf.getD 0 0)) L r M) ∧ (¬ cmpI c x 0 → wp n is L r M)
    | .if_acmp c _ => popA S fun y r => popA r fun x r => rE x ∧ rE y ∧ (cmpA c x y → wp n (jm C (inf.getD 0 0)) L r M) ∧ (¬ cmpA c x y → wp n is L r M)
    | .ifnull _ => popA S fun x r => (x = 0 → wp n (jm C (inf.getD 0 0)) L r M) ∧ (¬ x = 0 → wp n is L r M)
    | .ifnonnull _ => popA S fun x r => (¬ x = 0 → wp n (jm C (inf.getD 0 0)) L r M) ∧ (x = 0 → wp n is L r M)
    | .tableswitch _ lo _ _ => popI S fun x r => swT (fun t => wp n (jm C t) L r M) x lo (inf.getD 0 0) True inf.tail
    | .lookupswitch _ _ => popI S fun x r => swT (fun t => wp n (jm C t) L r M) x 0 (inf.getD 0 0) True inf.tail
    | .getfield _ => popA S fun a r => match inf with
      | ci :: k :: t => wpGet a ci k M (fun v => wp n is L (v :: r) M) t
      | _ => False
    | .putfield _ => match inf with
      | ci :: k :: t => wpPut S ci k M (fun r M' => wp n is L r M') t
      | _ => False
    | .getstatic _ => wp n is L (.ref (inf.getD 0 0) :: S) M
    | .invokestatic _ => wpCall E S M (fun r M' => wp n is L r M') inf
    | .invokevirtual _ => wpCall E S M (fun r M' => wp n is L r M') inf
    | .iaload => wpAld X S M (fun r => wp n is L r M) inf
    | .laload => popI S fun i r => popA r fun a r => lay a = 101 ∧ inR i (alen a) ∧ wp n is L (.long (M.2.1 a i.toNatClampNeg) :: r) M
    | .baload => popI S fun i r => popA r fun a r => (lay a = 102 ∨ lay a = 103) ∧ inR i (alen a) ∧ wp n is L (.int (M.1 a i.toNatClampNeg) :: r) M
    | .aaload => wpAald S M (fun r => wp n is L r M) inf
    | .iastore => popI S fun v r => popI r fun i r => popA r fun a r => lay a = 100 ∧ inR i (alen a) ∧ wp n is L r (sI M a i.toNatClampNeg v)
    | .lastore => popL S fun v r => popI r fun i r => popA r fun a r => lay a = 101 ∧ inR i (alen a) ∧ wp n is L r (sL M a i.toNatClampNeg v)
    | .bastore => popI S fun v r => popI r fun i r => popA r fun a r => ((lay a = 102 ∧ v.toInt8.toInt32 = v) ∨ (lay a = 103 ∧ (v = I 0 ∨ v = I 1))) ∧ inR i (alen a) ∧ wp n is L r (sI M a i.toNatClampNeg v)
    | .aastore => popA S fun v r => popI r fun i r => popA r fun a r => lay a = 104 ∧ inR i (alen a) ∧ (600 ≤ v ∧ v < 623) ∧ wp n is L r (sR M a i.toNatClampNeg v)
    | .arraylength => popA S fun a r => wpAlen X a (fun v => wp n is L (.int v :: r) M) inf
    | .ireturn => popI S fun x r => popN r (wpRet Rt M x inf)
    | .lreturn => popL S fun x r => popN r (Rt (some (.long x)) M)
    | .areturn => popA S fun x r => popN r (Rt (some (.ref x)) M)
    | .return_ => popN S (Rt none M)
    | _ => False
end WP
end
section
/-! tables of the program: methods by number, fields, what the constant pools' places mean -/
abbrev vwCl : List vw_C := [(RX1, TX1, 10), (RX2, TX2, 4), (RX3, TX3, 3), (RX4, TX4, 3), (RX5, TX5, 11), (RX6, TX6, 6), (RX7, TX7, 14), (RX8, TX8, 18), (RX9, TX9, 5), (RX10, TX10, 11), (RX12, TX12, 18), (RX13, TX13, 54)]
abbrev vwTy : List (Nat → FieldType) := [tyX1, tyX2, tyX3, tyX4, tyX5, tyX6, tyX7, tyX8, tyX9, tyX10, tyX12, tyX13]
def yT0 : List (MethodName × ByteArray × Nat × Option FieldType) := [(yX12_feed, cX12_feed, 6, (some .int)), (yX12_end, cX12_end, 2, (some .boolean)), (yX12_street, cX12_street, 3, (some .int)), (yX12_fault, cX12_fault, 1, (some .int)), (yX12_wall, cX12_wall, 3, (some .int)), (yX12_house, cX12_house, 3, (some .int)), (yX12_drain, cX12_drain, 3, (some .int)), (yX12_now, cX12_now, 2, (some .int)), (yX12_posted, cX12_posted, 2, (some .int)), (yX12_post, cX12_post, 5, (some .int)), (yX12_quit, cX12_quit, 3, (some .int)), (yX12_up, cX12_up, 3, (some .int)), (yX12_hours, cX12_hours, 3, (some .int)), (yX12_undo, cX12_undo, 1, (some .int)), (yX12_takes, cX12_takes, 3, (some .int)), (yX12_lacks, cX12_lacks, 3, (some .int)), (yX12_plan, cX12_plan, 3, (some .int)), (yX12_planAt, cX12_planAt, 2, (some .int)), (yX12_sure, cX12_sure, 7, (some .int)), (yX12_crew, cX12_crew, 6, (some .int)), (yX12_bagsCarriedBy, cX12_bagsCarriedBy, 5, (some .int)), (yX12_crewed, cX12_crewed, 2, (some .int)), (yX12_rests, cX12_rests, 9, (some .int)), (yX12_isRest, cX12_isRest, 9, (some .boolean)), (yX12_savedInGame, cX12_savedInGame, 5, (some .int)), (yX12_walling, cX12_walling, 1, (some .int)), (yX12_due, cX12_due, 10, (some .int)), (yX12_leaks, cX12_leaks, 3, (some .int)), (yX12_when, cX12_when, 2, (some .int)), (yX12_last, cX12_last, 1, (some .int)), (yX12_tryToTheEnd, cX12_tryToTheEnd, 1, none), (yX12_carpets, cX12_carpets, 6, (some .int)), (yX12_dearestCarpets, cX12_dearestCarpets, 6, (some .int)), (yX12_carried, cX12_carried, 1, (some .int)), (yX12_built, cX12_built, 6, (some .int)), (yX12_most, cX12_most, 1, (some .int)), (yX12_drawn, cX12_drawn, 4, (some .int)), (yX12_odds, cX12_odds, 6, (some .int)), (yX12_book, cX12_book, 2, (some .int)), (yX12_told, cX12_told, 2, (some .int))]
def yT1 : List (MethodName × ByteArray × Nat × Option FieldType) := [(yX12_sentence, cX12_sentence, 2, (some .int)), (yX12_said, cX12_said, 5, (some .int)), (yX12_image, cX12_image, 2, (some .boolean)), (yX12_restore, cX12_restore, 2, (some .boolean)), (yX12_count, cX12_count, 2, (some .int)), (yX12_isWithin, cX12_isWithin, 3, (some .boolean)), (yX12_bit, cX12_bit, 2, (some .int)), (yX12_fraction, cX12_fraction, 4, (some .int)), (yX12_greatestCommon, cX12_greatestCommon, 6, (some .int)), (yX12_copyInts, cX12_copyInts, 2, none), (yX12_copyLongs, cX12_copyLongs, 2, none), (yX13_thrown, cX13_thrown, 1, (some .int)), (yX13_throwsIf, cX13_throwsIf, 2, (some .boolean)), (yX13_feed, cX13_feed, 6, (some .int)), (yX13_four, cX13_four, 3, none), (yX13_end, cX13_end, 2, (some .boolean)), (yX13_taken, cX13_taken, 2, none), (yX13_isIn, cX13_isIn, 3, (some .boolean)), (yX13_bitOf, cX13_bitOf, 2, (some .boolean)), (yX13_lesser, cX13_lesser, 2, (some .int)), (yX13_greater, cX13_greater, 2, (some .int)), (yX13_bits, cX13_bits, 3, (some .int)), (yX13_part, cX13_part, 6, (some .int)), (yX13_octet, cX13_octet, 2, (some .int)), (yX13_clears, cX13_clears, 2, none), (yX13_peek, cX13_peek, 1, (some .int)), (yX13_isSmall, cX13_isSmall, 1, (some .boolean)), (yX13_isDigit, cX13_isDigit, 1, (some .boolean)), (yX13_next, cX13_next, 4, none), (yX13_bad, cX13_bad, 2, (some .boolean)), (yX13_isWord, cX13_isWord, 3, (some .boolean)), (yX13_isSign, cX13_isSign, 2, (some .boolean)), (yX13_sign, cX13_sign, 2, (some .boolean)), (yX13_isName, cX13_isName, 3, (some .boolean)), (yX13_takesNumber, cX13_takesNumber, 3, (some .boolean)), (yX13_puts, cX13_puts, 4, (some .boolean)), (yX13_find, cX13_find, 4, (some .int)), (yX13_fresh, cX13_fresh, 2, (some .boolean)), (yX13_looksAt, cX13_looksAt, 3, (some .boolean)), (yX13_takesName, cX13_takesName, 3, (some .boolean))]
def yT2 : List (MethodName × ByteArray × Nat × Option FieldType) := [(yX13_once, cX13_once, 5, (some .boolean)), (yX13_line, cX13_line, 2, (some .boolean)), (yX13_pair, cX13_pair, 10, (some .boolean)), (yX13_readHouse, cX13_readHouse, 2, (some .boolean)), (yX13_street, cX13_street, 2, (some .int)), (yX13_fault, cX13_fault, 1, (some .int)), (yX13_isWall, cX13_isWall, 2, (some .boolean)), (yX13_isHouse, cX13_isHouse, 2, (some .boolean)), (yX13_isDrain, cX13_isDrain, 2, (some .boolean)), (yX13_isOutside, cX13_isOutside, 2, (some .boolean)), (yX13_takesOf, cX13_takesOf, 3, (some .int)), (yX13_heightOf, cX13_heightOf, 3, (some .int)), (yX13_riverAt, cX13_riverAt, 5, (some .int)), (yX13_isStopped, cX13_isStopped, 2, (some .boolean)), (yX13_leaksOf, cX13_leaksOf, 5, (some .int)), (yX13_housesOf, cX13_housesOf, 4, (some .int)), (yX13_wall, cX13_wall, 5, (some .int)), (yX13_house, cX13_house, 3, (some .int)), (yX13_drain, cX13_drain, 3, (some .int)), (yX13_eachBy, cX13_eachBy, 2, (some .int)), (yX13_saved, cX13_saved, 3, (some .int)), (yX13_now, cX13_now, 2, (some .int)), (yX13_posted, cX13_posted, 2, (some .int)), (yX13_isWhere, cX13_isWhere, 2, (some .boolean)), (yX13_isPosted, cX13_isPosted, 4, (some .boolean)), (yX13_posts, cX13_posts, 4, none), (yX13_quits, cX13_quits, 2, none), (yX13_whyUp, cX13_whyUp, 2, (some .int)), (yX13_carriesUp, cX13_carriesUp, 2, none), (yX13_isOpen, cX13_isOpen, 1, (some .boolean)), (yX13_wouldFlood, cX13_wouldFlood, 4, (some .boolean)), (yX13_hour, cX13_hour, 6, none), (yX13_goesOn, cX13_goesOn, 3, (some .int)), (yX13_post, cX13_post, 4, (some .int)), (yX13_quit, cX13_quit, 2, (some .int)), (yX13_up, cX13_up, 3, (some .int)), (yX13_hours, cX13_hours, 2, (some .int)), (yX13_keep, cX13_keep, 2, none), (yX13_undo, cX13_undo, 2, (some .int)), (yX13_tries, cX13_tries, 2, none)]
def yT3 : List (MethodName × ByteArray × Nat × Option FieldType) := [(yX13_back, cX13_back, 2, none), (yX13_takes, cX13_takes, 3, (some .int)), (yX13_lacks, cX13_lacks, 4, (some .int)), (yX13_allOdds, cX13_allOdds, 3, (some .int)), (yX13_laysHeights, cX13_laysHeights, 4, none), (yX13_gainOf, cX13_gainOf, 6, (some .int)), (yX13_digit, cX13_digit, 5, (some .int)), (yX13_plan, cX13_plan, 12, (some .int)), (yX13_planAt, cX13_planAt, 2, (some .int)), (yX13_sure, cX13_sure, 7, (some .int)), (yX13_carriedBy, cX13_carriedBy, 11, (some .int)), (yX13_crew, cX13_crew, 6, (some .int)), (yX13_crewed, cX13_crewed, 2, (some .int)), (yX13_greatestCrest, cX13_greatestCrest, 3, (some .int)), (yX13_holds, cX13_holds, 4, (some .boolean)), (yX13_isSavedBy, cX13_isSavedBy, 5, (some .boolean)), (yX13_restsAt, cX13_restsAt, 6, (some .boolean)), (yX13_rests, cX13_rests, 10, (some .int)), (yX13_walling, cX13_walling, 1, (some .int)), (yX13_due, cX13_due, 8, (some .int)), (yX13_leaks, cX13_leaks, 3, (some .int)), (yX13_when, cX13_when, 3, (some .int)), (yX13_last, cX13_last, 2, (some .int)), (yX13_carpets, cX13_carpets, 8, (some .int)), (yX13_carried, cX13_carried, 1, (some .int)), (yX13_built, cX13_built, 3, (some .int)), (yX13_most, cX13_most, 1, (some .int)), (yX13_draw, cX13_draw, 2, (some .int)), (yX13_draws, cX13_draws, 4, (some .int)), (yX13_drawn, cX13_drawn, 3, (some .int)), (yX13_odds, cX13_odds, 6, (some .int)), (yX13_bookLine, cX13_bookLine, 3, (some .boolean)), (yX13_postLine, cX13_postLine, 4, (some .boolean)), (yX13_does, cX13_does, 6, (some .int)), (yX13_book, cX13_book, 4, (some .int)), (yX13_told, cX13_told, 2, (some .int)), (yX13_code, cX13_code, 4, none), (yX13_joins, cX13_joins, 2, none), (yX13_nots, cX13_nots, 1, none), (yX13_leafOf, cX13_leafOf, 1, (some .int))]
def yT4 : List (MethodName × ByteArray × Nat × Option FieldType) := [(yX13_operand, cX13_operand, 5, (some .boolean)), (yX13_behind, cX13_behind, 1, (some .boolean)), (yX13_sentence, cX13_sentence, 3, (some .int)), (yX13_isLeaf, cX13_isLeaf, 6, (some .boolean)), (yX13_isSaid, cX13_isSaid, 5, (some .boolean)), (yX13_said, cX13_said, 4, (some .int)), (yX13_image, cX13_image, 3, (some .boolean)), (yX13_restore, cX13_restore, 3, (some .boolean)), (yX13_count, cX13_count, 2, (some .int)), (yX1_read, cX1_read, 4, none), (yX1_readLine, cX1_readLine, 5, (some .boolean)), (yX1_readPost, cX1_readPost, 3, (some .boolean)), (yX1_seeTarget, cX1_seeTarget, 3, (some .int)), (yX1_readPlace, cX1_readPlace, 4, (some .boolean)), (yX1_movesOn, cX1_movesOn, 2, (some .boolean)), (yX1_judge, cX1_judge, 4, none), (yX1_whyWrong, cX1_whyWrong, 6, (some .int)), (yX1_live, cX1_live, 4, none), (yX1_tell, cX1_tell, 2, (some .int)), (yX3_isFull, cX3_isFull, 1, (some .boolean)), (yX3_has, cX3_has, 3, (some .boolean)), (yX3_add, cX3_add, 3, none), (yX3_sumFrom, cX3_sumFrom, 4, (some .int)), (yX3_greatestKey, cX3_greatestKey, 3, (some .int)), (yX3_latestValue, cX3_latestValue, 4, (some .int)), (yX3_copyFrom, cX3_copyFrom, 2, none), (yX4_keep, cX4_keep, 3, none), (yX4_giveBack, cX4_giveBack, 3, (some .int)), (yX5_choose, cX5_choose, 5, none), (yX5_findChoices, cX5_findChoices, 3, none), (yX5_gainOf, cX5_gainOf, 8, (some .int)), (yX5_tryWall, cX5_tryWall, 5, none), (yX5_plannedHeight, cX5_plannedHeight, 2, (some .int)), (yX6_clear, cX6_clear, 1, none), (yX6_copyFrom, cX6_copyFrom, 3, none), (yX6_read, cX6_read, 4, none), (yX6_readCond, cX6_readCond, 6, (some .boolean)), (yX6_readAll, cX6_readAll, 6, (some .boolean)), (yX6_readOne, cX6_readOne, 6, (some .boolean)), (yX6_readBehind, cX6_readBehind, 4, (some .boolean))]
def yT5 : List (MethodName × ByteArray × Nat × Option FieldType) := [(yX6_beginsOne, cX6_beginsOne, 1, (some .boolean)), (yX6_readComparison, cX6_readComparison, 5, (some .boolean)), (yX6_addStep, cX6_addStep, 4, (some .boolean)), (yX6_housesSaid, cX6_housesSaid, 7, (some .int)), (yX6_housesOfStep, cX6_housesOfStep, 6, (some .int)), (yX6_isSo, cX6_isSo, 6, (some .boolean)), (yX6_compares, cX6_compares, 3, (some .boolean)), (yX7_begin, cX7_begin, 3, none), (yX7_copyFrom, cX7_copyFrom, 2, none), (yX7_river, cX7_river, 2, (some .int)), (yX7_greatestRiver, cX7_greatestRiver, 4, (some .int)), (yX7_bagsEach, cX7_bagsEach, 2, (some .int)), (yX7_isFlooded, cX7_isFlooded, 2, (some .boolean)), (yX7_floodedHouses, cX7_floodedHouses, 4, (some .int)), (yX7_isStopped, cX7_isStopped, 3, (some .boolean)), (yX7_leakingDrains, cX7_leakingDrains, 7, (some .int)), (yX7_heightOf, cX7_heightOf, 4, (some .int)), (yX7_wouldFlood, cX7_wouldFlood, 5, (some .boolean)), (yX7_savedWorth, cX7_savedWorth, 4, (some .int)), (yX7_isPosted, cX7_isPosted, 4, (some .boolean)), (yX7_takePosts, cX7_takePosts, 4, none), (yX7_whyNotQuit, cX7_whyNotQuit, 2, (some .int)), (yX7_giveUpWall, cX7_giveUpWall, 2, none), (yX7_whyNotUp, cX7_whyNotUp, 2, (some .int)), (yX7_carryUp, cX7_carryUp, 2, none), (yX7_work, cX7_work, 4, none), (yX7_layDown, cX7_layDown, 3, none), (yX7_goHour, cX7_goHour, 4, none), (yX7_goHours, cX7_goHours, 4, none), (yX7_drawHours, cX7_drawHours, 6, none), (yX8_clear, cX8_clear, 1, none), (yX8_copyFrom, cX8_copyFrom, 2, none), (yX8_indexOf, cX8_indexOf, 5, (some .int)), (yX8_knows, cX8_knows, 3, (some .boolean)), (yX8_addWall, cX8_addWall, 4, none), (yX8_addHouse, cX8_addHouse, 6, none), (yX8_addDrain, cX8_addDrain, 6, none), (yX8_hasWall, cX8_hasWall, 2, (some .boolean)), (yX8_hasHouse, cX8_hasHouse, 2, (some .boolean)), (yX8_hasDrain, cX8_hasDrain, 2, (some .boolean))]
def yT6 : List (MethodName × ByteArray × Nat × Option FieldType) := [(yX8_hasTarget, cX8_hasTarget, 2, (some .boolean)), (yX8_bagsFor, cX8_bagsFor, 3, (some .int)), (yX8_housesBehind, cX8_housesBehind, 4, (some .int)), (yX8_drainsOf, cX8_drainsOf, 4, (some .int)), (yX8_worthOf, cX8_worthOf, 4, (some .int)), (yX9_read, cX9_read, 4, (some .int)), (yX9_readLine, cX9_readLine, 2, (some .boolean)), (yX9_readWall, cX9_readWall, 4, (some .boolean)), (yX9_readHouse, cX9_readHouse, 6, (some .boolean)), (yX9_seeWallOrOutside, cX9_seeWallOrOutside, 2, (some .int)), (yX9_readDrain, cX9_readDrain, 6, (some .boolean)), (yX9_takeNewName, cX9_takeNewName, 1, (some .boolean)), (yX9_readPair, cX9_readPair, 7, (some .boolean)), (yX9_readPeople, cX9_readPeople, 1, (some .boolean)), (yX9_readSand, cX9_readSand, 1, (some .boolean)), (yX9_readRate, cX9_readRate, 1, (some .boolean)), (yX10_append, cX10_append, 6, (some .int)), (yX10_put, cX10_put, 3, none), (yX10_cutTo, cX10_cutTo, 2, (some .boolean)), (yX10_begin, cX10_begin, 2, none), (yX10_next, cX10_next, 1, none), (yX10_readRun, cX10_readRun, 3, none), (yX10_isBlank, cX10_isBlank, 1, (some .boolean)), (yX10_isLetter, cX10_isLetter, 1, (some .boolean)), (yX10_isDigit, cX10_isDigit, 1, (some .boolean)), (yX10_isSign, cX10_isSign, 1, (some .boolean)), (yX10_fail, cX10_fail, 2, (some .boolean)), (yX10_atSign, cX10_atSign, 2, (some .boolean)), (yX10_takeSign, cX10_takeSign, 2, (some .boolean)), (yX10_atName, cX10_atName, 1, (some .boolean)), (yX10_seeNumber, cX10_seeNumber, 3, (some .int)), (yX10_takeNumber, cX10_takeNumber, 4, (some .int)), (yX10_seeNamed, cX10_seeNamed, 4, (some .int)), (yX11_packedWith, cX11_packedWith, 3, (some .long)), (yX11_of, cX11_of, 3, (some (.object "BagsRiver$Word"))), (yL_house, cL_house, 5, (some .int)), (yL_plan, cL_plan, 5, (some .int)), (yL_sure, cL_sure, 6, (some .int)), (yL_law, code, 7, some .boolean), (yJ6_bitCount_0f7a4, cJ6_bitCount_0f7a4, 1, (some .int))]
def yT7 : List (MethodName × ByteArray × Nat × Option FieldType) := [(yJ9_floorMod_7cf53, cJ9_floorMod_7cf53, 3, (some .int))]
def yT : List (MethodName × ByteArray × Nat × Option FieldType) := yT0 ++ yT1 ++ yT2 ++ yT3 ++ yT4 ++ yT5 ++ yT6 ++ yT7
def yD : MethodName × ByteArray × Nat × Option FieldType := (yL_law, code, 7, some .boolean)
def yE (y : Nat) : MethodName × ByteArray × Nat × Option FieldType := yT.getD y yD
def Rn (c : Nat) : String := ([RX0, RX1, RX2, RX3, RX4, RX5, RX6, RX7, RX8, RX9, RX10, RX11, RX12, RX13, RL, RJ6, RJ9]).getD c ""
def FT : List (List (List Nat)) := [[[4, 31], [4, 32], [4, 33], [4, 34], [0, 0], [5, 0], [0, 0], [0, 0], [0, 0], [0, 0]], [[3, 10], [3, 40], [3, 50], [5, 0]], [[3, 1], [3, 2], [0, 0]], [[4, 21], [0, 0], [0, 0]], [[4, 41], [0, 0], [4, 42], [4, 48], [4, 54], [4, 55], [0, 0], [0, 0], [0, 0], [0, 0], [0, 0]], [[3, 1], [3, 2], [3, 3], [3, 4], [0, 0], [0, 0]], [[0, 0], [0, 0], [0, 0], [0, 0], [0, 0], [0, 0], [0, 0], [0, 0], [0, 0], [0, 0], [0, 0], [3, 1], [3, 2], [3, 3]], [[3, 1], [3, 2], [0, 0], [3, 3], [3, 4], [3, 5], [3, 6], [0, 0], [3, 7], [3, 8], [3, 9], [3, 10], [0, 0], [3, 11], [3, 14], [0, 0], [0, 0], [0, 0]], [[4, 2], [2, 0], [5, 0], [5, 0], [5, 0]], [[4, 3], [0, 0], [0, 0], [0, 0], [0, 0], [0, 0], [0, 0], [1, 0], [2, 0], [0, 0], [0, 0]], [[4, 2], [4, 4], [2, 0], [2, 0], [4, 200], [4, 205], [4, 20], [2, 0], [2, 0], [4, 30], [4, 40], [4, 60], [0, 0], [0, 0], [0, 0], [0, 0], [0, 0], [0, 0]], [[0, 0], [4, 401], [0, 0], [0, 0], [0, 0], [0, 0], [4, 402], [4, 403], [4, 404], [4, 405], [4, 406], [0, 0], [0, 0], [0, 0], [0, 0], [0, 0], [0, 0], [1, 0], [0, 0], [0, 0], [0, 0], [4, 407], [4, 408], [0, 0], [4, 409], [4, 410], [4, 411], [0, 0], [0, 0], [0, 0], [0, 0], [5, 0], [0, 0], [5, 0], [4, 412], [4, 413], [0, 0], [5, 0], [0, 0], [5, 0], [0, 0], [0, 0], [4, 414], [5, 0], [4, 415], [0, 0], [0, 0], [0, 0], [0, 0], [5, 0], [4, 416], [4, 417], [4, 418], [4, 419]]]
def dom : List Nat := [1, 2, 3, 4, 20, 21, 30, 31, 32, 33, 34, 40, 41, 42, 43, 44, 45, 46, 47, 48, 49, 50, 51, 52, 53, 54, 55, 60, 100, 101, 102, 103, 104, 105, 106, 107, 108, 109, 110, 111, 112, 113, 114, 115, 116, 120, 121, 122, 123, 124, 125, 126, 127, 128, 129, 130, 131, 132, 133, 134, 135, 136, 200, 201, 202, 203, 205, 206, 207, 208, 210, 211, 212, 213, 215, 216, 217, 218, 220, 221, 222, 223, 225, 226, 227, 228, 230, 231, 232, 233, 235, 236, 237, 238, 240, 241, 242, 243, 245, 246, 247, 248, 300, 301, 302, 303, 304, 310, 311, 312, 313, 314, 400, 401, 402, 403, 404, 405, 406, 407, 408, 409, 410, 411, 412, 413, 414, 415, 416, 417, 418, 419, 500, 700, 710, 711, 712, 713, 714, 715, 716, 717, 718, 719, 720, 721, 722, 723, 724, 725, 726, 740, 741, 742, 743, 750, 751, 752, 753, 754, 800, 810, 811, 812, 813, 814, 815, 816, 817, 818, 819, 820, 821, 822, 823, 824, 825, 826, 840, 841, 842, 843, 850, 851, 852, 853, 854]
def yP : List (List Nat) := [[639, 104, 637, 638], [651, 104, 649, 650], [659, 104, 657, 658], [820, 104, 818, 819], [824, 104, 822, 823], [1323, 104, 1321, 1322], [854, 104, 852, 853], [867, 104, 865, 866], [896, 104, 894, 895], [900, 104, 898, 899], [941, 104, 939, 940], [953, 104, 951, 952], [969, 104, 967, 968], [1001, 104, 999, 1000], [1009, 104, 1007, 1008], [1014, 104, 1012, 1013], [1396, 104, 1394, 1395], [1023, 104, 1021, 1022], [1432, 104, 1430, 1431], [1031, 104, 1029, 1030], [1035, 104, 1034, 13], [1041, 104, 1039, 1040], [1045, 104, 1043, 1044], [1052, 104, 1051], [1062, 104, 1061, 14], [1071, 104, 1069, 1070], [1075, 104, 1073, 1074], [1079, 104, 1077, 1078], [1084, 104, 1082, 1083], [1093, 104, 1091, 1092], [1089, 104, 1088, 15], [1097, 104, 1095, 1096], [1101, 104, 1100, 16], [1105, 104, 1103, 1104], [1109, 104, 1107, 1108], [1113, 104, 1111, 1112], [1117, 104, 1115, 1116], [1126, 104, 1124, 1125], [1130, 104, 1128, 1129], [1192, 104, 1190, 1191], [1200, 104, 1198, 1199], [1263, 104, 1261, 1262], [1289, 104, 1287, 1288], [1311, 104, 1309, 1310], [1315, 104, 1313, 1314], [903, 104, 902], [836, 104, 835], [1422, 104, 1421], [1425, 104, 1424], [926, 104, 925], [1296, 104, 1295], [1437, 116, 1435, 1436], [1770, 116, 1769, 59], [1441, 116, 1439, 1440], [1446, 116, 1444, 34], [1450, 116, 1448, 1449], [1654, 116, 1653, 36], [1703, 116, 1702], [1726, 116, 1725], [1860, 116, 1859], [1797, 116, 1796], [1950, 116, 1949], [1911, 116, 1910], [1998, 116, 1997, 89], [1482, 116, 1481, 35], [1662, 116, 1661, 38], [1665, 116, 1664], [1668, 116, 1667], [1658, 116, 1657, 37], [1680, 116, 1679, 41], [1676, 116, 1675, 40], [1734, 116, 1733, 53], [1730, 116, 1729, 52], [1688, 116, 1687, 43], [1700, 116, 1699, 46], [1696, 116, 1695, 45], [1692, 116, 1691, 44], [1684, 116, 1683, 42], [1715, 116, 1714, 49], [1711, 116, 1710, 48], [1723, 116, 1722, 51], [1672, 116, 1671, 39], [1719, 116, 1718, 50], [1707, 116, 1706, 47], [1650, 116, 1648, 1649], [1738, 116, 1736, 1737], [1746, 116, 1745, 54], [1766, 116, 1765, 58], [1778, 116, 1777, 60], [1872, 116, 1871, 76], [1754, 116, 1753, 56], [1750, 116, 1749, 55], [1790, 116, 1789, 62], [1782, 116, 1781, 61], [1876, 116, 1875, 77], [1758, 116, 1757, 57], [1742, 116, 1740, 1741], [1762, 116, 1760, 1761], [1774, 116, 1772, 1773], [1794, 116, 1793, 63], [1801, 116, 1800, 64], [1786, 116, 1784, 1785], [1805, 116, 1803, 1804], [1813, 116, 1812, 65], [1817, 116, 1816, 66], [1825, 116, 1824, 68], [1833, 116, 1832, 69], [1841, 116, 1840, 70], [1845, 116, 1844, 71], [1864, 116, 1863, 74], [1868, 116, 1867, 75], [1857, 116, 1856, 73], [1853, 116, 1852, 72], [1809, 116, 1807, 1808], [1829, 116, 1827, 1828], [1837, 116, 1835, 1836], [1849, 116, 1847, 1848], [1821, 116, 1820, 67], [1880, 116, 1878, 1879], [1974, 116, 1973, 87], [1978, 116, 1977, 88], [1884, 116, 1882, 1883], [1888, 116, 1886, 1887], [1908, 116, 1907, 81], [1896, 116, 1895, 78], [1900, 116, 1899, 79], [1904, 116, 1903, 80], [1892, 116, 1890, 1891], [1915, 116, 1913, 1914], [1919, 116, 1917, 1918], [1927, 116, 1926, 82], [1923, 116, 1921, 1922], [1931, 116, 1929, 1930], [1954, 116, 1953, 86], [1947, 116, 1946, 85], [1943, 116, 1942, 84], [1939, 116, 1938, 83], [1935, 116, 1933, 1934], [1958, 116, 1956, 1957], [1962, 116, 1960, 1961], [1966, 116, 1964, 1965], [1970, 116, 1968, 1969], [1982, 116, 1980, 1981], [1986, 116, 1984, 1985], [1990, 116, 1988, 1989], [1994, 116, 1992, 1993], [2002, 116, 2000, 2001], [2014, 116, 2013, 91], [2010, 116, 2009, 90], [2006, 116, 2004, 2005], [2019, 116, 2017, 2018], [2027, 116, 2026, 92], [2031, 116, 2030, 93], [2035, 116, 2034, 94], [2023, 116, 2021, 2022], [2039, 116, 2037, 2038], [2051, 116, 2050, 96], [2055, 116, 2054, 97], [2047, 116, 2046, 95], [2067, 116, 2066, 100], [2063, 116, 2062, 99], [2059, 116, 2058, 98], [2043, 116, 2041, 2042], [2079, 116, 2078, 102], [2075, 116, 2074, 101], [2071, 116, 2069, 2070], [2083, 116, 2081, 2082], [2087, 116, 2085, 2086], [2091, 116, 2089, 2090], [1134, 113, 1132, 1133], [1138, 113, 1137, 17], [1152, 113, 1151, 18], [1156, 113, 1155], [1166, 113, 1165, 19], [1162, 113, 1161], [1172, 113, 1170, 1171], [1176, 113, 1175, 20], [1183, 113, 1182, 21], [1196, 113, 1194, 1195], [782, 108, 780, 781], [787, 108, 785, 786], [791, 108, 789, 790], [1419, 108, 1417, 1418], [1049, 108, 1047, 1048], [875, 108, 873, 874], [1301, 108, 1299, 1300], [916, 111, 914, 915], [1005, 111, 1003, 1004], [1401, 114, 1399, 1400], [1405, 114, 1404, 32], [1409, 114, 1408], [1414, 114, 1413, 33], [1027, 114, 1025, 1026], [816, 112, 814, 815], [1306, 112, 1304, 1305], [1204, 112, 1202, 1203], [1209, 112, 1208, 22], [1213, 112, 1212, 23], [1217, 112, 1216, 24], [1249, 112, 1248, 26], [1221, 112, 1220], [1254, 112, 1253, 27], [1245, 112, 1244, 25], [1267, 112, 1265, 1266], [1271, 112, 1270, 28], [1275, 112, 1274, 29], [1285, 112, 1284, 30], [420, 110, 418, 419], [923, 110, 921, 922], [871, 110, 869, 870], [1018, 110, 1016, 1017], [879, 110, 877, 878], [888, 110, 886, 887], [884, 110, 882, 883], [862, 110, 860, 861], [997, 110, 995, 996], [832, 110, 830, 831], [992, 110, 990, 991], [892, 110, 890, 891], [912, 110, 910, 911], [937, 110, 935, 936], [945, 110, 943, 944], [949, 110, 947, 948], [961, 110, 959, 960], [965, 110, 963, 964], [981, 110, 979, 980], [987, 110, 986, 12], [977, 110, 975, 976], [973, 110, 971, 972], [1121, 110, 1119, 1120], [244, 107, 242, 243], [1293, 107, 1291, 1292], [733, 107, 732], [730, 107, 728, 729], [746, 107, 744, 745], [766, 107, 764, 765], [774, 107, 772, 773], [828, 107, 826, 827], [957, 107, 955, 956], [858, 107, 856, 857], [907, 107, 905, 906], [840, 107, 838, 839], [846, 107, 844, 845], [850, 107, 848, 849], [1066, 107, 1064, 1065], [696, 106, 694, 695], [701, 106, 700, 2], [717, 106, 716, 3], [750, 106, 749, 5], [754, 106, 753, 6], [770, 106, 769, 7], [722, 106, 721, 4], [778, 106, 777, 8], [796, 106, 795, 9], [800, 106, 799, 10], [804, 106, 803, 11], [643, 105, 641, 642], [647, 105, 646, 0], [655, 105, 653, 654], [663, 105, 661, 662], [667, 105, 665, 666], [680, 105, 679, 1], [670, 105, 669], [673, 105, 672], [676, 105, 675], [692, 105, 691], [705, 105, 703, 704], [812, 105, 810, 811], [808, 105, 806, 807], [726, 105, 724, 725], [741, 105, 739, 740], [737, 105, 735, 736], [760, 105, 758, 759], [683, 118, 682], [687, 118, 686], [1318, 103, 1317], [1392, 103, 1391], [1428, 103, 1427], [0, 103, 0], [1055, 125, 1054], [919, 109, 918]]
def yS : List Nat := [23, 45, 46, 47, 48, 49, 50, 57, 58, 59, 60, 61, 62, 66, 67, 172, 174, 190, 200, 232, 262, 263, 264, 265, 273, 274, 275, 276, 277, 278, 279, 280]
def cpL12_0 : List (Nat × Nat × List Nat × List Nat) := [(10, 0, [10, 0, 4, 2], [581]), (21, 0, [10, 1, 4, 4], [582]), (28, 0, [10, 2, 2, 0], [583]), (32, 0, [10, 3, 2, 0], [584]), (38, 0, [10, 4, 4, 200], [585]), (42, 2, [1, 207, 1, 0, 7], [417]), (46, 0, [10, 5, 4, 205], [586]), (52, 0, [10, 6, 4, 20], [587]), (59, 0, [10, 7, 2, 0], [588]), (63, 0, [10, 8, 2, 0], [589]), (69, 0, [10, 9, 4, 30], [590]), (76, 0, [10, 10, 4, 40], [591]), (82, 0, [10, 11, 4, 60], [592]), (87, 0, [10, 13, 0, 0], [594]), (91, 0, [10, 14, 0, 0], [595]), (94, 0, [10, 15, 0, 0], [596]), (97, 0, [10, 16, 0, 0], [597]), (100, 0, [10, 17, 0, 0], [598]), (103, 2, [1, 256, 5, 1, 10], [640]), (107, 2, [1, 258, 1, 1, 10], [652]), (111, 2, [1, 259, 1, 0, 10], [660]), (114, 2, [1, 245, 1, 1, 9], [693]), (118, 0, [9, 1, 0, 0], [143]), (121, 0, [9, 9, 0, 0], [160]), (124, 0, [10, 12, 0, 0], [593]), (125, 0, [9, 10, 0, 0], [162]), (128, 2, [1, 193, 0, 0, 6], [813]), (131, 0, [3, 2, 0, 0], [433]), (134, 2, [1, 237, 1, 1, 8], [825]), (137, 0, [7, 1, 3, 2], [250]), (141, 0, [6, 11, 3, 1], [383]), (144, 2, [1, 216, 2, 1, 7], [829]), (148, 0, [6, 9, 0, 0], [378]), (151, 2, [0, 46, 2, 1], [842]), (155, 2, [1, 242, 1, 1, 8], [843]), (159, 2, [1, 243, 1, 1, 8], [847]), (162, 2, [1, 238, 1, 1, 8], [954]), (172, 0, [7, 4, 3, 4], [261]), (175, 0, [7, 5, 3, 5], [266]), (178, 0, [7, 6, 3, 6], [271]), (181, 2, [1, 212, 1, 1, 7], [1085]), (184, 0, [6, 13, 3, 3], [387]), (187, 0, [6, 10, 0, 0], [380]), (190, 2, [1, 239, 1, 1, 8], [855]), (193, 0, [7, 9, 3, 8], [284]), (196, 0, [7, 10, 3, 9], [287]), (199, 0, [7, 11, 3, 10], [290]), (202, 0, [6, 12, 3, 2], [385]), (205, 2, [1, 214, 2, 1, 7], [859]), (209, 0, [6, 0, 0, 0], [360]), (212, 2, [1, 209, 1, 1, 7], [868]), (215, 0, [6, 1, 0, 0], [362]), (218, 0, [6, 2, 0, 0], [364]), (221, 0, [6, 3, 0, 0], [366]), (224, 2, [1, 211, 1, 1, 7], [876]), (227, 2, [1, 213, 1, 1, 7], [881]), (230, 0, [6, 4, 0, 0], [368]), (233, 2, [1, 218, 1, 1, 7], [889]), (236, 0, [6, 5, 0, 0], [370]), (239, 0, [6, 6, 0, 0], [372])]
def cpL12_1 : List (Nat × Nat × List Nat × List Nat) := [(242, 0, [6, 7, 0, 0], [374]), (245, 0, [6, 8, 0, 0], [376]), (248, 2, [0, 45, 3, 1], [901]), (252, 0, [7, 15, 0, 0], [307]), (255, 2, [1, 240, 1, 1, 8], [904]), (258, 2, [1, 219, 3, 1, 7], [909]), (261, 2, [1, 186, 1, 0, 4], [913]), (265, 2, [1, 220, 3, 0, 7], [934]), (269, 2, [1, 221, 1, 1, 7], [942]), (272, 2, [1, 222, 1, 0, 7], [946]), (275, 2, [1, 223, 1, 1, 7], [958]), (278, 2, [1, 224, 1, 0, 7], [962]), (281, 2, [6], [927, 928, 109, 929]), (286, 2, [1, 228, 2, 0, 7], [970]), (290, 2, [1, 187, 1, 1, 4], [1002]), (294, 2, [1, 241, 2, 1, 8], [1010]), (297, 2, [1, 210, 1, 1, 7], [1015]), (300, 2, [7], [1019, 223, 109, 224]), (303, 0, [7, 13, 3, 11], [300]), (307, 0, [2, 2, 0, 0], [232]), (312, 2, [1, 188, 2, 0, 5], [1398]), (315, 0, [4, 10, 0, 0], [528]), (318, 2, [1, 182, 1, 1, 3], [1416]), (321, 2, [0, 47, 3, 1], [1420]), (325, 2, [1, 192, 1, 1, 5], [1024]), (330, 2, [1, 20, 3, 1, 11], [1032]), (333, 2, [1, 208, 1, 0, 7], [1036]), (336, 2, [1, 225, 1, 0, 7], [1037]), (339, 2, [1, 183, 0, 1, 3], [1046]), (343, 2, [0, 23, 4, 1], [1050]), (347, 2, [1, 24, 4, 1, 11], [1059]), (351, 2, [0, 279, 1, 1], [1053]), (356, 2, [1, 244, 1, 1, 8], [1063]), (359, 0, [7, 7, 0, 0], [280]), (362, 2, [1, 215, 3, 1, 7], [1080]), (366, 2, [1, 30, 0, 0, 11], [1086]), (369, 2, [1, 32, 1, 1, 11], [1098]), (372, 0, [7, 2, 0, 0], [256]), (375, 0, [9, 0, 4, 3], [141]), (378, 2, [1, 229, 3, 0, 7], [1118]), (382, 2, [1, 169, 2, 0, 1], [1131]), (385, 2, [1, 175, 2, 0, 1], [1169]), (389, 0, [0, 7, 0, 0], [485]), (392, 0, [0, 6, 0, 0], [483]), (395, 2, [1, 178, 1, 1, 1], [1193]), (398, 2, [1, 195, 2, 0, 6], [1201]), (399, 0, [5, 5, 0, 0], [455]), (402, 2, [1, 203, 2, 1, 6], [1264]), (406, 0, [1, 0, 3, 10], [566]), (407, 2, [1, 231, 1, 0, 8], [1290]), (409, 0, [1, 1, 3, 40], [568]), (410, 0, [1, 2, 3, 50], [570]), (411, 2, [1, 194, 1, 0, 6], [1303]), (414, 0, [1, 3, 5, 0], [571]), (418, 0, [7, 12, 0, 0], [296]), (421, 0, [7, 17, 0, 0], [314]), (424, 2, [0, 48, 2, 1], [1423]), (427, 2, [8], [930, 932, 931, 124]), (427, 2, [9], [930, 932, 931, 124])]
def cpL12 : List (Nat × Nat × List Nat × List Nat) := cpL12_0 ++ cpL12_1
def cpL13_0 : List (Nat × Nat × List Nat × List Nat) := [(10, 2, [1, 54, 1, 0, 12], [1442]), (93, 4, [2002873452], [1456]), (95, 4, [448546567013], [1457]), (97, 4, [31372865427825765], [1458]), (99, 4, [431415716206], [1459]), (101, 4, [427121013620], [1460]), (103, 4, [444016715621], [1461]), (105, 4, [123580963646565], [1462]), (107, 4, [1935765092], [1463]), (109, 4, [1918989413], [1464]), (111, 4, [1886352244], [1465]), (113, 4, [1903520116], [1466]), (115, 4, [30064], [1467]), (117, 4, [1752135026], [1468]), (119, 4, [28530], [1469]), (121, 4, [6385252], [1470]), (123, 4, [7237492], [1471]), (125, 4, [28829673490507108], [1472]), (127, 4, [504397587812], [1473]), (129, 4, [1935763045], [1474]), (131, 4, [108187682958948], [1475]), (133, 4, [512970880104], [1476]), (135, 4, [439905906546], [1477]), (137, 4, [121450625394034], [1478]), (139, 2, [1, 64, 0, 0, 12], [1479]), (142, 2, [1, 65, 0, 1, 12], [1659]), (155, 2, [0, 66, 1, 1], [1663]), (159, 2, [0, 67, 1, 1], [1666]), (175, 2, [1, 71, 1, 1, 12], [1731]), (178, 2, [1, 69, 1, 1, 12], [1677]), (181, 2, [1, 68, 0, 0, 12], [1655]), (184, 2, [0, 57, 3, 1], [1701]), (191, 2, [1, 74, 2, 1, 12], [1697]), (195, 2, [1, 73, 0, 1, 12], [1685]), (199, 2, [1, 76, 2, 1, 12], [1689]), (203, 2, [1, 78, 2, 1, 12], [1712]), (209, 2, [0, 58, 2, 1], [1724]), (212, 2, [1, 75, 3, 1, 12], [1693]), (215, 2, [1, 70, 1, 1, 12], [1673]), (219, 2, [1, 77, 1, 1, 12], [1681]), (222, 2, [1, 83, 0, 1, 12], [1704]), (225, 2, [1, 79, 2, 1, 12], [1708]), (228, 2, [1, 82, 7, 1, 12], [1716]), (232, 2, [1, 80, 4, 1, 12], [1720]), (236, 2, [1, 56, 1, 0, 12], [1651]), (242, 2, [1, 81, 0, 1, 12], [1669]), (245, 2, [1, 72, 1, 1, 12], [1727]), (251, 2, [1, 90, 2, 1, 12], [1751]), (254, 2, [1, 93, 1, 1, 12], [1779]), (257, 2, [1, 86, 1, 1, 12], [1743]), (260, 2, [1, 91, 1, 1, 12], [1747]), (264, 2, [1, 95, 1, 1, 12], [1755]), (267, 2, [1, 87, 1, 1, 12], [1763]), (270, 2, [1, 52, 1, 1, 12], [1767]), (274, 2, [1, 88, 1, 1, 12], [1775]), (277, 2, [0, 60, 2, 1], [1795]), (280, 2, [1, 92, 1, 1, 12], [1787]), (283, 2, [1, 99, 1, 1, 12], [1791]), (286, 2, [1, 100, 0, 1, 12], [1798]), (289, 2, [1, 89, 1, 1, 12], [1869])]
def cpL13_1 : List (Nat × Nat × List Nat × List Nat) := [(292, 2, [1, 94, 2, 1, 12], [1873]), (295, 2, [0, 59, 2, 1], [1858]), (298, 2, [1, 109, 0, 1, 12], [1861]), (301, 2, [1, 110, 2, 1, 12], [1865]), (304, 2, [1, 111, 0, 0, 12], [1854]), (307, 2, [1, 103, 1, 1, 12], [1810]), (310, 2, [1, 104, 3, 1, 12], [1814]), (313, 2, [1, 117, 0, 0, 12], [1818]), (316, 2, [1, 105, 3, 0, 12], [1822]), (320, 2, [1, 106, 1, 0, 12], [1830]), (323, 2, [1, 107, 1, 1, 12], [1838]), (326, 2, [1, 108, 1, 0, 12], [1842]), (329, 2, [1, 112, 1, 1, 12], [1850]), (335, 2, [1, 124, 0, 0, 12], [1893]), (338, 2, [1, 125, 2, 1, 12], [1897]), (341, 2, [1, 126, 2, 1, 12], [1901]), (344, 2, [1, 123, 0, 1, 12], [1905]), (347, 2, [0, 62, 3, 1], [1909]), (351, 2, [1, 130, 3, 1, 12], [1924]), (364, 2, [0, 61, 1, 1], [1948]), (367, 2, [1, 133, 0, 1, 12], [1951]), (370, 2, [1, 134, 3, 1, 12], [1944]), (373, 2, [1, 135, 4, 1, 12], [1940]), (376, 2, [1, 136, 5, 1, 12], [1936]), (386, 2, [1, 119, 0, 0, 12], [1971]), (389, 2, [1, 120, 0, 0, 12], [1975]), (398, 2, [1, 63, 1, 1, 12], [1995]), (410, 3, [1103515245], [2015]), (411, 2, [1, 147, 1, 1, 12], [2011]), (414, 2, [1, 148, 2, 1, 12], [2007]), (420, 2, [1, 152, 1, 1, 12], [2028]), (423, 2, [1, 151, 0, 1, 12], [2024]), (426, 2, [1, 153, 4, 1, 12], [2032]), (439, 2, [1, 156, 3, 0, 12], [2048]), (445, 2, [1, 159, 0, 1, 12], [2064]), (454, 2, [1, 158, 0, 0, 12], [2044]), (457, 2, [1, 157, 1, 0, 12], [2052]), (460, 2, [1, 161, 0, 1, 12], [2056]), (463, 2, [1, 160, 0, 1, 12], [2060]), (466, 2, [1, 163, 4, 1, 12], [2076]), (469, 2, [1, 164, 1, 1, 12], [2072])]
def cpL13 : List (Nat × Nat × List Nat × List Nat) := cpL13_0 ++ cpL13_1
def cpL1_0 : List (Nat × Nat × List Nat × List Nat) := [(13, 0, [0, 0, 4, 31], [476]), (17, 0, [0, 1, 4, 32], [477]), (21, 0, [0, 2, 4, 33], [478]), (24, 0, [0, 3, 4, 34], [479]), (27, 0, [0, 4, 0, 0], [480]), (31, 0, [9, 5, 0, 0], [147]), (36, 2, [1, 170, 2, 1, 1], [1135]), (40, 2, [1, 268, 1, 1, 10], [1168]), (44, 0, [9, 8, 2, 0], [156]), (48, 1, [609], [1139]), (51, 1, [610], [1141]), (54, 1, [611], [1143]), (57, 1, [612], [1145]), (60, 2, [1, 266, 1, 1, 10], [1147]), (63, 2, [1, 260, 0, 0, 10], [1148]), (66, 2, [1, 171, 2, 1, 1], [1149]), (69, 2, [1, 173, 3, 1, 1], [1163]), (73, 2, [1, 271, 2, 1, 10], [1153]), (77, 2, [0, 172, 2, 1], [1154]), (81, 2, [0, 174, 2, 1], [1160]), (85, 2, [1, 269, 0, 1, 10], [1157]), (89, 0, [7, 8, 3, 7], [282]), (95, 0, [7, 12, 0, 0], [293]), (98, 0, [9, 7, 1, 0], [154]), (102, 2, [0, 232, 3, 1], [1158]), (106, 0, [7, 0, 3, 1], [246]), (109, 0, [7, 2, 0, 0], [254]), (112, 2, [1, 272, 2, 1, 10], [1159]), (116, 2, [1, 270, 2, 1, 10], [1167]), (119, 0, [7, 3, 3, 3], [258]), (122, 0, [7, 7, 0, 0], [277]), (125, 0, [0, 6, 0, 0], [482]), (128, 0, [0, 7, 0, 0], [484]), (131, 2, [1, 176, 3, 1, 1], [1173]), (135, 2, [1, 177, 3, 0, 1], [1180]), (139, 0, [6, 0, 0, 0], [359]), (144, 0, [0, 8, 0, 0], [486]), (147, 2, [1, 218, 1, 1, 7], [1188]), (151, 0, [0, 9, 0, 0], [487]), (154, 0, [0, 5, 5, 0], [481]), (158, 0, [7, 15, 0, 0], [305]), (161, 2, [1, 219, 3, 1, 7], [1177]), (165, 2, [1, 221, 1, 1, 7], [1178]), (169, 2, [1, 223, 1, 1, 7], [1179]), (172, 2, [1, 220, 3, 0, 7], [1184]), (176, 2, [1, 228, 2, 0, 7], [1185]), (180, 2, [1, 222, 1, 0, 7], [1186]), (184, 2, [1, 224, 1, 0, 7], [1187])]
def cpL1 : List (Nat × Nat × List Nat × List Nat) := cpL1_0
def cpL3_0 : List (Nat × Nat × List Nat × List Nat) := [(9, 2, [7], [222, 223, 109, 224]), (15, 0, [2, 0, 3, 1], [225]), (21, 0, [2, 1, 3, 2], [227]), (24, 0, [2, 2, 0, 0], [229]), (28, 2, [1, 179, 0, 1, 3], [792]), (32, 2, [0, 49, 2, 0], [0])]
def cpL3 : List (Nat × Nat × List Nat × List Nat) := cpL3_0
def cpL4_0 : List (Nat × Nat × List Nat × List Nat) := [(13, 0, [3, 0, 4, 21], [430]), (18, 0, [3, 1, 0, 0], [431]), (22, 2, [0, 280, 2, 1], [917]), (28, 2, [1, 208, 1, 0, 7], [920]), (32, 0, [3, 2, 0, 0], [432]), (35, 2, [6], [933, 928, 109, 929])]
def cpL4 : List (Nat × Nat × List Nat × List Nat) := cpL4_0
def cpL5_0 : List (Nat × Nat × List Nat × List Nat) := [(11, 0, [4, 0, 4, 41], [517]), (17, 0, [4, 2, 4, 42], [519]), (20, 0, [4, 3, 4, 48], [520]), (23, 0, [4, 4, 4, 54], [521]), (26, 0, [4, 5, 4, 55], [522]), (29, 0, [7, 2, 0, 0], [252]), (35, 0, [4, 7, 0, 0], [524]), (36, 0, [4, 8, 0, 0], [525]), (39, 2, [1, 189, 1, 0, 5], [1402]), (43, 0, [4, 1, 0, 0], [518]), (46, 2, [0, 190, 3, 1], [1407]), (50, 2, [1, 241, 2, 1, 8], [1410]), (54, 0, [4, 10, 0, 0], [527]), (57, 0, [4, 9, 0, 0], [526]), (60, 0, [4, 6, 0, 0], [523]), (63, 2, [1, 191, 3, 0, 5], [1411]), (67, 0, [7, 13, 3, 11], [298]), (71, 2, [1, 180, 1, 1, 3], [1406]), (77, 0, [2, 2, 0, 0], [231]), (80, 0, [2, 0, 3, 1], [226]), (83, 0, [7, 7, 0, 0], [275]), (86, 0, [7, 6, 3, 6], [270]), (89, 0, [7, 4, 3, 4], [260]), (92, 0, [2, 1, 3, 2], [228]), (95, 0, [7, 5, 3, 5], [265]), (98, 2, [0, 49, 2, 0], [0])]
def cpL5 : List (Nat × Nat × List Nat × List Nat) := cpL5_0
def cpL6_0 : List (Nat × Nat × List Nat × List Nat) := [(13, 0, [5, 0, 3, 1], [449]), (17, 0, [5, 1, 3, 2], [450]), (21, 0, [5, 2, 3, 3], [451]), (24, 0, [5, 3, 3, 4], [452]), (27, 0, [5, 4, 0, 0], [453]), (31, 0, [5, 5, 0, 0], [454]), (34, 2, [0, 49, 2, 0], [0]), (38, 2, [1, 193, 0, 0, 6], [1205]), (41, 2, [1, 196, 3, 1, 6], [1206]), (45, 0, [9, 5, 0, 0], [149]), (50, 2, [1, 266, 1, 1, 10], [1239]), (54, 2, [1, 197, 3, 1, 6], [1210]), (57, 0, [9, 8, 2, 0], [158]), (61, 1, [613], [1258]), (64, 2, [1, 260, 0, 0, 10], [1240]), (67, 2, [1, 202, 3, 1, 6], [1242]), (71, 2, [1, 198, 3, 1, 6], [1214]), (74, 1, [614], [1256]), (77, 2, [1, 267, 1, 1, 10], [1218]), (80, 2, [0, 200, 1, 1], [1219]), (84, 2, [1, 268, 1, 1, 10], [1241]), (87, 1, [615], [1222]), (90, 1, [619], [1231]), (93, 2, [1, 199, 2, 1, 6], [1246]), (97, 1, [620], [1233]), (100, 1, [621], [1235]), (103, 1, [622], [1237]), (106, 2, [1, 201, 2, 1, 6], [1251]), (110, 0, [7, 0, 3, 1], [248]), (116, 0, [7, 2, 0, 0], [255]), (119, 2, [1, 272, 2, 1, 10], [1250]), (123, 1, [616], [1224]), (126, 1, [617], [1226]), (129, 1, [602], [1228]), (132, 1, [618], [1229]), (135, 0, [9, 6, 0, 0], [152]), (138, 2, [1, 271, 2, 1, 10], [1255]), (142, 0, [7, 7, 0, 0], [279]), (145, 2, [1, 204, 3, 1, 6], [1268]), (149, 2, [1, 205, 4, 1, 6], [1272]), (153, 1, [650], [1276]), (158, 2, [10], [1277, 709, 711, 712, 117, 713, 2110]), (162, 2, [1, 212, 1, 1, 7], [1278]), (167, 0, [6, 10, 0, 0], [381]), (170, 2, [0, 46, 2, 1], [0]), (173, 0, [7, 4, 3, 4], [263]), (176, 2, [1, 209, 1, 1, 7], [1280]), (180, 2, [1, 217, 3, 1, 7], [1281]), (184, 0, [7, 5, 3, 5], [268]), (187, 2, [1, 206, 2, 1, 6], [1282]), (191, 0, [7, 6, 3, 6], [273])]
def cpL6 : List (Nat × Nat × List Nat × List Nat) := cpL6_0
def cpL7_0 : List (Nat × Nat × List Nat × List Nat) := [(9, 0, [6, 11, 3, 1], [382]), (15, 0, [6, 12, 3, 2], [384]), (18, 0, [6, 13, 3, 3], [386]), (21, 0, [6, 0, 0, 0], [358]), (25, 0, [7, 16, 0, 0], [308]), (30, 0, [6, 1, 0, 0], [361]), (31, 0, [6, 2, 0, 0], [363]), (34, 0, [6, 3, 0, 0], [365]), (37, 0, [6, 4, 0, 0], [367]), (40, 0, [6, 5, 0, 0], [369]), (43, 0, [6, 6, 0, 0], [371]), (46, 0, [6, 7, 0, 0], [373]), (49, 0, [6, 8, 0, 0], [375]), (52, 0, [6, 9, 0, 0], [377]), (55, 0, [6, 10, 0, 0], [379]), (58, 2, [0, 49, 2, 0], [0]), (62, 0, [7, 14, 3, 14], [303]), (66, 2, [1, 184, 1, 1, 3], [872]), (72, 2, [1, 209, 1, 1, 7], [988]), (76, 2, [7], [880, 223, 109, 224]), (82, 0, [7, 17, 0, 0], [312]), (85, 0, [7, 7, 0, 0], [278]), (88, 2, [1, 212, 1, 1, 7], [885]), (92, 2, [1, 239, 1, 1, 8], [863]), (95, 0, [7, 11, 3, 10], [291]), (98, 0, [7, 12, 0, 0], [295]), (101, 0, [7, 9, 3, 8], [285]), (104, 0, [7, 10, 3, 9], [288]), (107, 2, [1, 237, 1, 1, 8], [833]), (110, 2, [0, 46, 2, 1], [0]), (113, 2, [1, 241, 2, 1, 8], [837]), (116, 2, [1, 238, 1, 1, 8], [993]), (119, 0, [7, 6, 3, 6], [272]), (122, 0, [7, 4, 3, 4], [262]), (125, 2, [1, 215, 3, 1, 7], [994]), (129, 0, [7, 5, 3, 5], [267]), (132, 2, [1, 211, 1, 1, 7], [982]), (135, 2, [6], [983, 928, 109, 929]), (138, 2, [1, 226, 2, 0, 7], [984]), (142, 2, [1, 225, 1, 0, 7], [978]), (146, 2, [1, 217, 3, 1, 7], [989]), (150, 2, [1, 227, 1, 0, 7], [974]), (153, 3, [1103515245], [1122])]
def cpL7 : List (Nat × Nat × List Nat × List Nat) := cpL7_0
def cpL8_0 : List (Nat × Nat × List Nat × List Nat) := [(9, 0, [7, 0, 3, 1], [245]), (15, 0, [7, 1, 3, 2], [249]), (19, 0, [7, 3, 3, 3], [257]), (22, 0, [7, 4, 3, 4], [259]), (25, 0, [7, 5, 3, 5], [264]), (28, 0, [7, 6, 3, 6], [269]), (31, 0, [7, 8, 3, 7], [281]), (34, 0, [7, 9, 3, 8], [283]), (37, 0, [7, 10, 3, 9], [286]), (40, 0, [7, 11, 3, 10], [289]), (48, 0, [7, 13, 3, 11], [297]), (52, 0, [7, 14, 3, 14], [301]), (58, 0, [7, 2, 0, 0], [251]), (62, 0, [7, 7, 0, 0], [274]), (65, 0, [7, 12, 0, 0], [292]), (68, 0, [2, 2, 0, 0], [230]), (71, 0, [7, 15, 0, 0], [304]), (74, 0, [7, 16, 0, 0], [309]), (77, 0, [7, 17, 0, 0], [311]), (80, 2, [0, 50, 2, 0], [0]), (84, 2, [0, 49, 2, 0], [0]), (88, 2, [1, 185, 1, 0, 3], [1298]), (92, 2, [0, 232, 3, 1], [731]), (96, 2, [1, 237, 1, 1, 8], [841]), (100, 2, [1, 239, 1, 1, 8], [908]), (103, 2, [0, 46, 2, 1], [0])]
def cpL8 : List (Nat × Nat × List Nat × List Nat) := cpL8_0
def cpL9_0 : List (Nat × Nat × List Nat × List Nat) := [(9, 0, [8, 0, 4, 2], [194]), (15, 0, [8, 1, 2, 0], [195]), (19, 2, [1, 230, 0, 0, 8], [697]), (24, 0, [8, 2, 5, 0], [196]), (28, 0, [8, 3, 5, 0], [197]), (31, 0, [8, 4, 5, 0], [198]), (34, 0, [9, 5, 0, 0], [148]), (40, 2, [1, 246, 0, 1, 9], [698]), (44, 2, [1, 268, 1, 1, 10], [805]), (48, 0, [9, 8, 2, 0], [157]), (52, 2, [1, 266, 1, 1, 10], [702]), (55, 1, [650], [706]), (61, 2, [10], [708, 709, 711, 712, 117, 713, 2110]), (67, 2, [1, 247, 0, 1, 9], [714]), (70, 2, [1, 248, 0, 1, 9], [747]), (73, 2, [1, 250, 0, 1, 9], [767]), (76, 0, [7, 13, 3, 11], [299]), (80, 2, [1, 252, 4, 1, 9], [775]), (84, 0, [7, 14, 3, 14], [302]), (87, 2, [1, 253, 0, 1, 9], [793]), (90, 2, [1, 254, 0, 1, 9], [797]), (93, 2, [1, 255, 0, 1, 9], [801]), (96, 0, [7, 2, 0, 0], [253]), (99, 2, [1, 260, 0, 0, 10], [718]), (102, 0, [9, 7, 1, 0], [153]), (106, 2, [1, 251, 0, 1, 9], [719]), (109, 2, [1, 271, 2, 1, 10], [734]), (113, 2, [1, 234, 2, 0, 8], [743]), (117, 0, [7, 7, 0, 0], [276]), (120, 2, [1, 249, 0, 1, 9], [751]), (123, 2, [1, 235, 4, 0, 8], [763]), (127, 1, [602], [755]), (130, 0, [7, 0, 3, 1], [247]), (134, 2, [1, 272, 2, 1, 10], [757]), (138, 0, [7, 12, 0, 0], [294]), (141, 2, [1, 236, 4, 0, 8], [771]), (144, 2, [1, 269, 0, 1, 10], [723]), (147, 2, [1, 233, 1, 1, 8], [727]), (151, 2, [1, 179, 0, 1, 3], [779]), (156, 2, [1, 270, 2, 1, 10], [783]), (159, 2, [1, 180, 1, 1, 3], [784]), (162, 2, [1, 181, 2, 0, 3], [788]), (166, 0, [7, 15, 0, 0], [306]), (169, 0, [7, 16, 0, 0], [310]), (172, 0, [7, 17, 0, 0], [313])]
def cpL9 : List (Nat × Nat × List Nat × List Nat) := cpL9_0
def cpL10_0 : List (Nat × Nat × List Nat × List Nat) := [(9, 0, [9, 0, 4, 3], [140]), (15, 0, [9, 1, 0, 0], [142]), (19, 2, [1, 257, 1, 0, 10], [644]), (23, 0, [9, 2, 0, 0], [144]), (26, 0, [9, 3, 0, 0], [145]), (29, 0, [9, 9, 0, 0], [161]), (32, 0, [9, 10, 0, 0], [163]), (35, 2, [1, 260, 0, 0, 10], [664]), (38, 0, [9, 8, 2, 0], [159]), (42, 0, [9, 7, 1, 0], [155]), (46, 0, [9, 6, 0, 0], [151]), (49, 2, [0, 262, 1, 1], [668]), (53, 0, [9, 4, 0, 0], [146]), (56, 0, [9, 5, 0, 0], [150]), (59, 2, [0, 263, 1, 1], [671]), (62, 2, [0, 264, 1, 1], [674]), (65, 2, [1, 261, 0, 0, 10], [677]), (68, 2, [0, 265, 1, 1], [690]), (71, 2, [0, 273, 2, 2], [681]), (77, 2, [0, 274, 1, 3], [685]), (81, 2, [1, 267, 1, 1, 10], [809]), (84, 2, [1, 266, 1, 1, 10], [742]), (87, 2, [1, 270, 2, 1, 10], [738]), (91, 2, [1, 269, 0, 1, 10], [761]), (95, 2, [0, 232, 3, 1], [762])]
def cpL10 : List (Nat × Nat × List Nat × List Nat) := cpL10_0
def cpL11_0 : List (Nat × Nat × List Nat × List Nat) := [(106, 0, [0, 0, 6], [2109]), (110, 4, [27], [684]), (112, 1, [651], [688])]
def cpL11 : List (Nat × Nat × List Nat × List Nat) := cpL11_0
def cpL14_0 : List (Nat × Nat × List Nat × List Nat) := [(7, 2, [1, 5, 2, 1, 11], [1320]), (15, 2, [1, 16, 2, 1, 11], [1393]), (18, 2, [1, 18, 3, 1, 11], [1429]), (26, 2, [1, 0, 5, 1, 11], [636]), (30, 2, [1, 53, 5, 1, 12], [1438]), (31, 2, [1, 1, 1, 1, 11], [648]), (35, 2, [1, 55, 1, 1, 12], [1447]), (36, 2, [1, 2, 0, 1, 11], [656]), (40, 2, [1, 84, 0, 1, 12], [1647]), (41, 2, [1, 3, 0, 1, 11], [817]), (44, 2, [1, 85, 0, 1, 12], [1735]), (45, 2, [1, 4, 2, 1, 11], [821]), (48, 2, [1, 96, 2, 1, 12], [1739]), (54, 2, [1, 97, 2, 1, 12], [1759]), (55, 2, [1, 51, 0, 1, 12], [1434]), (58, 2, [1, 6, 2, 1, 11], [851]), (61, 2, [1, 98, 2, 1, 12], [1771]), (62, 2, [1, 7, 1, 1, 11], [864]), (66, 2, [1, 101, 1, 1, 12], [1783]), (67, 2, [1, 8, 1, 1, 11], [893]), (70, 2, [1, 102, 1, 1, 12], [1802]), (71, 2, [1, 9, 3, 1, 11], [897]), (74, 2, [1, 113, 3, 1, 12], [1806]), (75, 2, [1, 10, 1, 1, 11], [938]), (78, 2, [1, 114, 1, 1, 12], [1826]), (79, 2, [1, 11, 1, 1, 11], [950]), (82, 2, [1, 115, 1, 1, 12], [1834]), (83, 2, [1, 12, 1, 1, 11], [966]), (86, 2, [1, 116, 1, 1, 12], [1846]), (87, 2, [1, 13, 0, 1, 11], [998]), (90, 2, [1, 118, 0, 1, 12], [1877]), (91, 2, [1, 14, 2, 1, 11], [1006]), (94, 2, [1, 121, 2, 1, 12], [1881]), (95, 2, [1, 15, 1, 1, 11], [1011]), (98, 2, [1, 122, 1, 1, 12], [1885]), (101, 2, [1, 127, 2, 1, 12], [1889]), (102, 2, [1, 17, 1, 1, 11], [1020]), (105, 2, [1, 128, 1, 1, 12], [1912]), (109, 2, [1, 129, 3, 1, 12], [1916]), (110, 2, [1, 19, 1, 1, 11], [1028]), (113, 2, [1, 131, 1, 1, 12], [1920]), (114, 2, [1, 21, 1, 1, 11], [1038]), (117, 2, [1, 132, 1, 1, 12], [1928]), (118, 2, [1, 22, 2, 1, 11], [1042]), (121, 2, [1, 137, 2, 1, 12], [1932]), (122, 2, [1, 25, 0, 1, 11], [1068]), (125, 2, [1, 138, 0, 1, 12], [1955]), (126, 2, [1, 26, 2, 1, 11], [1072]), (129, 2, [1, 139, 2, 1, 12], [1959]), (130, 2, [1, 27, 2, 1, 11], [1076]), (133, 2, [1, 140, 2, 1, 12], [1963]), (134, 2, [1, 28, 1, 1, 11], [1081]), (137, 2, [1, 141, 1, 1, 12], [1967]), (138, 2, [1, 29, 0, 1, 11], [1090]), (141, 2, [1, 142, 0, 1, 12], [1979]), (142, 2, [1, 31, 1, 1, 11], [1094]), (145, 2, [1, 143, 1, 1, 12], [1983]), (146, 2, [1, 33, 0, 1, 11], [1102]), (149, 2, [1, 144, 0, 1, 12], [1987]), (150, 2, [1, 34, 0, 1, 11], [1106])]
def cpL14_1 : List (Nat × Nat × List Nat × List Nat) := [(153, 2, [1, 145, 0, 1, 12], [1991]), (154, 2, [1, 35, 0, 1, 11], [1110]), (157, 2, [1, 146, 0, 1, 12], [1999]), (158, 2, [1, 36, 2, 1, 11], [1114]), (161, 2, [1, 149, 2, 1, 12], [2003]), (162, 2, [1, 37, 3, 1, 11], [1123]), (165, 2, [1, 150, 3, 1, 12], [2016]), (166, 2, [1, 38, 1, 1, 11], [1127]), (169, 2, [1, 154, 1, 1, 12], [2020]), (170, 2, [1, 39, 1, 1, 11], [1189]), (173, 2, [1, 155, 1, 1, 12], [2036]), (174, 2, [1, 40, 0, 1, 11], [1197]), (177, 2, [1, 162, 0, 1, 12], [2040]), (178, 2, [1, 41, 1, 1, 11], [1260]), (181, 2, [1, 165, 1, 1, 12], [2068]), (182, 2, [1, 42, 1, 1, 11], [1286]), (185, 2, [1, 166, 1, 1, 12], [2080]), (186, 2, [1, 43, 1, 1, 11], [1308]), (189, 2, [1, 167, 1, 1, 12], [2084]), (190, 2, [1, 44, 1, 1, 11], [1312]), (193, 2, [1, 168, 1, 1, 12], [2088])]
def cpL14 : List (Nat × Nat × List Nat × List Nat) := cpL14_0 ++ cpL14_1
def cpL15_0 : List (Nat × Nat × List Nat × List Nat) := [(265, 3, [1431655765], [1056]), (266, 3, [858993459], [1057]), (267, 3, [252645135], [1058])]
def cpL15 : List (Nat × Nat × List Nat × List Nat) := cpL15_0
def cpC (c : Nat) : List (Nat × Nat × List Nat × List Nat) := ([[], cpL1, [], cpL3, cpL4, cpL5, cpL6, cpL7, cpL8, cpL9, cpL10, cpL11, cpL12, cpL13, cpL14, cpL15, []] : List (List (Nat × Nat × List Nat × List Nat))).getD c []
def LQ : List (List Nat) := [[488, 490, 492, 494, 496, 498, 500, 502, 504, 506], [572, 574, 576, 578], [233, 235, 237], [434, 436, 438], [529, 531, 533, 535, 537, 539, 541, 543, 545, 547, 549], [456, 458, 460, 462, 464, 466], [388, 390, 392, 394, 396, 398, 400, 402, 404, 406, 408, 410, 412, 414], [315, 317, 319, 321, 323, 325, 327, 329, 331, 333, 335, 337, 339, 341, 343, 345, 347, 349], [199, 201, 203, 205, 207], [164, 166, 168, 170, 172, 174, 176, 178, 180, 182, 184], [599, 601, 603, 605, 607, 609, 611, 613, 615, 617, 619, 621, 623, 625, 627, 629, 631, 633], [1537, 1539, 1541, 1543, 1545, 1547, 1549, 1551, 1553, 1555, 1557, 1559, 1561, 1563, 1565, 1567, 1569, 1571, 1573, 1575, 1577, 1579, 1581, 1583, 1585, 1587, 1589, 1591, 1593, 1595, 1597, 1599, 1601, 1603, 1605, 1607, 1609, 1611, 1613, 1615, 1617, 1619, 1621, 1623, 1625, 1627, 1629, 1631, 1633, 1635, 1637, 1639, 1641, 1643]]
def wordN : List String := ["WALL", "HOUSE", "OUTSIDE", "DRAIN", "CREST", "GAUGE", "PEOPLE", "SAND", "RATE", "POST", "QUIT", "UP", "HOUR", "OR", "AND", "NOT", "FLOODED", "UPPED", "SAFE", "BEHIND", "WORTH", "FLOOR", "NUMBER"]
def nestQ : List (Nat × Nat × Nat) := [(3, 32, 49), (5, 98, 49), (6, 34, 49), (6, 170, 46), (7, 58, 49), (7, 110, 46), (8, 80, 50), (8, 84, 49), (8, 103, 46)]
def yN (y : Nat) : MethodName := (yE y).1
def yB (y : Nat) : ByteArray := (yE y).2.1
def yM (y : Nat) : Nat := (yE y).2.2.1
def yR (y : Nat) : Option FieldType := (yE y).2.2.2
def cq (ci : Nat) : vw_C := vwCl.getD ci (RX1, TX1, 10)
def tyq (ci : Nat) : Nat → FieldType := vwTy.getD ci tyX1
def yOrd : MethodName := yJx29ce0_ordinal_8abf5
def xOrd : MethodName := ⟨RX11, "ordinal", "()I"⟩
def plainY (y : MethodName) : Bool := decide (y.cls ≠ "java/lang/invoke/MethodHandle") && decide (y.cls ≠ "java/lang/invoke/VarHandle")
def parN (y : MethodName) (n : Nat) : Bool := decide ((parseMethodDescriptor y.desc).map (fun d => d.parameters.length) = some n)
def inP (p : Nat) (w : Cond) : Bool := decide (lw_tbl[p]? = some w) && goodWord w
/-- method y: its code, its class, how it is called -/
def mOK (y : Nat) : Bool := inP ((yP.getD y []).getD 1 0) (.initialized (yN y).cls) && (plainY (yN y) && decide ((yN y).cls ≠ RL)) && Nat.ble (yM y) 40 &&
  (if y ∈ yS then inP ((yP.getD y []).getD 2 0) (.static (yN y)) else inP ((yP.getD y []).getD 2 0) (.instanceMethod (yN y)) && inP ((yP.getD y []).getD 3 0) (.selects (yN y).cls (yN y) (yN y)))
/-- a field's tag against its type, and whether it may be written -/
def tagOK (ci k : Nat) (t : List Nat) : Bool := match t with
  | 0 :: _ => decide (tyq ci k = .int) && !((cq ci).2.1 k).2.2.2
  | 5 :: _ => decide (tyq ci k = .boolean) && !((cq ci).2.1 k).2.2.2
  | 1 :: _ => decide (tyq ci k = .long) && !((cq ci).2.1 k).2.2.2
  | 2 :: _ => (match tyq ci k with | .object _ => true | _ => false) && !((cq ci).2.1 k).2.2.2
  | 3 :: o :: _ => Nat.blt 0 o
  | 4 :: o :: _ => Nat.blt 0 o
  | _ => false
def yLaw : List Nat := [275, 276, 277, 278]
def linkOK (c : Nat) (e : Nat × Nat × List Nat × List Nat) : Bool := match e.2.1, e.2.2.1 with
  | 0, 0 :: 0 :: 6 :: _ => inP (e.2.2.2.getD 0 0) (.fieldLink (Rn c) e.1 RX11 "packed" "J")
  | 0, ci :: k :: t => inP (e.2.2.2.getD 0 0) (.fieldLink (Rn c) e.1 (cq ci).1 ((cq ci).2.1 k).2.1 ((cq ci).2.1 k).2.2.1) && Nat.blt k (cq ci).2.2 && Nat.blt ci 12 && decide ((FT.getD ci []).getD k [] = t) && tagOK ci k t && decide (((cq ci).2.1 k).1 = (cq ci).1)
  | 1, b :: _ => if b = 650 then inP (e.2.2.2.getD 0 0) (.fieldLink (Rn c) e.1 RX0 "$SwitchMap$BagsRiver$Word" "[I") else if b = 651 then inP (e.2.2.2.getD 0 0) (.fieldLink (Rn c) e.1 RX11 "ALL" "[LBagsRiver$Word;") else Nat.ble 600 b && Nat.blt b 623 && inP (e.2.2.2.getD 0 0) (.fieldLink (Rn c) e.1 RX11 (wordN.getD (b - 600) "") "LBagsRiver$Word;")
  | 2, 0 :: y :: n :: _ :: _ => decide (y ∈ yS) && Nat.blt y 281 && !decide (y ∈ yLaw) && parN (yN y) n && (decide ((c, e.1, y) ∈ nestQ) || inP (e.2.2.2.getD 0 0) (.methodLink (Rn c) e.1 (yN y)))
  | 2, 1 :: y :: n :: _ :: cl :: _ => !decide (y ∈ yS) && Nat.blt y 281 && !decide (y ∈ yLaw) && parN (yN y) n && inP (e.2.2.2.getD 0 0) (.methodLink (Rn c) e.1 (yN y)) && decide ((yN y).cls = (cq (cl - 1)).1) && Nat.ble 1 cl && Nat.ble cl 12
  | 2, 7 :: _ => inP (e.2.2.2.getD 0 0) (.methodLink (Rn c) e.1 Lib.Math.max.name) && inP (e.2.2.2.getD 1 0) (.static Lib.Math.max.name) && inP (e.2.2.2.getD 2 0) (.initialized "java/lang/Math") && inP (e.2.2.2.getD 3 0) (.code Lib.Math.max.name Lib.Math.max.code 2 (some .int))
  | 2, 6 :: _ => inP (e.2.2.2.getD 0 0) (.methodLink (Rn c) e.1 Lib.Math.min.name) && inP (e.2.2.2.getD 1 0) (.static Lib.Math.min.name) && inP (e.2.2.2.getD 2 0) (.initialized "java/lang/Math") && inP (e.2.2.2.getD 3 0) (.code Lib.Math.min.name Lib.Math.min.code 2 (some .int))
  | 2, 8 :: _ => inP (e.2.2.2.getD 0 0) (.methodLink (Rn c) e.1 arraycopyName) && inP (e.2.2.2.getD 1 0) (.native arraycopyName) && inP (e.2.2.2.getD 2 0) (.static arraycopyName) && inP (e.2.2.2.getD 3 0) (.initialized "java/lang/System")
  | 2, 9 :: _ => inP (e.2.2.2.getD 0 0) (.methodLink (Rn c) e.1 arraycopyName) && inP (e.2.2.2.getD 1 0) (.native arraycopyName) && inP (e.2.2.2.getD 2 0) (.static arraycopyName) && inP (e.2.2.2.getD 3 0) (.initialized "java/lang/System")
  | 2, 10 :: _ => inP (e.2.2.2.getD 0 0) (.methodLink (Rn c) e.1 xOrd) && inP (e.2.2.2.getD 1 0) (.sameMethod xOrd.cls "java/lang/Enum" xOrd.name xOrd.desc) && inP (e.2.2.2.getD 2 0) (.selects RX11 xOrd yOrd) && inP (e.2.2.2.getD 3 0) (.instanceMethod yOrd) && inP (e.2.2.2.getD 4 0) (.initialized yOrd.cls) && inP (e.2.2.2.getD 5 0) (.code yOrd cJx29ce0_ordinal_8abf5 1 (some .int)) && inP (e.2.2.2.getD 6 0) (.fieldLink RJx29ce0 7 "java/lang/Enum" "ordinal" "I")
  | 3, v :: _ => inP (e.2.2.2.getD 0 0) (.constant (Rn c) e.1 (I v))
  | 4, v :: _ => inP (e.2.2.2.getD 0 0) (.constantLong (Rn c) e.1 (Int64.ofNat v))
  | _, _ => false
end
section
set_option maxRecDepth 100000 in
theorem cpL12_0_ok : ∀ e ∈ cpL12_0, linkOK 12 e = true := by decide +kernel
set_option maxRecDepth 100000 in
theorem cpL12_1_ok : ∀ e ∈ cpL12_1, linkOK 12 e = true := by decide +kernel
set_option maxRecDepth 100000 in
theorem cpL13_0_ok : ∀ e ∈ cpL13_0, linkOK 13 e = true := by decide +kernel
set_option maxRecDepth 100000 in
theorem cpL13_1_ok : ∀ e ∈ cpL13_1, linkOK 13 e = true := by decide +kernel
set_option maxRecDepth 100000 in
theorem cpL1_0_ok : ∀ e ∈ cpL1_0, linkOK 1 e = true := by decide +kernel
set_option maxRecDepth 100000 in
theorem cpL3_0_ok : ∀ e ∈ cpL3_0, linkOK 3 e = true := by decide +kernel
set_option maxRecDepth 100000 in
theorem cpL4_0_ok : ∀ e ∈ cpL4_0, linkOK 4 e = true := by decide +kernel
set_option maxRecDepth 100000 in
theorem cpL5_0_ok : ∀ e ∈ cpL5_0, linkOK 5 e = true := by decide +kernel
set_option maxRecDepth 100000 in
theorem cpL6_0_ok : ∀ e ∈ cpL6_0, linkOK 6 e = true := by decide +kernel
set_option maxRecDepth 100000 in
theorem cpL7_0_ok : ∀ e ∈ cpL7_0, linkOK 7 e = true := by decide +kernel
set_option maxRecDepth 100000 in
theorem cpL8_0_ok : ∀ e ∈ cpL8_0, linkOK 8 e = true := by decide +kernel
set_option maxRecDepth 100000 in
theorem cpL9_0_ok : ∀ e ∈ cpL9_0, linkOK 9 e = true := by decide +kernel
set_option maxRecDepth 100000 in
theorem cpL10_0_ok : ∀ e ∈ cpL10_0, linkOK 10 e = true := by decide +kernel
set_option maxRecDepth 100000 in
theorem cpL11_0_ok : ∀ e ∈ cpL11_0, linkOK 11 e = true := by decide +kernel
set_option maxRecDepth 100000 in
theorem cpL14_0_ok : ∀ e ∈ cpL14_0, linkOK 14 e = true := by decide +kernel
set_option maxRecDepth 100000 in
theorem cpL14_1_ok : ∀ e ∈ cpL14_1, linkOK 14 e = true := by decide +kernel
set_option maxRecDepth 100000 in
theorem cpL15_0_ok : ∀ e ∈ cpL15_0, linkOK 15 e = true := by decide +kernel
theorem cpL12_ok : ∀ e ∈ cpL12, linkOK 12 e = true := fun e h => (List.mem_append.mp h).elim ((cpL12_0_ok) e) (cpL12_1_ok e)
theorem cpL13_ok : ∀ e ∈ cpL13, linkOK 13 e = true := fun e h => (List.mem_append.mp h).elim ((cpL13_0_ok) e) (cpL13_1_ok e)
theorem cpL1_ok : ∀ e ∈ cpL1, linkOK 1 e = true := cpL1_0_ok
theorem cpL3_ok : ∀ e ∈ cpL3, linkOK 3 e = true := cpL3_0_ok
theorem cpL4_ok : ∀ e ∈ cpL4, linkOK 4 e = true := cpL4_0_ok
theorem cpL5_ok : ∀ e ∈ cpL5, linkOK 5 e = true := cpL5_0_ok
theorem cpL6_ok : ∀ e ∈ cpL6, linkOK 6 e = true := cpL6_0_ok
theorem cpL7_ok : ∀ e ∈ cpL7, linkOK 7 e = true := cpL7_0_ok
theorem cpL8_ok : ∀ e ∈ cpL8, linkOK 8 e = true := cpL8_0_ok
theorem cpL9_ok : ∀ e ∈ cpL9, linkOK 9 e = true := cpL9_0_ok
theorem cpL10_ok : ∀ e ∈ cpL10, linkOK 10 e = true := cpL10_0_ok
theorem cpL11_ok : ∀ e ∈ cpL11, linkOK 11 e = true := cpL11_0_ok
theorem cpL14_ok : ∀ e ∈ cpL14, linkOK 14 e = true := fun e h => (List.mem_append.mp h).elim ((cpL14_0_ok) e) (cpL14_1_ok e)
theorem cpL15_ok : ∀ e ∈ cpL15, linkOK 15 e = true := cpL15_0_ok
theorem cpC_ok (c : Nat) : ∀ e ∈ cpC c, linkOK c e = true := by
  match c with
  | 0 => intro e h; cases h
  | 1 => exact cpL1_ok
  | 2 => intro e h; cases h
  | 3 => exact cpL3_ok
  | 4 => exact cpL4_ok
  | 5 => exact cpL5_ok
  | 6 => exact cpL6_ok
  | 7 => exact cpL7_ok
  | 8 => exact cpL8_ok
  | 9 => exact cpL9_ok
  | 10 => exact cpL10_ok
  | 11 => exact cpL11_ok
  | 12 => exact cpL12_ok
  | 13 => exact cpL13_ok
  | 14 => exact cpL14_ok
  | 15 => exact cpL15_ok
  | 16 => intro e h; cases h
  | n + 17 => intro e h; cases h
set_option maxRecDepth 100000 in
theorem mOK_0 : ∀ y ∈ (List.range 40).map (fun i => 0 + i), y ∉ yLaw → mOK y = true := by decide +kernel
set_option maxRecDepth 100000 in
theorem mOK_1 : ∀ y ∈ (List.range 40).map (fun i => 40 + i), y ∉ yLaw → mOK y = true := by decide +kernel
set_option maxRecDepth 100000 in
theorem mOK_2 : ∀ y ∈ (List.range 40).map (fun i => 80 + i), y ∉ yLaw → mOK y = true := by decide +kernel
set_option maxRecDepth 100000 in
theorem mOK_3 : ∀ y ∈ (List.range 40).map (fun i => 120 + i), y ∉ yLaw → mOK y = true := by decide +kernel
set_option maxRecDepth 100000 in
theorem mOK_4 : ∀ y ∈ (List.range 40).map (fun i => 160 + i), y ∉ yLaw → mOK y = true := by decide +kernel
set_option maxRecDepth 100000 in
theorem mOK_5 : ∀ y ∈ (List.range 40).map (fun i => 200 + i), y ∉ yLaw → mOK y = true := by decide +kernel
set_option maxRecDepth 100000 in
theorem mOK_6 : ∀ y ∈ (List.range 40).map (fun i => 240 + i), y ∉ yLaw → mOK y = true := by decide +kernel
set_option maxRecDepth 100000 in
theorem mOK_7 : ∀ y ∈ (List.range 1).map (fun i => 280 + i), y ∉ yLaw → mOK y = true := by decide +kernel
theorem mOK_all {y : Nat} (h : y < 281) (hl : y ∉ yLaw) : mOK y = true := by
  have key : ∀ k m, m ≤ y → y < m + k → y ∈ (List.range k).map (fun i => m + i) := fun k m h1 h2 => List.mem_map.mpr ⟨y - m, List.mem_range.mpr (by omega), by omega⟩
  rcases Nat.lt_or_ge y 40 with q | q
  · exact mOK_0 y (key 40 0 (by omega) (by omega)) hl
  rcases Nat.lt_or_ge y 80 with q | q
  · exact mOK_1 y (key 40 40 (by omega) (by omega)) hl
  rcases Nat.lt_or_ge y 120 with q | q
  · exact mOK_2 y (key 40 80 (by omega) (by omega)) hl
  rcases Nat.lt_or_ge y 160 with q | q
  · exact mOK_3 y (key 40 120 (by omega) (by omega)) hl
  rcases Nat.lt_or_ge y 200 with q | q
  · exact mOK_4 y (key 40 160 (by omega) (by omega)) hl
  rcases Nat.lt_or_ge y 240 with q | q
  · exact mOK_5 y (key 40 200 (by omega) (by omega)) hl
  rcases Nat.lt_or_ge y 280 with q | q
  · exact mOK_6 y (key 40 240 (by omega) (by omega)) hl
  exact mOK_7 y (key 1 280 (by omega) (by omega)) hl
end
section
theorem inT1 {w : Cond} (h : w ∈ tables_1_1) : w ∈ lw_tbl := List.mem_append_right _ (List.mem_append_left _ h)
theorem inT2 {w : Cond} (h : w ∈ tables_1_2) : w ∈ lw_tbl := List.mem_append_right _ (List.mem_append_right _ (List.mem_append_left _ h))
theorem inT3 {w : Cond} (h : w ∈ tables_1_3) : w ∈ lw_tbl := List.mem_append_right _ (List.mem_append_right _ (List.mem_append_right _ (List.mem_append_left _ h)))
theorem inT4 {w : Cond} (h : w ∈ tables_1_4) : w ∈ lw_tbl := List.mem_append_right _ (List.mem_append_right _ (List.mem_append_right _ (List.mem_append_right _ (List.mem_append_left _ h))))
theorem inT5 {w : Cond} (h : w ∈ tables_1_5) : w ∈ lw_tbl := List.mem_append_right _ (List.mem_append_right _ (List.mem_append_right _ (List.mem_append_right _ (List.mem_append_right _ (List.mem_append_left _ h)))))
theorem inT6 {w : Cond} (h : w ∈ tables_1_6) : w ∈ lw_tbl := List.mem_append_right _ (List.mem_append_right _ (List.mem_append_right _ (List.mem_append_right _ (List.mem_append_right _ (List.mem_append_right _ (List.mem_append_left _ h))))))
theorem inT7 {w : Cond} (h : w ∈ tables_1_7) : w ∈ lw_tbl := List.mem_append_right _ (List.mem_append_right _ (List.mem_append_right _ (List.mem_append_right _ (List.mem_append_right _ (List.mem_append_right _ (List.mem_append_right _ (List.mem_append_left _ h)))))))
theorem inT8 {w : Cond} (h : w ∈ tables_1_8) : w ∈ lw_tbl := List.mem_append_right _ (List.mem_append_right _ (List.mem_append_right _ (List.mem_append_right _ (List.mem_append_right _ (List.mem_append_right _ (List.mem_append_right _ (List.mem_append_right _ (List.mem_append_left _ h))))))))
theorem inT9 {w : Cond} (h : w ∈ tables_1_9) : w ∈ lw_tbl := List.mem_append_right _ (List.mem_append_right _ (List.mem_append_right _ (List.mem_append_right _ (List.mem_append_right _ (List.mem_append_right _ (List.mem_append_right _ (List.mem_append_right _ (List.mem_append_right _ (h)))))))))
def cwP (e : MethodName × ByteArray × Nat × Option FieldType) : Prop := e.1.cls = RL ∨ Cond.code e.1 e.2.1 e.2.2.1 e.2.2.2 ∈ lw_tbl
theorem cw_0 : cwP (yX12_feed, cX12_feed, 6, (some .int)) := Or.inr (inT3 (List.mem_of_getElem? (i := 56) rfl))
theorem cw_1 : cwP (yX12_end, cX12_end, 2, (some .boolean)) := Or.inr (inT3 (List.mem_of_getElem? (i := 68) rfl))
theorem cw_2 : cwP (yX12_street, cX12_street, 3, (some .int)) := Or.inr (inT3 (List.mem_of_getElem? (i := 76) rfl))
theorem cw_3 : cwP (yX12_fault, cX12_fault, 1, (some .int)) := Or.inr (inT3 (List.mem_of_getElem? (i := 237) rfl))
theorem cw_4 : cwP (yX12_wall, cX12_wall, 3, (some .int)) := Or.inr (inT4 (List.mem_of_getElem? (i := 1) rfl))
theorem cw_5 : cwP (yX12_house, cX12_house, 3, (some .int)) := Or.inr (inT6 (List.mem_of_getElem? (i := 20) rfl))
theorem cw_6 : cwP (yX12_drain, cX12_drain, 3, (some .int)) := Or.inr (inT4 (List.mem_of_getElem? (i := 31) rfl))
theorem cw_7 : cwP (yX12_now, cX12_now, 2, (some .int)) := Or.inr (inT4 (List.mem_of_getElem? (i := 44) rfl))
theorem cw_8 : cwP (yX12_posted, cX12_posted, 2, (some .int)) := Or.inr (inT4 (List.mem_of_getElem? (i := 73) rfl))
theorem cw_9 : cwP (yX12_post, cX12_post, 5, (some .int)) := Or.inr (inT4 (List.mem_of_getElem? (i := 77) rfl))
theorem cw_10 : cwP (yX12_quit, cX12_quit, 3, (some .int)) := Or.inr (inT4 (List.mem_of_getElem? (i := 118) rfl))
theorem cw_11 : cwP (yX12_up, cX12_up, 3, (some .int)) := Or.inr (inT4 (List.mem_of_getElem? (i := 130) rfl))
theorem cw_12 : cwP (yX12_hours, cX12_hours, 3, (some .int)) := Or.inr (inT4 (List.mem_of_getElem? (i := 146) rfl))
theorem cw_13 : cwP (yX12_undo, cX12_undo, 1, (some .int)) := Or.inr (inT4 (List.mem_of_getElem? (i := 178) rfl))
theorem cw_14 : cwP (yX12_takes, cX12_takes, 3, (some .int)) := Or.inr (inT4 (List.mem_of_getElem? (i := 186) rfl))
theorem cw_15 : cwP (yX12_lacks, cX12_lacks, 3, (some .int)) := Or.inr (inT4 (List.mem_of_getElem? (i := 191) rfl))
theorem cw_16 : cwP (yX12_plan, cX12_plan, 3, (some .int)) := Or.inr (inT6 (List.mem_of_getElem? (i := 93) rfl))
theorem cw_17 : cwP (yX12_planAt, cX12_planAt, 2, (some .int)) := Or.inr (inT4 (List.mem_of_getElem? (i := 200) rfl))
theorem cw_18 : cwP (yX12_sure, cX12_sure, 7, (some .int)) := Or.inr (inT6 (List.mem_of_getElem? (i := 129) rfl))
theorem cw_19 : cwP (yX12_crew, cX12_crew, 6, (some .int)) := Or.inr (inT4 (List.mem_of_getElem? (i := 208) rfl))
theorem cw_20 : cwP (yX12_bagsCarriedBy, cX12_bagsCarriedBy, 5, (some .int)) := Or.inr (inT4 (List.mem_of_getElem? (i := 212) rfl))
theorem cw_21 : cwP (yX12_crewed, cX12_crewed, 2, (some .int)) := Or.inr (inT4 (List.mem_of_getElem? (i := 218) rfl))
theorem cw_22 : cwP (yX12_rests, cX12_rests, 9, (some .int)) := Or.inr (inT4 (List.mem_of_getElem? (i := 222) rfl))
theorem cw_23 : cwP (yX12_isRest, cX12_isRest, 9, (some .boolean)) := Or.inr (inT4 (List.mem_of_getElem? (i := 229) rfl))
theorem cw_24 : cwP (yX12_savedInGame, cX12_savedInGame, 5, (some .int)) := Or.inr (inT4 (List.mem_of_getElem? (i := 239) rfl))
theorem cw_25 : cwP (yX12_walling, cX12_walling, 1, (some .int)) := Or.inr (inT5 (List.mem_of_getElem? (i := 8) rfl))
theorem cw_26 : cwP (yX12_due, cX12_due, 10, (some .int)) := Or.inr (inT5 (List.mem_of_getElem? (i := 12) rfl))
theorem cw_27 : cwP (yX12_leaks, cX12_leaks, 3, (some .int)) := Or.inr (inT5 (List.mem_of_getElem? (i := 16) rfl))
theorem cw_28 : cwP (yX12_when, cX12_when, 2, (some .int)) := Or.inr (inT5 (List.mem_of_getElem? (i := 21) rfl))
theorem cw_29 : cwP (yX12_last, cX12_last, 1, (some .int)) := Or.inr (inT5 (List.mem_of_getElem? (i := 30) rfl))
theorem cw_30 : cwP (yX12_tryToTheEnd, cX12_tryToTheEnd, 1, none) := Or.inr (inT5 (List.mem_of_getElem? (i := 26) rfl))
theorem cw_31 : cwP (yX12_carpets, cX12_carpets, 6, (some .int)) := Or.inr (inT5 (List.mem_of_getElem? (i := 34) rfl))
theorem cw_32 : cwP (yX12_dearestCarpets, cX12_dearestCarpets, 6, (some .int)) := Or.inr (inT5 (List.mem_of_getElem? (i := 38) rfl))
theorem cw_33 : cwP (yX12_carried, cX12_carried, 1, (some .int)) := Or.inr (inT5 (List.mem_of_getElem? (i := 42) rfl))
theorem cw_34 : cwP (yX12_built, cX12_built, 6, (some .int)) := Or.inr (inT5 (List.mem_of_getElem? (i := 46) rfl))
theorem cw_35 : cwP (yX12_most, cX12_most, 1, (some .int)) := Or.inr (inT5 (List.mem_of_getElem? (i := 50) rfl))
theorem cw_36 : cwP (yX12_drawn, cX12_drawn, 4, (some .int)) := Or.inr (inT5 (List.mem_of_getElem? (i := 54) rfl))
theorem cw_37 : cwP (yX12_odds, cX12_odds, 6, (some .int)) := Or.inr (inT5 (List.mem_of_getElem? (i := 63) rfl))
theorem cw_38 : cwP (yX12_book, cX12_book, 2, (some .int)) := Or.inr (inT5 (List.mem_of_getElem? (i := 67) rfl))
theorem cw_39 : cwP (yX12_told, cX12_told, 2, (some .int)) := Or.inr (inT5 (List.mem_of_getElem? (i := 129) rfl))
theorem cw_40 : cwP (yX12_sentence, cX12_sentence, 2, (some .int)) := Or.inr (inT5 (List.mem_of_getElem? (i := 137) rfl))
theorem cw_41 : cwP (yX12_said, cX12_said, 5, (some .int)) := Or.inr (inT5 (List.mem_of_getElem? (i := 200) rfl))
theorem cw_42 : cwP (yX12_image, cX12_image, 2, (some .boolean)) := Or.inr (inT5 (List.mem_of_getElem? (i := 226) rfl))
theorem cw_43 : cwP (yX12_restore, cX12_restore, 2, (some .boolean)) := Or.inr (inT6 (List.mem_of_getElem? (i := 8) rfl))
theorem cw_44 : cwP (yX12_count, cX12_count, 2, (some .int)) := Or.inr (inT6 (List.mem_of_getElem? (i := 12) rfl))
theorem cw_45 : cwP (yX12_isWithin, cX12_isWithin, 3, (some .boolean)) := Or.inr (inT4 (List.mem_of_getElem? (i := 80) rfl))
theorem cw_46 : cwP (yX12_bit, cX12_bit, 2, (some .int)) := Or.inr (inT4 (List.mem_of_getElem? (i := 13) rfl))
theorem cw_47 : cwP (yX12_fraction, cX12_fraction, 4, (some .int)) := Or.inr (inT6 (List.mem_of_getElem? (i := 119) rfl))
theorem cw_48 : cwP (yX12_greatestCommon, cX12_greatestCommon, 6, (some .int)) := Or.inr (inT6 (List.mem_of_getElem? (i := 122) rfl))
theorem cw_49 : cwP (yX12_copyInts, cX12_copyInts, 2, none) := Or.inr (inT4 (List.mem_of_getElem? (i := 103) rfl))
theorem cw_50 : cwP (yX12_copyLongs, cX12_copyLongs, 2, none) := Or.inr (inT5 (List.mem_of_getElem? (i := 233) rfl))
theorem cw_51 : cwP (yX13_thrown, cX13_thrown, 1, (some .int)) := Or.inr (inT6 (List.mem_of_getElem? (i := 134) rfl))
theorem cw_52 : cwP (yX13_throwsIf, cX13_throwsIf, 2, (some .boolean)) := Or.inr (inT7 (List.mem_of_getElem? (i := 227) rfl))
theorem cw_53 : cwP (yX13_feed, cX13_feed, 6, (some .int)) := Or.inr (inT6 (List.mem_of_getElem? (i := 138) rfl))
theorem cw_54 : cwP (yX13_four, cX13_four, 3, none) := Or.inr (inT6 (List.mem_of_getElem? (i := 143) rfl))
theorem cw_55 : cwP (yX13_end, cX13_end, 2, (some .boolean)) := Or.inr (inT6 (List.mem_of_getElem? (i := 147) rfl))
theorem cw_56 : cwP (yX13_taken, cX13_taken, 2, none) := Or.inr (inT7 (List.mem_of_getElem? (i := 111) rfl))
theorem cw_57 : cwP (yX13_isIn, cX13_isIn, 3, (some .boolean)) := Or.inr (inT7 (List.mem_of_getElem? (i := 160) rfl))
theorem cw_58 : cwP (yX13_bitOf, cX13_bitOf, 2, (some .boolean)) := Or.inr (inT7 (List.mem_of_getElem? (i := 183) rfl))
theorem cw_59 : cwP (yX13_lesser, cX13_lesser, 2, (some .int)) := Or.inr (inT8 (List.mem_of_getElem? (i := 77) rfl))
theorem cw_60 : cwP (yX13_greater, cX13_greater, 2, (some .int)) := Or.inr (inT8 (List.mem_of_getElem? (i := 14) rfl))
theorem cw_61 : cwP (yX13_bits, cX13_bits, 3, (some .int)) := Or.inr (inT8 (List.mem_of_getElem? (i := 167) rfl))
theorem cw_62 : cwP (yX13_part, cX13_part, 6, (some .int)) := Or.inr (inT8 (List.mem_of_getElem? (i := 128) rfl))
theorem cw_63 : cwP (yX13_octet, cX13_octet, 2, (some .int)) := Or.inr (inT8 (List.mem_of_getElem? (i := 215) rfl))
theorem cw_64 : cwP (yX13_clears, cX13_clears, 2, none) := Or.inr (inT6 (List.mem_of_getElem? (i := 179) rfl))
theorem cw_65 : cwP (yX13_peek, cX13_peek, 1, (some .int)) := Or.inr (inT7 (List.mem_of_getElem? (i := 119) rfl))
theorem cw_66 : cwP (yX13_isSmall, cX13_isSmall, 1, (some .boolean)) := Or.inr (inT7 (List.mem_of_getElem? (i := 122) rfl))
theorem cw_67 : cwP (yX13_isDigit, cX13_isDigit, 1, (some .boolean)) := Or.inr (inT7 (List.mem_of_getElem? (i := 125) rfl))
theorem cw_68 : cwP (yX13_next, cX13_next, 4, none) := Or.inr (inT7 (List.mem_of_getElem? (i := 115) rfl))
theorem cw_69 : cwP (yX13_bad, cX13_bad, 2, (some .boolean)) := Or.inr (inT7 (List.mem_of_getElem? (i := 137) rfl))
theorem cw_70 : cwP (yX13_isWord, cX13_isWord, 3, (some .boolean)) := Or.inr (inT7 (List.mem_of_getElem? (i := 133) rfl))
theorem cw_71 : cwP (yX13_isSign, cX13_isSign, 2, (some .boolean)) := Or.inr (inT7 (List.mem_of_getElem? (i := 191) rfl))
theorem cw_72 : cwP (yX13_sign, cX13_sign, 2, (some .boolean)) := Or.inr (inT7 (List.mem_of_getElem? (i := 187) rfl))
theorem cw_73 : cwP (yX13_isName, cX13_isName, 3, (some .boolean)) := Or.inr (inT7 (List.mem_of_getElem? (i := 145) rfl))
theorem cw_74 : cwP (yX13_takesNumber, cX13_takesNumber, 3, (some .boolean)) := Or.inr (inT7 (List.mem_of_getElem? (i := 157) rfl))
theorem cw_75 : cwP (yX13_puts, cX13_puts, 4, (some .boolean)) := Or.inr (inT7 (List.mem_of_getElem? (i := 153) rfl))
theorem cw_76 : cwP (yX13_find, cX13_find, 4, (some .int)) := Or.inr (inT7 (List.mem_of_getElem? (i := 149) rfl))
theorem cw_77 : cwP (yX13_fresh, cX13_fresh, 2, (some .boolean)) := Or.inr (inT7 (List.mem_of_getElem? (i := 141) rfl))
theorem cw_78 : cwP (yX13_looksAt, cX13_looksAt, 3, (some .boolean)) := Or.inr (inT7 (List.mem_of_getElem? (i := 172) rfl))
theorem cw_79 : cwP (yX13_takesName, cX13_takesName, 3, (some .boolean)) := Or.inr (inT7 (List.mem_of_getElem? (i := 168) rfl))
theorem cw_80 : cwP (yX13_once, cX13_once, 5, (some .boolean)) := Or.inr (inT7 (List.mem_of_getElem? (i := 180) rfl))
theorem cw_81 : cwP (yX13_line, cX13_line, 2, (some .boolean)) := Or.inr (inT7 (List.mem_of_getElem? (i := 129) rfl))
theorem cw_82 : cwP (yX13_pair, cX13_pair, 10, (some .boolean)) := Or.inr (inT7 (List.mem_of_getElem? (i := 176) rfl))
theorem cw_83 : cwP (yX13_readHouse, cX13_readHouse, 2, (some .boolean)) := Or.inr (inT7 (List.mem_of_getElem? (i := 164) rfl))
theorem cw_84 : cwP (yX13_street, cX13_street, 2, (some .int)) := Or.inr (inT7 (List.mem_of_getElem? (i := 107) rfl))
theorem cw_85 : cwP (yX13_fault, cX13_fault, 1, (some .int)) := Or.inr (inT7 (List.mem_of_getElem? (i := 195) rfl))
theorem cw_86 : cwP (yX13_isWall, cX13_isWall, 2, (some .boolean)) := Or.inr (inT7 (List.mem_of_getElem? (i := 203) rfl))
theorem cw_87 : cwP (yX13_isHouse, cX13_isHouse, 2, (some .boolean)) := Or.inr (inT7 (List.mem_of_getElem? (i := 223) rfl))
theorem cw_88 : cwP (yX13_isDrain, cX13_isDrain, 2, (some .boolean)) := Or.inr (inT7 (List.mem_of_getElem? (i := 235) rfl))
theorem cw_89 : cwP (yX13_isOutside, cX13_isOutside, 2, (some .boolean)) := Or.inr (inT8 (List.mem_of_getElem? (i := 89) rfl))
theorem cw_90 : cwP (yX13_takesOf, cX13_takesOf, 3, (some .int)) := Or.inr (inT7 (List.mem_of_getElem? (i := 211) rfl))
theorem cw_91 : cwP (yX13_heightOf, cX13_heightOf, 3, (some .int)) := Or.inr (inT7 (List.mem_of_getElem? (i := 207) rfl))
theorem cw_92 : cwP (yX13_riverAt, cX13_riverAt, 5, (some .int)) := Or.inr (inT8 (List.mem_of_getElem? (i := 7) rfl))
theorem cw_93 : cwP (yX13_isStopped, cX13_isStopped, 2, (some .boolean)) := Or.inr (inT7 (List.mem_of_getElem? (i := 239) rfl))
theorem cw_94 : cwP (yX13_leaksOf, cX13_leaksOf, 5, (some .int)) := Or.inr (inT8 (List.mem_of_getElem? (i := 93) rfl))
theorem cw_95 : cwP (yX13_housesOf, cX13_housesOf, 4, (some .int)) := Or.inr (inT7 (List.mem_of_getElem? (i := 215) rfl))
theorem cw_96 : cwP (yX13_wall, cX13_wall, 5, (some .int)) := Or.inr (inT7 (List.mem_of_getElem? (i := 199) rfl))
theorem cw_97 : cwP (yX13_house, cX13_house, 3, (some .int)) := Or.inr (inT7 (List.mem_of_getElem? (i := 219) rfl))
theorem cw_98 : cwP (yX13_drain, cX13_drain, 3, (some .int)) := Or.inr (inT7 (List.mem_of_getElem? (i := 231) rfl))
theorem cw_99 : cwP (yX13_eachBy, cX13_eachBy, 2, (some .int)) := Or.inr (inT8 (List.mem_of_getElem? (i := 11) rfl))
theorem cw_100 : cwP (yX13_saved, cX13_saved, 3, (some .int)) := Or.inr (inT8 (List.mem_of_getElem? (i := 18) rfl))
theorem cw_101 : cwP (yX13_now, cX13_now, 2, (some .int)) := Or.inr (inT8 (List.mem_of_getElem? (i := 3) rfl))
theorem cw_102 : cwP (yX13_posted, cX13_posted, 2, (some .int)) := Or.inr (inT8 (List.mem_of_getElem? (i := 22) rfl))
theorem cw_103 : cwP (yX13_isWhere, cX13_isWhere, 2, (some .boolean)) := Or.inr (inT8 (List.mem_of_getElem? (i := 30) rfl))
theorem cw_104 : cwP (yX13_isPosted, cX13_isPosted, 4, (some .boolean)) := Or.inr (inT8 (List.mem_of_getElem? (i := 34) rfl))
theorem cw_105 : cwP (yX13_posts, cX13_posts, 4, none) := Or.inr (inT8 (List.mem_of_getElem? (i := 42) rfl))
theorem cw_106 : cwP (yX13_quits, cX13_quits, 2, none) := Or.inr (inT8 (List.mem_of_getElem? (i := 50) rfl))
theorem cw_107 : cwP (yX13_whyUp, cX13_whyUp, 2, (some .int)) := Or.inr (inT8 (List.mem_of_getElem? (i := 58) rfl))
theorem cw_108 : cwP (yX13_carriesUp, cX13_carriesUp, 2, none) := Or.inr (inT8 (List.mem_of_getElem? (i := 62) rfl))
theorem cw_109 : cwP (yX13_isOpen, cX13_isOpen, 1, (some .boolean)) := Or.inr (inT8 (List.mem_of_getElem? (i := 81) rfl))
theorem cw_110 : cwP (yX13_wouldFlood, cX13_wouldFlood, 4, (some .boolean)) := Or.inr (inT8 (List.mem_of_getElem? (i := 85) rfl))
theorem cw_111 : cwP (yX13_hour, cX13_hour, 6, none) := Or.inr (inT8 (List.mem_of_getElem? (i := 74) rfl))
theorem cw_112 : cwP (yX13_goesOn, cX13_goesOn, 3, (some .int)) := Or.inr (inT8 (List.mem_of_getElem? (i := 70) rfl))
theorem cw_113 : cwP (yX13_post, cX13_post, 4, (some .int)) := Or.inr (inT8 (List.mem_of_getElem? (i := 26) rfl))
theorem cw_114 : cwP (yX13_quit, cX13_quit, 2, (some .int)) := Or.inr (inT8 (List.mem_of_getElem? (i := 46) rfl))
theorem cw_115 : cwP (yX13_up, cX13_up, 3, (some .int)) := Or.inr (inT8 (List.mem_of_getElem? (i := 54) rfl))
theorem cw_116 : cwP (yX13_hours, cX13_hours, 2, (some .int)) := Or.inr (inT8 (List.mem_of_getElem? (i := 66) rfl))
theorem cw_117 : cwP (yX13_keep, cX13_keep, 2, none) := Or.inr (inT8 (List.mem_of_getElem? (i := 38) rfl))
theorem cw_118 : cwP (yX13_undo, cX13_undo, 2, (some .int)) := Or.inr (inT8 (List.mem_of_getElem? (i := 97) rfl))
theorem cw_119 : cwP (yX13_tries, cX13_tries, 2, none) := Or.inr (inT8 (List.mem_of_getElem? (i := 191) rfl))
theorem cw_120 : cwP (yX13_back, cX13_back, 2, none) := Or.inr (inT8 (List.mem_of_getElem? (i := 195) rfl))
theorem cw_121 : cwP (yX13_takes, cX13_takes, 3, (some .int)) := Or.inr (inT8 (List.mem_of_getElem? (i := 101) rfl))
theorem cw_122 : cwP (yX13_lacks, cX13_lacks, 4, (some .int)) := Or.inr (inT8 (List.mem_of_getElem? (i := 105) rfl))
theorem cw_123 : cwP (yX13_allOdds, cX13_allOdds, 3, (some .int)) := Or.inr (inT8 (List.mem_of_getElem? (i := 125) rfl))
theorem cw_124 : cwP (yX13_laysHeights, cX13_laysHeights, 4, none) := Or.inr (inT8 (List.mem_of_getElem? (i := 113) rfl))
theorem cw_125 : cwP (yX13_gainOf, cX13_gainOf, 6, (some .int)) := Or.inr (inT8 (List.mem_of_getElem? (i := 117) rfl))
theorem cw_126 : cwP (yX13_digit, cX13_digit, 5, (some .int)) := Or.inr (inT8 (List.mem_of_getElem? (i := 121) rfl))
theorem cw_127 : cwP (yX13_plan, cX13_plan, 12, (some .int)) := Or.inr (inT8 (List.mem_of_getElem? (i := 109) rfl))
theorem cw_128 : cwP (yX13_planAt, cX13_planAt, 2, (some .int)) := Or.inr (inT8 (List.mem_of_getElem? (i := 132) rfl))
theorem cw_129 : cwP (yX13_sure, cX13_sure, 7, (some .int)) := Or.inr (inT8 (List.mem_of_getElem? (i := 136) rfl))
theorem cw_130 : cwP (yX13_carriedBy, cX13_carriedBy, 11, (some .int)) := Or.inr (inT8 (List.mem_of_getElem? (i := 144) rfl))
theorem cw_131 : cwP (yX13_crew, cX13_crew, 6, (some .int)) := Or.inr (inT8 (List.mem_of_getElem? (i := 140) rfl))
theorem cw_132 : cwP (yX13_crewed, cX13_crewed, 2, (some .int)) := Or.inr (inT8 (List.mem_of_getElem? (i := 148) rfl))
theorem cw_133 : cwP (yX13_greatestCrest, cX13_greatestCrest, 3, (some .int)) := Or.inr (inT8 (List.mem_of_getElem? (i := 171) rfl))
theorem cw_134 : cwP (yX13_holds, cX13_holds, 4, (some .boolean)) := Or.inr (inT8 (List.mem_of_getElem? (i := 164) rfl))
theorem cw_135 : cwP (yX13_isSavedBy, cX13_isSavedBy, 5, (some .boolean)) := Or.inr (inT8 (List.mem_of_getElem? (i := 160) rfl))
theorem cw_136 : cwP (yX13_restsAt, cX13_restsAt, 6, (some .boolean)) := Or.inr (inT8 (List.mem_of_getElem? (i := 156) rfl))
theorem cw_137 : cwP (yX13_rests, cX13_rests, 10, (some .int)) := Or.inr (inT8 (List.mem_of_getElem? (i := 152) rfl))
theorem cw_138 : cwP (yX13_walling, cX13_walling, 1, (some .int)) := Or.inr (inT8 (List.mem_of_getElem? (i := 175) rfl))
theorem cw_139 : cwP (yX13_due, cX13_due, 8, (some .int)) := Or.inr (inT8 (List.mem_of_getElem? (i := 179) rfl))
theorem cw_140 : cwP (yX13_leaks, cX13_leaks, 3, (some .int)) := Or.inr (inT8 (List.mem_of_getElem? (i := 183) rfl))
theorem cw_141 : cwP (yX13_when, cX13_when, 3, (some .int)) := Or.inr (inT8 (List.mem_of_getElem? (i := 187) rfl))
theorem cw_142 : cwP (yX13_last, cX13_last, 2, (some .int)) := Or.inr (inT8 (List.mem_of_getElem? (i := 199) rfl))
theorem cw_143 : cwP (yX13_carpets, cX13_carpets, 8, (some .int)) := Or.inr (inT8 (List.mem_of_getElem? (i := 203) rfl))
theorem cw_144 : cwP (yX13_carried, cX13_carried, 1, (some .int)) := Or.inr (inT8 (List.mem_of_getElem? (i := 207) rfl))
theorem cw_145 : cwP (yX13_built, cX13_built, 3, (some .int)) := Or.inr (inT8 (List.mem_of_getElem? (i := 211) rfl))
theorem cw_146 : cwP (yX13_most, cX13_most, 1, (some .int)) := Or.inr (inT8 (List.mem_of_getElem? (i := 219) rfl))
theorem cw_147 : cwP (yX13_draw, cX13_draw, 2, (some .int)) := Or.inr (inT8 (List.mem_of_getElem? (i := 231) rfl))
theorem cw_148 : cwP (yX13_draws, cX13_draws, 4, (some .int)) := Or.inr (inT8 (List.mem_of_getElem? (i := 227) rfl))
theorem cw_149 : cwP (yX13_drawn, cX13_drawn, 3, (some .int)) := Or.inr (inT8 (List.mem_of_getElem? (i := 223) rfl))
theorem cw_150 : cwP (yX13_odds, cX13_odds, 6, (some .int)) := Or.inr (inT8 (List.mem_of_getElem? (i := 236) rfl))
theorem cw_151 : cwP (yX13_bookLine, cX13_bookLine, 3, (some .boolean)) := Or.inr (inT9 (List.mem_of_getElem? (i := 4) rfl))
theorem cw_152 : cwP (yX13_postLine, cX13_postLine, 4, (some .boolean)) := Or.inr (inT9 (List.mem_of_getElem? (i := 8) rfl))
theorem cw_153 : cwP (yX13_does, cX13_does, 6, (some .int)) := Or.inr (inT9 (List.mem_of_getElem? (i := 12) rfl))
theorem cw_154 : cwP (yX13_book, cX13_book, 4, (some .int)) := Or.inr (inT9 (List.mem_of_getElem? (i := 0) rfl))
theorem cw_155 : cwP (yX13_told, cX13_told, 2, (some .int)) := Or.inr (inT9 (List.mem_of_getElem? (i := 16) rfl))
theorem cw_156 : cwP (yX13_code, cX13_code, 4, none) := Or.inr (inT9 (List.mem_of_getElem? (i := 28) rfl))
theorem cw_157 : cwP (yX13_joins, cX13_joins, 2, none) := Or.inr (inT9 (List.mem_of_getElem? (i := 32) rfl))
theorem cw_158 : cwP (yX13_nots, cX13_nots, 1, none) := Or.inr (inT9 (List.mem_of_getElem? (i := 24) rfl))
theorem cw_159 : cwP (yX13_leafOf, cX13_leafOf, 1, (some .int)) := Or.inr (inT9 (List.mem_of_getElem? (i := 44) rfl))
theorem cw_160 : cwP (yX13_operand, cX13_operand, 5, (some .boolean)) := Or.inr (inT9 (List.mem_of_getElem? (i := 40) rfl))
theorem cw_161 : cwP (yX13_behind, cX13_behind, 1, (some .boolean)) := Or.inr (inT9 (List.mem_of_getElem? (i := 36) rfl))
theorem cw_162 : cwP (yX13_sentence, cX13_sentence, 3, (some .int)) := Or.inr (inT9 (List.mem_of_getElem? (i := 20) rfl))
theorem cw_163 : cwP (yX13_isLeaf, cX13_isLeaf, 6, (some .boolean)) := Or.inr (inT9 (List.mem_of_getElem? (i := 56) rfl))
theorem cw_164 : cwP (yX13_isSaid, cX13_isSaid, 5, (some .boolean)) := Or.inr (inT9 (List.mem_of_getElem? (i := 52) rfl))
theorem cw_165 : cwP (yX13_said, cX13_said, 4, (some .int)) := Or.inr (inT9 (List.mem_of_getElem? (i := 48) rfl))
theorem cw_166 : cwP (yX13_image, cX13_image, 3, (some .boolean)) := Or.inr (inT9 (List.mem_of_getElem? (i := 60) rfl))
theorem cw_167 : cwP (yX13_restore, cX13_restore, 3, (some .boolean)) := Or.inr (inT9 (List.mem_of_getElem? (i := 64) rfl))
theorem cw_168 : cwP (yX13_count, cX13_count, 2, (some .int)) := Or.inr (inT9 (List.mem_of_getElem? (i := 68) rfl))
theorem cw_169 : cwP (yX1_read, cX1_read, 4, none) := Or.inr (inT5 (List.mem_of_getElem? (i := 71) rfl))
theorem cw_170 : cwP (yX1_readLine, cX1_readLine, 5, (some .boolean)) := Or.inr (inT5 (List.mem_of_getElem? (i := 75) rfl))
theorem cw_171 : cwP (yX1_readPost, cX1_readPost, 3, (some .boolean)) := Or.inr (inT5 (List.mem_of_getElem? (i := 89) rfl))
theorem cw_172 : cwP (yX1_seeTarget, cX1_seeTarget, 3, (some .int)) := Or.inr (inT5 (List.mem_of_getElem? (i := 93) rfl))
theorem cw_173 : cwP (yX1_readPlace, cX1_readPlace, 4, (some .boolean)) := Or.inr (inT5 (List.mem_of_getElem? (i := 103) rfl))
theorem cw_174 : cwP (yX1_movesOn, cX1_movesOn, 2, (some .boolean)) := Or.inr (inT5 (List.mem_of_getElem? (i := 99) rfl))
theorem cw_175 : cwP (yX1_judge, cX1_judge, 4, none) := Or.inr (inT5 (List.mem_of_getElem? (i := 109) rfl))
theorem cw_176 : cwP (yX1_whyWrong, cX1_whyWrong, 6, (some .int)) := Or.inr (inT5 (List.mem_of_getElem? (i := 113) rfl))
theorem cw_177 : cwP (yX1_live, cX1_live, 4, none) := Or.inr (inT5 (List.mem_of_getElem? (i := 120) rfl))
theorem cw_178 : cwP (yX1_tell, cX1_tell, 2, (some .int)) := Or.inr (inT5 (List.mem_of_getElem? (i := 133) rfl))
theorem cw_179 : cwP (yX3_isFull, cX3_isFull, 1, (some .boolean)) := Or.inr (inT3 (List.mem_of_getElem? (i := 199) rfl))
theorem cw_180 : cwP (yX3_has, cX3_has, 3, (some .boolean)) := Or.inr (inT3 (List.mem_of_getElem? (i := 204) rfl))
theorem cw_181 : cwP (yX3_add, cX3_add, 3, none) := Or.inr (inT3 (List.mem_of_getElem? (i := 208) rfl))
theorem cw_182 : cwP (yX3_sumFrom, cX3_sumFrom, 4, (some .int)) := Or.inr (inT6 (List.mem_of_getElem? (i := 116) rfl))
theorem cw_183 : cwP (yX3_greatestKey, cX3_greatestKey, 3, (some .int)) := Or.inr (inT4 (List.mem_of_getElem? (i := 226) rfl))
theorem cw_184 : cwP (yX3_latestValue, cX3_latestValue, 4, (some .int)) := Or.inr (inT4 (List.mem_of_getElem? (i := 52) rfl))
theorem cw_185 : cwP (yX3_copyFrom, cX3_copyFrom, 2, none) := Or.inr (inT5 (List.mem_of_getElem? (i := 238) rfl))
theorem cw_186 : cwP (yX4_keep, cX4_keep, 3, none) := Or.inr (inT4 (List.mem_of_getElem? (i := 93) rfl))
theorem cw_187 : cwP (yX4_giveBack, cX4_giveBack, 3, (some .int)) := Or.inr (inT4 (List.mem_of_getElem? (i := 182) rfl))
theorem cw_188 : cwP (yX5_choose, cX5_choose, 5, none) := Or.inr (inT6 (List.mem_of_getElem? (i := 98) rfl))
theorem cw_189 : cwP (yX5_findChoices, cX5_findChoices, 3, none) := Or.inr (inT6 (List.mem_of_getElem? (i := 102) rfl))
theorem cw_190 : cwP (yX5_gainOf, cX5_gainOf, 8, (some .int)) := Or.inr (inT6 (List.mem_of_getElem? (i := 106) rfl))
theorem cw_191 : cwP (yX5_tryWall, cX5_tryWall, 5, none) := Or.inr (inT6 (List.mem_of_getElem? (i := 111) rfl))
theorem cw_192 : cwP (yX5_plannedHeight, cX5_plannedHeight, 2, (some .int)) := Or.inr (inT4 (List.mem_of_getElem? (i := 204) rfl))
theorem cw_193 : cwP (yX6_clear, cX6_clear, 1, none) := Or.inr (inT3 (List.mem_of_getElem? (i := 233) rfl))
theorem cw_194 : cwP (yX6_copyFrom, cX6_copyFrom, 3, none) := Or.inr (inT6 (List.mem_of_getElem? (i := 3) rfl))
theorem cw_195 : cwP (yX6_read, cX6_read, 4, none) := Or.inr (inT5 (List.mem_of_getElem? (i := 141) rfl))
theorem cw_196 : cwP (yX6_readCond, cX6_readCond, 6, (some .boolean)) := Or.inr (inT5 (List.mem_of_getElem? (i := 146) rfl))
theorem cw_197 : cwP (yX6_readAll, cX6_readAll, 6, (some .boolean)) := Or.inr (inT5 (List.mem_of_getElem? (i := 150) rfl))
theorem cw_198 : cwP (yX6_readOne, cX6_readOne, 6, (some .boolean)) := Or.inr (inT5 (List.mem_of_getElem? (i := 154) rfl))
theorem cw_199 : cwP (yX6_readBehind, cX6_readBehind, 4, (some .boolean)) := Or.inr (inT5 (List.mem_of_getElem? (i := 186) rfl))
theorem cw_200 : cwP (yX6_beginsOne, cX6_beginsOne, 1, (some .boolean)) := Or.inr (inT5 (List.mem_of_getElem? (i := 158) rfl))
theorem cw_201 : cwP (yX6_readComparison, cX6_readComparison, 5, (some .boolean)) := Or.inr (inT5 (List.mem_of_getElem? (i := 191) rfl))
theorem cw_202 : cwP (yX6_addStep, cX6_addStep, 4, (some .boolean)) := Or.inr (inT5 (List.mem_of_getElem? (i := 182) rfl))
theorem cw_203 : cwP (yX6_housesSaid, cX6_housesSaid, 7, (some .int)) := Or.inr (inT5 (List.mem_of_getElem? (i := 204) rfl))
theorem cw_204 : cwP (yX6_housesOfStep, cX6_housesOfStep, 6, (some .int)) := Or.inr (inT5 (List.mem_of_getElem? (i := 208) rfl))
theorem cw_205 : cwP (yX6_isSo, cX6_isSo, 6, (some .boolean)) := Or.inr (inT5 (List.mem_of_getElem? (i := 212) rfl))
theorem cw_206 : cwP (yX6_compares, cX6_compares, 3, (some .boolean)) := Or.inr (inT5 (List.mem_of_getElem? (i := 222) rfl))
theorem cw_207 : cwP (yX7_begin, cX7_begin, 3, none) := Or.inr (inT2 (List.mem_of_getElem? (i := 77) rfl))
theorem cw_208 : cwP (yX7_copyFrom, cX7_copyFrom, 2, none) := Or.inr (inT4 (List.mem_of_getElem? (i := 100) rfl))
theorem cw_209 : cwP (yX7_river, cX7_river, 2, (some .int)) := Or.inr (inT4 (List.mem_of_getElem? (i := 48) rfl))
theorem cw_210 : cwP (yX7_greatestRiver, cX7_greatestRiver, 4, (some .int)) := Or.inr (inT4 (List.mem_of_getElem? (i := 195) rfl))
theorem cw_211 : cwP (yX7_bagsEach, cX7_bagsEach, 2, (some .int)) := Or.inr (inT4 (List.mem_of_getElem? (i := 56) rfl))
theorem cw_212 : cwP (yX7_isFlooded, cX7_isFlooded, 2, (some .boolean)) := Or.inr (inT4 (List.mem_of_getElem? (i := 65) rfl))
theorem cw_213 : cwP (yX7_floodedHouses, cX7_floodedHouses, 4, (some .int)) := Or.inr (inT4 (List.mem_of_getElem? (i := 61) rfl))
theorem cw_214 : cwP (yX7_isStopped, cX7_isStopped, 3, (some .boolean)) := Or.inr (inT4 (List.mem_of_getElem? (i := 39) rfl))
theorem cw_215 : cwP (yX7_leakingDrains, cX7_leakingDrains, 7, (some .int)) := Or.inr (inT4 (List.mem_of_getElem? (i := 174) rfl))
theorem cw_216 : cwP (yX7_heightOf, cX7_heightOf, 4, (some .int)) := Or.inr (inT4 (List.mem_of_getElem? (i := 9) rfl))
theorem cw_217 : cwP (yX7_wouldFlood, cX7_wouldFlood, 5, (some .boolean)) := Or.inr (inT4 (List.mem_of_getElem? (i := 169) rfl))
theorem cw_218 : cwP (yX7_savedWorth, cX7_savedWorth, 4, (some .int)) := Or.inr (inT4 (List.mem_of_getElem? (i := 69) rfl))
theorem cw_219 : cwP (yX7_isPosted, cX7_isPosted, 4, (some .boolean)) := Or.inr (inT4 (List.mem_of_getElem? (i := 89) rfl))
theorem cw_220 : cwP (yX7_takePosts, cX7_takePosts, 4, none) := Or.inr (inT4 (List.mem_of_getElem? (i := 114) rfl))
theorem cw_221 : cwP (yX7_whyNotQuit, cX7_whyNotQuit, 2, (some .int)) := Or.inr (inT4 (List.mem_of_getElem? (i := 122) rfl))
theorem cw_222 : cwP (yX7_giveUpWall, cX7_giveUpWall, 2, none) := Or.inr (inT4 (List.mem_of_getElem? (i := 126) rfl))
theorem cw_223 : cwP (yX7_whyNotUp, cX7_whyNotUp, 2, (some .int)) := Or.inr (inT4 (List.mem_of_getElem? (i := 138) rfl))
theorem cw_224 : cwP (yX7_carryUp, cX7_carryUp, 2, none) := Or.inr (inT4 (List.mem_of_getElem? (i := 142) rfl))
theorem cw_225 : cwP (yX7_work, cX7_work, 4, none) := Or.inr (inT4 (List.mem_of_getElem? (i := 158) rfl))
theorem cw_226 : cwP (yX7_layDown, cX7_layDown, 3, none) := Or.inr (inT4 (List.mem_of_getElem? (i := 164) rfl))
theorem cw_227 : cwP (yX7_goHour, cX7_goHour, 4, none) := Or.inr (inT4 (List.mem_of_getElem? (i := 154) rfl))
theorem cw_228 : cwP (yX7_goHours, cX7_goHours, 4, none) := Or.inr (inT4 (List.mem_of_getElem? (i := 150) rfl))
theorem cw_229 : cwP (yX7_drawHours, cX7_drawHours, 6, none) := Or.inr (inT5 (List.mem_of_getElem? (i := 58) rfl))
theorem cw_230 : cwP (yX8_clear, cX8_clear, 1, none) := Or.inr (inT1 (List.mem_of_getElem? (i := 141) rfl))
theorem cw_231 : cwP (yX8_copyFrom, cX8_copyFrom, 2, none) := Or.inr (inT5 (List.mem_of_getElem? (i := 230) rfl))
theorem cw_232 : cwP (yX8_indexOf, cX8_indexOf, 5, (some .int)) := Or.inr (inT3 (List.mem_of_getElem? (i := 150) rfl))
theorem cw_233 : cwP (yX8_knows, cX8_knows, 3, (some .boolean)) := Or.inr (inT3 (List.mem_of_getElem? (i := 147) rfl))
theorem cw_234 : cwP (yX8_addWall, cX8_addWall, 4, none) := Or.inr (inT3 (List.mem_of_getElem? (i := 163) rfl))
theorem cw_235 : cwP (yX8_addHouse, cX8_addHouse, 6, none) := Or.inr (inT3 (List.mem_of_getElem? (i := 183) rfl))
theorem cw_236 : cwP (yX8_addDrain, cX8_addDrain, 6, none) := Or.inr (inT3 (List.mem_of_getElem? (i := 191) rfl))
theorem cw_237 : cwP (yX8_hasWall, cX8_hasWall, 2, (some .boolean)) := Or.inr (inT4 (List.mem_of_getElem? (i := 5) rfl))
theorem cw_238 : cwP (yX8_hasHouse, cX8_hasHouse, 2, (some .boolean)) := Or.inr (inT4 (List.mem_of_getElem? (i := 134) rfl))
theorem cw_239 : cwP (yX8_hasDrain, cX8_hasDrain, 2, (some .boolean)) := Or.inr (inT4 (List.mem_of_getElem? (i := 35) rfl))
theorem cw_240 : cwP (yX8_hasTarget, cX8_hasTarget, 2, (some .boolean)) := Or.inr (inT4 (List.mem_of_getElem? (i := 84) rfl))
theorem cw_241 : cwP (yX8_bagsFor, cX8_bagsFor, 3, (some .int)) := Or.inr (inT4 (List.mem_of_getElem? (i := 17) rfl))
theorem cw_242 : cwP (yX8_housesBehind, cX8_housesBehind, 4, (some .int)) := Or.inr (inT4 (List.mem_of_getElem? (i := 23) rfl))
theorem cw_243 : cwP (yX8_drainsOf, cX8_drainsOf, 4, (some .int)) := Or.inr (inT4 (List.mem_of_getElem? (i := 27) rfl))
theorem cw_244 : cwP (yX8_worthOf, cX8_worthOf, 4, (some .int)) := Or.inr (inT5 (List.mem_of_getElem? (i := 3) rfl))
theorem cw_245 : cwP (yX9_read, cX9_read, 4, (some .int)) := Or.inr (inT3 (List.mem_of_getElem? (i := 113) rfl))
theorem cw_246 : cwP (yX9_readLine, cX9_readLine, 2, (some .boolean)) := Or.inr (inT3 (List.mem_of_getElem? (i := 118) rfl))
theorem cw_247 : cwP (yX9_readWall, cX9_readWall, 4, (some .boolean)) := Or.inr (inT3 (List.mem_of_getElem? (i := 134) rfl))
theorem cw_248 : cwP (yX9_readHouse, cX9_readHouse, 6, (some .boolean)) := Or.inr (inT3 (List.mem_of_getElem? (i := 167) rfl))
theorem cw_249 : cwP (yX9_seeWallOrOutside, cX9_seeWallOrOutside, 2, (some .int)) := Or.inr (inT3 (List.mem_of_getElem? (i := 171) rfl))
theorem cw_250 : cwP (yX9_readDrain, cX9_readDrain, 6, (some .boolean)) := Or.inr (inT3 (List.mem_of_getElem? (i := 187) rfl))
theorem cw_251 : cwP (yX9_takeNewName, cX9_takeNewName, 1, (some .boolean)) := Or.inr (inT3 (List.mem_of_getElem? (i := 139) rfl))
theorem cw_252 : cwP (yX9_readPair, cX9_readPair, 7, (some .boolean)) := Or.inr (inT3 (List.mem_of_getElem? (i := 195) rfl))
theorem cw_253 : cwP (yX9_readPeople, cX9_readPeople, 1, (some .boolean)) := Or.inr (inT3 (List.mem_of_getElem? (i := 213) rfl))
theorem cw_254 : cwP (yX9_readSand, cX9_readSand, 1, (some .boolean)) := Or.inr (inT3 (List.mem_of_getElem? (i := 217) rfl))
theorem cw_255 : cwP (yX9_readRate, cX9_readRate, 1, (some .boolean)) := Or.inr (inT3 (List.mem_of_getElem? (i := 221) rfl))
theorem cw_256 : cwP (yX10_append, cX10_append, 6, (some .int)) := Or.inr (inT3 (List.mem_of_getElem? (i := 60) rfl))
theorem cw_257 : cwP (yX10_put, cX10_put, 3, none) := Or.inr (inT3 (List.mem_of_getElem? (i := 64) rfl))
theorem cw_258 : cwP (yX10_cutTo, cX10_cutTo, 2, (some .boolean)) := Or.inr (inT3 (List.mem_of_getElem? (i := 72) rfl))
theorem cw_259 : cwP (yX10_begin, cX10_begin, 2, none) := Or.inr (inT3 (List.mem_of_getElem? (i := 80) rfl))
theorem cw_260 : cwP (yX10_next, cX10_next, 1, none) := Or.inr (inT3 (List.mem_of_getElem? (i := 84) rfl))
theorem cw_261 : cwP (yX10_readRun, cX10_readRun, 3, none) := Or.inr (inT3 (List.mem_of_getElem? (i := 97) rfl))
theorem cw_262 : cwP (yX10_isBlank, cX10_isBlank, 1, (some .boolean)) := Or.inr (inT3 (List.mem_of_getElem? (i := 87) rfl))
theorem cw_263 : cwP (yX10_isLetter, cX10_isLetter, 1, (some .boolean)) := Or.inr (inT3 (List.mem_of_getElem? (i := 90) rfl))
theorem cw_264 : cwP (yX10_isDigit, cX10_isDigit, 1, (some .boolean)) := Or.inr (inT3 (List.mem_of_getElem? (i := 93) rfl))
theorem cw_265 : cwP (yX10_isSign, cX10_isSign, 1, (some .boolean)) := Or.inr (inT3 (List.mem_of_getElem? (i := 109) rfl))
theorem cw_266 : cwP (yX10_fail, cX10_fail, 2, (some .boolean)) := Or.inr (inT3 (List.mem_of_getElem? (i := 122) rfl))
theorem cw_267 : cwP (yX10_atSign, cX10_atSign, 2, (some .boolean)) := Or.inr (inT3 (List.mem_of_getElem? (i := 229) rfl))
theorem cw_268 : cwP (yX10_takeSign, cX10_takeSign, 2, (some .boolean)) := Or.inr (inT3 (List.mem_of_getElem? (i := 225) rfl))
theorem cw_269 : cwP (yX10_atName, cX10_atName, 1, (some .boolean)) := Or.inr (inT3 (List.mem_of_getElem? (i := 143) rfl))
theorem cw_270 : cwP (yX10_seeNumber, cX10_seeNumber, 3, (some .int)) := Or.inr (inT3 (List.mem_of_getElem? (i := 158) rfl))
theorem cw_271 : cwP (yX10_takeNumber, cX10_takeNumber, 4, (some .int)) := Or.inr (inT3 (List.mem_of_getElem? (i := 154) rfl))
theorem cw_272 : cwP (yX10_seeNamed, cX10_seeNamed, 4, (some .int)) := Or.inr (inT3 (List.mem_of_getElem? (i := 177) rfl))
theorem cw_273 : cwP (yX11_packedWith, cX11_packedWith, 3, (some .long)) := Or.inr (inT3 (List.mem_of_getElem? (i := 100) rfl))
theorem cw_274 : cwP (yX11_of, cX11_of, 3, (some (.object "BagsRiver$Word"))) := Or.inr (inT3 (List.mem_of_getElem? (i := 104) rfl))




theorem cw_279 : cwP (yJ6_bitCount_0f7a4, cJ6_bitCount_0f7a4, 1, (some .int)) := Or.inr (inT4 (List.mem_of_getElem? (i := 232) rfl))
theorem cw_280 : cwP (yJ9_floorMod_7cf53, cJ9_floorMod_7cf53, 3, (some .int)) := Or.inr (inT4 (List.mem_of_getElem? (i := 96) rfl))
theorem cwT0 : ∀ e ∈ yT0, cwP e := List.forall_mem_cons.mpr ⟨cw_0, List.forall_mem_cons.mpr ⟨cw_1, List.forall_mem_cons.mpr ⟨cw_2, List.forall_mem_cons.mpr ⟨cw_3, List.forall_mem_cons.mpr ⟨cw_4, List.forall_mem_cons.mpr ⟨cw_5, List.forall_mem_cons.mpr ⟨cw_6, List.forall_mem_cons.mpr ⟨cw_7, List.forall_mem_cons.mpr ⟨cw_8, List.forall_mem_cons.mpr ⟨cw_9, List.forall_mem_cons.mpr ⟨cw_10, List.forall_mem_cons.mpr ⟨cw_11, List.forall_mem_cons.mpr ⟨cw_12, List.forall_mem_cons.mpr ⟨cw_13, List.forall_mem_cons.mpr ⟨cw_14, List.forall_mem_cons.mpr ⟨cw_15, List.forall_mem_cons.mpr ⟨cw_16, List.forall_mem_cons.mpr ⟨cw_17, List.forall_mem_cons.mpr ⟨cw_18, List.forall_mem_cons.mpr ⟨cw_19, List.forall_mem_cons.mpr ⟨cw_20, List.forall_mem_cons.mpr ⟨cw_21, List.forall_mem_cons.mpr ⟨cw_22, List.forall_mem_cons.mpr ⟨cw_23, List.forall_mem_cons.mpr ⟨cw_24, List.forall_mem_cons.mpr ⟨cw_25, List.forall_mem_cons.mpr ⟨cw_26, List.forall_mem_cons.mpr ⟨cw_27, List.forall_mem_cons.mpr ⟨cw_28, List.forall_mem_cons.mpr ⟨cw_29, List.forall_mem_cons.mpr ⟨cw_30, List.forall_mem_cons.mpr ⟨cw_31, List.forall_mem_cons.mpr ⟨cw_32, List.forall_mem_cons.mpr ⟨cw_33, List.forall_mem_cons.mpr ⟨cw_34, List.forall_mem_cons.mpr ⟨cw_35, List.forall_mem_cons.mpr ⟨cw_36, List.forall_mem_cons.mpr ⟨cw_37, List.forall_mem_cons.mpr ⟨cw_38, List.forall_mem_cons.mpr ⟨cw_39, fun _ h => absurd h List.not_mem_nil⟩⟩⟩⟩⟩⟩⟩⟩⟩⟩⟩⟩⟩⟩⟩⟩⟩⟩⟩⟩⟩⟩⟩⟩⟩⟩⟩⟩⟩⟩⟩⟩⟩⟩⟩⟩⟩⟩⟩⟩
theorem cwT1 : ∀ e ∈ yT1, cwP e := List.forall_mem_cons.mpr ⟨cw_40, List.forall_mem_cons.mpr ⟨cw_41, List.forall_mem_cons.mpr ⟨cw_42, List.forall_mem_cons.mpr ⟨cw_43, List.forall_mem_cons.mpr ⟨cw_44, List.forall_mem_cons.mpr ⟨cw_45, List.forall_mem_cons.mpr ⟨cw_46, List.forall_mem_cons.mpr ⟨cw_47, List.forall_mem_cons.mpr ⟨cw_48, List.forall_mem_cons.mpr ⟨cw_49, List.forall_mem_cons.mpr ⟨cw_50, List.forall_mem_cons.mpr ⟨cw_51, List.forall_mem_cons.mpr ⟨cw_52, List.forall_mem_cons.mpr ⟨cw_53, List.forall_mem_cons.mpr ⟨cw_54, List.forall_mem_cons.mpr ⟨cw_55, List.forall_mem_cons.mpr ⟨cw_56, List.forall_mem_cons.mpr ⟨cw_57, List.forall_mem_cons.mpr ⟨cw_58, List.forall_mem_cons.mpr ⟨cw_59, List.forall_mem_cons.mpr ⟨cw_60, List.forall_mem_cons.mpr ⟨cw_61, List.forall_mem_cons.mpr ⟨cw_62, List.forall_mem_cons.mpr ⟨cw_63, List.forall_mem_cons.mpr ⟨cw_64, List.forall_mem_cons.mpr ⟨cw_65, List.forall_mem_cons.mpr ⟨cw_66, List.forall_mem_cons.mpr ⟨cw_67, List.forall_mem_cons.mpr ⟨cw_68, List.forall_mem_cons.mpr ⟨cw_69, List.forall_mem_cons.mpr ⟨cw_70, List.forall_mem_cons.mpr ⟨cw_71, List.forall_mem_cons.mpr ⟨cw_72, List.forall_mem_cons.mpr ⟨cw_73, List.forall_mem_cons.mpr ⟨cw_74, List.forall_mem_cons.mpr ⟨cw_75, List.forall_mem_cons.mpr ⟨cw_76, List.forall_mem_cons.mpr ⟨cw_77, List.forall_mem_cons.mpr ⟨cw_78, List.forall_mem_cons.mpr ⟨cw_79, fun _ h => absurd h List.not_mem_nil⟩⟩⟩⟩⟩⟩⟩⟩⟩⟩⟩⟩⟩⟩⟩⟩⟩⟩⟩⟩⟩⟩⟩⟩⟩⟩⟩⟩⟩⟩⟩⟩⟩⟩⟩⟩⟩⟩⟩⟩
theorem cwT2 : ∀ e ∈ yT2, cwP e := List.forall_mem_cons.mpr ⟨cw_80, List.forall_mem_cons.mpr ⟨cw_81, List.forall_mem_cons.mpr ⟨cw_82, List.forall_mem_cons.mpr ⟨cw_83, List.forall_mem_cons.mpr ⟨cw_84, List.forall_mem_cons.mpr ⟨cw_85, List.forall_mem_cons.mpr ⟨cw_86, List.forall_mem_cons.mpr ⟨cw_87, List.forall_mem_cons.mpr ⟨cw_88, List.forall_mem_cons.mpr ⟨cw_89, List.forall_mem_cons.mpr ⟨cw_90, List.forall_mem_cons.mpr ⟨cw_91, List.forall_mem_cons.mpr ⟨cw_92, List.forall_mem_cons.mpr ⟨cw_93, List.forall_mem_cons.mpr ⟨cw_94, List.forall_mem_cons.mpr ⟨cw_95, List.forall_mem_cons.mpr ⟨cw_96, List.forall_mem_cons.mpr ⟨cw_97, List.forall_mem_cons.mpr ⟨cw_98, List.forall_mem_cons.mpr ⟨cw_99, List.forall_mem_cons.mpr ⟨cw_100, List.forall_mem_cons.mpr ⟨cw_101, List.forall_mem_cons.mpr ⟨cw_102, List.forall_mem_cons.mpr ⟨cw_103, List.forall_mem_cons.mpr ⟨cw_104, List.forall_mem_cons.mpr ⟨cw_105, List.forall_mem_cons.mpr ⟨cw_106, List.forall_mem_cons.mpr ⟨cw_107, List.forall_mem_cons.mpr ⟨cw_108, List.forall_mem_cons.mpr ⟨cw_109, List.forall_mem_cons.mpr ⟨cw_110, List.forall_mem_cons.mpr ⟨cw_111, List.forall_mem_cons.mpr ⟨cw_112, List.forall_mem_cons.mpr ⟨cw_113, List.forall_mem_cons.mpr ⟨cw_114, List.forall_mem_cons.mpr ⟨cw_115, List.forall_mem_cons.mpr ⟨cw_116, List.forall_mem_cons.mpr ⟨cw_117, List.forall_mem_cons.mpr ⟨cw_118, List.forall_mem_cons.mpr ⟨cw_119, fun _ h => absurd h List.not_mem_nil⟩⟩⟩⟩⟩⟩⟩⟩⟩⟩⟩⟩⟩⟩⟩⟩⟩⟩⟩⟩⟩⟩⟩⟩⟩⟩⟩⟩⟩⟩⟩⟩⟩⟩⟩⟩⟩⟩⟩⟩
theorem cwT3 : ∀ e ∈ yT3, cwP e := List.forall_mem_cons.mpr ⟨cw_120, List.forall_mem_cons.mpr ⟨cw_121, List.forall_mem_cons.mpr ⟨cw_122, List.forall_mem_cons.mpr ⟨cw_123, List.forall_mem_cons.mpr ⟨cw_124, List.forall_mem_cons.mpr ⟨cw_125, List.forall_mem_cons.mpr ⟨cw_126, List.forall_mem_cons.mpr ⟨cw_127, List.forall_mem_cons.mpr ⟨cw_128, List.forall_mem_cons.mpr ⟨cw_129, List.forall_mem_cons.mpr ⟨cw_130, List.forall_mem_cons.mpr ⟨cw_131, List.forall_mem_cons.mpr ⟨cw_132, List.forall_mem_cons.mpr ⟨cw_133, List.forall_mem_cons.mpr ⟨cw_134, List.forall_mem_cons.mpr ⟨cw_135, List.forall_mem_cons.mpr ⟨cw_136, List.forall_mem_cons.mpr ⟨cw_137, List.forall_mem_cons.mpr ⟨cw_138, List.forall_mem_cons.mpr ⟨cw_139, List.forall_mem_cons.mpr ⟨cw_140, List.forall_mem_cons.mpr ⟨cw_141, List.forall_mem_cons.mpr ⟨cw_142, List.forall_mem_cons.mpr ⟨cw_143, List.forall_mem_cons.mpr ⟨cw_144, List.forall_mem_cons.mpr ⟨cw_145, List.forall_mem_cons.mpr ⟨cw_146, List.forall_mem_cons.mpr ⟨cw_147, List.forall_mem_cons.mpr ⟨cw_148, List.forall_mem_cons.mpr ⟨cw_149, List.forall_mem_cons.mpr ⟨cw_150, List.forall_mem_cons.mpr ⟨cw_151, List.forall_mem_cons.mpr ⟨cw_152, List.forall_mem_cons.mpr ⟨cw_153, List.forall_mem_cons.mpr ⟨cw_154, List.forall_mem_cons.mpr ⟨cw_155, List.forall_mem_cons.mpr ⟨cw_156, List.forall_mem_cons.mpr ⟨cw_157, List.forall_mem_cons.mpr ⟨cw_158, List.forall_mem_cons.mpr ⟨cw_159, fun _ h => absurd h List.not_mem_nil⟩⟩⟩⟩⟩⟩⟩⟩⟩⟩⟩⟩⟩⟩⟩⟩⟩⟩⟩⟩⟩⟩⟩⟩⟩⟩⟩⟩⟩⟩⟩⟩⟩⟩⟩⟩⟩⟩⟩⟩
theorem cwT4 : ∀ e ∈ yT4, cwP e := List.forall_mem_cons.mpr ⟨cw_160, List.forall_mem_cons.mpr ⟨cw_161, List.forall_mem_cons.mpr ⟨cw_162, List.forall_mem_cons.mpr ⟨cw_163, List.forall_mem_cons.mpr ⟨cw_164, List.forall_mem_cons.mpr ⟨cw_165, List.forall_mem_cons.mpr ⟨cw_166, List.forall_mem_cons.mpr ⟨cw_167, List.forall_mem_cons.mpr ⟨cw_168, List.forall_mem_cons.mpr ⟨cw_169, List.forall_mem_cons.mpr ⟨cw_170, List.forall_mem_cons.mpr ⟨cw_171, List.forall_mem_cons.mpr ⟨cw_172, List.forall_mem_cons.mpr ⟨cw_173, List.forall_mem_cons.mpr ⟨cw_174, List.forall_mem_cons.mpr ⟨cw_175, List.forall_mem_cons.mpr ⟨cw_176, List.forall_mem_cons.mpr ⟨cw_177, List.forall_mem_cons.mpr ⟨cw_178, List.forall_mem_cons.mpr ⟨cw_179, List.forall_mem_cons.mpr ⟨cw_180, List.forall_mem_cons.mpr ⟨cw_181, List.forall_mem_cons.mpr ⟨cw_182, List.forall_mem_cons.mpr ⟨cw_183, List.forall_mem_cons.mpr ⟨cw_184, List.forall_mem_cons.mpr ⟨cw_185, List.forall_mem_cons.mpr ⟨cw_186, List.forall_mem_cons.mpr ⟨cw_187, List.forall_mem_cons.mpr ⟨cw_188, List.forall_mem_cons.mpr ⟨cw_189, List.forall_mem_cons.mpr ⟨cw_190, List.forall_mem_cons.mpr ⟨cw_191, List.forall_mem_cons.mpr ⟨cw_192, List.forall_mem_cons.mpr ⟨cw_193, List.forall_mem_cons.mpr ⟨cw_194, List.forall_mem_cons.mpr ⟨cw_195, List.forall_mem_cons.mpr ⟨cw_196, List.forall_mem_cons.mpr ⟨cw_197, List.forall_mem_cons.mpr ⟨cw_198, List.forall_mem_cons.mpr ⟨cw_199, fun _ h => absurd h List.not_mem_nil⟩⟩⟩⟩⟩⟩⟩⟩⟩⟩⟩⟩⟩⟩⟩⟩⟩⟩⟩⟩⟩⟩⟩⟩⟩⟩⟩⟩⟩⟩⟩⟩⟩⟩⟩⟩⟩⟩⟩⟩
theorem cwT5 : ∀ e ∈ yT5, cwP e := List.forall_mem_cons.mpr ⟨cw_200, List.forall_mem_cons.mpr ⟨cw_201, List.forall_mem_cons.mpr ⟨cw_202, List.forall_mem_cons.mpr ⟨cw_203, List.forall_mem_cons.mpr ⟨cw_204, List.forall_mem_cons.mpr ⟨cw_205, List.forall_mem_cons.mpr ⟨cw_206, List.forall_mem_cons.mpr ⟨cw_207, List.forall_mem_cons.mpr ⟨cw_208, List.forall_mem_cons.mpr ⟨cw_209, List.forall_mem_cons.mpr ⟨cw_210, List.forall_mem_cons.mpr ⟨cw_211, List.forall_mem_cons.mpr ⟨cw_212, List.forall_mem_cons.mpr ⟨cw_213, List.forall_mem_cons.mpr ⟨cw_214, List.forall_mem_cons.mpr ⟨cw_215, List.forall_mem_cons.mpr ⟨cw_216, List.forall_mem_cons.mpr ⟨cw_217, List.forall_mem_cons.mpr ⟨cw_218, List.forall_mem_cons.mpr ⟨cw_219, List.forall_mem_cons.mpr ⟨cw_220, List.forall_mem_cons.mpr ⟨cw_221, List.forall_mem_cons.mpr ⟨cw_222, List.forall_mem_cons.mpr ⟨cw_223, List.forall_mem_cons.mpr ⟨cw_224, List.forall_mem_cons.mpr ⟨cw_225, List.forall_mem_cons.mpr ⟨cw_226, List.forall_mem_cons.mpr ⟨cw_227, List.forall_mem_cons.mpr ⟨cw_228, List.forall_mem_cons.mpr ⟨cw_229, List.forall_mem_cons.mpr ⟨cw_230, List.forall_mem_cons.mpr ⟨cw_231, List.forall_mem_cons.mpr ⟨cw_232, List.forall_mem_cons.mpr ⟨cw_233, List.forall_mem_cons.mpr ⟨cw_234, List.forall_mem_cons.mpr ⟨cw_235, List.forall_mem_cons.mpr ⟨cw_236, List.forall_mem_cons.mpr ⟨cw_237, List.forall_mem_cons.mpr ⟨cw_238, List.forall_mem_cons.mpr ⟨cw_239, fun _ h => absurd h List.not_mem_nil⟩⟩⟩⟩⟩⟩⟩⟩⟩⟩⟩⟩⟩⟩⟩⟩⟩⟩⟩⟩⟩⟩⟩⟩⟩⟩⟩⟩⟩⟩⟩⟩⟩⟩⟩⟩⟩⟩⟩⟩
theorem cwT6 : ∀ e ∈ yT6, cwP e := List.forall_mem_cons.mpr ⟨cw_240, List.forall_mem_cons.mpr ⟨cw_241, List.forall_mem_cons.mpr ⟨cw_242, List.forall_mem_cons.mpr ⟨cw_243, List.forall_mem_cons.mpr ⟨cw_244, List.forall_mem_cons.mpr ⟨cw_245, List.forall_mem_cons.mpr ⟨cw_246, List.forall_mem_cons.mpr ⟨cw_247, List.forall_mem_cons.mpr ⟨cw_248, List.forall_mem_cons.mpr ⟨cw_249, List.forall_mem_cons.mpr ⟨cw_250, List.forall_mem_cons.mpr ⟨cw_251, List.forall_mem_cons.mpr ⟨cw_252, List.forall_mem_cons.mpr ⟨cw_253, List.forall_mem_cons.mpr ⟨cw_254, List.forall_mem_cons.mpr ⟨cw_255, List.forall_mem_cons.mpr ⟨cw_256, List.forall_mem_cons.mpr ⟨cw_257, List.forall_mem_cons.mpr ⟨cw_258, List.forall_mem_cons.mpr ⟨cw_259, List.forall_mem_cons.mpr ⟨cw_260, List.forall_mem_cons.mpr ⟨cw_261, List.forall_mem_cons.mpr ⟨cw_262, List.forall_mem_cons.mpr ⟨cw_263, List.forall_mem_cons.mpr ⟨cw_264, List.forall_mem_cons.mpr ⟨cw_265, List.forall_mem_cons.mpr ⟨cw_266, List.forall_mem_cons.mpr ⟨cw_267, List.forall_mem_cons.mpr ⟨cw_268, List.forall_mem_cons.mpr ⟨cw_269, List.forall_mem_cons.mpr ⟨cw_270, List.forall_mem_cons.mpr ⟨cw_271, List.forall_mem_cons.mpr ⟨cw_272, List.forall_mem_cons.mpr ⟨cw_273, List.forall_mem_cons.mpr ⟨cw_274, List.forall_mem_cons.mpr ⟨Or.inl rfl, List.forall_mem_cons.mpr ⟨Or.inl rfl, List.forall_mem_cons.mpr ⟨Or.inl rfl, List.forall_mem_cons.mpr ⟨Or.inl rfl, List.forall_mem_cons.mpr ⟨cw_279, fun _ h => absurd h List.not_mem_nil⟩⟩⟩⟩⟩⟩⟩⟩⟩⟩⟩⟩⟩⟩⟩⟩⟩⟩⟩⟩⟩⟩⟩⟩⟩⟩⟩⟩⟩⟩⟩⟩⟩⟩⟩⟩⟩⟩⟩⟩
theorem cwT7 : ∀ e ∈ yT7, cwP e := List.forall_mem_cons.mpr ⟨cw_280, fun _ h => absurd h List.not_mem_nil⟩
theorem cwT : ∀ e ∈ yT, cwP e := fun e h => (List.mem_append.mp h).elim ((fun e h => (List.mem_append.mp h).elim ((fun e h => (List.mem_append.mp h).elim ((fun e h => (List.mem_append.mp h).elim ((fun e h => (List.mem_append.mp h).elim ((fun e h => (List.mem_append.mp h).elim ((fun e h => (List.mem_append.mp h).elim ((cwT0) e) (cwT1 e)) e) (cwT2 e)) e) (cwT3 e)) e) (cwT4 e)) e) (cwT5 e)) e) (cwT6 e)) e) (cwT7 e)
end
section
/-! what the heap holds of a memory; contracts in the small machine's words -/
theorem inP_mem {p : Nat} {w : Cond} (h : inP p w = true) : w ∈ lw_tbl ∧ goodWord w = true := by
  unfold inP at h
  rw [Bool.and_eq_true, decide_eq_true_eq] at h
  exact ⟨List.mem_of_getElem? h.1, h.2⟩
def gtb : List Cond := lw_tbl.filter goodWord
theorem inP_gtb {p : Nat} {w : Cond} (h : inP p w = true) : w ∈ gtb := List.mem_filter.mpr (inP_mem h)
theorem gtb_good {w : Cond} (h : w ∈ gtb) : goodWord w = true := (List.mem_filter.mp h).2
def wsY (y : Nat) : List Cond := .code (yN y) (yB y) (yM y) (yR y) :: gtb
theorem wsY_gtb {y : Nat} {w : Cond} (h : w ∈ gtb) : w ∈ wsY y := List.mem_cons_of_mem _ h
theorem goodIn_wsY {y : Nat} {ws : List Cond} (h : ∀ w ∈ ws, w ∈ gtb) : GoodIn (wsY y) ws := fun w hw => ⟨wsY_gtb (h w hw), good_of_word (gtb_good (h w hw))⟩
def rmD (d : Nat) : Room := { frames := d, cells := 0, slots := 0, locals := 200 * d }
def po (ad : Nat → Nat) (r : Nat) : Option Nat := if r = 0 then none else some (ad r)
def pv (ad : Nat → Nat) (v : Value) : Value := match v with
  | .ref r => va_rf (po ad r)
  | v => v
theorem pv_ref {ad : Nat → Nat} {r : Nat} (h : r ≠ 0) : pv ad (.ref r) = .ref (ad r) := by
  show va_rf (po ad r) = _
  rw [po, if_neg h]
  rfl
def fv (ad : Nat → Nat) (M : Mm) (a k : Nat) (t : List Nat) : Value := match t with
  | 0 :: _ => .int (M.1 a k)
  | 5 :: _ => .int (M.1 a k)
  | 1 :: _ => .long (M.2.1 a k)
  | 2 :: _ => va_rf (po ad (M.2.2 a k))
  | 3 :: o :: _ => .ref (ad (a + o))
  | 4 :: o :: _ => .ref (ad o)
  | _ => .null
def flds (ad : Nat → Nat) (M : Mm) (a ci : Nat) : List Value := (List.range (cq ci).2.2).map fun k => fv ad M a k ((FT.getD ci []).getD k [])
/-- arrays of references that stay: where their elements lie -/
def cbs (a : Nat) : Nat × Nat := if a = 21 then (210, 5) else if a = 60 then (700, 100) else if a = 42 then (43, 1) else (49, 1)
def ent (ad : Nat → Nat) (cA : Nat → ClassId) (M : Mm) (a : Nat) : va_E :=
  if lay a < 100 then .inr (lay a - 1, flds ad M a (lay a - 1))
  else if lay a = 101 then .inl (cA 1, alen a, .inr (.inl (M.2.1 a)))
  else if lay a = 104 then .inl (cA 4, alen a, .inr (.inr (.inr (.inr fun j => po ad (M.2.2 a j)))))
  else if lay a < 104 then .inl (cA (lay a - 100), alen a, .inl (M.1 a))
  else .inl (cA (lay a - 100), alen a, .inr (.inr (.inr (.inr fun j => some (ad ((cbs a).1 + (cbs a).2 * j))))))
def wsM (ad : Nat → Nat) (cA : Nat → ClassId) (M : Mm) : va_W := dom.map fun a => (ad a, ent ad cA M a)
def tysM (cA : Nat → ClassId) : List (ClassId × FieldType) := [(cA 0, .int), (cA 1, .long), (cA 2, .byte), (cA 3, .boolean), (cA 4, .object RX11), (cA 5, .object RX7), (cA 6, .object RX2), (cA 7, .array .int)]
/-- the cells of a memory, and all that come from sz on -/
def AA (ad : Nat → Nat) (sz : Nat) : Nat → Prop := fun q => (∃ a ∈ dom, q = ad a) ∨ sz ≤ q
def ordF : List (String × String × String × List Int32) := [("java/lang/Enum", "ordinal", "I", (List.range 23).map fun k : Nat => I (k : Int))]
/-- the enum's constants, its array, the switch table: they stay -/
def Sx (ad : Nat → Nat) (A : Nat → Prop) (U : State) (H : Heap) : Prop :=
  va_En RX11 "LBagsRiver$Word;" wordN ordF (fun i => ad (600 + i)) A U H ∧ va_Ef 23 RX11 "packed" "J" (fun i => .long (pkTab i)) (fun i => ad (600 + i)) A U H ∧
  va_Z RX11 "ALL" "[LBagsRiver$Word;" (.ref (ad 651)) A U H ∧ va_T (.object RX11) (ad 651) 23 (fun j => .ref (ad (600 + j))) A U H ∧
  va_Z RX0 "$SwitchMap$BagsRiver$Word" "[I" (.ref (ad 650)) A U H ∧ va_T .int (ad 650) 23 (fun j => .int (I (swTab j))) A U H
theorem va_Ef.moved9 {N : Nat} {o n d : String} {v : Nat → Value} {ad : Nat → Nat} {A : Nat → Prop} {u U : State} {H : Heap} (hvm : u.vm.Alike U.vm) (h : va_Ef N o n d v ad A u H) : va_Ef N o n d v ad A U H := fun i hi => (h i hi).moved hvm
theorem va_Ef.kept9 {N : Nat} {o n d : String} {v : Nat → Value} {ad : Nat → Nat} {A : Nat → Prop} {U : State} {H H1 : Heap} (h : va_Ef N o n d v ad A U H) (hq : ∀ a : Nat, a < H.size → ¬ A a → H1[a]? = H[a]?) : va_Ef N o n d v ad A U H1 := fun i hi => (h i hi).kept hq
theorem va_Ef.narrow9 {N : Nat} {o n d : String} {v : Nat → Value} {ad : Nat → Nat} {A B : Nat → Prop} {U : State} {H : Heap} (h : va_Ef N o n d v ad A U H) (hAB : ∀ q, B q → A q) : va_Ef N o n d v ad B U H := fun i hi => (h i hi).narrow hAB
theorem Sx.moved {ad : Nat → Nat} {A : Nat → Prop} {u U : State} {H : Heap} (hvm : u.vm.Alike U.vm) (h : Sx ad A u H) : Sx ad A U H :=
  ⟨h.1.moved hvm, h.2.1.moved9 hvm, h.2.2.1.moved hvm, h.2.2.2.1.moved hvm, h.2.2.2.2.1.moved hvm, h.2.2.2.2.2.moved hvm⟩
theorem Sx.kept {ad : Nat → Nat} {A : Nat → Prop} {U : State} {H H1 : Heap} (h : Sx ad A U H) (hq : ∀ a : Nat, a < H.size → ¬ A a → H1[a]? = H[a]?) : Sx ad A U H1 :=
  ⟨h.1.kept hq, h.2.1.kept9 hq, h.2.2.1.kept hq, h.2.2.2.1.kept hq, h.2.2.2.2.1.kept hq, h.2.2.2.2.2.kept hq⟩
theorem Sx.narrow {ad : Nat → Nat} {A B : Nat → Prop} {U : State} {H : Heap} (h : Sx ad A U H) (hAB : ∀ q, B q → A q) : Sx ad B U H :=
  ⟨h.1.narrow hAB, h.2.1.narrow9 hAB, h.2.2.1.narrow hAB, h.2.2.2.1.narrow hAB, h.2.2.2.2.1.narrow hAB, h.2.2.2.2.2.narrow hAB⟩
/-- the nest's links -/
def Nx (U : State) : Prop := ∀ q ∈ nestQ, va_Nw (.methodLinkNest (Rn q.1) q.2.1 (yN q.2.2) RX12) U
theorem Nx.same {u U : State} (h : u.vm = U.vm) (hn : Nx u) : Nx U := fun q hq => (hn q hq).same rfl h
theorem Nx.warm {s U : State} (hW : s.WarmedH U.vm) (hn : Nx s) : Nx U := fun q hq => va_Nw.warmM hW (hn q hq)
def PreE (D : va_G) (ad : Nat → Nat) (cA : Nat → ClassId) (sz : Nat) (args : List Value) (M : Mm) : Array Value → State → Prop := va_Pc (args.map (pv ad)) fun U =>
  U.heap.size = sz ∧ va_P D vwCl (wsM ad cA M) U.heap ∧ va_K D vwCl (tysM cA) U ∧ va_D (fun _ => True) (wsM ad cA M) ∧ Sx ad (AA ad sz) U U.heap ∧ Nx U
/-- cells made so far, where the law itself makes them: a ghost that no cell holds -/
def gh (M : Mm) : Nat := M.2.2 900 0
def PostE (D : va_G) (ad : Nat → Nat) (cA : Nat → ClassId) (sz : Nat) (r : Option Value) (M M' : Mm) : Array Value → State → Outcome → State → Prop := fun _ st oc t =>
  (oc = .returned (r.map (pv ad)) ∧ va_P D vwCl (wsM ad cA M') t.heap ∧ gh M' = gh M) ∧ va_F (AA ad sz) st t
/-- method y, at these arguments and this memory, with room for d calls within one another: it returns r, and leaves the memory M' -/
def Ev (d : Nat) : EE := fun y args M r M' => ∀ (l : Launch) (D : va_G) (ad : Nat → Nat) (cA : Nat → ClassId) (sz : Nat), Met l (yN y) (wsY y) (rmD d) (PreE D ad cA sz args M) (PostE D ad cA sz r M M') 0 0 (AA ad sz)
theorem preE_blind {D : va_G} {ad : Nat → Nat} {cA : Nat → ClassId} {sz : Nat} {args : List Value} {M : Mm} : FrameBlind (PreE D ad cA sz args M) := by
  intro a U g mk ⟨h0, h1, h2, h3, h4, h5, h6⟩
  exact ⟨h0, h1, h2, va_K.moved (u := U) (U := U.calling g mk a) (Vm.Alike.refl U.vm) h3, h4, Sx.moved (u := U) (U := U.calling g mk a) (Vm.Alike.refl U.vm) h5, Nx.same (u := U) (U := U.calling g mk a) rfl h6⟩
/-! addresses -/
set_option maxRecDepth 100000 in
theorem lay_dom0 : ∀ a, a < 1024 → lay a ≠ 0 → a ∈ dom := by decide +kernel
theorem lay_big {a : Nat} (h : 1024 ≤ a) : lay a = 0 := by
  unfold lay
  have h1 : Nat.shiftRight layN (Nat.mul 8 a) = 0 := by
    show layN >>> (8 * a) = 0
    rw [Nat.shiftRight_eq_div_pow]
    apply Nat.div_eq_of_lt
    calc layN < 2 ^ 8192 := by decide +kernel
      _ ≤ 2 ^ (8 * a) := Nat.pow_le_pow_right (by decide) (by omega)
  rw [h1]
  rfl
theorem lay_dom {a : Nat} (h : lay a ≠ 0) : a ∈ dom := by
  rcases Nat.lt_or_ge a 1024 with q | q
  · exact lay_dom0 a q h
  · exact absurd (lay_big q) h
theorem dom_lay : ∀ a ∈ dom, lay a ≠ 0 := by decide +kernel
theorem dom_pos : ∀ a ∈ dom, a ≠ 0 := by decide +kernel
theorem dom_nd : dom.Nodup := by decide +kernel
theorem wsM_at {ad : Nat → Nat} {cA : Nat → ClassId} {a : Nat} (h : lay a ≠ 0) : ∃ q : Nat, dom[q]? = some a ∧ ∀ M : Mm, (wsM ad cA M)[q]? = some (ad a, ent ad cA M a) := by
  obtain ⟨q, hq⟩ := List.getElem?_of_mem (lay_dom h)
  refine ⟨q, hq, fun M => ?_⟩
  unfold wsM
  rw [List.getElem?_map, hq]
  rfl
theorem wsM_set {ad : Nat → Nat} {cA : Nat → ClassId} {M M' : Mm} {a q : Nat} {e : va_E} (hq : dom[q]? = some a) (he : e = ent ad cA M' a) (h : ∀ b, b ≠ a → ent ad cA M' b = ent ad cA M b) : (wsM ad cA M).set q (ad a, e) = wsM ad cA M' := by
  subst he
  apply List.ext_getElem?
  intro j
  unfold wsM
  rw [List.getElem?_set]
  by_cases hj : q = j
  · subst hj
    rw [if_pos rfl]
    have hl : q < dom.length := (List.getElem?_eq_some_iff.mp hq).1
    rw [if_pos (by rw [List.length_map]; exact hl), List.getElem?_map, hq]
    rfl
  · rw [if_neg hj, List.getElem?_map, List.getElem?_map]
    cases hb : dom[j]? with
    | none => rfl
    | some b =>
      have hne : b ≠ a := by
        intro e
        subst e
        obtain ⟨l1, e1⟩ := List.getElem?_eq_some_iff.mp hq
        obtain ⟨l2, e2⟩ := List.getElem?_eq_some_iff.mp hb
        exact hj ((List.getElem_inj dom_nd).mp (e1.trans e2.symm))
      show some (ad b, ent ad cA M b) = some (ad b, ent ad cA M' b)
      rw [h b hne]
theorem wsM_D {ad : Nat → Nat} {cA : Nat → ClassId} {M M' : Mm} {A : Nat → Prop} (h : va_D A (wsM ad cA M)) : va_D A (wsM ad cA M') := by
  have tr : ∀ (k : Nat) (q : Nat × va_E), (wsM ad cA M')[k]? = some q → ∃ q', (wsM ad cA M)[k]? = some q' ∧ q'.1 = q.1 := by
    intro k q hq
    unfold wsM at hq ⊢
    rw [List.getElem?_map] at hq ⊢
    cases hb : dom[k]? with
    | none => rw [hb] at hq; cases hq
    | some b =>
      rw [hb] at hq
      cases hq
      exact ⟨_, rfl, rfl⟩
  refine ⟨fun i j p q hi hj hpq => ?_, fun k q hk => ?_⟩
  · obtain ⟨p', hi', ep⟩ := tr i p hi
    obtain ⟨q', hj', eq⟩ := tr j q hj
    exact h.1 i j p' q' hi' hj' (by rw [ep, eq, hpq])
  · obtain ⟨q', hk', e⟩ := tr k q hk
    rw [← e]
    exact h.2 k q' hk'
theorem wsM_DA {ad : Nat → Nat} {cA : Nat → ClassId} {M : Mm} {sz : Nat} (h : va_D (fun _ => True) (wsM ad cA M)) : va_D (AA ad sz) (wsM ad cA M) := by
  refine ⟨h.1, fun k q hk => ?_⟩
  unfold wsM at hk
  rw [List.getElem?_map] at hk
  cases hb : dom[k]? with
  | none => rw [hb] at hk; cases hk
  | some b =>
    rw [hb] at hk
    cases hk
    exact Or.inl ⟨b, List.mem_of_getElem? hb, rfl⟩
/-! what a store leaves as it was -/
theorem up2_ne {α : Type} {f : Nat → Nat → α} {a k b : Nat} {v : α} (h : b ≠ a) : up2 f a k v b = f b := if_neg h
theorem up2_eq {α : Type} {f : Nat → Nat → α} {a k : Nat} {v : α} : up2 f a k v a = upf (f a) k v := if_pos rfl
theorem upr_ne {α : Type} {f : Nat → Nat → α} {a b : Nat} {g : Nat → α} (h : b ≠ a) : upr f a g b = f b := if_neg h
theorem upr_eq {α : Type} {f : Nat → Nat → α} {a : Nat} {g : Nat → α} : upr f a g a = g := if_pos rfl
theorem fv_of {ad : Nat → Nat} {M M' : Mm} {a k : Nat} {t : List Nat} (h1 : M'.1 a k = M.1 a k) (h2 : M'.2.1 a k = M.2.1 a k) (h3 : M'.2.2 a k = M.2.2 a k) : fv ad M' a k t = fv ad M a k t := by
  unfold fv
  rw [h1, h2, h3]
theorem ent_of {ad : Nat → Nat} {cA : Nat → ClassId} {M M' : Mm} {b : Nat} (h1 : M'.1 b = M.1 b) (h2 : M'.2.1 b = M.2.1 b) (h3 : M'.2.2 b = M.2.2 b) : ent ad cA M' b = ent ad cA M b := by
  have hf : ∀ ci, flds ad M' b ci = flds ad M b ci := by
    intro ci
    unfold flds
    apply List.map_congr_left
    intro k _
    exact fv_of (by rw [h1]) (by rw [h2]) (by rw [h3])
  unfold ent
  rw [hf, h1, h2, h3]
end
section
/-! THE SMALL MACHINE IS RIGHT, an instruction a row -/
def isRA (v : Value) : Bool := match v with
  | .retAddr _ => true
  | _ => false
def lok (ad : Nat → Nat) (ls : Array Slot) (n : Nat) (L : List Value) : Prop := ls.size = n ∧ lv_wf ls ∧ L.length ≤ n ∧ ∀ (i : Nat) (v : Value), L[i]? = some v → isRA v = false → ls[i]? = some (.val (pv ad v))
def lpl (ad : Nat → Nat) (L : List Value) : List (Nat × Value) := L.zipIdx.filterMap fun q => if isRA q.1 then none else some (q.2, pv ad q.1)
theorem lpl_mem {ad : Nat → Nat} {L : List Value} {i : Nat} {w : Value} : (i, w) ∈ lpl ad L ↔ ∃ v, L[i]? = some v ∧ isRA v = false ∧ w = pv ad v := by
  unfold lpl
  rw [List.mem_filterMap]
  constructor
  · rintro ⟨⟨v, j⟩, hm, h⟩
    have hv := List.mem_zipIdx_iff_getElem?.mp hm
    dsimp only at h hv
    by_cases hr : isRA v = true
    · rw [if_pos hr] at h; cases h
    · rw [if_neg hr] at h
      cases h
      exact ⟨v, hv, by simpa using hr, rfl⟩
  · rintro ⟨v, hv, hr, rfl⟩
    exact ⟨(v, i), List.mem_zipIdx_iff_getElem?.mpr hv, by dsimp only; rw [if_neg (by rw [hr]; decide)]⟩
theorem lok.has {ad : Nat → Nat} {ls : Array Slot} {n : Nat} {L : List Value} (h : lok ad ls n L) : lv_has ls n (lpl ad L) := by
  refine ⟨h.1, h.2.1, fun q hq => ?_⟩
  obtain ⟨v, h1, h2, h3⟩ := lpl_mem.mp (show (q.1, q.2) ∈ lpl ad L from hq)
  rw [h3]
  exact h.2.2.2 _ _ h1 h2
theorem getD_some {L : List Value} {k : Nat} {v : Value} (h : L.getD k (.retAddr 0) = v) (hv : isRA v = false) : L[k]? = some v := by
  rw [List.getD_eq_getElem?_getD] at h
  cases hk : L[k]? with
  | none => rw [hk] at h; subst h; cases hv
  | some w => rw [hk] at h; rw [← h]; rfl
theorem ldI_e {L : List Value} {k : Nat} {K : Value → Prop} (h : ldI L k K) : ∃ x, L[k]? = some (.int x) ∧ K (.int x) := by
  unfold ldI at h
  generalize hv : L.getD k (.retAddr 0) = v at h
  cases v with
  | int x => exact ⟨x, getD_some hv rfl, h⟩
  | _ => exact h.elim
theorem ldL_e {L : List Value} {k : Nat} {K : Value → Prop} (h : ldL L k K) : ∃ x, L[k]? = some (.long x) ∧ K (.long x) := by
  unfold ldL at h
  generalize hv : L.getD k (.retAddr 0) = v at h
  cases v with
  | long x => exact ⟨x, getD_some hv rfl, h⟩
  | _ => exact h.elim
theorem ldA_e {L : List Value} {k : Nat} {K : Value → Prop} (h : ldA L k K) : ∃ x : Nat, L[k]? = some (.ref x) ∧ K (.ref x) := by
  unfold ldA at h
  generalize hv : L.getD k (.retAddr 0) = v at h
  cases v with
  | ref x => exact ⟨x, getD_some hv rfl, h⟩
  | _ => exact h.elim
theorem popI_e {S : List Value} {K : Int32 → List Value → Prop} (h : popI S K) : ∃ x r, S = .int x :: r ∧ K x r := by
  match S, h with
  | .int x :: r, h => exact ⟨x, r, rfl, h⟩
theorem popL_e {S : List Value} {K : Int64 → List Value → Prop} (h : popL S K) : ∃ x r, S = .long x :: r ∧ K x r := by
  match S, h with
  | .long x :: r, h => exact ⟨x, r, rfl, h⟩
theorem popA_e {S : List Value} {K : Nat → List Value → Prop} (h : popA S K) : ∃ (x : Nat) (r : List Value), S = .ref x :: r ∧ K x r := by
  match S, h with
  | .ref x :: r, h => exact ⟨x, r, rfl, h⟩
theorem pop1_e {S : List Value} {K : Value → List Value → Prop} (h : pop1 S K) : ∃ v r, S = v :: r ∧ v.category = 1 ∧ K v r := by
  match S, h with
  | .ref x :: r, h => exact ⟨_, r, rfl, rfl, h⟩
  | .int x :: r, h => exact ⟨_, r, rfl, rfl, h⟩
theorem popN_e {S : List Value} {K : Prop} (h : popN S K) : S = [] ∧ K := by
  match S, h with
  | [], h => exact ⟨rfl, h⟩
theorem pv_cat (ad : Nat → Nat) (v : Value) : (pv ad v).category = v.category := by
  cases v with
  | ref r =>
    show (va_rf (po ad r)).category = 1
    unfold po
    by_cases h : r = 0
    · rw [if_pos h]; rfl
    · rw [if_neg h]; rfl
  | _ => rfl
theorem isRA_pv {v : Value} (h : v.category = 2) : ∀ ad, (pv ad v).category = 2 := fun ad => by rw [pv_cat]; exact h
theorem stv_get {L : List Value} {k j : Nat} {v w : Value} (h : (stv L k v)[j]? = some w) (hr : isRA w = false) : (j = k ∧ w = v) ∨ (j ≠ k ∧ L[j]? = some w ∧ ¬ (j + 1 = k ∧ w.category = 2)) := by
  have base : ∀ (L' : List Value) (k : Nat), (L'.set k v)[j]? = some w → (j = k ∧ w = v) ∨ (j ≠ k ∧ L'[j]? = some w) := by
    intro L' k h
    rw [List.getElem?_set] at h
    by_cases e : k = j
    · subst e
      rw [if_pos rfl] at h
      split at h
      · cases h; exact Or.inl ⟨rfl, rfl⟩
      · cases h
    · rw [if_neg e] at h
      exact Or.inr ⟨fun q => e q.symm, h⟩
  have kill : ∀ i : Nat, ((L.set i (.retAddr 0)).set (i + 1) v)[j]? = some w → (j = i + 1 ∧ w = v) ∨ (j ≠ i + 1 ∧ L[j]? = some w ∧ ¬ (j + 1 = i + 1 ∧ w.category = 2)) := by
    intro i h
    rcases base _ _ h with ⟨h1, h2⟩ | ⟨h1, h2⟩
    · exact Or.inl ⟨h1, h2⟩
    · rw [List.getElem?_set] at h2
      by_cases e : i = j
      · subst e
        rw [if_pos rfl] at h2
        split at h2
        · cases h2; cases hr
        · cases h2
      · rw [if_neg e] at h2
        exact Or.inr ⟨h1, h2, fun q => by omega⟩
  unfold stv at h
  cases k with
  | zero =>
    rcases base L 0 h with ⟨h1, h2⟩ | ⟨h1, h2⟩
    · exact Or.inl ⟨h1, h2⟩
    · exact Or.inr ⟨h1, h2, fun q => by omega⟩
  | succ i =>
    dsimp only at h
    split at h
    · exact kill i h
    · exact kill i h
    · rename_i hx hy
      rcases base _ _ h with ⟨h1, h2⟩ | ⟨h1, h2⟩
      · exact Or.inl ⟨h1, h2⟩
      · refine Or.inr ⟨h1, h2, fun ⟨q1, q2⟩ => ?_⟩
        have e : j = i := by omega
        subst e
        have hg : L.getD j (.retAddr 0) = w := by rw [List.getD_eq_getElem?_getD, h2]; rfl
        cases w with
        | long x => exact hx x hg
        | double x => exact hy x hg
        | _ => cases q2
theorem stv_len {L : List Value} {k : Nat} {v : Value} : (stv L k v).length = L.length := by
  unfold stv
  cases k with
  | zero => simp
  | succ i => dsimp only; split <;> simp
theorem lok.st1 {ad : Nat → Nat} {ls ls' : Array Slot} {n k : Nat} {L : List Value} {v : Value} (h : lok ad ls n L) (h' : lv_has ls' n ((k, pv ad v) :: (lpl ad L).filter (fun q => !(q.1 == k) && !(q.1 + 1 == k && q.2.category == 2)))) : lok ad ls' n (stv L k v) := by
  refine ⟨h'.1, h'.2.1, by rw [stv_len]; exact h.2.2.1, fun j w hj hr => ?_⟩
  rcases stv_get hj hr with ⟨rfl, rfl⟩ | ⟨hne, hg, hnl⟩
  · exact h'.2.2 (j, pv ad w) List.mem_cons_self
  · refine h'.2.2 (j, pv ad w) (List.mem_cons_of_mem _ (List.mem_filter.mpr ⟨lpl_mem.mpr ⟨w, hg, hr, rfl⟩, ?_⟩))
    have h1 : (j == k) = false := by simpa using hne
    rw [h1]
    by_cases e : j + 1 = k
    · have hc : ((pv ad w).category == 2) = false := by
        rw [pv_cat]
        simpa using fun q => hnl ⟨e, q⟩
      dsimp only
      rw [hc]
      simp
    · have h2 : (j + 1 == k) = false := by simpa using e
      dsimp only
      rw [h2]
      rfl
theorem lok.st2 {ad : Nat → Nat} {ls ls' : Array Slot} {n k : Nat} {L : List Value} {x : Int64} (h : lok ad ls n L) (h' : lv_has ls' n ((k, .long x) :: (lpl ad L).filter (fun q => !(q.1 == k) && (!(q.1 == k + 1) && !(q.1 + 1 == k && q.2.category == 2))))) : lok ad ls' n (stw L k (.long x)) := by
  refine ⟨h'.1, h'.2.1, by unfold stw; rw [List.length_set, stv_len]; exact h.2.2.1, fun j w hj hr => ?_⟩
  unfold stw at hj
  rw [List.getElem?_set] at hj
  by_cases e1 : k + 1 = j
  · subst e1
    rw [if_pos rfl] at hj
    split at hj
    · cases hj; cases hr
    · cases hj
  · rw [if_neg e1] at hj
    rcases stv_get hj hr with ⟨rfl, rfl⟩ | ⟨hne, hg, hnl⟩
    · exact h'.2.2 (j, .long x) List.mem_cons_self
    · refine h'.2.2 (j, pv ad w) (List.mem_cons_of_mem _ (List.mem_filter.mpr ⟨lpl_mem.mpr ⟨w, hg, hr, rfl⟩, ?_⟩))
      have h1 : (j == k) = false := by simpa using hne
      have h3 : (j == k + 1) = false := by simpa using fun q => e1 q.symm
      dsimp only
      rw [h1, h3]
      by_cases e : j + 1 = k
      · have hc : ((pv ad w).category == 2) = false := by
          rw [pv_cat]
          simpa using fun q => hnl ⟨e, q⟩
        rw [hc]
        simp
      · have h2 : (j + 1 == k) = false := by simpa using e
        rw [h2]
        rfl
theorem msk_get {inf : List Nat} : ∀ {L : List Value} {k i : Nat} {v : Value}, (msk inf k L)[i]? = some v → isRA v = false → L[i]? = some v
  | [], k, i, v, h, _ => by simp [msk] at h
  | w :: r, k, 0, v, h, hv => by
    have h : some (cond (inf.any (Nat.beq k)) w (.retAddr 0)) = some v := h
    cases hb : inf.any (Nat.beq k) with
    | true => rw [hb] at h; exact h
    | false => rw [hb] at h; cases h; cases hv
  | w :: r, k, i + 1, v, h, hv => msk_get (L := r) (k := k + 1) (i := i) h hv
theorem msk_len {inf : List Nat} : ∀ {L : List Value} {k : Nat}, (msk inf k L).length = L.length
  | [], k => rfl
  | w :: r, k => congrArg (· + 1) (msk_len (L := r) (k := k + 1))
theorem lok.msk {ad : Nat → Nat} {ls : Array Slot} {n k : Nat} {L : List Value} {inf : List Nat} (h : lok ad ls n L) : lok ad ls n (msk inf k L) :=
  ⟨h.1, h.2.1, by rw [msk_len]; exact h.2.2.1, fun i v hi hv => h.2.2.2 i v (msk_get hi hv) hv⟩
end
section
theorem gh_sI {M : Mm} {a k : Nat} {v : Int32} : gh (sI M a k v) = gh M := rfl
theorem gh_sL {M : Mm} {a k : Nat} {v : Int64} : gh (sL M a k v) = gh M := rfl
theorem gh_sR {M : Mm} {a k r : Nat} (h : lay a ≠ 0) : gh (sR M a k r) = gh M := by
  have hne : (900 : Nat) ≠ a := by
    intro e
    subst e
    exact h (by decide +kernel)
  show up2 M.2.2 a k r 900 0 = _
  rw [up2_ne hne]
  rfl
def M00 : Mm := (fun _ _ => 0, fun _ _ => 0, fun _ _ => 0)
section SND
variable {p : Program} {l : Launch} {e : Env} {R : Room} {s : State} {m : MethodId} {args : Array Value} {below : List Frame} {meth : Method} {c : Code} {Q : State → Prop}
variable {D : va_G} {ad : Nat → Nat} {cA : Nat → ClassId} {y cn d : Nat} {G : Nat → Prop} {cf sf : Nat → Nat}
/-- what holds in a method's body from its entry on -/
def Bd (p : Program) (R : Room) (s : State) (m : MethodId) (args : Array Value) (c : Code) (D : va_G) (ad : Nat → Nat) (cA : Nat → ClassId) (y cn d : Nat) (G : Nat → Prop) (cf sf : Nat → Nat) : Prop :=
  p.tables.exec = Jvm.exec ∧ c.code = yB y ∧ c.maxLocals = yM y ∧ s.vm.findClass (Rn cn) = some m.cls ∧ (∀ w ∈ gtb, w.before args s = true) ∧ va_K D vwCl (tysM cA) s ∧ va_D (fun _ => True) (wsM ad cA M00) ∧
  Sx ad (AA ad s.heap.size) s s.heap ∧ Nx s ∧ (d + 1 ≤ R.frames ∧ 200 * (d + 1) ≤ R.locals) ∧ ∀ g, G g → cf g ≤ R.cells ∧ sf g ≤ R.slots
def AtW (p : Program) (l : Launch) (e : Env) (R : Room) (s : State) (m : MethodId) (args : Array Value) (below : List Frame) (meth : Method) (c : Code) (Q : State → Prop) (D : va_G) (ad : Nat → Nat) (cA : Nat → ClassId) (y : Nat) (G : Nat → Prop) (cf sf : Nat → Nat) : JJ := fun pc L S M =>
  G (gh M) → ∀ (H : Heap) (locs : List Loc) (ls : Array Slot), lok ad ls (yM y) L → va_P D vwCl (wsM ad cA M) H → va_S (AA ad s.heap.size) s.heap H locs → W p l e R s m args below meth c H locs (cf (gh M)) (sf (gh M)) Q (F0 m pc ls (S.map (pv ad)))
theorem Bd.dd (B : Bd p R s m args c D ad cA y cn d G cf sf) {M : Mm} : va_D (AA ad s.heap.size) (wsM ad cA M) := wsM_DA (wsM_D B.2.2.2.2.2.2.1)
variable {pc : Nat} {L S : List Value} {M : Mm}
theorem o_iconst (B : Bd p R s m args c D ad cA y cn d G cf sf) {K : List Value → List Value → Mm → Prop} {k : Int} (hd : decode (yB y) pc = .ok (.iconst k, 1)) (ih : ∀ L S M, K L S M → AtW p l e R s m args below meth c Q D ad cA y G cf sf (pc + 1) L S M) (h : K L (.int (I k) :: S) M) : AtW p l e R s m args below meth c Q D ad cA y G cf sf pc L S M := by
  intro hg H locs ls hl hP hS
  exact lv_iconst B.1 B.2.1 hd rfl (ih _ _ _ h hg H locs ls hl hP hS)
theorem o_bipush (B : Bd p R s m args c D ad cA y cn d G cf sf) {K : List Value → List Value → Mm → Prop} {k : Int} (hk : (Int8.ofInt k).toInt32 = I k) (hd : decode (yB y) pc = .ok (.bipush k, 2)) (ih : ∀ L S M, K L S M → AtW p l e R s m args below meth c Q D ad cA y G cf sf (pc + 2) L S M) (h : K L (.int (I k) :: S) M) : AtW p l e R s m args below meth c Q D ad cA y G cf sf pc L S M := by
  intro hg H locs ls hl hP hS
  exact lv_bipush B.1 B.2.1 hd hk (ih _ _ _ h hg H locs ls hl hP hS)
theorem o_sipush (B : Bd p R s m args c D ad cA y cn d G cf sf) {K : List Value → List Value → Mm → Prop} {k : Int} (hk : (Int16.ofInt k).toInt32 = I k) (hd : decode (yB y) pc = .ok (.sipush k, 3)) (ih : ∀ L S M, K L S M → AtW p l e R s m args below meth c Q D ad cA y G cf sf (pc + 3) L S M) (h : K L (.int (I k) :: S) M) : AtW p l e R s m args below meth c Q D ad cA y G cf sf pc L S M := by
  intro hg H locs ls hl hP hS
  exact lv_sipush B.1 B.2.1 hd hk (ih _ _ _ h hg H locs ls hl hP hS)
theorem o_ldc (B : Bd p R s m args c D ad cA y cn d G cf sf) {K : List Value → List Value → Mm → Prop} {idx : Nat} {v : Int32} (hw : Cond.constant (Rn cn) idx v ∈ gtb) (hd : decode (yB y) pc = .ok (.ldc idx, 2)) (ih : ∀ L S M, K L S M → AtW p l e R s m args below meth c Q D ad cA y G cf sf (pc + 2) L S M) (h : K L (.int v :: S) M) : AtW p l e R s m args below meth c Q D ad cA y G cf sf pc L S M := by
  intro hg H locs ls hl hP hS
  exact lv_ldc B.1 B.2.1 B.2.2.2.1 (B.2.2.2.2.1 _ hw) hd (ih _ _ _ h hg H locs ls hl hP hS)
theorem o_ldcw (B : Bd p R s m args c D ad cA y cn d G cf sf) {K : List Value → List Value → Mm → Prop} {idx : Nat} {v : Int32} (hw : Cond.constant (Rn cn) idx v ∈ gtb) (hd : decode (yB y) pc = .ok (.ldc_w idx, 3)) (ih : ∀ L S M, K L S M → AtW p l e R s m args below meth c Q D ad cA y G cf sf (pc + 3) L S M) (h : K L (.int v :: S) M) : AtW p l e R s m args below meth c Q D ad cA y G cf sf pc L S M := by
  intro hg H locs ls hl hP hS
  exact lv_ldcw B.1 B.2.1 B.2.2.2.1 (B.2.2.2.2.1 _ hw) hd (ih _ _ _ h hg H locs ls hl hP hS)
theorem o_ldc2 (B : Bd p R s m args c D ad cA y cn d G cf sf) {K : List Value → List Value → Mm → Prop} {idx : Nat} {v : Int64} (hw : Cond.constantLong (Rn cn) idx v ∈ gtb) (hd : decode (yB y) pc = .ok (.ldc2_w idx, 3)) (ih : ∀ L S M, K L S M → AtW p l e R s m args below meth c Q D ad cA y G cf sf (pc + 3) L S M) (h : K L (.long v :: S) M) : AtW p l e R s m args below meth c Q D ad cA y G cf sf pc L S M := by
  intro hg H locs ls hl hP hS
  exact lv_ldc2 B.1 B.2.1 B.2.2.2.1 (B.2.2.2.2.1 _ hw) hd (ih _ _ _ h hg H locs ls hl hP hS)
theorem o_lconst (B : Bd p R s m args c D ad cA y cn d G cf sf) {K : List Value → List Value → Mm → Prop} {k : Fin 2} (hd : decode (yB y) pc = .ok (.lconst k, 1)) (ih : ∀ L S M, K L S M → AtW p l e R s m args below meth c Q D ad cA y G cf sf (pc + 1) L S M) (h : K L (.long (Int64.ofNat k.val) :: S) M) : AtW p l e R s m args below meth c Q D ad cA y G cf sf pc L S M := by
  intro hg H locs ls hl hP hS
  exact lv_lconst B.1 B.2.1 hd rfl (ih _ _ _ h hg H locs ls hl hP hS)
theorem o_null (B : Bd p R s m args c D ad cA y cn d G cf sf) {K : List Value → List Value → Mm → Prop} (hd : decode (yB y) pc = .ok (.aconst_null, 1)) (ih : ∀ L S M, K L S M → AtW p l e R s m args below meth c Q D ad cA y G cf sf (pc + 1) L S M) (h : K L (.ref 0 :: S) M) : AtW p l e R s m args below meth c Q D ad cA y G cf sf pc L S M := by
  intro hg H locs ls hl hP hS
  exact lv_null B.1 B.2.1 hd (ih _ _ _ h hg H locs ls hl hP hS)
theorem o_iloadn (B : Bd p R s m args c D ad cA y cn d G cf sf) {K : List Value → List Value → Mm → Prop} {k : Fin 4} (hd : decode (yB y) pc = .ok (.iload_n k, 1)) (ih : ∀ L S M, K L S M → AtW p l e R s m args below meth c Q D ad cA y G cf sf (pc + 1) L S M) (h : ldI L k.val fun v => K L (v :: S) M) : AtW p l e R s m args below meth c Q D ad cA y G cf sf pc L S M := by
  obtain ⟨x, hx, h1z⟩ := ldI_e h
  intro hg H locs ls hl hP hS
  exact lv_iload_n B.1 B.2.1 hd rfl (hl.2.2.2 _ _ hx rfl) (ih _ _ _ h1z hg H locs ls hl hP hS)
theorem o_iload (B : Bd p R s m args c D ad cA y cn d G cf sf) {K : List Value → List Value → Mm → Prop} {k : Nat} (hd : decode (yB y) pc = .ok (.iload k, 2)) (ih : ∀ L S M, K L S M → AtW p l e R s m args below meth c Q D ad cA y G cf sf (pc + 2) L S M) (h : ldI L k fun v => K L (v :: S) M) : AtW p l e R s m args below meth c Q D ad cA y G cf sf pc L S M := by
  obtain ⟨x, hx, h1z⟩ := ldI_e h
  intro hg H locs ls hl hP hS
  exact lv_iload B.1 B.2.1 hd (hl.2.2.2 _ _ hx rfl) (ih _ _ _ h1z hg H locs ls hl hP hS)
theorem o_lloadn (B : Bd p R s m args c D ad cA y cn d G cf sf) {K : List Value → List Value → Mm → Prop} {k : Fin 4} (hd : decode (yB y) pc = .ok (.lload_n k, 1)) (ih : ∀ L S M, K L S M → AtW p l e R s m args below meth c Q D ad cA y G cf sf (pc + 1) L S M) (h : ldL L k.val fun v => K L (v :: S) M) : AtW p l e R s m args below meth c Q D ad cA y G cf sf pc L S M := by
  obtain ⟨x, hx, h1z⟩ := ldL_e h
  intro hg H locs ls hl hP hS
  exact lv_lload_n B.1 B.2.1 hd rfl (hl.2.2.2 _ _ hx rfl) (ih _ _ _ h1z hg H locs ls hl hP hS)
theorem o_lload (B : Bd p R s m args c D ad cA y cn d G cf sf) {K : List Value → List Value → Mm → Prop} {k : Nat} (hd : decode (yB y) pc = .ok (.lload k, 2)) (ih : ∀ L S M, K L S M → AtW p l e R s m args below meth c Q D ad cA y G cf sf (pc + 2) L S M) (h : ldL L k fun v => K L (v :: S) M) : AtW p l e R s m args below meth c Q D ad cA y G cf sf pc L S M := by
  obtain ⟨x, hx, h1z⟩ := ldL_e h
  intro hg H locs ls hl hP hS
  exact lv_lload B.1 B.2.1 hd (hl.2.2.2 _ _ hx rfl) (ih _ _ _ h1z hg H locs ls hl hP hS)
theorem o_aloadn (B : Bd p R s m args c D ad cA y cn d G cf sf) {K : List Value → List Value → Mm → Prop} {k : Fin 4} (hd : decode (yB y) pc = .ok (.aload_n k, 1)) (ih : ∀ L S M, K L S M → AtW p l e R s m args below meth c Q D ad cA y G cf sf (pc + 1) L S M) (h : ldA L k.val fun v => K L (v :: S) M) : AtW p l e R s m args below meth c Q D ad cA y G cf sf pc L S M := by
  obtain ⟨x, hx, h1z⟩ := ldA_e h
  intro hg H locs ls hl hP hS
  have h1 := hl.2.2.2 _ _ hx rfl
  have h2 := ih _ _ _ h1z hg H locs ls hl hP hS
  by_cases h0 : x = 0
  · subst h0
    exact lv_aload_nN B.1 B.2.1 hd rfl h1 h2
  · rw [pv_ref h0] at h1
    rw [List.map_cons, pv_ref h0] at h2
    exact lv_aload_n B.1 B.2.1 hd rfl h1 h2
theorem o_aload (B : Bd p R s m args c D ad cA y cn d G cf sf) {K : List Value → List Value → Mm → Prop} {k : Nat} (hd : decode (yB y) pc = .ok (.aload k, 2)) (ih : ∀ L S M, K L S M → AtW p l e R s m args below meth c Q D ad cA y G cf sf (pc + 2) L S M) (h : ldA L k fun v => K L (v :: S) M) : AtW p l e R s m args below meth c Q D ad cA y G cf sf pc L S M := by
  obtain ⟨x, hx, h1z⟩ := ldA_e h
  intro hg H locs ls hl hP hS
  have h1 := hl.2.2.2 _ _ hx rfl
  have h2 := ih _ _ _ h1z hg H locs ls hl hP hS
  by_cases h0 : x = 0
  · subst h0
    exact lv_aloadN B.1 B.2.1 hd h1 h2
  · rw [pv_ref h0] at h1
    rw [List.map_cons, pv_ref h0] at h2
    exact lv_aload B.1 B.2.1 hd h1 h2
theorem o_istoren (B : Bd p R s m args c D ad cA y cn d G cf sf) {K : List Value → List Value → Mm → Prop} {k : Fin 4} (hk : k.val < yM y) (hd : decode (yB y) pc = .ok (.istore_n k, 1)) (ih : ∀ L S M, K L S M → AtW p l e R s m args below meth c Q D ad cA y G cf sf (pc + 1) L S M) (h : popI S fun v r => K (stv L k.val (.int v)) r M) : AtW p l e R s m args below meth c Q D ad cA y G cf sf pc L S M := by
  obtain ⟨x, r, rfl, h1z⟩ := popI_e h
  intro hg H locs ls hl hP hS
  exact lv_istore_n B.1 B.2.1 hd rfl hl.has hk rfl fun ls2 h2 => ih _ _ _ h1z hg H locs ls2 (hl.st1 h2) hP hS
theorem o_astoren (B : Bd p R s m args c D ad cA y cn d G cf sf) {K : List Value → List Value → Mm → Prop} {k : Fin 4} (hk : k.val < yM y) (hd : decode (yB y) pc = .ok (.astore_n k, 1)) (ih : ∀ L S M, K L S M → AtW p l e R s m args below meth c Q D ad cA y G cf sf (pc + 1) L S M) (h : popA S fun v r => K (stv L k.val (.ref v)) r M) : AtW p l e R s m args below meth c Q D ad cA y G cf sf pc L S M := by
  obtain ⟨x, r, rfl, h1z⟩ := popA_e h
  intro hg H locs ls hl hP hS
  by_cases h0 : x = 0
  · subst h0
    exact lv_astore_nN B.1 B.2.1 hd rfl hl.has hk rfl fun ls2 h2 => ih _ _ _ h1z hg H locs ls2 (hl.st1 h2) hP hS
  · rw [List.map_cons, pv_ref h0]
    exact lv_astore_n B.1 B.2.1 hd rfl hl.has hk rfl fun ls2 h2 => ih _ _ _ h1z hg H locs ls2 (hl.st1 (by rw [pv_ref h0]; exact h2)) hP hS
theorem o_lstoren (B : Bd p R s m args c D ad cA y cn d G cf sf) {K : List Value → List Value → Mm → Prop} {k : Fin 4} (hk : k.val + 1 < yM y) (hd : decode (yB y) pc = .ok (.lstore_n k, 1)) (ih : ∀ L S M, K L S M → AtW p l e R s m args below meth c Q D ad cA y G cf sf (pc + 1) L S M) (h : popL S fun v r => K (stw L k.val (.long v)) r M) : AtW p l e R s m args below meth c Q D ad cA y G cf sf pc L S M := by
  obtain ⟨x, r, rfl, h1z⟩ := popL_e h
  intro hg H locs ls hl hP hS
  exact lv_lstore_n B.1 B.2.1 hd rfl hl.has hk rfl fun ls2 h2 => ih _ _ _ h1z hg H locs ls2 (hl.st2 h2) hP hS
theorem o_istore (B : Bd p R s m args c D ad cA y cn d G cf sf) {K : List Value → List Value → Mm → Prop} {k : Nat} (hk : k < yM y) (hd : decode (yB y) pc = .ok (.istore k, 2)) (ih : ∀ L S M, K L S M → AtW p l e R s m args below meth c Q D ad cA y G cf sf (pc + 2) L S M) (h : popI S fun v r => K (stv L k (.int v)) r M) : AtW p l e R s m args below meth c Q D ad cA y G cf sf pc L S M := by
  obtain ⟨x, r, rfl, h1z⟩ := popI_e h
  intro hg H locs ls hl hP hS
  exact lv_istore B.1 B.2.1 hd hl.has hk rfl fun ls2 h2 => ih _ _ _ h1z hg H locs ls2 (hl.st1 h2) hP hS
theorem o_astore (B : Bd p R s m args c D ad cA y cn d G cf sf) {K : List Value → List Value → Mm → Prop} {k : Nat} (hk : k < yM y) (hd : decode (yB y) pc = .ok (.astore k, 2)) (ih : ∀ L S M, K L S M → AtW p l e R s m args below meth c Q D ad cA y G cf sf (pc + 2) L S M) (h : popA S fun v r => K (stv L k (.ref v)) r M) : AtW p l e R s m args below meth c Q D ad cA y G cf sf pc L S M := by
  obtain ⟨x, r, rfl, h1z⟩ := popA_e h
  intro hg H locs ls hl hP hS
  by_cases h0 : x = 0
  · subst h0
    exact lv_astoreN B.1 B.2.1 hd hl.has hk rfl fun ls2 h2 => ih _ _ _ h1z hg H locs ls2 (hl.st1 h2) hP hS
  · rw [List.map_cons, pv_ref h0]
    exact lv_astore B.1 B.2.1 hd hl.has hk rfl fun ls2 h2 => ih _ _ _ h1z hg H locs ls2 (hl.st1 (by rw [pv_ref h0]; exact h2)) hP hS
theorem o_lstore (B : Bd p R s m args c D ad cA y cn d G cf sf) {K : List Value → List Value → Mm → Prop} {k : Nat} (hk : k + 1 < yM y) (hd : decode (yB y) pc = .ok (.lstore k, 2)) (ih : ∀ L S M, K L S M → AtW p l e R s m args below meth c Q D ad cA y G cf sf (pc + 2) L S M) (h : popL S fun v r => K (stw L k (.long v)) r M) : AtW p l e R s m args below meth c Q D ad cA y G cf sf pc L S M := by
  obtain ⟨x, r, rfl, h1z⟩ := popL_e h
  intro hg H locs ls hl hP hS
  exact lv_lstore B.1 B.2.1 hd hl.has hk rfl fun ls2 h2 => ih _ _ _ h1z hg H locs ls2 (hl.st2 h2) hP hS
theorem o_iinc (B : Bd p R s m args c D ad cA y cn d G cf sf) {K : List Value → List Value → Mm → Prop} {k : Nat} {n : Int} (hk : k < yM y) (hd : decode (yB y) pc = .ok (.iinc k n, 3)) (ih : ∀ L S M, K L S M → AtW p l e R s m args below meth c Q D ad cA y G cf sf (pc + 3) L S M) (h : ldI L k fun v => popI [v] fun x _ => K (stv L k (.int (x + I n))) S M) : AtW p l e R s m args below meth c Q D ad cA y G cf sf pc L S M := by
  obtain ⟨x, hx, h1z⟩ := ldI_e h
  intro hg H locs ls hl hP hS
  obtain ⟨j, hj⟩ := List.getElem?_of_mem (lpl_mem (ad := ad).mpr ⟨_, hx, rfl, rfl⟩)
  exact lv_iinc B.1 B.2.1 hd hl.has hj rfl hk rfl fun ls2 h2 => ih _ _ _ h1z hg H locs ls2 (hl.st1 h2) hP hS
theorem o_iadd (B : Bd p R s m args c D ad cA y cn d G cf sf) {K : List Value → List Value → Mm → Prop} (hd : decode (yB y) pc = .ok (.iadd, 1)) (ih : ∀ L S M, K L S M → AtW p l e R s m args below meth c Q D ad cA y G cf sf (pc + 1) L S M) (h : popI S fun y r => popI r fun x r => K L (.int (x + y) :: r) M) : AtW p l e R s m args below meth c Q D ad cA y G cf sf pc L S M := by
  obtain ⟨b, r, rfl, h1z⟩ := popI_e h
  obtain ⟨a, r, rfl, h2z⟩ := popI_e h1z
  intro hg H locs ls hl hP hS
  exact lv_iadd B.1 B.2.1 hd (ih _ _ _ h2z hg H locs ls hl hP hS)
theorem o_isub (B : Bd p R s m args c D ad cA y cn d G cf sf) {K : List Value → List Value → Mm → Prop} (hd : decode (yB y) pc = .ok (.isub, 1)) (ih : ∀ L S M, K L S M → AtW p l e R s m args below meth c Q D ad cA y G cf sf (pc + 1) L S M) (h : popI S fun y r => popI r fun x r => K L (.int (x - y) :: r) M) : AtW p l e R s m args below meth c Q D ad cA y G cf sf pc L S M := by
  obtain ⟨b, r, rfl, h1z⟩ := popI_e h
  obtain ⟨a, r, rfl, h2z⟩ := popI_e h1z
  intro hg H locs ls hl hP hS
  exact lv_isub B.1 B.2.1 hd (ih _ _ _ h2z hg H locs ls hl hP hS)
theorem o_imul (B : Bd p R s m args c D ad cA y cn d G cf sf) {K : List Value → List Value → Mm → Prop} (hd : decode (yB y) pc = .ok (.imul, 1)) (ih : ∀ L S M, K L S M → AtW p l e R s m args below meth c Q D ad cA y G cf sf (pc + 1) L S M) (h : popI S fun y r => popI r fun x r => K L (.int (x * y) :: r) M) : AtW p l e R s m args below meth c Q D ad cA y G cf sf pc L S M := by
  obtain ⟨b, r, rfl, h1z⟩ := popI_e h
  obtain ⟨a, r, rfl, h2z⟩ := popI_e h1z
  intro hg H locs ls hl hP hS
  exact lv_imul B.1 B.2.1 hd (ih _ _ _ h2z hg H locs ls hl hP hS)
theorem o_iand (B : Bd p R s m args c D ad cA y cn d G cf sf) {K : List Value → List Value → Mm → Prop} (hd : decode (yB y) pc = .ok (.iand, 1)) (ih : ∀ L S M, K L S M → AtW p l e R s m args below meth c Q D ad cA y G cf sf (pc + 1) L S M) (h : popI S fun y r => popI r fun x r => K L (.int (x &&& y) :: r) M) : AtW p l e R s m args below meth c Q D ad cA y G cf sf pc L S M := by
  obtain ⟨b, r, rfl, h1z⟩ := popI_e h
  obtain ⟨a, r, rfl, h2z⟩ := popI_e h1z
  intro hg H locs ls hl hP hS
  exact lv_iand B.1 B.2.1 hd (ih _ _ _ h2z hg H locs ls hl hP hS)
theorem o_ior (B : Bd p R s m args c D ad cA y cn d G cf sf) {K : List Value → List Value → Mm → Prop} (hd : decode (yB y) pc = .ok (.ior, 1)) (ih : ∀ L S M, K L S M → AtW p l e R s m args below meth c Q D ad cA y G cf sf (pc + 1) L S M) (h : popI S fun y r => popI r fun x r => K L (.int (x ||| y) :: r) M) : AtW p l e R s m args below meth c Q D ad cA y G cf sf pc L S M := by
  obtain ⟨b, r, rfl, h1z⟩ := popI_e h
  obtain ⟨a, r, rfl, h2z⟩ := popI_e h1z
  intro hg H locs ls hl hP hS
  exact lv_ior B.1 B.2.1 hd (ih _ _ _ h2z hg H locs ls hl hP hS)
theorem o_ixor (B : Bd p R s m args c D ad cA y cn d G cf sf) {K : List Value → List Value → Mm → Prop} (hd : decode (yB y) pc = .ok (.ixor, 1)) (ih : ∀ L S M, K L S M → AtW p l e R s m args below meth c Q D ad cA y G cf sf (pc + 1) L S M) (h : popI S fun y r => popI r fun x r => K L (.int (x ^^^ y) :: r) M) : AtW p l e R s m args below meth c Q D ad cA y G cf sf pc L S M := by
  obtain ⟨b, r, rfl, h1z⟩ := popI_e h
  obtain ⟨a, r, rfl, h2z⟩ := popI_e h1z
  intro hg H locs ls hl hP hS
  exact lv_ixor B.1 B.2.1 hd (ih _ _ _ h2z hg H locs ls hl hP hS)
theorem o_ishl (B : Bd p R s m args c D ad cA y cn d G cf sf) {K : List Value → List Value → Mm → Prop} (hd : decode (yB y) pc = .ok (.ishl, 1)) (ih : ∀ L S M, K L S M → AtW p l e R s m args below meth c Q D ad cA y G cf sf (pc + 1) L S M) (h : popI S fun y r => popI r fun x r => K L (.int (x <<< (y &&& 31)) :: r) M) : AtW p l e R s m args below meth c Q D ad cA y G cf sf pc L S M := by
  obtain ⟨b, r, rfl, h1z⟩ := popI_e h
  obtain ⟨a, r, rfl, h2z⟩ := popI_e h1z
  intro hg H locs ls hl hP hS
  exact lv_ishl B.1 B.2.1 hd (ih _ _ _ h2z hg H locs ls hl hP hS)
theorem o_ishr (B : Bd p R s m args c D ad cA y cn d G cf sf) {K : List Value → List Value → Mm → Prop} (hd : decode (yB y) pc = .ok (.ishr, 1)) (ih : ∀ L S M, K L S M → AtW p l e R s m args below meth c Q D ad cA y G cf sf (pc + 1) L S M) (h : popI S fun y r => popI r fun x r => K L (.int (x >>> (y &&& 31)) :: r) M) : AtW p l e R s m args below meth c Q D ad cA y G cf sf pc L S M := by
  obtain ⟨b, r, rfl, h1z⟩ := popI_e h
  obtain ⟨a, r, rfl, h2z⟩ := popI_e h1z
  intro hg H locs ls hl hP hS
  exact lv_ishr B.1 B.2.1 hd (ih _ _ _ h2z hg H locs ls hl hP hS)
theorem o_iushr (B : Bd p R s m args c D ad cA y cn d G cf sf) {K : List Value → List Value → Mm → Prop} (hd : decode (yB y) pc = .ok (.iushr, 1)) (ih : ∀ L S M, K L S M → AtW p l e R s m args below meth c Q D ad cA y G cf sf (pc + 1) L S M) (h : popI S fun y r => popI r fun x r => K L (.int ((x.toUInt32 >>> (y.toUInt32 &&& Int32.toUInt32 31)).toInt32) :: r) M) : AtW p l e R s m args below meth c Q D ad cA y G cf sf pc L S M := by
  obtain ⟨b, r, rfl, h1z⟩ := popI_e h
  obtain ⟨a, r, rfl, h2z⟩ := popI_e h1z
  intro hg H locs ls hl hP hS
  exact lv_iushr B.1 B.2.1 hd rfl (ih _ _ _ h2z hg H locs ls hl hP hS)
theorem o_idiv (B : Bd p R s m args c D ad cA y cn d G cf sf) {K : List Value → List Value → Mm → Prop} (hd : decode (yB y) pc = .ok (.idiv, 1)) (ih : ∀ L S M, K L S M → AtW p l e R s m args below meth c Q D ad cA y G cf sf (pc + 1) L S M) (h : popI S fun y r => popI r fun x r => ¬ y = 0 ∧ K L (.int (x / y) :: r) M) : AtW p l e R s m args below meth c Q D ad cA y G cf sf pc L S M := by
  obtain ⟨b, r, rfl, h1z⟩ := popI_e h
  obtain ⟨a, r, rfl, h0, h2z⟩ := popI_e h1z
  intro hg H locs ls hl hP hS
  exact lv_idiv B.1 B.2.1 hd h0 (ih _ _ _ h2z hg H locs ls hl hP hS)
theorem o_irem (B : Bd p R s m args c D ad cA y cn d G cf sf) {K : List Value → List Value → Mm → Prop} (hd : decode (yB y) pc = .ok (.irem, 1)) (ih : ∀ L S M, K L S M → AtW p l e R s m args below meth c Q D ad cA y G cf sf (pc + 1) L S M) (h : popI S fun y r => popI r fun x r => ¬ y = 0 ∧ K L (.int (x - x / y * y) :: r) M) : AtW p l e R s m args below meth c Q D ad cA y G cf sf pc L S M := by
  obtain ⟨b, r, rfl, h1z⟩ := popI_e h
  obtain ⟨a, r, rfl, h0, h2z⟩ := popI_e h1z
  intro hg H locs ls hl hP hS
  exact lv_irem B.1 B.2.1 hd h0 (ih _ _ _ h2z hg H locs ls hl hP hS)
theorem o_ladd (B : Bd p R s m args c D ad cA y cn d G cf sf) {K : List Value → List Value → Mm → Prop} (hd : decode (yB y) pc = .ok (.ladd, 1)) (ih : ∀ L S M, K L S M → AtW p l e R s m args below meth c Q D ad cA y G cf sf (pc + 1) L S M) (h : popL S fun y r => popL r fun x r => K L (.long (x + y) :: r) M) : AtW p l e R s m args below meth c Q D ad cA y G cf sf pc L S M := by
  obtain ⟨b, r, rfl, h1z⟩ := popL_e h
  obtain ⟨a, r, rfl, h2z⟩ := popL_e h1z
  intro hg H locs ls hl hP hS
  exact lv_ladd B.1 B.2.1 hd (ih _ _ _ h2z hg H locs ls hl hP hS)
theorem o_lmul (B : Bd p R s m args c D ad cA y cn d G cf sf) {K : List Value → List Value → Mm → Prop} (hd : decode (yB y) pc = .ok (.lmul, 1)) (ih : ∀ L S M, K L S M → AtW p l e R s m args below meth c Q D ad cA y G cf sf (pc + 1) L S M) (h : popL S fun y r => popL r fun x r => K L (.long (x * y) :: r) M) : AtW p l e R s m args below meth c Q D ad cA y G cf sf pc L S M := by
  obtain ⟨b, r, rfl, h1z⟩ := popL_e h
  obtain ⟨a, r, rfl, h2z⟩ := popL_e h1z
  intro hg H locs ls hl hP hS
  exact lv_lmul B.1 B.2.1 hd (ih _ _ _ h2z hg H locs ls hl hP hS)
theorem o_lor (B : Bd p R s m args c D ad cA y cn d G cf sf) {K : List Value → List Value → Mm → Prop} (hd : decode (yB y) pc = .ok (.lor, 1)) (ih : ∀ L S M, K L S M → AtW p l e R s m args below meth c Q D ad cA y G cf sf (pc + 1) L S M) (h : popL S fun y r => popL r fun x r => K L (.long (x ||| y) :: r) M) : AtW p l e R s m args below meth c Q D ad cA y G cf sf pc L S M := by
  obtain ⟨b, r, rfl, h1z⟩ := popL_e h
  obtain ⟨a, r, rfl, h2z⟩ := popL_e h1z
  intro hg H locs ls hl hP hS
  exact lv_lor B.1 B.2.1 hd (ih _ _ _ h2z hg H locs ls hl hP hS)
theorem o_lshl (B : Bd p R s m args c D ad cA y cn d G cf sf) {K : List Value → List Value → Mm → Prop} (hd : decode (yB y) pc = .ok (.lshl, 1)) (ih : ∀ L S M, K L S M → AtW p l e R s m args below meth c Q D ad cA y G cf sf (pc + 1) L S M) (h : popI S fun y r => popL r fun x r => K L (.long (x <<< (y.toInt64 &&& 63)) :: r) M) : AtW p l e R s m args below meth c Q D ad cA y G cf sf pc L S M := by
  obtain ⟨b, r, rfl, h1z⟩ := popI_e h
  obtain ⟨a, r, rfl, h2z⟩ := popL_e h1z
  intro hg H locs ls hl hP hS
  exact lv_lshl B.1 B.2.1 hd rfl (ih _ _ _ h2z hg H locs ls hl hP hS)
theorem o_lcmp (B : Bd p R s m args c D ad cA y cn d G cf sf) {K : List Value → List Value → Mm → Prop} (hd : decode (yB y) pc = .ok (.lcmp, 1)) (ih : ∀ L S M, K L S M → AtW p l e R s m args below meth c Q D ad cA y G cf sf (pc + 1) L S M) (h : popL S fun y r => popL r fun x r => K L (.int (lg_cmp x y) :: r) M) : AtW p l e R s m args below meth c Q D ad cA y G cf sf pc L S M := by
  obtain ⟨b, r, rfl, h1z⟩ := popL_e h
  obtain ⟨a, r, rfl, h2z⟩ := popL_e h1z
  intro hg H locs ls hl hP hS
  exact W.lcmp B.1 B.2.1 hd (ih _ _ _ h2z hg H locs ls hl hP hS)
theorem o_i2l (B : Bd p R s m args c D ad cA y cn d G cf sf) {K : List Value → List Value → Mm → Prop} (hd : decode (yB y) pc = .ok (.i2l, 1)) (ih : ∀ L S M, K L S M → AtW p l e R s m args below meth c Q D ad cA y G cf sf (pc + 1) L S M) (h : popI S fun x r => K L (.long x.toInt64 :: r) M) : AtW p l e R s m args below meth c Q D ad cA y G cf sf pc L S M := by
  obtain ⟨a, r, rfl, h1z⟩ := popI_e h
  intro hg H locs ls hl hP hS
  exact lv_i2l B.1 B.2.1 hd rfl (ih _ _ _ h1z hg H locs ls hl hP hS)
theorem o_i2b (B : Bd p R s m args c D ad cA y cn d G cf sf) {K : List Value → List Value → Mm → Prop} (hd : decode (yB y) pc = .ok (.i2b, 1)) (ih : ∀ L S M, K L S M → AtW p l e R s m args below meth c Q D ad cA y G cf sf (pc + 1) L S M) (h : popI S fun x r => K L (.int x.toInt8.toInt32 :: r) M) : AtW p l e R s m args below meth c Q D ad cA y G cf sf pc L S M := by
  obtain ⟨a, r, rfl, h1z⟩ := popI_e h
  intro hg H locs ls hl hP hS
  exact lv_i2b B.1 B.2.1 hd rfl (ih _ _ _ h1z hg H locs ls hl hP hS)
theorem o_dup (B : Bd p R s m args c D ad cA y cn d G cf sf) {K : List Value → List Value → Mm → Prop} (hd : decode (yB y) pc = .ok (.dup, 1)) (ih : ∀ L S M, K L S M → AtW p l e R s m args below meth c Q D ad cA y G cf sf (pc + 1) L S M) (h : pop1 S fun v r => K L (v :: v :: r) M) : AtW p l e R s m args below meth c Q D ad cA y G cf sf pc L S M := by
  obtain ⟨v, r, rfl, hc, h1z⟩ := pop1_e h
  intro hg H locs ls hl hP hS
  exact lv_dup B.1 B.2.1 hd (by rw [pv_cat]; exact hc) (ih _ _ _ h1z hg H locs ls hl hP hS)
theorem o_pop (B : Bd p R s m args c D ad cA y cn d G cf sf) {K : List Value → List Value → Mm → Prop} (hd : decode (yB y) pc = .ok (.pop, 1)) (ih : ∀ L S M, K L S M → AtW p l e R s m args below meth c Q D ad cA y G cf sf (pc + 1) L S M) (h : pop1 S fun _ r => K L r M) : AtW p l e R s m args below meth c Q D ad cA y G cf sf pc L S M := by
  obtain ⟨v, r, rfl, hc, h1z⟩ := pop1_e h
  intro hg H locs ls hl hP hS
  exact lv_pop B.1 B.2.1 hd (by rw [pv_cat]; exact hc) (ih _ _ _ h1z hg H locs ls hl hP hS)
theorem o_dup2 (B : Bd p R s m args c D ad cA y cn d G cf sf) {K : List Value → List Value → Mm → Prop} (hd : decode (yB y) pc = .ok (.dup2, 1)) (ih : ∀ L S M, K L S M → AtW p l e R s m args below meth c Q D ad cA y G cf sf (pc + 1) L S M) (h : pop1 S fun v r => pop1 r fun w r => K L (v :: w :: v :: w :: r) M) : AtW p l e R s m args below meth c Q D ad cA y G cf sf pc L S M := by
  obtain ⟨v, r, rfl, hc, h1z⟩ := pop1_e h
  obtain ⟨w, r, rfl, hc2, h2z⟩ := pop1_e h1z
  intro hg H locs ls hl hP hS
  exact lv_dup2_11 B.1 B.2.1 hd (by rw [pv_cat]; exact hc) (by rw [pv_cat]; exact hc2) (ih _ _ _ h2z hg H locs ls hl hP hS)
theorem o_goto (B : Bd p R s m args c D ad cA y cn d G cf sf) {K K2 : List Value → List Value → Mm → Prop} {t : Nat} {off : Int} (hd : decode (yB y) pc = .ok (.goto off, 3)) (ht : (pc : Int) + off = (t : Int)) (ih : ∀ L S M, K L S M → AtW p l e R s m args below meth c Q D ad cA y G cf sf (pc + 3) L S M) (ij : ∀ L S M, K2 L S M → AtW p l e R s m args below meth c Q D ad cA y G cf sf t L S M) (h : K2 L S M) : AtW p l e R s m args below meth c Q D ad cA y G cf sf pc L S M := by
  intro hg H locs ls hl hP hS
  exact lv_goto B.1 B.2.1 hd ht (ij _ _ _ h hg H locs ls hl hP hS)
theorem o_icmp (B : Bd p R s m args c D ad cA y cn d G cf sf) {K K2 : List Value → List Value → Mm → Prop} {t : Nat} {off : Int} {cc : Jvm.ClassFile.Cond} (hd : decode (yB y) pc = .ok (.if_icmp cc off, 3)) (ht : (pc : Int) + off = (t : Int)) (ih : ∀ L S M, K L S M → AtW p l e R s m args below meth c Q D ad cA y G cf sf (pc + 3) L S M) (ij : ∀ L S M, K2 L S M → AtW p l e R s m args below meth c Q D ad cA y G cf sf t L S M) (h : popI S fun y r => popI r fun x r => (cmpI cc x y → K2 L r M) ∧ (¬ cmpI cc x y → K L r M)) : AtW p l e R s m args below meth c Q D ad cA y G cf sf pc L S M := by
  obtain ⟨b, r, rfl, h1z⟩ := popI_e h
  obtain ⟨a, r, rfl, h2z⟩ := popI_e h1z
  intro hg H locs ls hl hP hS
  cases cc with
  | eq => exact lv_icmp_eq B.1 B.2.1 hd ht (fun q => ij _ _ _ (h2z.1 (by simpa [cmpI] using q)) hg H locs ls hl hP hS) (fun q => ih _ _ _ (h2z.2 (by simpa [cmpI] using q)) hg H locs ls hl hP hS)
  | ne => exact lv_icmp_ne B.1 B.2.1 hd ht (fun q => ij _ _ _ (h2z.1 (by simpa [cmpI] using q)) hg H locs ls hl hP hS) (fun q => ih _ _ _ (h2z.2 (by simpa [cmpI] using q)) hg H locs ls hl hP hS)
  | lt => exact lv_icmp_lt B.1 B.2.1 hd ht (fun q => ij _ _ _ (h2z.1 (by simpa [cmpI] using q)) hg H locs ls hl hP hS) (fun q => ih _ _ _ (h2z.2 (by simpa [cmpI] using q)) hg H locs ls hl hP hS)
  | ge => exact lv_icmp_ge B.1 B.2.1 hd ht (fun q => ij _ _ _ (h2z.1 (by simpa [cmpI] using q)) hg H locs ls hl hP hS) (fun q => ih _ _ _ (h2z.2 (by simpa [cmpI] using q)) hg H locs ls hl hP hS)
  | gt => exact lv_icmp_gt B.1 B.2.1 hd ht (fun q => ij _ _ _ (h2z.1 (by simpa [cmpI] using q)) hg H locs ls hl hP hS) (fun q => ih _ _ _ (h2z.2 (by simpa [cmpI] using q)) hg H locs ls hl hP hS)
  | le => exact lv_icmp_le B.1 B.2.1 hd ht (fun q => ij _ _ _ (h2z.1 (by simpa [cmpI] using q)) hg H locs ls hl hP hS) (fun q => ih _ _ _ (h2z.2 (by simpa [cmpI] using q)) hg H locs ls hl hP hS)
theorem o_ifc (B : Bd p R s m args c D ad cA y cn d G cf sf) {K K2 : List Value → List Value → Mm → Prop} {t : Nat} {off : Int} {cc : Jvm.ClassFile.Cond} (hd : decode (yB y) pc = .ok (.ifCond cc off, 3)) (ht : (pc : Int) + off = (t : Int)) (ih : ∀ L S M, K L S M → AtW p l e R s m args below meth c Q D ad cA y G cf sf (pc + 3) L S M) (ij : ∀ L S M, K2 L S M → AtW p l e R s m args below meth c Q D ad cA y G cf sf t L S M) (h : popI S fun x r => (cmpI cc x 0 → K2 L r M) ∧ (¬ cmpI cc x 0 → K L r M)) : AtW p l e R s m args below meth c Q D ad cA y G cf sf pc L S M := by
  obtain ⟨a, r, rfl, h1z⟩ := popI_e h
  intro hg H locs ls hl hP hS
  cases cc with
  | eq => exact lv_if_eq B.1 B.2.1 hd ht (fun q => ij _ _ _ (h1z.1 (by simpa [cmpI] using q)) hg H locs ls hl hP hS) (fun q => ih _ _ _ (h1z.2 (by simpa [cmpI] using q)) hg H locs ls hl hP hS)
  | ne => exact lv_if_ne B.1 B.2.1 hd ht (fun q => ij _ _ _ (h1z.1 (by simpa [cmpI] using q)) hg H locs ls hl hP hS) (fun q => ih _ _ _ (h1z.2 (by simpa [cmpI] using q)) hg H locs ls hl hP hS)
  | lt => exact lv_if_lt B.1 B.2.1 hd ht (fun q => ij _ _ _ (h1z.1 (by simpa [cmpI] using q)) hg H locs ls hl hP hS) (fun q => ih _ _ _ (h1z.2 (by simpa [cmpI] using q)) hg H locs ls hl hP hS)
  | ge => exact lv_if_ge B.1 B.2.1 hd ht (fun q => ij _ _ _ (h1z.1 (by simpa [cmpI] using q)) hg H locs ls hl hP hS) (fun q => ih _ _ _ (h1z.2 (by simpa [cmpI] using q)) hg H locs ls hl hP hS)
  | gt => exact lv_if_gt B.1 B.2.1 hd ht (fun q => ij _ _ _ (h1z.1 (by simpa [cmpI] using q)) hg H locs ls hl hP hS) (fun q => ih _ _ _ (h1z.2 (by simpa [cmpI] using q)) hg H locs ls hl hP hS)
  | le => exact lv_if_le B.1 B.2.1 hd ht (fun q => ij _ _ _ (h1z.1 (by simpa [cmpI] using q)) hg H locs ls hl hP hS) (fun q => ih _ _ _ (h1z.2 (by simpa [cmpI] using q)) hg H locs ls hl hP hS)
theorem o_ifnull (B : Bd p R s m args c D ad cA y cn d G cf sf) {K K2 : List Value → List Value → Mm → Prop} {t : Nat} {off : Int} (hd : decode (yB y) pc = .ok (.ifnull off, 3)) (ht : (pc : Int) + off = (t : Int)) (ih : ∀ L S M, K L S M → AtW p l e R s m args below meth c Q D ad cA y G cf sf (pc + 3) L S M) (ij : ∀ L S M, K2 L S M → AtW p l e R s m args below meth c Q D ad cA y G cf sf t L S M) (h : popA S fun x r => (x = 0 → K2 L r M) ∧ (¬ x = 0 → K L r M)) : AtW p l e R s m args below meth c Q D ad cA y G cf sf pc L S M := by
  obtain ⟨a, r, rfl, h1z⟩ := popA_e h
  intro hg H locs ls hl hP hS
  by_cases h0 : a = 0
  · subst h0
    exact lv_ifnullN B.1 B.2.1 hd ht (ij _ _ _ (h1z.1 rfl) hg H locs ls hl hP hS)
  · rw [List.map_cons, pv_ref h0]
    exact lv_ifnull B.1 B.2.1 hd (ih _ _ _ (h1z.2 h0) hg H locs ls hl hP hS)
theorem o_ifnonnull (B : Bd p R s m args c D ad cA y cn d G cf sf) {K K2 : List Value → List Value → Mm → Prop} {t : Nat} {off : Int} (hd : decode (yB y) pc = .ok (.ifnonnull off, 3)) (ht : (pc : Int) + off = (t : Int)) (ih : ∀ L S M, K L S M → AtW p l e R s m args below meth c Q D ad cA y G cf sf (pc + 3) L S M) (ij : ∀ L S M, K2 L S M → AtW p l e R s m args below meth c Q D ad cA y G cf sf t L S M) (h : popA S fun x r => (¬ x = 0 → K2 L r M) ∧ (x = 0 → K L r M)) : AtW p l e R s m args below meth c Q D ad cA y G cf sf pc L S M := by
  obtain ⟨a, r, rfl, h1z⟩ := popA_e h
  intro hg H locs ls hl hP hS
  by_cases h0 : a = 0
  · subst h0
    exact lv_ifnonnullN B.1 B.2.1 hd (ih _ _ _ (h1z.2 rfl) hg H locs ls hl hP hS)
  · rw [List.map_cons, pv_ref h0]
    exact lv_ifnonnull B.1 B.2.1 hd ht (ij _ _ _ (h1z.1 h0) hg H locs ls hl hP hS)
end SND
end
section
section SN3
variable {p : Program} {l : Launch} {e : Env} {R : Room} {s : State} {m : MethodId} {args : Array Value} {below : List Frame} {meth : Method} {c : Code} {Q : State → Prop}
variable {D : va_G} {ad : Nat → Nat} {cA : Nat → ClassId} {y cn d : Nat} {G : Nat → Prop} {cf sf : Nat → Nat} {pc : Nat} {L S : List Value} {M : Mm}
theorem po_inj {A : Nat → Prop} {U : State} {H : Heap} (h : Sx ad A U H) {a b : Nat} (ha : rE a) (hb : rE b) : po ad a = po ad b ↔ a = b := by
  constructor
  · intro q
    unfold po at q
    by_cases h1 : a = 0
    · by_cases h2 : b = 0
      · rw [h1, h2]
      · rw [if_pos h1, if_neg h2] at q; cases q
    · by_cases h2 : b = 0
      · rw [if_neg h1, if_pos h2] at q; cases q
      · rw [if_neg h1, if_neg h2] at q
        have ha := ha.resolve_left h1
        have hb := hb.resolve_left h2
        have hlen : wordN.length = 23 := rfl
        have := h.1.2 (a - 600) (b - 600) (by omega) (by omega) (by
          show ad (600 + (a - 600)) = ad (600 + (b - 600))
          rw [show 600 + (a - 600) = a by omega, show 600 + (b - 600) = b by omega]
          exact Option.some.inj q)
        omega
  · rintro rfl; rfl
theorem o_acmp (B : Bd p R s m args c D ad cA y cn d G cf sf) {K K2 : List Value → List Value → Mm → Prop} {t : Nat} {off : Int} {cc : Jvm.ClassFile.ACond} (hd : decode (yB y) pc = .ok (.if_acmp cc off, 3)) (ht : (pc : Int) + off = (t : Int)) (ih : ∀ L S M, K L S M → AtW p l e R s m args below meth c Q D ad cA y G cf sf (pc + 3) L S M) (ij : ∀ L S M, K2 L S M → AtW p l e R s m args below meth c Q D ad cA y G cf sf t L S M)
    (h : popA S fun y r => popA r fun x r => rE x ∧ rE y ∧ (cmpA cc x y → K2 L r M) ∧ (¬ cmpA cc x y → K L r M)) : AtW p l e R s m args below meth c Q D ad cA y G cf sf pc L S M := by
  obtain ⟨b, r1, rfl, h1⟩ := popA_e h
  obtain ⟨a, r, rfl, ha, hb, h2, h3⟩ := popA_e h1
  have hi := po_inj B.2.2.2.2.2.2.2.1 ha hb
  intro hg H locs ls hl hP hS
  cases cc with
  | eq => exact lv_acmp_eq B.1 B.2.1 hd ht (fun q => ij _ _ _ (h2 (hi.mp q)) hg H locs ls hl hP hS) (fun q => ih _ _ _ (h3 (fun z => q (hi.mpr z))) hg H locs ls hl hP hS)
  | ne => exact lv_acmp_ne B.1 B.2.1 hd ht (fun q => ij _ _ _ (h2 (fun z => q (hi.mpr z))) hg H locs ls hl hP hS) (fun q => ih _ _ _ (h3 (fun z => z (hi.mp q))) hg H locs ls hl hP hS)
theorem swT_e {k : Nat → Prop} {x : Int32} {dflt : Nat} : ∀ {ts : List Nat} {lo : Int} {P : Prop}, swT k x lo dflt P ts → P → (∃ (j t : Nat), ts[j]? = some t ∧ x = I (lo + j) ∧ k t) ∨ ((∀ j : Nat, j < ts.length → x ≠ I (lo + j)) ∧ k dflt) := by
  intro ts
  induction ts with
  | nil => intro lo P h hp; exact Or.inr ⟨fun j hj => absurd hj (Nat.not_lt_zero j), h hp⟩
  | cons t r ih =>
    intro lo P h hp
    by_cases hx : x = I lo
    · exact Or.inl ⟨0, t, rfl, by rw [hx]; simp, h.1 hx⟩
    · rcases ih h.2 ⟨hx, hp⟩ with ⟨j, t', h1, h2, h3⟩ | ⟨h1, h2⟩
      · exact Or.inl ⟨j + 1, t', h1, by rw [h2]; congr 1; push_cast; omega, h3⟩
      · refine Or.inr ⟨fun j hj => ?_, h2⟩
        cases j with
        | zero => simpa using hx
        | succ j =>
          have := h1 j (by simpa using hj)
          intro q
          apply this
          rw [q]
          congr 1
          push_cast
          omega
theorem I_toInt {z : Int} (h1 : -2147483648 ≤ z) (h2 : z < 2147483648) : (I z).toInt = z := by
  show (Int32.ofInt z).toInt = z
  rw [Int32.toInt_ofInt]
  have hs : Int32.size = 4294967296 := rfl
  exact Int.bmod_eq_of_le (by omega) (by omega)
theorem I_of_toInt (x : Int32) : I x.toInt = x := Int32.ofInt_toInt x
theorem o_table (B : Bd p R s m args c D ad cA y cn d G cf sf) {K2 : Nat → List Value → List Value → Mm → Prop} {dflt lo hi : Int} {offs : Array Int} {len td : Nat} {ts : List Nat} (hd : decode (yB y) pc = .ok (.tableswitch dflt lo hi offs, len)) (htd : (pc : Int) + dflt = (td : Int)) (h0 : 0 ≤ lo) (h9 : hi < 1000) (hlen : (ts.length : Int) = hi - lo + 1) (hts : ∀ (j t : Nat), ts[j]? = some t → ∃ off, offs[j]? = some off ∧ (pc : Int) + off = (t : Int)) (ij : ∀ t, (t = td ∨ t ∈ ts) → ∀ L S M, K2 t L S M → AtW p l e R s m args below meth c Q D ad cA y G cf sf t L S M)
    (h : popI S fun x r => swT (fun t => K2 t L r M) x lo td True ts) : AtW p l e R s m args below meth c Q D ad cA y G cf sf pc L S M := by
  obtain ⟨x, r, rfl, h1⟩ := popI_e h
  intro hg H locs ls hl hP hS
  rcases swT_e h1 trivial with ⟨j, t, g1, g2, g3⟩ | ⟨g1, g2⟩
  · obtain ⟨off, k1, k2⟩ := hts j t g1
    have hj : j < ts.length := (List.getElem?_eq_some_iff.mp g1).1
    have hx : x.toInt = lo + j := by rw [g2]; exact I_toInt (by omega) (by omega)
    exact lv_tableIn B.1 B.2.1 hd (by omega) (by omega) (by rw [hx, show (lo + (j : Int) - lo).toNat = j by omega]; exact k1) k2 (ij t (Or.inr (List.mem_of_getElem? g1)) _ _ _ g3 hg H locs ls hl hP hS)
  · refine lv_tableOut B.1 B.2.1 hd ?_ htd (ij td (Or.inl rfl) _ _ _ g2 hg H locs ls hl hP hS)
    by_cases q1 : x.toInt < lo
    · exact Or.inl q1
    · by_cases q2 : hi < x.toInt
      · exact Or.inr q2
      · exact absurd (by rw [show lo + ((x.toInt - lo).toNat : Int) = x.toInt by omega]; exact (I_of_toInt x).symm) (g1 (x.toInt - lo).toNat (by omega))
theorem o_look2 (B : Bd p R s m args c D ad cA y cn d G cf sf) {K2 : Nat → List Value → List Value → Mm → Prop} {dflt o0 o1 : Int} {len td t0 t1 : Nat} (hd : decode (yB y) pc = .ok (.lookupswitch dflt #[(0, o0), (1, o1)], len)) (htd : (pc : Int) + dflt = (td : Int)) (ht0 : (pc : Int) + o0 = (t0 : Int)) (ht1 : (pc : Int) + o1 = (t1 : Int)) (ij : ∀ t, (t = td ∨ t ∈ [t0, t1]) → ∀ L S M, K2 t L S M → AtW p l e R s m args below meth c Q D ad cA y G cf sf t L S M)
    (h : popI S fun x r => swT (fun t => K2 t L r M) x 0 td True [t0, t1]) : AtW p l e R s m args below meth c Q D ad cA y G cf sf pc L S M := by
  obtain ⟨x, r, rfl, h1, h2, h3⟩ := popI_e h
  intro hg H locs ls hl hP hS
  by_cases q0 : x = I 0
  · refine lv_lookup B.1 B.2.1 hd (by simp) (off := o0) ?_ ht0 (ij t0 (by simp) _ _ _ (h1 q0) hg H locs ls hl hP hS)
    rw [q0]; rfl
  · by_cases q1 : x = I 1
    · refine lv_lookup B.1 B.2.1 hd (by simp) (off := o1) ?_ ht1 (ij t1 (by simp) _ _ _ (h2 q1) hg H locs ls hl hP hS)
      rw [q1]; rfl
    · refine lv_lookup B.1 B.2.1 hd (by simp) (off := dflt) ?_ htd (ij td (by simp) _ _ _ (h3 ⟨q1, q0, trivial⟩) hg H locs ls hl hP hS)
      have e0 : ¬ x.toInt = 0 := fun q => q0 (by rw [← I_of_toInt x, q])
      have e1 : ¬ x.toInt = 1 := fun q => q1 (by rw [← I_of_toInt x, q])
      simp [Op.lookupswitch.offset, Ne.symm e0, Ne.symm e1, eq_comm]
/-! fields -/
set_option maxRecDepth 100000 in
theorem inX_all : ∀ ci, ci < 12 → (List.range (cq ci).2.2).all (fun k => inP ((LQ.getD ci []).getD k 0) (u_lay (cq ci).1 (cq ci).2.1 k)) = true := by decide +kernel
theorem inX_cq {ci : Nat} (h : ci < 12) : ∀ w ∈ u_ws (cq ci).1 (cq ci).2.1 (cq ci).2.2, w ∈ gtb := by
  intro w hw
  unfold u_ws at hw
  obtain ⟨k, hk, rfl⟩ := List.mem_map.mp hw
  exact inP_gtb (List.all_eq_true.mp (inX_all ci h) k hk)
theorem cl_cq {ci : Nat} (h : ci < 12) : vwCl[ci]? = some (cq ci) := by
  unfold cq
  rw [List.getD_eq_getElem?_getD, List.getElem?_eq_getElem (show ci < vwCl.length from h)]
  rfl
theorem ent_obj {ci a : Nat} (hci : ci < 12) (h : lay a = ci + 1) : ent ad cA M a = .inr (ci, flds ad M a ci) := by
  unfold ent
  rw [if_pos (by omega), h]
  rfl
theorem flds_at {a ci k : Nat} (hk : k < (cq ci).2.2) : (flds ad M a ci)[k]? = some (fv ad M a k ((FT.getD ci []).getD k [])) := by
  unfold flds
  rw [List.getElem?_map, List.getElem?_range hk]
  rfl
theorem flds_len {a ci : Nat} : (flds ad M a ci).length = (cq ci).2.2 := by
  unfold flds
  simp
theorem o_get (B : Bd p R s m args c D ad cA y cn d G cf sf) {K : List Value → List Value → Mm → Prop} {idx ci k a : Nat} {t : List Nat} {r : List Value} (hd : decode (yB y) pc = .ok (.getfield idx, 3)) (hlk : Cond.fieldLink (Rn cn) idx (cq ci).1 ((cq ci).2.1 k).2.1 ((cq ci).2.1 k).2.2.1 ∈ gtb) (hk : k < (cq ci).2.2) (hci : ci < 12) (hT : (FT.getD ci []).getD k [] = t) (hown : ((cq ci).2.1 k).1 = (cq ci).1)
    (hlay : lay a = ci + 1) {v : Value} (hv : pv ad v = fv ad M a k t) (ih : ∀ L S M, K L S M → AtW p l e R s m args below meth c Q D ad cA y G cf sf (pc + 3) L S M) (h : K L (v :: r) M) : AtW p l e R s m args below meth c Q D ad cA y G cf sf pc L (.ref a :: r) M := by
  intro hg H locs ls hl hP hS
  have ha : lay a ≠ 0 := by omega
  obtain ⟨q, hq, hw⟩ := wsM_at (ad := ad) (cA := cA) ha
  have h2 := ih _ _ _ h hg H locs ls hl hP hS
  rw [List.map_cons, hv] at h2
  rw [List.map_cons, pv_ref (dom_pos a (lay_dom ha))]
  refine va_get (C := (cq ci).1) (T := (cq ci).2.1) (N := (cq ci).2.2) (Ts := gtb) B.1 B.2.1 B.2.2.2.2.1 (inX_cq hci) B.2.2.2.1 B.2.2.2.2.2.1 hP q (by rw [hw, ent_obj hci hlay]) (cl_cq hci) k hk (B.2.2.2.2.1 _ hlk) ?_ ?_ hd h2
  · intro x hx
    rw [hown] at hx
    exact hx
  · rw [flds_at hk, hT]
theorem ent_put {a ci k : Nat} {M' : Mm} (hci : ci < 12) (hlay : lay a = ci + 1) (hk : k < (cq ci).2.2) {v : Value} (hv : v = fv ad M' a k ((FT.getD ci []).getD k [])) (ho : ∀ j, j ≠ k → fv ad M' a j ((FT.getD ci []).getD j []) = fv ad M a j ((FT.getD ci []).getD j [])) : (.inr (ci, (flds ad M a ci).set k v) : va_E) = ent ad cA M' a := by
  rw [ent_obj hci hlay]
  congr 2
  apply List.ext_getElem?
  intro j
  rw [List.getElem?_set]
  by_cases hj : k = j
  · subst hj
    rw [if_pos rfl, if_pos (by rw [flds_len]; exact hk), flds_at hk, hv]
  · rw [if_neg hj]
    by_cases hl : j < (cq ci).2.2
    · rw [flds_at hl, flds_at hl, ho j (fun q => hj q.symm)]
    · rw [List.getElem?_eq_none (by rw [flds_len]; omega), List.getElem?_eq_none (by rw [flds_len]; omega)]
theorem tyq_ok {ci : Nat} (hci : ci < 12) : ∀ k, k < (cq ci).2.2 → parseFieldDescriptor ((cq ci).2.1 k).2.2.1 = some (tyq ci k) := by
  rcases (show ci = 0 ∨ ci = 1 ∨ ci = 2 ∨ ci = 3 ∨ ci = 4 ∨ ci = 5 ∨ ci = 6 ∨ ci = 7 ∨ ci = 8 ∨ ci = 9 ∨ ci = 10 ∨ ci = 11 by omega) with rfl | rfl | rfl | rfl | rfl | rfl | rfl | rfl | rfl | rfl | rfl | rfl
  · exact tyX1_ok
  · exact tyX2_ok
  · exact tyX3_ok
  · exact tyX4_ok
  · exact tyX5_ok
  · exact tyX6_ok
  · exact tyX7_ok
  · exact tyX8_ok
  · exact tyX9_ok
  · exact tyX10_ok
  · exact tyX12_ok
  · exact tyX13_ok
theorem nmq_ok {ci : Nat} (hci : ci < 12) : ∀ a, a < (cq ci).2.2 → ∀ b, b < (cq ci).2.2 → a ≠ b → ((cq ci).2.1 a).2.1 ≠ ((cq ci).2.1 b).2.1 := by
  rcases (show ci = 0 ∨ ci = 1 ∨ ci = 2 ∨ ci = 3 ∨ ci = 4 ∨ ci = 5 ∨ ci = 6 ∨ ci = 7 ∨ ci = 8 ∨ ci = 9 ∨ ci = 10 ∨ ci = 11 by omega) with rfl | rfl | rfl | rfl | rfl | rfl | rfl | rfl | rfl | rfl | rfl | rfl
  · exact nmX1
  · exact nmX2
  · exact nmX3
  · exact nmX4
  · exact nmX5
  · exact nmX6
  · exact nmX7
  · exact nmX8
  · exact nmX9
  · exact nmX10
  · exact nmX12
  · exact nmX13
theorem o_put (B : Bd p R s m args c D ad cA y cn d G cf sf) {K : List Value → List Value → Mm → Prop} {idx ci k a : Nat} {r : List Value} {M' : Mm} (hd : decode (yB y) pc = .ok (.putfield idx, 3)) (hlk : Cond.fieldLink (Rn cn) idx (cq ci).1 ((cq ci).2.1 k).2.1 ((cq ci).2.1 k).2.2.1 ∈ gtb) (hk : k < (cq ci).2.2) (hci : ci < 12) (hown : ((cq ci).2.1 k).1 = (cq ci).1) (hfin : ((cq ci).2.1 k).2.2.2 = false)
    (hlay : lay a = ci + 1) {v : Value} (hv : pv ad v = fv ad M' a k ((FT.getD ci []).getD k [])) (ho : ∀ j, j ≠ k → fv ad M' a j ((FT.getD ci []).getD j []) = fv ad M a j ((FT.getD ci []).getD j [])) (hb : ∀ b, b ≠ a → ent ad cA M' b = ent ad cA M b) (hgh : gh M' = gh M) (hn : narrow (tyq ci k) (pv ad v) = pv ad v) (hfit : fits (tyq ci k) (pv ad v) = true)
    (ih : ∀ L S M, K L S M → AtW p l e R s m args below meth c Q D ad cA y G cf sf (pc + 3) L S M) (h : K L r M') : AtW p l e R s m args below meth c Q D ad cA y G cf sf pc L (v :: .ref a :: r) M := by
  intro hg H locs ls hl hP hS
  have ha : lay a ≠ 0 := by omega
  obtain ⟨q, hq, hw⟩ := wsM_at (ad := ad) (cA := cA) ha
  have h2 := ih _ _ _ h (by rw [hgh]; exact hg)
  rw [hgh] at h2
  rw [List.map_cons, List.map_cons, pv_ref (dom_pos a (lay_dom ha))]
  refine va_put (C := (cq ci).1) (T := (cq ci).2.1) (N := (cq ci).2.2) (Ts := gtb) (ty := tyq ci k) B.1 B.2.1 B.2.2.2.2.1 (inX_cq hci) (tyq ci) (tyq_ok hci) (nmq_ok hci) B.2.2.2.1 B.2.2.2.2.2.1 hP B.dd hS q (by rw [hw, ent_obj hci hlay]) (cl_cq hci) k hk (B.2.2.2.2.1 _ hlk) ?_ hfin (tyq_ok hci k hk) hn hfit (by rw [flds_len]; exact hk) hd ?_
  · intro x hx
    rw [hown] at hx
    exact hx
  · intro H1 locs1 hP1 _ hS1
    rw [wsM_set hq (ent_put hci hlay hk hv ho) hb] at hP1
    exact h2 H1 locs1 ls hl hP1 hS1
end SN3
end
section
section SN4
variable {p : Program} {l : Launch} {e : Env} {R : Room} {s : State} {m : MethodId} {args : Array Value} {below : List Frame} {meth : Method} {c : Code} {Q : State → Prop}
variable {D : va_G} {ad : Nat → Nat} {cA : Nat → ClassId} {y cn d : Nat} {G : Nat → Prop} {cf sf : Nat → Nat} {pc : Nat} {L S : List Value} {M : Mm}
theorem o_gets (B : Bd p R s m args c D ad cA y cn d G cf sf) {K : List Value → List Value → Mm → Prop} {idx b : Nat} {C n ds : String} (hd : decode (yB y) pc = .ok (.getstatic idx, 3)) (hlk : Cond.fieldLink (Rn cn) idx C n ds ∈ gtb) (hz : va_Z C n ds (.ref (ad b)) (AA ad s.heap.size) s s.heap) (hb : b ≠ 0) (ih : ∀ L S M, K L S M → AtW p l e R s m args below meth c Q D ad cA y G cf sf (pc + 3) L S M) (h : K L (.ref b :: S) M) : AtW p l e R s m args below meth c Q D ad cA y G cf sf pc L S M := by
  intro hg H locs ls hl hP hS
  have h2 := ih _ _ _ h hg H locs ls hl hP hS
  rw [List.map_cons, pv_ref hb] at h2
  exact va_gets B.1 B.2.1 hz hS B.2.2.2.1 (B.2.2.2.2.1 _ hlk) (fun _ q => q) hd h2
theorem o_pack (B : Bd p R s m args c D ad cA y cn d G cf sf) {K : List Value → List Value → Mm → Prop} {idx a : Nat} {r : List Value} (hd : decode (yB y) pc = .ok (.getfield idx, 3)) (hlk : Cond.fieldLink (Rn cn) idx RX11 "packed" "J" ∈ gtb) (ha : 600 ≤ a ∧ a < 623) (ih : ∀ L S M, K L S M → AtW p l e R s m args below meth c Q D ad cA y G cf sf (pc + 3) L S M) (h : K L (.long (pkTab (a - 600)) :: r) M) : AtW p l e R s m args below meth c Q D ad cA y G cf sf pc L (.ref a :: r) M := by
  intro hg H locs ls hl hP hS
  have h2 := ih _ _ _ h hg H locs ls hl hP hS
  rw [List.map_cons, pv_ref (by omega)]
  have hE := B.2.2.2.2.2.2.2.1.2.1
  have h3 := va_getX (i := a - 600) (rest := r.map (pv ad)) B.1 B.2.1 hE (by omega) hS B.2.2.2.1 (B.2.2.2.2.1 _ hlk) (fun _ q => q) hd h2
  rw [show 600 + (a - 600) = a by omega] at h3
  exact h3
/-! arrays -/
theorem ent_100 {a : Nat} (h : lay a = 100) : ent ad cA M a = .inl (cA 0, alen a, .inl (M.1 a)) := by unfold ent; rw [h]; rfl
theorem ent_101 {a : Nat} (h : lay a = 101) : ent ad cA M a = .inl (cA 1, alen a, .inr (.inl (M.2.1 a))) := by unfold ent; rw [h]; rfl
theorem ent_102 {a : Nat} (h : lay a = 102) : ent ad cA M a = .inl (cA 2, alen a, .inl (M.1 a)) := by unfold ent; rw [h]; rfl
theorem ent_103 {a : Nat} (h : lay a = 103) : ent ad cA M a = .inl (cA 3, alen a, .inl (M.1 a)) := by unfold ent; rw [h]; rfl
theorem ent_104 {a : Nat} (h : lay a = 104) : ent ad cA M a = .inl (cA 4, alen a, .inr (.inr (.inr (.inr fun j => po ad (M.2.2 a j))))) := by unfold ent; rw [h]; rfl
theorem ent_const {a : Nat} (h : 105 ≤ lay a) : ent ad cA M a = .inl (cA (lay a - 100), alen a, .inr (.inr (.inr (.inr fun j => some (ad ((cbs a).1 + (cbs a).2 * j)))))) := by
  unfold ent
  rw [if_neg (by omega), if_neg (by omega), if_neg (by omega), if_neg (by omega)]
theorem o_iald (B : Bd p R s m args c D ad cA y cn d G cf sf) {K : List Value → List Value → Mm → Prop} (hd : decode (yB y) pc = .ok (.iaload, 1)) (ih : ∀ L S M, K L S M → AtW p l e R s m args below meth c Q D ad cA y G cf sf (pc + 1) L S M)
    (h : popI S fun i r => popA r fun a r => lay a = 100 ∧ inR i (alen a) ∧ K L (.int (M.1 a i.toNatClampNeg) :: r) M) : AtW p l e R s m args below meth c Q D ad cA y G cf sf pc L S M := by
  obtain ⟨i, r1, rfl, h1⟩ := popI_e h
  obtain ⟨a, r, rfl, ha, hi, h2⟩ := popA_e h1
  intro hg H locs ls hl hP hS
  have h0 : lay a ≠ 0 := by omega
  obtain ⟨q, hq, hw⟩ := wsM_at (ad := ad) (cA := cA) h0
  have h3 := ih _ _ _ h2 hg H locs ls hl hP hS
  rw [List.map_cons, List.map_cons, pv_ref (dom_pos a (lay_dom h0))]
  exact va_iald B.1 B.2.1 B.2.2.2.2.2.1 hP q 0 (by rw [hw, ent_100 ha]) rfl hi hd h3
theorem o_lald (B : Bd p R s m args c D ad cA y cn d G cf sf) {K : List Value → List Value → Mm → Prop} (hd : decode (yB y) pc = .ok (.laload, 1)) (ih : ∀ L S M, K L S M → AtW p l e R s m args below meth c Q D ad cA y G cf sf (pc + 1) L S M)
    (h : popI S fun i r => popA r fun a r => lay a = 101 ∧ inR i (alen a) ∧ K L (.long (M.2.1 a i.toNatClampNeg) :: r) M) : AtW p l e R s m args below meth c Q D ad cA y G cf sf pc L S M := by
  obtain ⟨i, r1, rfl, h1⟩ := popI_e h
  obtain ⟨a, r, rfl, ha, hi, h2⟩ := popA_e h1
  intro hg H locs ls hl hP hS
  have h0 : lay a ≠ 0 := by omega
  obtain ⟨q, hq, hw⟩ := wsM_at (ad := ad) (cA := cA) h0
  have h3 := ih _ _ _ h2 hg H locs ls hl hP hS
  rw [List.map_cons, List.map_cons, pv_ref (dom_pos a (lay_dom h0))]
  exact va_lald B.1 B.2.1 B.2.2.2.2.2.1 hP q 1 (by rw [hw, ent_101 ha]) rfl hi hd h3
theorem o_bald (B : Bd p R s m args c D ad cA y cn d G cf sf) {K : List Value → List Value → Mm → Prop} (hd : decode (yB y) pc = .ok (.baload, 1)) (ih : ∀ L S M, K L S M → AtW p l e R s m args below meth c Q D ad cA y G cf sf (pc + 1) L S M)
    (h : popI S fun i r => popA r fun a r => (lay a = 102 ∨ lay a = 103) ∧ inR i (alen a) ∧ K L (.int (M.1 a i.toNatClampNeg) :: r) M) : AtW p l e R s m args below meth c Q D ad cA y G cf sf pc L S M := by
  obtain ⟨i, r1, rfl, h1⟩ := popI_e h
  obtain ⟨a, r, rfl, ha, hi, h2⟩ := popA_e h1
  intro hg H locs ls hl hP hS
  have h0 : lay a ≠ 0 := by omega
  obtain ⟨q, hq, hw⟩ := wsM_at (ad := ad) (cA := cA) h0
  have h3 := ih _ _ _ h2 hg H locs ls hl hP hS
  rw [List.map_cons, List.map_cons, pv_ref (dom_pos a (lay_dom h0))]
  rcases ha with ha | ha
  · exact va_bald B.1 B.2.1 B.2.2.2.2.2.1 hP q 2 (by rw [hw, ent_102 ha]) rfl hi hd h3
  · exact va_zald B.1 B.2.1 B.2.2.2.2.2.1 hP q 3 (by rw [hw, ent_103 ha]) rfl hi hd h3
theorem o_aald (B : Bd p R s m args c D ad cA y cn d G cf sf) {K : List Value → List Value → Mm → Prop} (hd : decode (yB y) pc = .ok (.aaload, 1)) (ih : ∀ L S M, K L S M → AtW p l e R s m args below meth c Q D ad cA y G cf sf (pc + 1) L S M)
    (h : popI S fun i r => popA r fun a r => lay a = 104 ∧ inR i (alen a) ∧ K L (.ref (M.2.2 a i.toNatClampNeg) :: r) M) : AtW p l e R s m args below meth c Q D ad cA y G cf sf pc L S M := by
  obtain ⟨i, r1, rfl, h1⟩ := popI_e h
  obtain ⟨a, r, rfl, ha, hi, h2⟩ := popA_e h1
  intro hg H locs ls hl hP hS
  have h0 : lay a ≠ 0 := by omega
  obtain ⟨q, hq, hw⟩ := wsM_at (ad := ad) (cA := cA) h0
  have h3 := ih _ _ _ h2 hg H locs ls hl hP hS
  rw [List.map_cons, List.map_cons, pv_ref (dom_pos a (lay_dom h0))]
  exact va_aldq (f := fun j => po ad (M.2.2 a j)) B.1 B.2.1 B.2.2.2.2.2.1 hP q 4 (by rw [hw, ent_104 ha]) rfl hi hd h3
theorem o_aaldC (B : Bd p R s m args c D ad cA y cn d G cf sf) {K : List Value → List Value → Mm → Prop} {b base stride : Nat} (hd : decode (yB y) pc = .ok (.aaload, 1)) (hb : 105 ≤ lay b ∧ lay b < 108) (hcb : cbs b = (base, stride)) (hbase : 0 < base) (ih : ∀ L S M, K L S M → AtW p l e R s m args below meth c Q D ad cA y G cf sf (pc + 1) L S M)
    (h : popI S fun i r => popA r fun a r => a = b ∧ inR i (alen b) ∧ K L (.ref (base + stride * i.toNatClampNeg) :: r) M) : AtW p l e R s m args below meth c Q D ad cA y G cf sf pc L S M := by
  obtain ⟨i, r1, rfl, h1⟩ := popI_e h
  obtain ⟨a, r, rfl, rfl, hi, h2⟩ := popA_e h1
  intro hg H locs ls hl hP hS
  have h0 : lay a ≠ 0 := by omega
  obtain ⟨q, hq, hw⟩ := wsM_at (ad := ad) (cA := cA) h0
  have h3 := ih _ _ _ h2 hg H locs ls hl hP hS
  rw [List.map_cons, pv_ref (by omega)] at h3
  rw [List.map_cons, List.map_cons, pv_ref (dom_pos a (lay_dom h0))]
  have hw := hw M
  rw [ent_const hb.1, hcb] at hw
  rcases (show lay a = 105 ∨ lay a = 106 ∨ lay a = 107 by omega) with e | e | e
  · rw [e] at hw
    exact va_aldq B.1 B.2.1 B.2.2.2.2.2.1 hP q 5 hw rfl hi hd h3
  · rw [e] at hw
    exact va_aldq B.1 B.2.1 B.2.2.2.2.2.1 hP q 6 hw rfl hi hd h3
  · rw [e] at hw
    have hlt : i.toNatClampNeg < alen a := Nat.not_le.mp fun q => hi (Or.inr q)
    exact W.aald (ty := .array .int) B.1 B.2.1 (hP q _ hw) ((B.2.2.2.2.2.1.2 7 (cA 7, .array .int) rfl).1 (alen a) (fun j => va_rf (some (ad (base + stride * j))))) rfl (fun q => by cases q) (by show ¬ (i < 0 ∨ (arrV _ _ _).slots.size ≤ _); rw [arrV_size]; exact hi) (by show (arrV _ _ _).slots[_]? = _; rw [arrV_read _ _ hlt]; rfl) rfl rfl hd h3
theorem o_aaldA (B : Bd p R s m args c D ad cA y cn d G cf sf) {K : List Value → List Value → Mm → Prop} (hd : decode (yB y) pc = .ok (.aaload, 1)) (ih : ∀ L S M, K L S M → AtW p l e R s m args below meth c Q D ad cA y G cf sf (pc + 1) L S M)
    (h : popI S fun i r => popA r fun a r => a = 651 ∧ inR i 23 ∧ K L (.ref (600 + i.toNatClampNeg) :: r) M) : AtW p l e R s m args below meth c Q D ad cA y G cf sf pc L S M := by
  obtain ⟨i, r1, rfl, h1⟩ := popI_e h
  obtain ⟨a, r, rfl, rfl, hi, h2⟩ := popA_e h1
  intro hg H locs ls hl hP hS
  have h3 := ih _ _ _ h2 hg H locs ls hl hP hS
  rw [List.map_cons, pv_ref (by omega)] at h3
  rw [List.map_cons, List.map_cons, pv_ref (by decide)]
  exact vb_tq B.1 B.2.1 B.2.2.2.2.2.2.2.1.2.2.2.1 hS hi rfl hd h3
theorem o_ialdS (B : Bd p R s m args c D ad cA y cn d G cf sf) {K : List Value → List Value → Mm → Prop} (hd : decode (yB y) pc = .ok (.iaload, 1)) (ih : ∀ L S M, K L S M → AtW p l e R s m args below meth c Q D ad cA y G cf sf (pc + 1) L S M)
    (h : popI S fun i r => popA r fun a r => a = 650 ∧ inR i 23 ∧ K L (.int (I (swTab i.toNatClampNeg)) :: r) M) : AtW p l e R s m args below meth c Q D ad cA y G cf sf pc L S M := by
  obtain ⟨i, r1, rfl, h1⟩ := popI_e h
  obtain ⟨a, r, rfl, rfl, hi, h2⟩ := popA_e h1
  intro hg H locs ls hl hP hS
  have h3 := ih _ _ _ h2 hg H locs ls hl hP hS
  rw [List.map_cons, List.map_cons, pv_ref (by decide)]
  exact va_ti B.1 B.2.1 B.2.2.2.2.2.2.2.1.2.2.2.2.2 hS hi rfl hd h3
theorem o_alen (B : Bd p R s m args c D ad cA y cn d G cf sf) {K : List Value → List Value → Mm → Prop} {a : Nat} {r : List Value} (hd : decode (yB y) pc = .ok (.arraylength, 1)) (ih : ∀ L S M, K L S M → AtW p l e R s m args below meth c Q D ad cA y G cf sf (pc + 1) L S M)
    (ha : 100 ≤ lay a ∧ lay a < 108) (h : K L (.int (I (alen a)) :: r) M) : AtW p l e R s m args below meth c Q D ad cA y G cf sf pc L (.ref a :: r) M := by
  intro hg H locs ls hl hP hS
  have h0 : lay a ≠ 0 := by omega
  obtain ⟨q, hq, hw⟩ := wsM_at (ad := ad) (cA := cA) h0
  have h3 := ih _ _ _ h hg H locs ls hl hP hS
  rw [List.map_cons, pv_ref (dom_pos a (lay_dom h0))]
  have hw := hw M
  rcases (show lay a = 100 ∨ lay a = 101 ∨ lay a = 102 ∨ lay a = 103 ∨ lay a = 104 ∨ lay a = 105 ∨ lay a = 106 ∨ lay a = 107 by omega) with e | e | e | e | e | e | e | e
  · rw [ent_100 e] at hw; exact va_alen B.1 B.2.1 B.2.2.2.2.2.1 hP q 0 hw rfl rfl hd h3
  · rw [ent_101 e] at hw; exact va_alen B.1 B.2.1 B.2.2.2.2.2.1 hP q 1 hw rfl rfl hd h3
  · rw [ent_102 e] at hw; exact va_alen B.1 B.2.1 B.2.2.2.2.2.1 hP q 2 hw rfl rfl hd h3
  · rw [ent_103 e] at hw; exact va_alen B.1 B.2.1 B.2.2.2.2.2.1 hP q 3 hw rfl rfl hd h3
  · rw [ent_104 e] at hw; exact va_alen B.1 B.2.1 B.2.2.2.2.2.1 hP q 4 hw rfl rfl hd h3
  · rw [ent_const (by omega), e] at hw; exact va_alen B.1 B.2.1 B.2.2.2.2.2.1 hP q 5 hw rfl rfl hd h3
  · rw [ent_const (by omega), e] at hw; exact va_alen B.1 B.2.1 B.2.2.2.2.2.1 hP q 6 hw rfl rfl hd h3
  · rw [ent_const (by omega), e] at hw; exact va_alen B.1 B.2.1 B.2.2.2.2.2.1 hP q 7 hw rfl rfl hd h3
theorem o_alenA (B : Bd p R s m args c D ad cA y cn d G cf sf) {K : List Value → List Value → Mm → Prop} {r : List Value} (hd : decode (yB y) pc = .ok (.arraylength, 1)) (ih : ∀ L S M, K L S M → AtW p l e R s m args below meth c Q D ad cA y G cf sf (pc + 1) L S M)
    (h : K L (.int (I 23) :: r) M) : AtW p l e R s m args below meth c Q D ad cA y G cf sf pc L (.ref 651 :: r) M := by
  intro hg H locs ls hl hP hS
  have h3 := ih _ _ _ h hg H locs ls hl hP hS
  rw [List.map_cons, pv_ref (by decide)]
  exact va_tlen B.1 B.2.1 B.2.2.2.2.2.2.2.1.2.2.2.1 hS rfl hd h3
theorem ent_sI {a k b : Nat} {v : Int32} (h : b ≠ a) : ent ad cA (sI M a k v) b = ent ad cA M b := ent_of (up2_ne h) rfl rfl
theorem ent_sL {a k b : Nat} {v : Int64} (h : b ≠ a) : ent ad cA (sL M a k v) b = ent ad cA M b := ent_of rfl (up2_ne h) rfl
theorem ent_sR {a k b v : Nat} (h : b ≠ a) : ent ad cA (sR M a k v) b = ent ad cA M b := ent_of rfl rfl (up2_ne h)
theorem sI_at {a k : Nat} {v : Int32} : (sI M a k v).1 a = upd (M.1 a) k v := up2_eq
theorem sL_at {a k : Nat} {v : Int64} : (sL M a k v).2.1 a = vp_updL (M.2.1 a) k v := up2_eq
theorem sR_at {a k v : Nat} : (sR M a k v).2.2 a = upf (M.2.2 a) k v := up2_eq
theorem o_iast (B : Bd p R s m args c D ad cA y cn d G cf sf) {K : List Value → List Value → Mm → Prop} (hd : decode (yB y) pc = .ok (.iastore, 1)) (ih : ∀ L S M, K L S M → AtW p l e R s m args below meth c Q D ad cA y G cf sf (pc + 1) L S M)
    (h : popI S fun v r => popI r fun i r => popA r fun a r => lay a = 100 ∧ inR i (alen a) ∧ K L r (sI M a i.toNatClampNeg v)) : AtW p l e R s m args below meth c Q D ad cA y G cf sf pc L S M := by
  obtain ⟨v, r1, rfl, h1⟩ := popI_e h
  obtain ⟨i, r2, rfl, h2⟩ := popI_e h1
  obtain ⟨a, r, rfl, ha, hi, h3⟩ := popA_e h2
  intro hg H locs ls hl hP hS
  have h0 : lay a ≠ 0 := by omega
  obtain ⟨q, hq, hw⟩ := wsM_at (ad := ad) (cA := cA) h0
  have h4 := ih _ _ _ h3 hg
  rw [List.map_cons, List.map_cons, List.map_cons, pv_ref (dom_pos a (lay_dom h0))]
  refine va_iast B.1 B.2.1 B.2.2.2.2.2.1 hP B.dd hS q 0 (by rw [hw, ent_100 ha]) rfl hi hd fun H1 locs1 hP1 _ hS1 => ?_
  rw [wsM_set hq (M' := sI M a i.toNatClampNeg v) (by rw [ent_100 ha, sI_at]) (fun b hb => ent_sI hb)] at hP1
  exact h4 H1 locs1 ls hl hP1 hS1
theorem o_last (B : Bd p R s m args c D ad cA y cn d G cf sf) {K : List Value → List Value → Mm → Prop} (hd : decode (yB y) pc = .ok (.lastore, 1)) (ih : ∀ L S M, K L S M → AtW p l e R s m args below meth c Q D ad cA y G cf sf (pc + 1) L S M)
    (h : popL S fun v r => popI r fun i r => popA r fun a r => lay a = 101 ∧ inR i (alen a) ∧ K L r (sL M a i.toNatClampNeg v)) : AtW p l e R s m args below meth c Q D ad cA y G cf sf pc L S M := by
  obtain ⟨v, r1, rfl, h1⟩ := popL_e h
  obtain ⟨i, r2, rfl, h2⟩ := popI_e h1
  obtain ⟨a, r, rfl, ha, hi, h3⟩ := popA_e h2
  intro hg H locs ls hl hP hS
  have h0 : lay a ≠ 0 := by omega
  obtain ⟨q, hq, hw⟩ := wsM_at (ad := ad) (cA := cA) h0
  have h4 := ih _ _ _ h3 hg
  rw [List.map_cons, List.map_cons, List.map_cons, pv_ref (dom_pos a (lay_dom h0))]
  refine va_last B.1 B.2.1 B.2.2.2.2.2.1 hP B.dd hS q 1 (by rw [hw, ent_101 ha]) rfl hi hd fun H1 locs1 hP1 _ hS1 => ?_
  rw [wsM_set hq (M' := sL M a i.toNatClampNeg v) (by rw [ent_101 ha, sL_at]) (fun b hb => ent_sL hb)] at hP1
  exact h4 H1 locs1 ls hl hP1 hS1
theorem o_bast (B : Bd p R s m args c D ad cA y cn d G cf sf) {K : List Value → List Value → Mm → Prop} (hd : decode (yB y) pc = .ok (.bastore, 1)) (ih : ∀ L S M, K L S M → AtW p l e R s m args below meth c Q D ad cA y G cf sf (pc + 1) L S M)
    (h : popI S fun v r => popI r fun i r => popA r fun a r => ((lay a = 102 ∧ v.toInt8.toInt32 = v) ∨ (lay a = 103 ∧ (v = I 0 ∨ v = I 1))) ∧ inR i (alen a) ∧ K L r (sI M a i.toNatClampNeg v)) : AtW p l e R s m args below meth c Q D ad cA y G cf sf pc L S M := by
  obtain ⟨v, r1, rfl, h1⟩ := popI_e h
  obtain ⟨i, r2, rfl, h2⟩ := popI_e h1
  obtain ⟨a, r, rfl, ha, hi, h3⟩ := popA_e h2
  intro hg H locs ls hl hP hS
  have h0 : lay a ≠ 0 := by omega
  obtain ⟨q, hq, hw⟩ := wsM_at (ad := ad) (cA := cA) h0
  have h4 := ih _ _ _ h3 hg
  rw [List.map_cons, List.map_cons, List.map_cons, pv_ref (dom_pos a (lay_dom h0))]
  rcases ha with ⟨ha, hv⟩ | ⟨ha, hv⟩
  · have e1 : vp_nar .byte v = v := hv
    refine va_bast B.1 B.2.1 B.2.2.2.2.2.1 hP B.dd hS q 2 (by rw [hw, ent_102 ha]) rfl hi hd fun H1 locs1 hP1 _ hS1 => ?_
    rw [e1, wsM_set hq (M' := sI M a i.toNatClampNeg v) (by rw [ent_102 ha, sI_at]) (fun b hb => ent_sI hb)] at hP1
    exact h4 H1 locs1 ls hl hP1 hS1
  · have e1 : vp_nar .boolean v = v := by rcases hv with rfl | rfl <;> rfl
    refine va_zast B.1 B.2.1 B.2.2.2.2.2.1 hP B.dd hS q 3 (by rw [hw, ent_103 ha]) rfl hi hd fun H1 locs1 hP1 _ hS1 => ?_
    rw [e1, wsM_set hq (M' := sI M a i.toNatClampNeg v) (by rw [ent_103 ha, sI_at]) (fun b hb => ent_sI hb)] at hP1
    exact h4 H1 locs1 ls hl hP1 hS1
theorem asg9 (vm : Vm) (c : ClassId) : vm.assignable c c = true := by
  show vm.assignableAux (255 + 1) c c = true
  rw [Vm.assignableAux]
  simp only [beq_self_eq_true, Bool.true_or]
theorem o_aast (B : Bd p R s m args c D ad cA y cn d G cf sf) {K : List Value → List Value → Mm → Prop} (hd : decode (yB y) pc = .ok (.aastore, 1)) (ih : ∀ L S M, K L S M → AtW p l e R s m args below meth c Q D ad cA y G cf sf (pc + 1) L S M)
    (h : popA S fun v r => popI r fun i r => popA r fun a r => lay a = 104 ∧ inR i (alen a) ∧ (600 ≤ v ∧ v < 623) ∧ K L r (sR M a i.toNatClampNeg v)) : AtW p l e R s m args below meth c Q D ad cA y G cf sf pc L S M := by
  obtain ⟨v, r1, rfl, h1⟩ := popA_e h
  obtain ⟨i, r2, rfl, h2⟩ := popI_e h1
  obtain ⟨a, r, rfl, ha, hi, hv, h3⟩ := popA_e h2
  intro hg H locs ls hl hP hS
  have h0 : lay a ≠ 0 := by omega
  obtain ⟨q, hq, hw⟩ := wsM_at (ad := ad) (cA := cA) h0
  have h4 := ih _ _ _ h3 (by rw [gh_sR h0]; exact hg)
  rw [gh_sR h0] at h4
  rw [List.map_cons, List.map_cons, List.map_cons, pv_ref (dom_pos a (lay_dom h0)), pv_ref (show v ≠ 0 by omega)]
  have hany : va_Any RX11 s H (ad v) := by
    obtain ⟨cell, g1, g2, g3, -⟩ := ((B.2.2.2.2.2.2.2.1.1.1 (v - 600) (show v - 600 < 23 by omega)).2.1).kept hS.2.1
    dsimp only at g1
    rw [show 600 + (v - 600) = v by omega] at g1
    obtain ⟨kC, hkC, -⟩ := Vm.findClass_spec g3
    refine ⟨cell, g1, g2, ⟨kC, hkC⟩, fun comp hc => ?_⟩
    cases g3.symm.trans hc
    exact asg9 _ _
  refine va_astqM B.1 B.2.1 B.2.2.2.2.2.1 hP B.dd hS q 4 (by rw [hw, ent_104 ha]) rfl hany hi hd fun H1 locs1 hP1 _ hS1 => ?_
  rw [wsM_set hq (M' := sR M a i.toNatClampNeg v) (by
    rw [ent_104 ha, sR_at]
    congr 7
    funext j
    unfold va_up upf
    by_cases hj : j = i.toNatClampNeg
    · rw [if_pos hj, if_pos hj, po, if_neg (by omega)]
    · rw [if_neg hj, if_neg hj]) (fun b hb => ent_sR hb)] at hP1
  exact h4 H1 locs1 ls hl hP1 hS1
end SN4
end
section
section SN5
variable {p : Program} {l : Launch} {e : Env} {R : Room} {s : State} {m : MethodId} {args : Array Value} {below : List Frame} {meth : Method} {c : Code} {Q : State → Prop}
variable {D : va_G} {ad : Nat → Nat} {cA : Nat → ClassId} {y cn d : Nat} {G : Nat → Prop} {cf sf : Nat → Nat} {pc : Nat} {L S : List Value} {M : Mm}
theorem AA_sub {sz sz1 q : Nat} (h : sz ≤ sz1) (hq : AA ad sz1 q) : AA ad sz q := hq.elim Or.inl (fun h1 => Or.inr (Nat.le_trans h h1))
/-- a callee's start -/
theorem pre_call (B : Bd p R s m args c D ad cA y cn d G cf sf) {H : Heap} {locs : List Loc} (hP : va_P D vwCl (wsM ad cA M) H) (hS : va_S (AA ad s.heap.size) s.heap H locs) {as : List Value} {U : State} (hU : U.heap = H) (hW : s.WarmedH U.vm) : PreE D ad cA H.size as M (as.map (pv ad)).toArray U := by
  refine ⟨rfl, by rw [hU], by rw [hU]; exact hP, va_K.moved hW.alike B.2.2.2.2.2.1, wsM_D B.2.2.2.2.2.2.1, ?_, Nx.warm hW B.2.2.2.2.2.2.2.2.1⟩
  rw [hU]
  exact ((B.2.2.2.2.2.2.2.1.kept (fun a h1 h2 => hS.2.1 a h1 h2)).narrow (fun q hq => AA_sub hS.1 hq)).moved hW.alike
/-- behind a call -/
theorem ev_go {H : Heap} {locs : List Loc} {k1 k2 : Nat} {ls : Array Slot} {st0 rest : List Value} {r : Option Value} {M' : Mm} {a : Array Value} (hr : va_Run p l e R s m args below meth c H locs k1 k2 0 0 (F0 m pc ls st0) rest (PostE D ad cA H.size r M M' a) (AA ad H.size)) (hS : va_S (AA ad s.heap.size) s.heap H locs)
    (kk : ∀ (H1 : Heap) (locs1 : List Loc), gh M' = gh M → va_P D vwCl (wsM ad cA M') H1 → va_S (AA ad s.heap.size) s.heap H1 locs1 → W p l e R s m args below meth c H1 locs1 k1 k2 Q (F0 m (pc + 3) ls ((r.map (pv ad)).toList ++ rest))) : W p l e R s m args below meth c H locs k1 k2 Q (F0 m pc ls st0) := by
  intro T hT X
  obtain ⟨v, st₀, t, T', L, h0, X', hL, e1, e2, ⟨⟨hv, hP1, hgh⟩, hz, hk⟩, st⟩ := hr T hT X
  cases hv
  rw [h0] at hz hk
  obtain ⟨t2, a1, b1⟩ := kk T'.heap (locs ++ L) hgh (by rw [e1]; exact hP1)
    ⟨Nat.le_trans hS.1 (by rw [e1]; exact hz), fun q h1 h2 => by rw [e1, hk q (Nat.lt_of_lt_of_le h1 hS.1) (fun z => h2 (AA_sub hS.1 z))]; exact hS.2.1 q h1 h2, fun q hq => by
      rcases List.mem_append.mp hq with h | h
      · exact hS.2.2 q h
      · exact AA_sub hS.1 (hL q h)⟩ T' rfl X'
  exact ⟨t2, st t2 a1, b1⟩
theorem cat_le (v : Value) : v.category ≤ 2 := by rcases lv_cat v with h | h <;> omega
theorem sum_cat : ∀ l : List Value, (l.map fun v => v.category).sum ≤ 2 * l.length
  | [] => Nat.le_refl 0
  | v :: r => by
    have h1 := sum_cat r
    have h2 := cat_le v
    rw [List.map_cons, List.sum_cons, List.length_cons]
    omega
theorem rest_ok {r : List Value} (h : r.length ≤ 4) : ((r.map (pv ad)).map fun v => v.category).sum ≤ 8 := by
  have := sum_cat (r.map (pv ad))
  rw [List.length_map] at this
  omega
theorem yT_len : yT.length = 281 := by decide +kernel
theorem mOK_p {y : Nat} (h : y < 281) (hl : y ∉ yLaw) : Cond.code (yN y) (yB y) (yM y) (yR y) ∈ gtb ∧ Cond.initialized (yN y).cls ∈ gtb ∧ ((yN y).cls ≠ "java/lang/invoke/MethodHandle" ∧ (yN y).cls ≠ "java/lang/invoke/VarHandle") ∧ yM y ≤ 40 ∧ (y ∈ yS → Cond.static (yN y) ∈ gtb) ∧ (y ∉ yS → Cond.instanceMethod (yN y) ∈ gtb ∧ Cond.selects (yN y).cls (yN y) (yN y) ∈ gtb) := by
  have hm := mOK_all h hl
  unfold mOK at hm
  simp only [Bool.and_eq_true] at hm
  obtain ⟨⟨⟨h1, h2⟩, h3⟩, h4⟩ := hm
  obtain ⟨h2, h9⟩ := h2
  unfold plainY at h2
  rw [Bool.and_eq_true, decide_eq_true_eq, decide_eq_true_eq] at h2
  rw [decide_eq_true_eq] at h9
  refine ⟨?_, inP_gtb h1, h2, Nat.le_of_ble_eq_true h3, fun q => ?_, fun q => ?_⟩
  · have hmem : yE y ∈ yT := by
      unfold yE
      rw [List.getD_eq_getElem?_getD, List.getElem?_eq_getElem (show y < yT.length by rw [yT_len]; exact h)]
      exact List.getElem_mem _
    rcases cwT _ hmem with q | q
    · exact absurd q h9
    · exact List.mem_filter.mpr ⟨q, rfl⟩
  · rw [if_pos q] at h4; exact inP_gtb h4
  · rw [if_neg q, Bool.and_eq_true] at h4; exact ⟨inP_gtb h4.1, inP_gtb h4.2⟩
/-- a static call -/
theorem run_S (B : Bd p R s m args c D ad cA y cn d G cf sf) {H : Heap} {locs : List Loc} {ls : Array Slot} {idx n z : Nat} {r : Option Value} {M' : Mm} {as rest : List Value} (hg : G (gh M)) (hd : decode (yB y) pc = .ok (.invokestatic idx, 3)) (hz : z < 281) (hl : z ∉ yLaw) (hst : z ∈ yS) (hn : parN (yN z) n = true) (hlk : (cn, idx, z) ∈ nestQ ∨ Cond.methodLink (Rn cn) idx (yN z) ∈ gtb) (has : as.length = n) (hrest : rest.length ≤ 4) (hE : Ev d z as M r M')
    (hsz : ls.size = yM y) (hP : va_P D vwCl (wsM ad cA M) H) (hS : va_S (AA ad s.heap.size) s.heap H locs) : va_Run p l e R s m args below meth c H locs (cf (gh M)) (sf (gh M)) 0 0 (F0 m pc ls (((as.reverse ++ rest)).map (pv ad))) (rest.map (pv ad)) (PostE D ad cA H.size r M M' (as.map (pv ad)).toArray) (AA ad H.size) := by
  obtain ⟨m1, m2, m3, m4, m5, -⟩ := mOK_p hz hl
  have hnn : (parseMethodDescriptor (yN z).desc).map (fun d => d.parameters.length) = some n := by
    unfold parN at hn
    exact of_decide_eq_true hn
  have hr9 := B.2.2.2.2.2.2.2.2.2.1
  have hcs := B.2.2.2.2.2.2.2.2.2.2 _ hg
  have hroom : (rmD d).frames + 1 ≤ R.frames ∧ 8 + (yM z + 11) + (rmD d).locals ≤ R.locals := ⟨hr9.1, by show 8 + (yM z + 11) + 200 * d ≤ R.locals; omega⟩
  have hgw : GoodIn gtb (wsY z) := fun w hw => by
    rcases List.mem_cons.mp hw with e | e
    · subst e; exact ⟨m1, good_of_word (gtb_good m1)⟩
    · exact ⟨e, good_of_word (gtb_good e)⟩
  have hpre : PreS s H (PreE D ad cA H.size as M) (as.map (pv ad)) := ⟨preE_blind, fun U hU hW => pre_call B hP hS hU hW⟩
  have hstk : ((as.reverse ++ rest)).map (pv ad) = (as.map (pv ad)).reverse ++ rest.map (pv ad) := by rw [List.map_append, List.map_reverse]
  rcases hlk with hlk | hlk
  · have hnx := B.2.2.2.2.2.2.2.2.1 _ hlk
    exact va_runSN ⟨B.1, B.2.1, B.2.2.1, B.2.2.2.1, B.2.2.2.2.1⟩ (hE l D ad cA H.size) ⟨va_cnB n B.2.2.2.2.1 hgw rfl rfl rfl hnx (B.2.2.2.2.1 _ m2) ⟨m3.1, m3.2, hnn⟩ hroom, B.2.2.2.2.1 _ (m5 hst), trivial⟩ hpre rfl (by rw [List.length_map]; exact has) hsz hstk (lv_room (rest_ok hrest)) hd hcs
  · have hgs : GoodIn gtb (va_wsS (Rn cn) idx (yN z) (wsY z)) := fun w hw => by
      unfold va_wsS at hw
      rcases List.mem_append.mp hw with q | q
      · simp only [List.mem_cons, List.not_mem_nil, or_false] at q
        rcases q with rfl | rfl | rfl
        · exact ⟨hlk, good_of_word (gtb_good hlk)⟩
        · exact ⟨m5 hst, good_of_word (gtb_good (m5 hst))⟩
        · exact ⟨m2, good_of_word (gtb_good m2)⟩
      · exact hgw w q
    exact va_runS ⟨B.1, B.2.1, B.2.2.1, B.2.2.2.1, B.2.2.2.2.1⟩ (hE l D ad cA H.size) (va_cwS n B.2.2.2.2.1 hgs rfl rfl rfl ⟨m3.1, m3.2, hnn⟩ hroom) hpre rfl (by rw [List.length_map]; exact has) hsz hstk (lv_room (rest_ok hrest)) hd hcs
/-- an instance call -/
theorem run_V (B : Bd p R s m args c D ad cA y cn d G cf sf) {H : Heap} {locs : List Loc} {ls : Array Slot} {idx n z cl b : Nat} {r : Option Value} {M' : Mm} {as rest : List Value} (hg : G (gh M)) (hd : decode (yB y) pc = .ok (.invokevirtual idx, 3)) (hz : z < 281) (hl : z ∉ yLaw) (hst : z ∉ yS) (hn : parN (yN z) n = true) (hlk : Cond.methodLink (Rn cn) idx (yN z) ∈ gtb) (hcl : (yN z).cls = (cq (cl - 1)).1) (hc1 : 1 ≤ cl ∧ cl ≤ 12) (hb : lay b = cl) (has : as.length = n) (hrest : rest.length ≤ 4) (hE : Ev d z (.ref b :: as) M r M')
    (hsz : ls.size = yM y) (hP : va_P D vwCl (wsM ad cA M) H) (hS : va_S (AA ad s.heap.size) s.heap H locs) : va_Run p l e R s m args below meth c H locs (cf (gh M)) (sf (gh M)) 0 0 (F0 m pc ls (((as.reverse ++ .ref b :: rest)).map (pv ad))) (rest.map (pv ad)) (PostE D ad cA H.size r M M' ((.ref b :: as).map (pv ad)).toArray) (AA ad H.size) := by
  obtain ⟨m1, m2, m3, m4, -, m6⟩ := mOK_p hz hl
  have hnn : (parseMethodDescriptor (yN z).desc).map (fun d => d.parameters.length) = some n := by
    unfold parN at hn
    exact of_decide_eq_true hn
  have hr9 := B.2.2.2.2.2.2.2.2.2.1
  have hcs := B.2.2.2.2.2.2.2.2.2.2 _ hg
  have hroom : (rmD d).frames + 1 ≤ R.frames ∧ 8 + (yM z + 11) + (rmD d).locals ≤ R.locals := ⟨hr9.1, by show 8 + (yM z + 11) + 200 * d ≤ R.locals; omega⟩
  have hgw : GoodIn gtb (wsV (Rn cn) idx (yN z).cls (yN z) (wsY z)) := fun w hw => by
    unfold wsV at hw
    rcases List.mem_append.mp hw with q | hw
    · simp only [List.mem_cons, List.not_mem_nil, or_false] at q
      rcases q with rfl | rfl | rfl | rfl
      · exact ⟨hlk, good_of_word (gtb_good hlk)⟩
      · exact ⟨(m6 hst).1, good_of_word (gtb_good (m6 hst).1)⟩
      · exact ⟨(m6 hst).2, good_of_word (gtb_good (m6 hst).2)⟩
      · exact ⟨m2, good_of_word (gtb_good m2)⟩
    · rcases List.mem_cons.mp hw with e | e
      · subst e; exact ⟨m1, good_of_word (gtb_good m1)⟩
      · exact ⟨e, good_of_word (gtb_good e)⟩
  have hb0 : lay b ≠ 0 := by omega
  have hpb := pv_ref (ad := ad) (dom_pos b (lay_dom hb0))
  obtain ⟨q, hq, hw⟩ := wsM_at (ad := ad) (cA := cA) hb0
  have hci : cl - 1 < 12 := by omega
  have hrecv : ∃ cell : Cell, H[ad b]? = some cell ∧ cell.vm.isStatics = false ∧ s.vm.findClass (yN z).cls = some cell.cls := by
    rw [hcl]
    exact va_recv B.2.2.2.2.2.1 hP (cl_cq hci) (by rw [hw, ent_obj hci (by omega)])
  have hpre : PreV s H (yN z).cls (ad b) (PreE D ad cA H.size (.ref b :: as) M) (as.map (pv ad)) := by
    refine ⟨preE_blind, hrecv, fun U hU hW => ?_⟩
    have := pre_call B hP hS (as := .ref b :: as) hU hW
    rw [List.map_cons, hpb] at this
    exact this
  have hstk : ((as.reverse ++ .ref b :: rest)).map (pv ad) = (as.map (pv ad)).reverse ++ .ref (ad b) :: rest.map (pv ad) := by rw [List.map_append, List.map_reverse, List.map_cons, hpb]
  rw [List.map_cons, hpb]
  exact va_runV ⟨B.1, B.2.1, B.2.2.1, B.2.2.2.1, B.2.2.2.2.1⟩ (hE l D ad cA H.size) (cwV n B.2.2.2.2.1 hgw rfl rfl rfl ⟨rfl, m3.1, m3.2, hnn⟩ hroom) hpre rfl (by rw [List.length_map]; exact has) hsz hstk (lv_room (rest_ok hrest)) hd hcs
theorem wpInv_e {E : EE} {z : Nat} {as r : List Value} {K : List Value → Mm → Prop} {rk : Nat} (h : wpInv E z as r M K rk) : ∃ (v : Option Value) (M' : Mm), E z as M v M' ∧ K (v.toList ++ r) M' := by
  match rk, h with
  | 0, ⟨M', h1, h2⟩ => exact ⟨none, M', h1, h2⟩
  | 1, ⟨v, M', h1, h2⟩ => exact ⟨_, M', h1, h2⟩
  | 2, ⟨v, M', h1, h2⟩ => exact ⟨_, M', h1, h2⟩
  | 3, ⟨v, M', h1, h2⟩ => exact ⟨_, M', h1, h2⟩
theorem map_toList (v : Option Value) (r : List Value) : (v.map (pv ad)).toList ++ r.map (pv ad) = (v.toList ++ r).map (pv ad) := by
  cases v <;> rfl
theorem o_callS (B : Bd p R s m args c D ad cA y cn d G cf sf) {K : List Value → Mm → Prop} {idx n z rk : Nat} {E : EE} (hd : decode (yB y) pc = .ok (.invokestatic idx, 3)) (hz : z < 281) (hl : z ∉ yLaw) (hst : z ∈ yS) (hn : parN (yN z) n = true) (hlk : (cn, idx, z) ∈ nestQ ∨ Cond.methodLink (Rn cn) idx (yN z) ∈ gtb) (hE : ∀ as M v M', E z as M v M' → Ev d z as M v M') (ih : ∀ S M, K S M → AtW p l e R s m args below meth c Q D ad cA y G cf sf (pc + 3) L S M)
    (h : cond (Nat.ble n S.length && Nat.ble (S.drop n).length 4) (wpInv E z (S.take n).reverse (S.drop n) M K rk) False) : AtW p l e R s m args below meth c Q D ad cA y G cf sf pc L S M := by
  cases hc : (Nat.ble n S.length && Nat.ble (S.drop n).length 4) with
  | false => rw [hc] at h; exact h.elim
  | true =>
    rw [hc] at h
    rw [Bool.and_eq_true] at hc
    have c1 := Nat.le_of_ble_eq_true hc.1
    have c2 := Nat.le_of_ble_eq_true hc.2
    obtain ⟨v, M', h1, h2⟩ := wpInv_e h
    intro hg H locs ls hlk2 hP hS
    have hrun := run_S (l := l) (e := e) (below := below) (meth := meth) B hg hd hz hl hst hn hlk (by rw [List.length_reverse, List.length_take]; omega) c2 (hE _ _ _ _ h1) hlk2.1 hP hS
    rw [List.reverse_reverse, List.take_append_drop] at hrun
    refine ev_go hrun hS fun H1 locs1 hgh hP1 hS1 => ?_
    have := ih _ _ h2 (by rw [hgh]; exact hg) H1 locs1 ls hlk2 hP1 hS1
    rw [hgh] at this
    rw [map_toList]
    exact this
theorem o_callV (B : Bd p R s m args c D ad cA y cn d G cf sf) {K : List Value → Mm → Prop} {idx n z rk cl : Nat} {E : EE} (hd : decode (yB y) pc = .ok (.invokevirtual idx, 3)) (hz : z < 281) (hl : z ∉ yLaw) (hst : z ∉ yS) (hn : parN (yN z) n = true) (hlk : Cond.methodLink (Rn cn) idx (yN z) ∈ gtb) (hcl : (yN z).cls = (cq (cl - 1)).1) (hc1 : 1 ≤ cl ∧ cl ≤ 12) (hE : ∀ as M v M', E z as M v M' → Ev d z as M v M') (ih : ∀ S M, K S M → AtW p l e R s m args below meth c Q D ad cA y G cf sf (pc + 3) L S M)
    (h : cond (Nat.ble (S.drop n).length 4) (popA (S.drop n) fun a r => lay a = cl ∧ wpInv E z (.ref a :: (S.take n).reverse) r M K rk) False) : AtW p l e R s m args below meth c Q D ad cA y G cf sf pc L S M := by
  cases hc : Nat.ble (S.drop n).length 4 with
  | false => rw [hc] at h; exact h.elim
  | true =>
    rw [hc] at h
    have c2 := Nat.le_of_ble_eq_true hc
    obtain ⟨b, r, hS0, hb, h0⟩ := popA_e h
    obtain ⟨v, M', h1, h2⟩ := wpInv_e h0
    intro hg H locs ls hlk2 hP hS
    have c1 : n < S.length := by
      have := congrArg List.length hS0
      rw [List.length_drop, List.length_cons] at this
      omega
    have c3 : r.length ≤ 4 := by
      rw [hS0, List.length_cons] at c2
      omega
    have hrun := run_V (l := l) (e := e) (below := below) (meth := meth) B hg hd hz hl hst hn hlk hcl hc1 hb (by rw [List.length_reverse, List.length_take]; omega) c3 (hE _ _ _ _ h1) hlk2.1 hP hS
    rw [List.reverse_reverse, ← hS0, List.take_append_drop] at hrun
    refine ev_go hrun hS fun H1 locs1 hgh hP1 hS1 => ?_
    have := ih _ _ h2 (by rw [hgh]; exact hg) H1 locs1 ls hlk2 hP1 hS1
    rw [hgh] at this
    rw [map_toList]
    exact this
end SN5
end
section
section SN6
variable {p : Program} {l : Launch} {e : Env} {R : Room} {s : State} {m : MethodId} {args : Array Value} {below : List Frame} {meth : Method} {c : Code} {Q : State → Prop}
variable {D : va_G} {ad : Nat → Nat} {cA : Nat → ClassId} {y cn d : Nat} {G : Nat → Prop} {cf sf : Nat → Nat} {pc : Nat} {L S : List Value} {M : Mm}
theorem condT {b : Bool} {P : Prop} (h : cond b P False) : b = true ∧ P := by
  cases b with
  | false => exact h.elim
  | true => exact ⟨rfl, h⟩
theorem o_mmax (B : Bd p R s m args c D ad cA y cn d G cf sf) {K : List Value → Mm → Prop} {idx : Nat} (hd : decode (yB y) pc = .ok (.invokestatic idx, 3)) (w1 : Cond.methodLink (Rn cn) idx Lib.Math.max.name ∈ gtb) (w2 : Cond.static Lib.Math.max.name ∈ gtb) (w3 : Cond.initialized "java/lang/Math" ∈ gtb) (w4 : Cond.code Lib.Math.max.name Lib.Math.max.code 2 (some .int) ∈ gtb) (ih : ∀ S M, K S M → AtW p l e R s m args below meth c Q D ad cA y G cf sf (pc + 3) L S M)
    (h : popI S fun y r => popI r fun x r => cond (Nat.ble r.length 4) (K (.int (if x < y then y else x) :: r) M) False) : AtW p l e R s m args below meth c Q D ad cA y G cf sf pc L S M := by
  obtain ⟨b, r1, rfl, h1⟩ := popI_e h
  obtain ⟨a, r, rfl, h2⟩ := popI_e h1
  obtain ⟨h3, h4⟩ := condT h2
  intro hg H locs ls hl hP hS
  have hr9 := B.2.2.2.2.2.2.2.2.2.1
  have hcs := B.2.2.2.2.2.2.2.2.2.2 _ hg
  have hro := rest_ok (ad := ad) (Nat.le_of_ble_eq_true h3)
  exact va_mmax B.1 B.2.1 (B.2.2.1.trans hl.1.symm) B.2.2.2.1 (B.2.2.2.2.1 _ w1) (B.2.2.2.2.1 _ w2) (B.2.2.2.2.1 _ w3) (B.2.2.2.2.1 _ w4) (by omega) (by omega) hcs.1 hcs.2 hd (ih _ _ h4 hg H locs ls hl hP hS)
theorem o_mmin (B : Bd p R s m args c D ad cA y cn d G cf sf) {K : List Value → Mm → Prop} {idx : Nat} (hd : decode (yB y) pc = .ok (.invokestatic idx, 3)) (w1 : Cond.methodLink (Rn cn) idx Lib.Math.min.name ∈ gtb) (w2 : Cond.static Lib.Math.min.name ∈ gtb) (w3 : Cond.initialized "java/lang/Math" ∈ gtb) (w4 : Cond.code Lib.Math.min.name Lib.Math.min.code 2 (some .int) ∈ gtb) (ih : ∀ S M, K S M → AtW p l e R s m args below meth c Q D ad cA y G cf sf (pc + 3) L S M)
    (h : popI S fun y r => popI r fun x r => cond (Nat.ble r.length 4) (K (.int (if y < x then y else x) :: r) M) False) : AtW p l e R s m args below meth c Q D ad cA y G cf sf pc L S M := by
  obtain ⟨b, r1, rfl, h1⟩ := popI_e h
  obtain ⟨a, r, rfl, h2⟩ := popI_e h1
  obtain ⟨h3, h4⟩ := condT h2
  intro hg H locs ls hl hP hS
  have hr9 := B.2.2.2.2.2.2.2.2.2.1
  have hcs := B.2.2.2.2.2.2.2.2.2.2 _ hg
  have hro := rest_ok (ad := ad) (Nat.le_of_ble_eq_true h3)
  exact va_mmin B.1 B.2.1 (B.2.2.1.trans hl.1.symm) B.2.2.2.1 (B.2.2.2.2.1 _ w1) (B.2.2.2.2.1 _ w2) (B.2.2.2.2.1 _ w3) (B.2.2.2.2.1 _ w4) (by omega) (by omega) hcs.1 hcs.2 hd (ih _ _ h4 hg H locs ls hl hP hS)
theorem nfw : nativeFrameWords "java/lang/System" "arraycopy" 5 = 7 := by decide +kernel
theorem o_cpyI (B : Bd p R s m args c D ad cA y cn d G cf sf) {K : List Value → Mm → Prop} {idx : Nat} (hd : decode (yB y) pc = .ok (.invokestatic idx, 3)) (w1 : Cond.methodLink (Rn cn) idx arraycopyName ∈ gtb) (w2 : Cond.native arraycopyName ∈ gtb) (w3 : Cond.static arraycopyName ∈ gtb) (w4 : Cond.initialized "java/lang/System" ∈ gtb) (ih : ∀ S M, K S M → AtW p l e R s m args below meth c Q D ad cA y G cf sf (pc + 3) L S M)
    (h : popI S fun n r => popI r fun dp r => popA r fun b r => popI r fun sp r => popA r fun a r => cond (Nat.ble r.length 4) True False ∧ lay a = 100 ∧ lay b = 100 ∧ ¬ sp < 0 ∧ ¬ dp < 0 ∧ ¬ n < 0 ∧ sp.toNatClampNeg + n.toNatClampNeg ≤ alen a ∧ dp.toNatClampNeg + n.toNatClampNeg ≤ alen b ∧ K r (upr M.1 b (cpf (M.1 a) (M.1 b) sp.toNatClampNeg dp.toNatClampNeg n.toNatClampNeg), M.2)) : AtW p l e R s m args below meth c Q D ad cA y G cf sf pc L S M := by
  obtain ⟨n, r1, rfl, h1⟩ := popI_e h
  obtain ⟨dp, r2, rfl, h2⟩ := popI_e h1
  obtain ⟨b, r3, rfl, h3⟩ := popA_e h2
  obtain ⟨sp, r4, rfl, h4⟩ := popI_e h3
  obtain ⟨a, r, rfl, h5, ha, hb, g1, g2, g3, g4, g5, h6⟩ := popA_e h4
  obtain ⟨h5, -⟩ := condT h5
  intro hg H locs ls hl hP hS
  have hr9 := B.2.2.2.2.2.2.2.2.2.1
  have hro := rest_ok (ad := ad) (Nat.le_of_ble_eq_true h5)
  have ha0 : lay a ≠ 0 := by omega
  have hb0 : lay b ≠ 0 := by omega
  obtain ⟨q, hq, hw⟩ := wsM_at (ad := ad) (cA := cA) ha0
  obtain ⟨q1, hq1, hw1⟩ := wsM_at (ad := ad) (cA := cA) hb0
  have h7 := ih _ _ h6 hg
  rw [List.map_cons, List.map_cons, List.map_cons, List.map_cons, List.map_cons, pv_ref (dom_pos a (lay_dom ha0)), pv_ref (dom_pos b (lay_dom hb0))]
  refine va_copyi B.1 B.2.1 (B.2.2.1.trans hl.1.symm) B.2.2.2.1 (B.2.2.2.2.1 _ w1) (B.2.2.2.2.1 _ w2) (B.2.2.2.2.1 _ w3) (B.2.2.2.2.1 _ w4) B.2.2.2.2.2.1 hP B.dd hS q q1 0 0 (by rw [hw, ent_100 ha]) (by rw [hw1, ent_100 hb]) rfl rfl rfl g1 g2 g3 g4 g5 (fun _ _ => rfl) (by omega) (by rw [nfw]; omega) hd fun H1 locs1 hP1 _ hS1 => ?_
  rw [wsM_set hq1 (M' := (upr M.1 b (cpf (M.1 a) (M.1 b) sp.toNatClampNeg dp.toNatClampNeg n.toNatClampNeg), M.2)) (by
    rw [ent_100 hb]
    show _ = (Sum.inl (cA 0, alen b, Sum.inl (upr M.1 b _ b)) : va_E)
    rw [upr_eq]
    rfl) (fun z hz => ent_of (upr_ne hz) rfl rfl)] at hP1
  exact h7 H1 locs1 ls hl hP1 hS1
theorem o_cpyL (B : Bd p R s m args c D ad cA y cn d G cf sf) {K : List Value → Mm → Prop} {idx : Nat} (hd : decode (yB y) pc = .ok (.invokestatic idx, 3)) (w1 : Cond.methodLink (Rn cn) idx arraycopyName ∈ gtb) (w2 : Cond.native arraycopyName ∈ gtb) (w3 : Cond.static arraycopyName ∈ gtb) (w4 : Cond.initialized "java/lang/System" ∈ gtb) (ih : ∀ S M, K S M → AtW p l e R s m args below meth c Q D ad cA y G cf sf (pc + 3) L S M)
    (h : popI S fun n r => popI r fun dp r => popA r fun b r => popI r fun sp r => popA r fun a r => cond (Nat.ble r.length 4) True False ∧ lay a = 101 ∧ lay b = 101 ∧ ¬ sp < 0 ∧ ¬ dp < 0 ∧ ¬ n < 0 ∧ sp.toNatClampNeg + n.toNatClampNeg ≤ alen a ∧ dp.toNatClampNeg + n.toNatClampNeg ≤ alen b ∧ K r (M.1, upr M.2.1 b (cpf (M.2.1 a) (M.2.1 b) sp.toNatClampNeg dp.toNatClampNeg n.toNatClampNeg), M.2.2)) : AtW p l e R s m args below meth c Q D ad cA y G cf sf pc L S M := by
  obtain ⟨n, r1, rfl, h1⟩ := popI_e h
  obtain ⟨dp, r2, rfl, h2⟩ := popI_e h1
  obtain ⟨b, r3, rfl, h3⟩ := popA_e h2
  obtain ⟨sp, r4, rfl, h4⟩ := popI_e h3
  obtain ⟨a, r, rfl, h5, ha, hb, g1, g2, g3, g4, g5, h6⟩ := popA_e h4
  obtain ⟨h5, -⟩ := condT h5
  intro hg H locs ls hl hP hS
  have hr9 := B.2.2.2.2.2.2.2.2.2.1
  have hro := rest_ok (ad := ad) (Nat.le_of_ble_eq_true h5)
  have ha0 : lay a ≠ 0 := by omega
  have hb0 : lay b ≠ 0 := by omega
  obtain ⟨q, hq, hw⟩ := wsM_at (ad := ad) (cA := cA) ha0
  obtain ⟨q1, hq1, hw1⟩ := wsM_at (ad := ad) (cA := cA) hb0
  have h7 := ih _ _ h6 hg
  rw [List.map_cons, List.map_cons, List.map_cons, List.map_cons, List.map_cons, pv_ref (dom_pos a (lay_dom ha0)), pv_ref (dom_pos b (lay_dom hb0))]
  refine va_copyl B.1 B.2.1 (B.2.2.1.trans hl.1.symm) B.2.2.2.1 (B.2.2.2.2.1 _ w1) (B.2.2.2.2.1 _ w2) (B.2.2.2.2.1 _ w3) (B.2.2.2.2.1 _ w4) B.2.2.2.2.2.1 hP B.dd hS q q1 1 1 (by rw [hw, ent_101 ha]) (by rw [hw1, ent_101 hb]) rfl rfl rfl g1 g2 g3 g4 g5 (fun _ _ => rfl) (by omega) (by rw [nfw]; omega) hd fun H1 locs1 hP1 _ hS1 => ?_
  rw [wsM_set (M := M) hq1 (M' := (M.1, upr M.2.1 b (cpf (M.2.1 a) (M.2.1 b) sp.toNatClampNeg dp.toNatClampNeg n.toNatClampNeg), M.2.2)) (by
    rw [ent_101 hb]
    show _ = (Sum.inl (cA 1, alen b, Sum.inr (Sum.inl (upr M.2.1 b _ b))) : va_E)
    rw [upr_eq]
    rfl) (fun z hz => ent_of rfl (upr_ne hz) rfl)] at hP1
  exact h7 H1 locs1 ls hl hP1 hS1
/-! Enum.ordinal() -/
theorem d_ord_0 : decode cJx29ce0_ordinal_8abf5 0 = .ok (.aload_n 0, 1) := by decide +kernel
theorem d_ord_1 : decode cJx29ce0_ordinal_8abf5 1 = .ok (.getfield 7, 3) := by decide +kernel
theorem d_ord_4 : decode cJx29ce0_ordinal_8abf5 4 = .ok (.ireturn, 1) := by decide +kernel
def wsOrd : List Cond := .code yOrd cJx29ce0_ordinal_8abf5 1 (some .int) :: [.fieldLink RJx29ce0 7 "java/lang/Enum" "ordinal" "I"]
theorem ordM (l : Launch) (A : Nat → Prop) {i : Nat} (hi : i < 23) : Met l yOrd wsOrd (rmD 0) (va_Pc [.ref (ad (600 + i))] (fun U => Sx ad A U U.heap)) (fun _ st oc t => oc = .returned (some (.int (I (i : Int)))) ∧ t.heap = st.heap) 0 0 (fun _ => False) := by
  refine Met.ofW (cc := cJx29ce0_ordinal_8abf5) (maxL := 1) (ret := some .int) (by decide +kernel) rfl ?_
  intro p e s m args below meth c s₁ B hml hv
  obtain ⟨rfl, hSx⟩ := hv
  have hx := B.exec
  have hb := B.bytes
  have hr := B.returns
  have hts := atoms_spec (ws := wsOrd) B.pre
  have hown : s.vm.findClass RJx29ce0 = some m.cls := findClass_of_methodNamed B.named
  have hlocks := B.notSynchronized
  have hS : va_S A s.heap s.heap [] := va_S.rf
  have hl := lv_entry ([.ref (ad (600 + i))]) (n := 1) (Nat.le_of_ble_eq_true rfl)
  rw [lg_entry_eq]
  generalize (lg_sl ([.ref (ad (600 + i))]) ++ List.replicate (1 - (lg_sl ([.ref (ad (600 + i))])).length) Slot.unset).toArray = ls at hl ⊢
  refine lv_aload_n hx hb d_ord_0 rfl (lv_at hl 0 rfl) ?_
  have hq : ("java/lang/Enum", "ordinal", "I", (List.range 23).map fun k : Nat => I (k : Int)) ∈ ordF := List.mem_cons_self
  refine va_getE (q := ("java/lang/Enum", "ordinal", "I", (List.range 23).map fun k : Nat => I (k : Int))) hx hb hSx.1 (i := i) hi hS hown hq (hts _ (by unfold wsOrd; simp)) (fun _ q => q) d_ord_1 ?_
  have he : ((List.range 23).map fun k : Nat => I (k : Int)).getD i 0 = I (i : Int) := by
    rw [List.getD_eq_getElem?_getD, List.getElem?_map, List.getElem?_range hi]
    rfl
  dsimp only
  rw [he]
  exact W.iret hx hb hr (fun t ht _ => ⟨rfl, ht⟩) (fun q hq => by cases hq) d_ord_4
theorem o_ord (B : Bd p R s m args c D ad cA y cn d G cf sf) {K : List Value → Mm → Prop} {idx : Nat} (hd : decode (yB y) pc = .ok (.invokevirtual idx, 3)) (w1 : Cond.methodLink (Rn cn) idx xOrd ∈ gtb) (w2 : Cond.sameMethod xOrd.cls "java/lang/Enum" xOrd.name xOrd.desc ∈ gtb) (w3 : Cond.selects RX11 xOrd yOrd ∈ gtb) (w4 : Cond.instanceMethod yOrd ∈ gtb) (w5 : Cond.initialized yOrd.cls ∈ gtb) (w6 : Cond.code yOrd cJx29ce0_ordinal_8abf5 1 (some .int) ∈ gtb) (w7 : Cond.fieldLink RJx29ce0 7 "java/lang/Enum" "ordinal" "I" ∈ gtb) (ih : ∀ S M, K S M → AtW p l e R s m args below meth c Q D ad cA y G cf sf (pc + 3) L S M)
    (h : popA S fun a r => cond (Nat.ble r.length 4) True False ∧ (600 ≤ a ∧ a < 623) ∧ K (.int (I ((a - 600 : Nat) : Int)) :: r) M) : AtW p l e R s m args below meth c Q D ad cA y G cf sf pc L S M := by
  obtain ⟨a, r, rfl, h1, ha, h2⟩ := popA_e h
  obtain ⟨h1, -⟩ := condT h1
  intro hg H locs ls hl hP hS
  have hr9 := B.2.2.2.2.2.2.2.2.2.1
  have hcs := B.2.2.2.2.2.2.2.2.2.2 _ hg
  have h3 := ih _ _ h2 hg H locs ls hl hP hS
  have hi : a - 600 < 23 := by omega
  have hea : 600 + (a - 600) = a := by omega
  have hSx := (B.2.2.2.2.2.2.2.1.kept (fun a h1 h2 => hS.2.1 a h1 h2))
  have hM := ordM (ad := ad) l (AA ad s.heap.size) hi
  rw [hea] at hM
  rw [List.map_cons, pv_ref (show a ≠ 0 by omega)]
  have hgw : GoodIn gtb (va_wsU (Rn cn) idx RX11 "java/lang/Enum" xOrd yOrd wsOrd) := fun w hw => by
    unfold va_wsU wsOrd at hw
    rcases List.mem_append.mp hw with q | q
    · simp only [List.mem_cons, List.not_mem_nil, or_false] at q
      rcases q with rfl | rfl | rfl | rfl | rfl
      · exact ⟨w1, good_of_word (gtb_good w1)⟩
      · exact ⟨w2, good_of_word (gtb_good w2)⟩
      · exact ⟨w3, good_of_word (gtb_good w3)⟩
      · exact ⟨w4, good_of_word (gtb_good w4)⟩
      · exact ⟨w5, good_of_word (gtb_good w5)⟩
    · simp only [List.mem_cons, List.not_mem_nil, or_false] at q
      rcases q with rfl | rfl
      · exact ⟨w6, good_of_word (gtb_good w6)⟩
      · exact ⟨w7, good_of_word (gtb_good w7)⟩
  have hrecv : ∃ cell : Cell, H[ad a]? = some cell ∧ cell.vm.isStatics = false ∧ s.vm.findClass RX11 = some cell.cls := by
    have := va_recvE (s := s) (H := H) (locs := locs) (i := a - 600) B.2.2.2.2.2.2.2.1.1 hi hS
    rw [hea] at this
    exact this
  have hpre : PreV s H RX11 (ad a) (va_Pc [.ref (ad a)] (fun U => Sx ad (AA ad s.heap.size) U U.heap)) [] := by
    refine ⟨fun a U g mk ⟨q1, q2⟩ => ⟨q1, Sx.moved (u := U) (U := U.calling g mk a) (Vm.Alike.refl U.vm) q2⟩, hrecv, fun U hU hW => ⟨rfl, ?_⟩⟩
    show Sx ad (AA ad s.heap.size) U U.heap
    rw [hU]
    exact hSx.moved hW.alike
  have hrun := va_runU (l := l) (e := e) (locs := locs) (below := below) (meth := meth) (rest := r.map (pv ad)) (g := F0 m pc ls (.ref (ad a) :: r.map (pv ad))) ⟨B.1, B.2.1, B.2.2.1, B.2.2.2.1, B.2.2.2.2.1⟩ hM (va_cwU 0 B.2.2.2.2.1 hgw rfl rfl rfl rfl ⟨by decide +kernel, by decide +kernel, by decide +kernel⟩ ⟨by show 0 + 1 ≤ R.frames; omega, by show 8 + (1 + 11) + 200 * 0 ≤ R.locals; omega⟩) hpre rfl rfl hl.1 rfl (lv_room (rest_ok (Nat.le_of_ble_eq_true h1))) hd (show cf (gh M) + 0 ≤ R.cells ∧ sf (gh M) + 0 ≤ R.slots from hcs)
  intro T hT X
  obtain ⟨v, st₀, t, T', L9, h0, X', hL, e1, e2, ⟨hv, hh⟩, st⟩ := hrun T hT X
  cases hv
  obtain ⟨t2, a1, b1⟩ := h3 T' (by rw [e1, hh, h0]) (Stand.forget X' (fun q h => (hL q h).elim))
  exact ⟨t2, st t2 a1, b1⟩
end SN6
end
section
def lenI (i : Instr) : Nat := match i with
  | .bipush _ => 2 | .ldc _ => 2 | .iload _ => 2 | .lload _ => 2 | .aload _ => 2 | .istore _ => 2 | .astore _ => 2 | .lstore _ => 2
  | .sipush _ => 3 | .ldc_w _ => 3 | .ldc2_w _ => 3 | .iinc _ _ => 3 | .goto _ => 3 | .if_icmp _ _ => 3 | .ifCond _ _ => 3 | .if_acmp _ _ => 3 | .ifnull _ => 3 | .ifnonnull _ => 3 | .getfield _ => 3 | .putfield _ => 3 | .getstatic _ => 3 | .invokestatic _ => 3 | .invokevirtual _ => 3
  | _ => 1
/-- does it never go on to the next instruction? -/
def endI (i : Instr) : Bool := match i with
  | .goto _ => true | .tableswitch _ _ _ _ => true | .lookupswitch _ _ => true | .ireturn => true | .lreturn => true | .areturn => true | .return_ => true
  | _ => false
def inCp (cn kind idx : Nat) (inf : List Nat) : Bool := (cpC cn).any fun e => Nat.beq e.1 idx && (Nat.beq e.2.1 kind && decide (e.2.2.1 = inf))
def tgtI (pc : Nat) (off : Int) (inf : List Nat) : Bool := decide ((pc : Int) + off = (inf.getD 0 0 : Nat))
def law11 : List (Nat × List Nat) := [(49, [11, 275, 4, 1]), (99, [11, 276, 4, 1]), (106, [11, 277, 5, 1])]
/-- what an instruction must bring with it -/
def sideI (lawf : Bool) (y cn pc : Nat) (i : Instr) (inf : List Nat) : Bool := match i with
  | .iconst _ => true | .lconst _ => true | .aconst_null => true
  | .bipush k => decide ((Int8.ofInt k).toInt32 = I k)
  | .sipush k => decide ((Int16.ofInt k).toInt32 = I k)
  | .ldc idx => inCp cn 3 idx [inf.getD 0 0]
  | .ldc_w idx => inCp cn 3 idx [inf.getD 0 0]
  | .ldc2_w idx => inCp cn 4 idx [inf.getD 0 0]
  | .iload_n _ => true | .iload _ => true | .aload_n _ => true | .aload _ => true | .lload_n _ => true | .lload _ => true
  | .istore_n k => Nat.blt k.val (yM y) | .astore_n k => Nat.blt k.val (yM y) | .lstore_n k => Nat.blt (k.val + 1) (yM y)
  | .istore k => Nat.blt k (yM y) | .astore k => Nat.blt k (yM y) | .lstore k => Nat.blt (k + 1) (yM y)
  | .iinc k _ => Nat.blt k (yM y)
  | .iadd => true | .isub => true | .imul => true | .idiv => true | .irem => true | .iand => true | .ior => true | .ixor => true | .ishl => true | .ishr => true | .iushr => true
  | .i2l => true | .i2b => true | .ladd => true | .lmul => true | .lor => true | .lshl => true | .lcmp => true | .dup => true | .dup2 => true | .pop => true
  | .goto off => tgtI pc off inf | .if_icmp _ off => tgtI pc off inf | .ifCond _ off => tgtI pc off inf | .if_acmp _ off => tgtI pc off inf | .ifnull off => tgtI pc off inf | .ifnonnull off => tgtI pc off inf
  | .tableswitch dflt lo hi offs => tgtI pc dflt inf && (decide (0 ≤ lo) && (decide (hi < 1000) && (decide ((inf.tail.length : Int) = hi - lo + 1) && (List.range inf.tail.length).all fun j => match offs[j]? with | some off => decide ((pc : Int) + off = (inf.tail.getD j 0 : Nat)) | none => false)))
  | .lookupswitch dflt ps => (match ps.toList, inf with
    | [(0, o0), (1, o1)], [td, t0, t1] => decide ((pc : Int) + dflt = (td : Nat)) && (decide ((pc : Int) + o0 = (t0 : Nat)) && decide ((pc : Int) + o1 = (t1 : Nat)))
    | _, _ => false)
  | .getfield idx => inCp cn 0 idx inf
  | .putfield idx => inCp cn 0 idx inf
  | .getstatic idx => inCp cn 1 idx [inf.getD 0 0]
  | .invokestatic idx => (match inf with
    | 1 :: _ => false
    | 10 :: _ => false
    | 11 :: _ => lawf && decide ((idx, inf) ∈ law11)
    | _ => inCp cn 2 idx inf)
  | .invokevirtual idx => (match inf with
    | 1 :: _ => inCp cn 2 idx inf
    | 10 :: _ => inCp cn 2 idx inf
    | _ => false)
  | .iaload => (match inf with | 2 :: _ => lawf | _ => true)
  | .laload => true | .baload => true
  | .aaload => (match inf with
    | 1 :: b :: base :: stride :: _ => Nat.ble 105 (lay b) && (Nat.blt (lay b) 108 && (decide (cbs b = (base, stride)) && Nat.blt 0 base))
    | _ => true)
  | .iastore => true | .lastore => true | .bastore => true | .aastore => true
  | .arraylength => (match inf with | 2 :: _ => lawf | _ => true)
  | .ireturn => (match inf with | [] => decide (yR y = some .int) | _ => decide (yR y = some .boolean))
  | .lreturn => decide (yR y = some .long)
  | .areturn => (match yR y with | some (.object _) => true | _ => false)
  | .return_ => decide (yR y = none)
  | _ => false
def isNop (i : Instr) : Bool := match i with | .nop => true | _ => false
def hdP (is : List Op) : Option Nat := match is with | [] => none | o :: _ => some o.1
def decOK (y pc : Nat) (i : Instr) : Bool := match decode (yB y) pc with
  | .ok (j, n) => decide (j = i) && (match i with | .tableswitch _ _ _ _ => true | .lookupswitch _ _ => true | _ => Nat.beq n (lenI i))
  | .error _ => false
def chk (lawf : Bool) (y cn : Nat) (is : List Op) : Bool := match is with
  | [] => true
  | o :: r => chk lawf y cn r && (match isNop o.2.1 with
    | true => decide (hdP r = some o.1)
    | false => decOK y o.1 o.2.1 && (sideI lawf y cn o.1 o.2.1 o.2.2 && (endI o.2.1 || decide (hdP r = some (o.1 + lenI o.2.1)))))
theorem inCp_e {cn kind idx : Nat} {inf : List Nat} (h : inCp cn kind idx inf = true) : ∃ ps : List Nat, linkOK cn (idx, kind, inf, ps) = true := by
  unfold inCp at h
  obtain ⟨e, he, h1⟩ := List.any_eq_true.mp h
  rw [Bool.and_eq_true, Bool.and_eq_true, decide_eq_true_eq] at h1
  obtain ⟨a, b, c, d⟩ := e
  have e1 := Nat.eq_of_beq_eq_true h1.1
  have e2 := Nat.eq_of_beq_eq_true h1.2.1
  have e3 := h1.2.2
  dsimp only at e1 e2 e3
  subst e1; subst e2; subst e3
  exact ⟨d, cpC_ok cn _ he⟩
theorem decOK_e {y pc : Nat} {i : Instr} (h : decOK y pc i = true) : ∃ n, decode (yB y) pc = .ok (i, n) ∧ ((∀ a b c d, i ≠ .tableswitch a b c d) → (∀ a b, i ≠ .lookupswitch a b) → n = lenI i) := by
  unfold decOK at h
  split at h
  · rename_i j n hj
    rw [Bool.and_eq_true, decide_eq_true_eq] at h
    obtain ⟨h1, h2⟩ := h
    subst h1
    refine ⟨n, hj, fun q1 q2 => ?_⟩
    split at h2
    · exact absurd rfl (q1 _ _ _ _)
    · exact absurd rfl (q2 _ _)
    · exact Nat.eq_of_beq_eq_true h2
  · cases h
theorem jm_chk {lawf : Bool} {y cn t : Nat} : ∀ {C : List Op}, chk lawf y cn C = true → chk lawf y cn (jm C t) = true ∧ (∀ o r, jm C t = o :: r → o.1 = t)
  | [], _ => ⟨rfl, fun o r h => by cases h⟩
  | o :: C, h => by
    unfold jm
    cases hb : Nat.beq o.1 t with
    | true => exact ⟨h, fun o' r h' => by cases h'; exact Nat.eq_of_beq_eq_true hb⟩
    | false =>
      unfold chk at h
      rw [Bool.and_eq_true] at h
      exact jm_chk h.1

section SN7
variable {p : Program} {l : Launch} {e : Env} {R : Room} {s : State} {m : MethodId} {args : Array Value} {below : List Frame} {meth : Method} {c : Code} {Q : State → Prop}
variable {D : va_G} {ad : Nat → Nat} {cA : Nat → ClassId} {y cn d : Nat} {G : Nat → Prop} {cf sf : Nat → Nat}
/-- how the method's end is met -/
def RtW (p : Program) (l : Launch) (e : Env) (R : Room) (s : State) (m : MethodId) (args : Array Value) (below : List Frame) (meth : Method) (c : Code) (Q : State → Prop) (D9 : va_G) (ad : Nat → Nat) (cA : Nat → ClassId) (y : Nat) (G : Nat → Prop) (cf sf : Nat → Nat) (Rt : Option Value → Mm → Prop) : Prop :=
  ∀ (r : Option Value) (M : Mm), Rt r M → G (gh M) → ∀ (pc : Nat) (H : Heap) (locs : List Loc) (ls : Array Slot), va_P D9 vwCl (wsM ad cA M) H → va_S (AA ad s.heap.size) s.heap H locs →
    ((∃ x, r = some (.int x) ∧ decode (yB y) pc = .ok (.ireturn, 1) ∧ (yR y = some .int ∨ (yR y = some .boolean ∧ (x = I 0 ∨ x = I 1)))) ∨ (∃ x, r = some (.long x) ∧ decode (yB y) pc = .ok (.lreturn, 1) ∧ yR y = some .long) ∨ (∃ x z, r = some (.ref x) ∧ decode (yB y) pc = .ok (.areturn, 1) ∧ yR y = some (.object z)) ∨ (r = none ∧ decode (yB y) pc = .ok (.return_, 1) ∧ yR y = none)) →
    W p l e R s m args below meth c H locs (cf (gh M)) (sf (gh M)) Q (F0 m pc ls (r.map (pv ad)).toList)

variable {pc : Nat} {L S : List Value} {M : Mm}
/-- the script, where the law reads it -/
def ScW (lawf : Bool) (s : State) (ad : Nat → Nat) (X : Nat × (Nat → Int32)) : Prop := lawf = true → va_X (ad 501) X.1 X.2 s s.heap ∧ ad 501 < s.heap.size ∧ ¬ AA ad s.heap.size (ad 501)
/-- the law's calls of its own methods, which catch -/
def C11 (lawf : Bool) (E : EE) (p : Program) (l : Launch) (e : Env) (R : Room) (s : State) (m : MethodId) (args : Array Value) (below : List Frame) (meth : Method) (c : Code) (Q : State → Prop) (D : va_G) (ad : Nat → Nat) (cA : Nat → ClassId) (y : Nat) (G : Nat → Prop) (cf sf : Nat → Nat) : Prop := lawf = true → ∀ (pc idx z n rk : Nat) (t : List Nat) (L S : List Value) (M : Mm) (K : List Value → Mm → Prop), decode (yB y) pc = .ok (.invokestatic idx, 3) → (idx, 11 :: z :: n :: rk :: t) ∈ law11 → (∀ S M, K S M → AtW p l e R s m args below meth c Q D ad cA y G cf sf (pc + 3) L S M) → cond (Nat.ble n S.length && Nat.ble (S.drop n).length 4) (wpInv E z (S.take n).reverse (S.drop n) M K rk) False → AtW p l e R s m args below meth c Q D ad cA y G cf sf pc L S M
theorem link0 {cn idx ci k : Nat} {t ps : List Nat} (h : linkOK cn (idx, 0, ci :: k :: t, ps) = true) : (ci = 0 ∧ k = 0 ∧ (∃ t', t = 6 :: t') ∧ Cond.fieldLink (Rn cn) idx RX11 "packed" "J" ∈ gtb) ∨
    (Cond.fieldLink (Rn cn) idx (cq ci).1 ((cq ci).2.1 k).2.1 ((cq ci).2.1 k).2.2.1 ∈ gtb ∧ k < (cq ci).2.2 ∧ ci < 12 ∧ (FT.getD ci []).getD k [] = t ∧ tagOK ci k t = true ∧ ((cq ci).2.1 k).1 = (cq ci).1) := by
  unfold linkOK at h
  dsimp only at h
  split at h
  · rename_i heq
    injection heq with e1 heq
    injection heq with e2 heq
    exact Or.inl ⟨e1, e2, ⟨_, heq⟩, inP_gtb h⟩
  · rename_i heq
    injection heq with e1 heq
    injection heq with e2 heq
    subst e1; subst e2; subst heq
    simp only [Bool.and_eq_true, decide_eq_true_eq] at h
    obtain ⟨⟨⟨⟨⟨k1, k2⟩, k3⟩, k4⟩, k5⟩, k6⟩ := h
    exact Or.inr ⟨inP_gtb k1, Nat.le_of_ble_eq_true k2, Nat.le_of_ble_eq_true k3, k4, k5, k6⟩
  all_goals simp_all
theorem get_w (B : Bd p R s m args c D ad cA y cn d G cf sf) {K : List Value → List Value → Mm → Prop} {idx a : Nat} {inf ps : List Nat} {r : List Value} (hd : decode (yB y) pc = .ok (.getfield idx, 3)) (hk : linkOK cn (idx, 0, inf, ps) = true) (ih : ∀ L S M, K L S M → AtW p l e R s m args below meth c Q D ad cA y G cf sf (pc + 3) L S M)
    (h : match inf with | ci :: k :: t => wpGet a ci k M (fun v => K L (v :: r) M) t | _ => False) : AtW p l e R s m args below meth c Q D ad cA y G cf sf pc L (.ref a :: r) M := by
  match inf, h with
  | ci :: k :: t, h =>
    rcases link0 hk with ⟨rfl, rfl, ⟨t', rfl⟩, w⟩ | ⟨k1, k2, k3, k4, k5, k6⟩
    · obtain ⟨ha, h⟩ := h
      exact o_pack B hd w ha ih h
    · match t, h with
      | 0 :: t, h => exact o_get B hd k1 k2 k3 k4 k6 h.1 rfl ih h.2
      | 5 :: t, h => exact o_get B hd k1 k2 k3 k4 k6 h.1 rfl ih h.2
      | 1 :: t, h => exact o_get B hd k1 k2 k3 k4 k6 h.1 rfl ih h.2
      | 2 :: t, h => exact o_get B hd k1 k2 k3 k4 k6 h.1 rfl ih h.2
      | 3 :: o :: t, h => exact o_get B hd k1 k2 k3 k4 k6 h.1 (pv_ref (by have := Nat.le_of_ble_eq_true k5; omega)) ih h.2
      | 4 :: o :: t, h => exact o_get B hd k1 k2 k3 k4 k6 h.1 (pv_ref (by have := Nat.le_of_ble_eq_true k5; omega)) ih h.2
      | 6 :: t, h => cases k5
theorem fv_ne {M' : Mm} {a k j : Nat} {t : List Nat} (hj : j ≠ k) (h1 : ∀ i, i ≠ k → M'.1 a i = M.1 a i) (h2 : ∀ i, i ≠ k → M'.2.1 a i = M.2.1 a i) (h3 : ∀ i, i ≠ k → M'.2.2 a i = M.2.2 a i) : fv ad M' a j t = fv ad M a j t := fv_of (h1 j hj) (h2 j hj) (h3 j hj)
theorem upf_ne {α : Type} {f : Nat → α} {k j : Nat} {v : α} (h : j ≠ k) : upf f k v j = f j := if_neg h
theorem upf_eq {α : Type} {f : Nat → α} {k : Nat} {v : α} : upf f k v k = v := if_pos rfl
theorem put_w (B : Bd p R s m args c D ad cA y cn d G cf sf) {K : List Value → List Value → Mm → Prop} {idx : Nat} {inf ps : List Nat} (hd : decode (yB y) pc = .ok (.putfield idx, 3)) (hk : linkOK cn (idx, 0, inf, ps) = true) (ih : ∀ L S M, K L S M → AtW p l e R s m args below meth c Q D ad cA y G cf sf (pc + 3) L S M)
    (h : match inf with | ci :: k :: t => wpPut S ci k M (fun r M' => K L r M') t | _ => False) : AtW p l e R s m args below meth c Q D ad cA y G cf sf pc L S M := by
  match inf, h with
  | ci :: k :: t, h =>
    rcases link0 hk with ⟨rfl, rfl, ⟨t', rfl⟩, w⟩ | ⟨k1, k2, k3, k4, k5, k6⟩
    · exact h.elim
    · have hfin : ∀ b : Bool, (b && !((cq ci).2.1 k).2.2.2) = true → b = true ∧ ((cq ci).2.1 k).2.2.2 = false := fun b q => by
        rw [Bool.and_eq_true] at q
        exact ⟨q.1, by simpa using q.2⟩
      match t, h with
      | 0 :: t, h =>
        obtain ⟨v, r1, rfl, h1⟩ := popI_e h
        obtain ⟨a, r, rfl, ha, h2⟩ := popA_e h1
        obtain ⟨f1, f2⟩ := hfin _ k5
        have f1 := of_decide_eq_true f1
        exact o_put B hd k1 k2 k3 k6 f2 ha (M' := sI M a k v) (v := .int v) (by rw [k4]; show _ = Value.int ((sI M a k v).1 a k); rw [sI_at]; show _ = Value.int (upf (M.1 a) k v k); rw [upf_eq]; rfl) (fun j hj => fv_ne hj (fun i hi => by rw [sI_at]; exact upf_ne hi) (fun _ _ => rfl) (fun _ _ => rfl)) (fun b hb => ent_sI hb) rfl (by rw [f1]; rfl) (by rw [f1]; rfl) ih h2
      | 5 :: t, h =>
        obtain ⟨v, r1, rfl, h1⟩ := popI_e h
        obtain ⟨a, r, rfl, ha, hv, h2⟩ := popA_e h1
        obtain ⟨f1, f2⟩ := hfin _ k5
        have f1 := of_decide_eq_true f1
        exact o_put B hd k1 k2 k3 k6 f2 ha (M' := sI M a k v) (v := .int v) (by rw [k4]; show _ = Value.int ((sI M a k v).1 a k); rw [sI_at]; show _ = Value.int (upf (M.1 a) k v k); rw [upf_eq]; rfl) (fun j hj => fv_ne hj (fun i hi => by rw [sI_at]; exact upf_ne hi) (fun _ _ => rfl) (fun _ _ => rfl)) (fun b hb => ent_sI hb) rfl (by rw [f1]; rcases hv with rfl | rfl <;> rfl) (by rw [f1]; rcases hv with rfl | rfl <;> rfl) ih h2
      | 1 :: t, h =>
        obtain ⟨v, r1, rfl, h1⟩ := popL_e h
        obtain ⟨a, r, rfl, ha, h2⟩ := popA_e h1
        obtain ⟨f1, f2⟩ := hfin _ k5
        have f1 := of_decide_eq_true f1
        exact o_put B hd k1 k2 k3 k6 f2 ha (M' := sL M a k v) (v := .long v) (by rw [k4]; show _ = Value.long ((sL M a k v).2.1 a k); rw [sL_at]; show _ = Value.long (upf (M.2.1 a) k v k); rw [upf_eq]; rfl) (fun j hj => fv_ne hj (fun _ _ => rfl) (fun i hi => by rw [sL_at]; exact upf_ne hi) (fun _ _ => rfl)) (fun b hb => ent_sL hb) rfl (by rw [f1]; rfl) (by rw [f1]; rfl) ih h2
      | 2 :: t, h =>
        obtain ⟨v, r1, rfl, h1⟩ := popA_e h
        obtain ⟨a, r, rfl, ha, h2⟩ := popA_e h1
        obtain ⟨f1, f2⟩ := hfin _ k5
        have hz : ∃ z, tyq ci k = .object z := by
          split at f1
          · exact ⟨_, by assumption⟩
          · cases f1
        obtain ⟨z, f1⟩ := hz
        have hv : pv ad (.ref v) = .null ∨ ∃ q, pv ad (.ref v) = .ref q := by
          by_cases q : v = 0
          · subst q; exact Or.inl rfl
          · exact Or.inr ⟨_, pv_ref q⟩
        exact o_put B hd k1 k2 k3 k6 f2 ha (M' := sR M a k v) (v := .ref v) (by rw [k4]; show _ = va_rf (po ad ((sR M a k v).2.2 a k)); rw [sR_at, upf_eq]; rfl) (fun j hj => fv_ne hj (fun _ _ => rfl) (fun _ _ => rfl) (fun i hi => by rw [sR_at]; exact upf_ne hi)) (fun b hb => ent_sR hb) (gh_sR (by omega)) (by rw [f1]; rcases hv with q | ⟨q1, q⟩ <;> rw [q] <;> rfl) (by rw [f1]; rcases hv with q | ⟨q1, q⟩ <;> rw [q] <;> rfl) ih h2
theorem gets_w (B : Bd p R s m args c D ad cA y cn d G cf sf) {K : List Value → List Value → Mm → Prop} {idx b : Nat} {ps : List Nat} (hd : decode (yB y) pc = .ok (.getstatic idx, 3)) (hk : linkOK cn (idx, 1, [b], ps) = true) (ih : ∀ L S M, K L S M → AtW p l e R s m args below meth c Q D ad cA y G cf sf (pc + 3) L S M)
    (h : K L (.ref b :: S) M) : AtW p l e R s m args below meth c Q D ad cA y G cf sf pc L S M := by
  have hk : (if b = 650 then inP (ps.getD 0 0) (.fieldLink (Rn cn) idx RX0 "$SwitchMap$BagsRiver$Word" "[I") else if b = 651 then inP (ps.getD 0 0) (.fieldLink (Rn cn) idx RX11 "ALL" "[LBagsRiver$Word;") else Nat.ble 600 b && Nat.blt b 623 && inP (ps.getD 0 0) (.fieldLink (Rn cn) idx RX11 (wordN.getD (b - 600) "") "LBagsRiver$Word;")) = true := hk
  by_cases h1 : b = 650
  · subst h1
    exact o_gets B hd (inP_gtb hk) B.2.2.2.2.2.2.2.1.2.2.2.2.1 (by decide) ih h
  · rw [if_neg h1] at hk
    by_cases h2 : b = 651
    · subst h2
      exact o_gets B hd (inP_gtb hk) B.2.2.2.2.2.2.2.1.2.2.1 (by decide) ih h
    · rw [if_neg h2] at hk
      simp only [Bool.and_eq_true] at hk
      obtain ⟨⟨k1, k2⟩, k3⟩ := hk
      have k1 := Nat.le_of_ble_eq_true k1
      have k2 := Nat.le_of_ble_eq_true k2
      have hz := (B.2.2.2.2.2.2.2.1.1.1 (b - 600) (show b - 600 < 23 by omega)).1
      dsimp only at hz
      rw [show 600 + (b - 600) = b by omega] at hz
      exact o_gets B hd (inP_gtb k3) hz (by omega) ih h
theorem iald_w (B : Bd p R s m args c D ad cA y cn d G cf sf) {K : List Value → List Value → Mm → Prop} {inf : List Nat} {lawf : Bool} {X : Nat × (Nat → Int32)} (hd : decode (yB y) pc = .ok (.iaload, 1)) (hs : sideI lawf y cn pc .iaload inf = true) (hSc : ScW lawf s ad X) (ih : ∀ L S M, K L S M → AtW p l e R s m args below meth c Q D ad cA y G cf sf (pc + 1) L S M)
    (h : wpAld X S M (fun r => K L r M) inf) : AtW p l e R s m args below meth c Q D ad cA y G cf sf pc L S M := by
  match inf, h with
  | [], h => exact o_iald B hd ih h
  | 1 :: t, h => exact o_ialdS B hd ih h
  | 2 :: t, h =>
    obtain ⟨x1, x2, x3⟩ := hSc hs
    obtain ⟨i, r1, rfl, h1⟩ := popI_e h
    obtain ⟨a, r, rfl, rfl, hi, h2⟩ := popA_e h1
    intro hg H locs ls hl hP hS
    have h3 := ih _ _ _ h2 hg H locs ls hl hP hS
    rw [List.map_cons, List.map_cons, pv_ref (by decide)]
    exact va_sld B.1 B.2.1 x1 x2 x3 hS hi hd h3
theorem alen_w (B : Bd p R s m args c D ad cA y cn d G cf sf) {K : List Value → List Value → Mm → Prop} {inf : List Nat} {lawf : Bool} {X : Nat × (Nat → Int32)} {a : Nat} {r : List Value} (hd : decode (yB y) pc = .ok (.arraylength, 1)) (hs : sideI lawf y cn pc .arraylength inf = true) (hSc : ScW lawf s ad X) (ih : ∀ L S M, K L S M → AtW p l e R s m args below meth c Q D ad cA y G cf sf (pc + 1) L S M)
    (h : wpAlen X a (fun v => K L (.int v :: r) M) inf) : AtW p l e R s m args below meth c Q D ad cA y G cf sf pc L (.ref a :: r) M := by
  match inf, h with
  | [], h => exact o_alen B hd ih h.1 h.2
  | 2 :: t, h =>
    obtain ⟨x1, x2, x3⟩ := hSc hs
    obtain ⟨rfl, h2⟩ := h
    intro hg H locs ls hl hP hS
    have h3 := ih _ _ _ h2 hg H locs ls hl hP hS
    rw [List.map_cons, pv_ref (by decide)]
    exact va_slen B.1 B.2.1 x1 x2 x3 hS hd h3
  | 3 :: t, h =>
    obtain ⟨rfl, h2⟩ := h
    exact o_alenA B hd ih h2
theorem aald_w (B : Bd p R s m args c D ad cA y cn d G cf sf) {K : List Value → List Value → Mm → Prop} {inf : List Nat} {lawf : Bool} (hd : decode (yB y) pc = .ok (.aaload, 1)) (hs : sideI lawf y cn pc .aaload inf = true) (ih : ∀ L S M, K L S M → AtW p l e R s m args below meth c Q D ad cA y G cf sf (pc + 1) L S M)
    (h : wpAald S M (fun r => K L r M) inf) : AtW p l e R s m args below meth c Q D ad cA y G cf sf pc L S M := by
  match inf, h with
  | [], h => exact o_aald B hd ih h
  | 1 :: b :: base :: stride :: t, h =>
    have hs : (Nat.ble 105 (lay b) && (Nat.blt (lay b) 108 && (decide (cbs b = (base, stride)) && Nat.blt 0 base))) = true := hs
    simp only [Bool.and_eq_true, decide_eq_true_eq] at hs
    exact o_aaldC B hd ⟨Nat.le_of_ble_eq_true hs.1, Nat.le_of_ble_eq_true hs.2.1⟩ hs.2.2.1 (Nat.le_of_ble_eq_true hs.2.2.2) ih h
  | 2 :: t, h => exact o_aaldA B hd ih h
theorem iret_w {Rt : Option Value → Mm → Prop} {inf : List Nat} {lawf : Bool} {x : Int32} (hR : RtW p l e R s m args below meth c Q D ad cA y G cf sf Rt) (hd : decode (yB y) pc = .ok (.ireturn, 1)) (hs : sideI lawf y cn pc .ireturn inf = true) (h : wpRet Rt M x inf) : AtW p l e R s m args below meth c Q D ad cA y G cf sf pc L [.int x] M := by
  intro hg H locs ls hl hP hS
  match inf, h with
  | [], h => exact hR _ _ h hg _ _ _ _ hP hS (Or.inl ⟨x, rfl, hd, Or.inl (of_decide_eq_true hs)⟩)
  | a :: t, h => exact hR _ _ h.2 hg _ _ _ _ hP hS (Or.inl ⟨x, rfl, hd, Or.inr ⟨of_decide_eq_true hs, h.1⟩⟩)
theorem stat_w (B : Bd p R s m args c D ad cA y cn d G cf sf) {K : List Value → Mm → Prop} {idx : Nat} {inf : List Nat} {lawf : Bool} {E : EE} (hd : decode (yB y) pc = .ok (.invokestatic idx, 3)) (hs : sideI lawf y cn pc (.invokestatic idx) inf = true) (hE : ∀ z, z ∉ yLaw → ∀ as M v M', E z as M v M' → Ev d z as M v M') (h11 : C11 lawf E p l e R s m args below meth c Q D ad cA y G cf sf) (ih : ∀ S M, K S M → AtW p l e R s m args below meth c Q D ad cA y G cf sf (pc + 3) L S M)
    (h : wpCall E S M K inf) : AtW p l e R s m args below meth c Q D ad cA y G cf sf pc L S M := by
  match inf, h with
  | 0 :: z :: n :: rk :: t, h =>
    obtain ⟨ps, hk⟩ := inCp_e (show inCp cn 2 idx (0 :: z :: n :: rk :: t) = true from hs)
    have hk : (decide (z ∈ yS) && Nat.blt z 281 && !decide (z ∈ yLaw) && parN (yN z) n && (decide ((cn, idx, z) ∈ nestQ) || inP (ps.getD 0 0) (.methodLink (Rn cn) idx (yN z)))) = true := hk
    simp only [Bool.and_eq_true, Bool.or_eq_true, decide_eq_true_eq, Bool.not_eq_true', decide_eq_false_iff_not] at hk
    obtain ⟨⟨⟨⟨q1, q2⟩, q3⟩, q4⟩, q5⟩ := hk
    exact o_callS B hd (Nat.le_of_ble_eq_true q2) q3 q1 q4 (q5.imp id inP_gtb) (hE z q3) ih h
  | 7 :: t, h =>
    obtain ⟨ps, hk⟩ := inCp_e (show inCp cn 2 idx (7 :: t) = true from hs)
    have hk : (inP (ps.getD 0 0) (.methodLink (Rn cn) idx Lib.Math.max.name) && inP (ps.getD 1 0) (.static Lib.Math.max.name) && inP (ps.getD 2 0) (.initialized "java/lang/Math") && inP (ps.getD 3 0) (.code Lib.Math.max.name Lib.Math.max.code 2 (some .int))) = true := hk
    simp only [Bool.and_eq_true] at hk
    exact o_mmax B hd (inP_gtb hk.1.1.1) (inP_gtb hk.1.1.2) (inP_gtb hk.1.2) (inP_gtb hk.2) ih h
  | 6 :: t, h =>
    obtain ⟨ps, hk⟩ := inCp_e (show inCp cn 2 idx (6 :: t) = true from hs)
    have hk : (inP (ps.getD 0 0) (.methodLink (Rn cn) idx Lib.Math.min.name) && inP (ps.getD 1 0) (.static Lib.Math.min.name) && inP (ps.getD 2 0) (.initialized "java/lang/Math") && inP (ps.getD 3 0) (.code Lib.Math.min.name Lib.Math.min.code 2 (some .int))) = true := hk
    simp only [Bool.and_eq_true] at hk
    exact o_mmin B hd (inP_gtb hk.1.1.1) (inP_gtb hk.1.1.2) (inP_gtb hk.1.2) (inP_gtb hk.2) ih h
  | 8 :: t, h =>
    obtain ⟨ps, hk⟩ := inCp_e (show inCp cn 2 idx (8 :: t) = true from hs)
    have hk : (inP (ps.getD 0 0) (.methodLink (Rn cn) idx arraycopyName) && inP (ps.getD 1 0) (.native arraycopyName) && inP (ps.getD 2 0) (.static arraycopyName) && inP (ps.getD 3 0) (.initialized "java/lang/System")) = true := hk
    simp only [Bool.and_eq_true] at hk
    exact o_cpyI B hd (inP_gtb hk.1.1.1) (inP_gtb hk.1.1.2) (inP_gtb hk.1.2) (inP_gtb hk.2) ih h
  | 9 :: t, h =>
    obtain ⟨ps, hk⟩ := inCp_e (show inCp cn 2 idx (9 :: t) = true from hs)
    have hk : (inP (ps.getD 0 0) (.methodLink (Rn cn) idx arraycopyName) && inP (ps.getD 1 0) (.native arraycopyName) && inP (ps.getD 2 0) (.static arraycopyName) && inP (ps.getD 3 0) (.initialized "java/lang/System")) = true := hk
    simp only [Bool.and_eq_true] at hk
    exact o_cpyL B hd (inP_gtb hk.1.1.1) (inP_gtb hk.1.1.2) (inP_gtb hk.1.2) (inP_gtb hk.2) ih h
  | 11 :: z :: n :: rk :: t, h =>
    have hs : (lawf && decide ((idx, 11 :: z :: n :: rk :: t) ∈ law11)) = true := hs
    rw [Bool.and_eq_true, decide_eq_true_eq] at hs
    exact h11 hs.1 pc idx z n rk t L S M K hd hs.2 ih h
  | 1 :: t, _ => cases hs
  | 10 :: t, _ => cases hs
theorem virt_w (B : Bd p R s m args c D ad cA y cn d G cf sf) {K : List Value → Mm → Prop} {idx : Nat} {inf : List Nat} {lawf : Bool} {E : EE} (hd : decode (yB y) pc = .ok (.invokevirtual idx, 3)) (hs : sideI lawf y cn pc (.invokevirtual idx) inf = true) (hE : ∀ z, z ∉ yLaw → ∀ as M v M', E z as M v M' → Ev d z as M v M') (ih : ∀ S M, K S M → AtW p l e R s m args below meth c Q D ad cA y G cf sf (pc + 3) L S M)
    (h : wpCall E S M K inf) : AtW p l e R s m args below meth c Q D ad cA y G cf sf pc L S M := by
  match inf, h with
  | 1 :: z :: n :: rk :: cl :: t, h =>
    obtain ⟨ps, hk⟩ := inCp_e (show inCp cn 2 idx (1 :: z :: n :: rk :: cl :: t) = true from hs)
    have hk : (!decide (z ∈ yS) && Nat.blt z 281 && !decide (z ∈ yLaw) && parN (yN z) n && inP (ps.getD 0 0) (.methodLink (Rn cn) idx (yN z)) && decide ((yN z).cls = (cq (cl - 1)).1) && Nat.ble 1 cl && Nat.ble cl 12) = true := hk
    simp only [Bool.and_eq_true, decide_eq_true_eq, Bool.not_eq_true', decide_eq_false_iff_not] at hk
    obtain ⟨⟨⟨⟨⟨⟨⟨q1, q2⟩, q3⟩, q4⟩, q5⟩, q6⟩, q7⟩, q8⟩ := hk
    exact o_callV B hd (Nat.le_of_ble_eq_true q2) q3 q1 q4 (inP_gtb q5) q6 ⟨Nat.le_of_ble_eq_true q7, Nat.le_of_ble_eq_true q8⟩ (hE z q3) ih h
  | 10 :: t, h =>
    obtain ⟨ps, hk⟩ := inCp_e (show inCp cn 2 idx (10 :: t) = true from hs)
    have hk : (inP (ps.getD 0 0) (.methodLink (Rn cn) idx xOrd) && inP (ps.getD 1 0) (.sameMethod xOrd.cls "java/lang/Enum" xOrd.name xOrd.desc) && inP (ps.getD 2 0) (.selects RX11 xOrd yOrd) && inP (ps.getD 3 0) (.instanceMethod yOrd) && inP (ps.getD 4 0) (.initialized yOrd.cls) && inP (ps.getD 5 0) (.code yOrd cJx29ce0_ordinal_8abf5 1 (some .int)) && inP (ps.getD 6 0) (.fieldLink RJx29ce0 7 "java/lang/Enum" "ordinal" "I")) = true := hk
    simp only [Bool.and_eq_true] at hk
    exact o_ord B hd (inP_gtb hk.1.1.1.1.1.1) (inP_gtb hk.1.1.1.1.1.2) (inP_gtb hk.1.1.1.1.2) (inP_gtb hk.1.1.1.2) (inP_gtb hk.1.1.2) (inP_gtb hk.1.2) (inP_gtb hk.2) ih h
  | 0 :: t, _ => cases hs
  | 7 :: t, _ => cases hs
  | 6 :: t, _ => cases hs
  | 8 :: t, _ => cases hs
  | 9 :: t, _ => cases hs
  | 11 :: t, _ => cases hs

theorem snd (B : Bd p R s m args c D ad cA y cn d G cf sf) {Rt : Option Value → Mm → Prop} {X : Nat × (Nat → Int32)} {E : EE} {lawf : Bool} {C : List Op} (hC : chk lawf y cn C = true) (hE : ∀ z, z ∉ yLaw → ∀ as M v M', E z as M v M' → Ev d z as M v M') (hR : RtW p l e R s m args below meth c Q D ad cA y G cf sf Rt) (hSc : ScW lawf s ad X) (h11 : C11 lawf E p l e R s m args below meth c Q D ad cA y G cf sf) :
    ∀ (n : Nat) (is : List Op), chk lawf y cn is = true → ∀ (L S : List Value) (M : Mm) (o : Op) (r : List Op), is = o :: r → wp E (AtW p l e R s m args below meth c Q D ad cA y G cf sf) Rt X C n is L S M → AtW p l e R s m args below meth c Q D ad cA y G cf sf o.1 L S M := by
  intro n
  induction n with
  | zero => intro is _ L S M o r _ h; exact h.elim
  | succ n ih =>
  intro is hchk L S M o r his h
  subst his
  obtain ⟨pc, i, inf⟩ := o
  have ijn : ∀ t, ∀ L S M, wp E (AtW p l e R s m args below meth c Q D ad cA y G cf sf) Rt X C n (jm C t) L S M → AtW p l e R s m args below meth c Q D ad cA y G cf sf t L S M := by
    intro t L S M h
    obtain ⟨q1, q2⟩ := jm_chk (t := t) hC
    cases hj : jm C t with
    | nil =>
      rw [hj] at h
      cases n with
      | zero => exact h.elim
      | succ n => exact h.elim
    | cons o r =>
      have e := q2 o r hj
      rw [← e]
      rw [hj] at q1 h
      exact ih _ q1 L S M o r rfl h
  unfold chk at hchk
  rw [Bool.and_eq_true] at hchk
  obtain ⟨hr, hchk⟩ := hchk
  have ihr : ∀ (pc' : Nat), hdP r = some pc' → ∀ L S M, wp E (AtW p l e R s m args below meth c Q D ad cA y G cf sf) Rt X C n r L S M → AtW p l e R s m args below meth c Q D ad cA y G cf sf pc' L S M := by
    intro pc' hp L S M h
    cases r with
    | nil => cases hp
    | cons o r =>
      cases hp
      exact ih _ hr L S M o r rfl h
  dsimp only at hchk
  by_cases hi : i = .nop
  · subst hi
    intro hg H locs ls hl hP hS
    exact h hg H locs ls hl.msk hP hS
  have hnop : isNop i = false := by
    cases i <;> first | rfl | exact absurd rfl hi
  rw [hnop] at hchk
  dsimp only at hchk
  rw [Bool.and_eq_true, Bool.and_eq_true] at hchk
  obtain ⟨hdec, hs, hnx⟩ := hchk
  obtain ⟨len, hd, hlen⟩ := decOK_e hdec
  have ih2 : endI i = false → ∀ L S M, wp E (AtW p l e R s m args below meth c Q D ad cA y G cf sf) Rt X C n r L S M → AtW p l e R s m args below meth c Q D ad cA y G cf sf (pc + lenI i) L S M := by
    intro he
    rw [he] at hnx
    exact ihr _ (of_decide_eq_true hnx)
  cases i with
  | iconst a1 =>
    have hlen := hlen (fun _ _ _ _ q => by cases q) (fun _ _ q => by cases q)
    subst hlen
    have ih2 := ih2 rfl
    exact o_iconst B hd ih2 h
  | lconst a1 =>
    have hlen := hlen (fun _ _ _ _ q => by cases q) (fun _ _ q => by cases q)
    subst hlen
    have ih2 := ih2 rfl
    exact o_lconst B hd ih2 h
  | aconst_null  =>
    have hlen := hlen (fun _ _ _ _ q => by cases q) (fun _ _ q => by cases q)
    subst hlen
    have ih2 := ih2 rfl
    exact o_null B hd ih2 h
  | iload_n a1 =>
    have hlen := hlen (fun _ _ _ _ q => by cases q) (fun _ _ q => by cases q)
    subst hlen
    have ih2 := ih2 rfl
    exact o_iloadn B hd ih2 h
  | iload a1 =>
    have hlen := hlen (fun _ _ _ _ q => by cases q) (fun _ _ q => by cases q)
    subst hlen
    have ih2 := ih2 rfl
    exact o_iload B hd ih2 h
  | lload_n a1 =>
    have hlen := hlen (fun _ _ _ _ q => by cases q) (fun _ _ q => by cases q)
    subst hlen
    have ih2 := ih2 rfl
    exact o_lloadn B hd ih2 h
  | lload a1 =>
    have hlen := hlen (fun _ _ _ _ q => by cases q) (fun _ _ q => by cases q)
    subst hlen
    have ih2 := ih2 rfl
    exact o_lload B hd ih2 h
  | aload_n a1 =>
    have hlen := hlen (fun _ _ _ _ q => by cases q) (fun _ _ q => by cases q)
    subst hlen
    have ih2 := ih2 rfl
    exact o_aloadn B hd ih2 h
  | aload a1 =>
    have hlen := hlen (fun _ _ _ _ q => by cases q) (fun _ _ q => by cases q)
    subst hlen
    have ih2 := ih2 rfl
    exact o_aload B hd ih2 h
  | iadd  =>
    have hlen := hlen (fun _ _ _ _ q => by cases q) (fun _ _ q => by cases q)
    subst hlen
    have ih2 := ih2 rfl
    exact o_iadd B hd ih2 h
  | isub  =>
    have hlen := hlen (fun _ _ _ _ q => by cases q) (fun _ _ q => by cases q)
    subst hlen
    have ih2 := ih2 rfl
    exact o_isub B hd ih2 h
  | imul  =>
    have hlen := hlen (fun _ _ _ _ q => by cases q) (fun _ _ q => by cases q)
    subst hlen
    have ih2 := ih2 rfl
    exact o_imul B hd ih2 h
  | idiv  =>
    have hlen := hlen (fun _ _ _ _ q => by cases q) (fun _ _ q => by cases q)
    subst hlen
    have ih2 := ih2 rfl
    exact o_idiv B hd ih2 h
  | irem  =>
    have hlen := hlen (fun _ _ _ _ q => by cases q) (fun _ _ q => by cases q)
    subst hlen
    have ih2 := ih2 rfl
    exact o_irem B hd ih2 h
  | iand  =>
    have hlen := hlen (fun _ _ _ _ q => by cases q) (fun _ _ q => by cases q)
    subst hlen
    have ih2 := ih2 rfl
    exact o_iand B hd ih2 h
  | ior  =>
    have hlen := hlen (fun _ _ _ _ q => by cases q) (fun _ _ q => by cases q)
    subst hlen
    have ih2 := ih2 rfl
    exact o_ior B hd ih2 h
  | ixor  =>
    have hlen := hlen (fun _ _ _ _ q => by cases q) (fun _ _ q => by cases q)
    subst hlen
    have ih2 := ih2 rfl
    exact o_ixor B hd ih2 h
  | ishl  =>
    have hlen := hlen (fun _ _ _ _ q => by cases q) (fun _ _ q => by cases q)
    subst hlen
    have ih2 := ih2 rfl
    exact o_ishl B hd ih2 h
  | ishr  =>
    have hlen := hlen (fun _ _ _ _ q => by cases q) (fun _ _ q => by cases q)
    subst hlen
    have ih2 := ih2 rfl
    exact o_ishr B hd ih2 h
  | iushr  =>
    have hlen := hlen (fun _ _ _ _ q => by cases q) (fun _ _ q => by cases q)
    subst hlen
    have ih2 := ih2 rfl
    exact o_iushr B hd ih2 h
  | i2l  =>
    have hlen := hlen (fun _ _ _ _ q => by cases q) (fun _ _ q => by cases q)
    subst hlen
    have ih2 := ih2 rfl
    exact o_i2l B hd ih2 h
  | i2b  =>
    have hlen := hlen (fun _ _ _ _ q => by cases q) (fun _ _ q => by cases q)
    subst hlen
    have ih2 := ih2 rfl
    exact o_i2b B hd ih2 h
  | ladd  =>
    have hlen := hlen (fun _ _ _ _ q => by cases q) (fun _ _ q => by cases q)
    subst hlen
    have ih2 := ih2 rfl
    exact o_ladd B hd ih2 h
  | lmul  =>
    have hlen := hlen (fun _ _ _ _ q => by cases q) (fun _ _ q => by cases q)
    subst hlen
    have ih2 := ih2 rfl
    exact o_lmul B hd ih2 h
  | lor  =>
    have hlen := hlen (fun _ _ _ _ q => by cases q) (fun _ _ q => by cases q)
    subst hlen
    have ih2 := ih2 rfl
    exact o_lor B hd ih2 h
  | lshl  =>
    have hlen := hlen (fun _ _ _ _ q => by cases q) (fun _ _ q => by cases q)
    subst hlen
    have ih2 := ih2 rfl
    exact o_lshl B hd ih2 h
  | lcmp  =>
    have hlen := hlen (fun _ _ _ _ q => by cases q) (fun _ _ q => by cases q)
    subst hlen
    have ih2 := ih2 rfl
    exact o_lcmp B hd ih2 h
  | dup  =>
    have hlen := hlen (fun _ _ _ _ q => by cases q) (fun _ _ q => by cases q)
    subst hlen
    have ih2 := ih2 rfl
    exact o_dup B hd ih2 h
  | dup2  =>
    have hlen := hlen (fun _ _ _ _ q => by cases q) (fun _ _ q => by cases q)
    subst hlen
    have ih2 := ih2 rfl
    exact o_dup2 B hd ih2 h
  | pop  =>
    have hlen := hlen (fun _ _ _ _ q => by cases q) (fun _ _ q => by cases q)
    subst hlen
    have ih2 := ih2 rfl
    exact o_pop B hd ih2 h
  | laload  =>
    have hlen := hlen (fun _ _ _ _ q => by cases q) (fun _ _ q => by cases q)
    subst hlen
    have ih2 := ih2 rfl
    exact o_lald B hd ih2 h
  | baload  =>
    have hlen := hlen (fun _ _ _ _ q => by cases q) (fun _ _ q => by cases q)
    subst hlen
    have ih2 := ih2 rfl
    exact o_bald B hd ih2 h
  | iastore  =>
    have hlen := hlen (fun _ _ _ _ q => by cases q) (fun _ _ q => by cases q)
    subst hlen
    have ih2 := ih2 rfl
    exact o_iast B hd ih2 h
  | lastore  =>
    have hlen := hlen (fun _ _ _ _ q => by cases q) (fun _ _ q => by cases q)
    subst hlen
    have ih2 := ih2 rfl
    exact o_last B hd ih2 h
  | bastore  =>
    have hlen := hlen (fun _ _ _ _ q => by cases q) (fun _ _ q => by cases q)
    subst hlen
    have ih2 := ih2 rfl
    exact o_bast B hd ih2 h
  | aastore  =>
    have hlen := hlen (fun _ _ _ _ q => by cases q) (fun _ _ q => by cases q)
    subst hlen
    have ih2 := ih2 rfl
    exact o_aast B hd ih2 h
  | bipush a1 =>
    have hlen := hlen (fun _ _ _ _ q => by cases q) (fun _ _ q => by cases q)
    subst hlen
    have ih2 := ih2 rfl
    exact o_bipush B (of_decide_eq_true hs) hd ih2 h
  | sipush a1 =>
    have hlen := hlen (fun _ _ _ _ q => by cases q) (fun _ _ q => by cases q)
    subst hlen
    have ih2 := ih2 rfl
    exact o_sipush B (of_decide_eq_true hs) hd ih2 h
  | ldc a1 =>
    have hlen := hlen (fun _ _ _ _ q => by cases q) (fun _ _ q => by cases q)
    subst hlen
    have ih2 := ih2 rfl
    obtain ⟨ps, hk⟩ := inCp_e hs
    exact o_ldc B (inP_gtb hk) hd ih2 h
  | ldc_w a1 =>
    have hlen := hlen (fun _ _ _ _ q => by cases q) (fun _ _ q => by cases q)
    subst hlen
    have ih2 := ih2 rfl
    obtain ⟨ps, hk⟩ := inCp_e hs
    exact o_ldcw B (inP_gtb hk) hd ih2 h
  | ldc2_w a1 =>
    have hlen := hlen (fun _ _ _ _ q => by cases q) (fun _ _ q => by cases q)
    subst hlen
    have ih2 := ih2 rfl
    obtain ⟨ps, hk⟩ := inCp_e hs
    exact o_ldc2 B (inP_gtb hk) hd ih2 h
  | istore_n a1 =>
    have hlen := hlen (fun _ _ _ _ q => by cases q) (fun _ _ q => by cases q)
    subst hlen
    have ih2 := ih2 rfl
    exact o_istoren B (Nat.le_of_ble_eq_true hs) hd ih2 h
  | istore a1 =>
    have hlen := hlen (fun _ _ _ _ q => by cases q) (fun _ _ q => by cases q)
    subst hlen
    have ih2 := ih2 rfl
    exact o_istore B (Nat.le_of_ble_eq_true hs) hd ih2 h
  | astore_n a1 =>
    have hlen := hlen (fun _ _ _ _ q => by cases q) (fun _ _ q => by cases q)
    subst hlen
    have ih2 := ih2 rfl
    exact o_astoren B (Nat.le_of_ble_eq_true hs) hd ih2 h
  | astore a1 =>
    have hlen := hlen (fun _ _ _ _ q => by cases q) (fun _ _ q => by cases q)
    subst hlen
    have ih2 := ih2 rfl
    exact o_astore B (Nat.le_of_ble_eq_true hs) hd ih2 h
  | lstore_n a1 =>
    have hlen := hlen (fun _ _ _ _ q => by cases q) (fun _ _ q => by cases q)
    subst hlen
    have ih2 := ih2 rfl
    exact o_lstoren B (Nat.le_of_ble_eq_true hs) hd ih2 h
  | lstore a1 =>
    have hlen := hlen (fun _ _ _ _ q => by cases q) (fun _ _ q => by cases q)
    subst hlen
    have ih2 := ih2 rfl
    exact o_lstore B (Nat.le_of_ble_eq_true hs) hd ih2 h
  | iinc a1 a2 =>
    have hlen := hlen (fun _ _ _ _ q => by cases q) (fun _ _ q => by cases q)
    subst hlen
    have ih2 := ih2 rfl
    exact o_iinc B (Nat.le_of_ble_eq_true hs) hd ih2 h
  | goto a1 =>
    have hlen := hlen (fun _ _ _ _ q => by cases q) (fun _ _ q => by cases q)
    subst hlen
    exact o_goto (K := fun _ _ _ => False) B hd (of_decide_eq_true hs) (fun _ _ _ q => q.elim) (ijn (inf.getD 0 0)) h
  | if_icmp a1 a2 =>
    have hlen := hlen (fun _ _ _ _ q => by cases q) (fun _ _ q => by cases q)
    subst hlen
    have ih2 := ih2 rfl
    exact o_icmp B hd (of_decide_eq_true hs) ih2 (ijn (inf.getD 0 0)) h
  | ifCond a1 a2 =>
    have hlen := hlen (fun _ _ _ _ q => by cases q) (fun _ _ q => by cases q)
    subst hlen
    have ih2 := ih2 rfl
    exact o_ifc B hd (of_decide_eq_true hs) ih2 (ijn (inf.getD 0 0)) h
  | ifnull a1 =>
    have hlen := hlen (fun _ _ _ _ q => by cases q) (fun _ _ q => by cases q)
    subst hlen
    have ih2 := ih2 rfl
    exact o_ifnull B hd (of_decide_eq_true hs) ih2 (ijn (inf.getD 0 0)) h
  | ifnonnull a1 =>
    have hlen := hlen (fun _ _ _ _ q => by cases q) (fun _ _ q => by cases q)
    subst hlen
    have ih2 := ih2 rfl
    exact o_ifnonnull B hd (of_decide_eq_true hs) ih2 (ijn (inf.getD 0 0)) h
  | if_acmp a1 a2 =>
    have hlen := hlen (fun _ _ _ _ q => by cases q) (fun _ _ q => by cases q)
    subst hlen
    have ih2 := ih2 rfl
    exact o_acmp B hd (of_decide_eq_true hs) ih2 (ijn (inf.getD 0 0)) h
  | tableswitch a1 a2 a3 a4 =>
    unfold sideI at hs
    rw [Bool.and_eq_true, Bool.and_eq_true, Bool.and_eq_true, Bool.and_eq_true] at hs
    obtain ⟨h1, h2, h3, h4, h5⟩ := hs
    refine o_table (K2 := fun t => wp E _ Rt X C n (jm C t)) B hd (of_decide_eq_true h1) (of_decide_eq_true h2) (of_decide_eq_true h3) (of_decide_eq_true h4) (fun j t hj => ?_) (fun t _ => ijn t) h
    have hjl : j < inf.tail.length := (List.getElem?_eq_some_iff.mp hj).1
    have h6 := List.all_eq_true.mp h5 j (List.mem_range.mpr hjl)
    split at h6
    · rename_i off ho
      refine ⟨off, ho, ?_⟩
      have h7 := of_decide_eq_true h6
      rw [h7, List.getD_eq_getElem?_getD, hj]
      rfl
    · cases h6
  | lookupswitch a1 a2 =>
    unfold sideI at hs
    dsimp only at hs
    split at hs
    · rename_i o0 o1 td t0 t1 hps
      rw [Bool.and_eq_true, Bool.and_eq_true] at hs
      have hps2 : a2 = #[(0, o0), (1, o1)] := Array.toList_inj.mp hps
      subst hps2
      exact o_look2 (K2 := fun t => wp E _ Rt X C n (jm C t)) B hd (of_decide_eq_true hs.1) (of_decide_eq_true hs.2.1) (of_decide_eq_true hs.2.2) (fun t _ => ijn t) h
    · cases hs
  | getfield a1 =>
    have hlen := hlen (fun _ _ _ _ q => by cases q) (fun _ _ q => by cases q)
    subst hlen
    have ih2 := ih2 rfl
    obtain ⟨ps, hk⟩ := inCp_e hs
    obtain ⟨a, r, rfl, h⟩ := popA_e h
    exact get_w B hd hk ih2 h
  | putfield a1 =>
    have hlen := hlen (fun _ _ _ _ q => by cases q) (fun _ _ q => by cases q)
    subst hlen
    have ih2 := ih2 rfl
    obtain ⟨ps, hk⟩ := inCp_e hs
    exact put_w B hd hk ih2 h
  | getstatic a1 =>
    have hlen := hlen (fun _ _ _ _ q => by cases q) (fun _ _ q => by cases q)
    subst hlen
    have ih2 := ih2 rfl
    obtain ⟨ps, hk⟩ := inCp_e hs
    exact gets_w B hd hk ih2 h
  | invokestatic a1 =>
    have hlen := hlen (fun _ _ _ _ q => by cases q) (fun _ _ q => by cases q)
    subst hlen
    have ih2 := ih2 rfl
    exact stat_w B hd hs hE h11 (ih2 _) h
  | invokevirtual a1 =>
    have hlen := hlen (fun _ _ _ _ q => by cases q) (fun _ _ q => by cases q)
    subst hlen
    have ih2 := ih2 rfl
    exact virt_w B hd hs hE (ih2 _) h
  | iaload  =>
    have hlen := hlen (fun _ _ _ _ q => by cases q) (fun _ _ q => by cases q)
    subst hlen
    have ih2 := ih2 rfl
    exact iald_w B hd hs hSc ih2 h
  | aaload  =>
    have hlen := hlen (fun _ _ _ _ q => by cases q) (fun _ _ q => by cases q)
    subst hlen
    have ih2 := ih2 rfl
    exact aald_w B hd hs ih2 h
  | arraylength  =>
    have hlen := hlen (fun _ _ _ _ q => by cases q) (fun _ _ q => by cases q)
    subst hlen
    have ih2 := ih2 rfl
    obtain ⟨a, r, rfl, h⟩ := popA_e h
    exact alen_w B hd hs hSc ih2 h
  | ireturn  =>
    have hlen := hlen (fun _ _ _ _ q => by cases q) (fun _ _ q => by cases q)
    subst hlen
    obtain ⟨x, r, rfl, h⟩ := popI_e h
    obtain ⟨rfl, h⟩ := popN_e h
    exact iret_w hR hd hs h
  | lreturn  =>
    have hlen := hlen (fun _ _ _ _ q => by cases q) (fun _ _ q => by cases q)
    subst hlen
    obtain ⟨x, r, rfl, h⟩ := popL_e h
    obtain ⟨rfl, h⟩ := popN_e h
    intro hg H locs ls hl hP hS
    exact hR _ _ h hg _ _ _ _ hP hS (Or.inr (Or.inl ⟨x, rfl, hd, of_decide_eq_true hs⟩))
  | areturn  =>
    have hlen := hlen (fun _ _ _ _ q => by cases q) (fun _ _ q => by cases q)
    subst hlen
    obtain ⟨x, r, rfl, h⟩ := popA_e h
    obtain ⟨rfl, h⟩ := popN_e h
    unfold sideI at hs
    dsimp only at hs
    split at hs
    · rename_i z hz
      intro hg H locs ls hl hP hS
      exact hR _ _ h hg _ _ _ _ hP hS (Or.inr (Or.inr (Or.inl ⟨x, z, rfl, hd, hz⟩)))
    · cases hs
  | return_  =>
    have hlen := hlen (fun _ _ _ _ q => by cases q) (fun _ _ q => by cases q)
    subst hlen
    obtain ⟨rfl, h⟩ := popN_e h
    intro hg H locs ls hl hP hS
    exact hR _ _ h hg _ _ _ _ hP hS (Or.inr (Or.inr (Or.inr ⟨rfl, hd, of_decide_eq_true hs⟩)))
  | nop => exact absurd rfl hi
  | _ => cases hs
end SN7
end
section
/-! A METHOD's CONTRACT out of its code's formula -/
def entL (vs : List Value) : List Value := match vs with
  | [] => []
  | .long x :: r => .long x :: .retAddr 0 :: entL r
  | .double x :: r => .double x :: .retAddr 0 :: entL r
  | v :: r => v :: entL r
def jmT (C : List Op) (t : Nat) : List Op := match jm C t with
  | (_, .nop, _) :: r => r
  | _ => []
def X0 : Nat × (Nat → Int32) := (0, fun _ => 0)
def okM (y cn : Nat) (C : List Op) : Bool := chk false y cn C && (decide (Rn cn = (yN y).cls) && (plainName (yN y).cls && (Nat.blt y 281 && (!decide (y ∈ yLaw) && decide (hdP C = some 0)))))
theorem entL_mem {ad : Nat → Nat} : ∀ (vs : List Value) (k i : Nat) (w : Value), (entL vs)[i]? = some w → isRA w = false → (k + i, pv ad w) ∈ lv_args k (vs.map (pv ad)) := by
  intro vs
  have two : ∀ (v : Value) (r : List Value), v.category = 2 → (∀ (k i : Nat) (w : Value), (entL r)[i]? = some w → isRA w = false → (k + i, pv ad w) ∈ lv_args k (r.map (pv ad))) → ∀ (k i : Nat) (w : Value), (v :: .retAddr 0 :: entL r)[i]? = some w → isRA w = false → (k + i, pv ad w) ∈ lv_args k ((v :: r).map (pv ad)) := by
    intro v r hv ih k i w hi hw
    rw [List.map_cons]
    unfold lv_args
    rw [if_pos (by rw [pv_cat]; exact hv)]
    match i, hi with
    | 0, hi => cases hi; exact List.mem_cons_self
    | 1, hi => cases hi; cases hw
    | i + 2, hi =>
      have := ih (k + 2) i w hi hw
      rw [show k + 2 + i = k + (i + 2) by omega] at this
      exact List.mem_cons_of_mem _ this
  have one : ∀ (v : Value) (r : List Value), ¬ v.category = 2 → (∀ (k i : Nat) (w : Value), (entL r)[i]? = some w → isRA w = false → (k + i, pv ad w) ∈ lv_args k (r.map (pv ad))) → ∀ (k i : Nat) (w : Value), (v :: entL r)[i]? = some w → isRA w = false → (k + i, pv ad w) ∈ lv_args k ((v :: r).map (pv ad)) := by
    intro v r hv ih k i w hi hw
    rw [List.map_cons]
    unfold lv_args
    rw [if_neg (by rw [pv_cat]; exact hv)]
    match i, hi with
    | 0, hi => cases hi; exact List.mem_cons_self
    | i + 1, hi =>
      have := ih (k + 1) i w hi hw
      rw [show k + 1 + i = k + (i + 1) by omega] at this
      exact List.mem_cons_of_mem _ this
  induction vs with
  | nil => intro k i w h; simp [entL] at h
  | cons v r ih =>
    cases v with
    | long x => exact two _ r rfl ih
    | double x => exact two _ r rfl ih
    | int x => exact one _ r (by simp [Value.category]) ih
    | float x => exact one _ r (by simp [Value.category]) ih
    | null => exact one _ r (by simp [Value.category]) ih
    | ref x => exact one _ r (by simp [Value.category]) ih
    | retAddr x => exact one _ r (by simp [Value.category]) ih
theorem entL_len {ad : Nat → Nat} : ∀ vs : List Value, (lg_sl (vs.map (pv ad))).length = (entL vs).length := by
  intro vs
  have two : ∀ (v : Value) (r : List Value), v.category = 2 → (lg_sl (r.map (pv ad))).length = (entL r).length → (lg_sl ((v :: r).map (pv ad))).length = (entL r).length + 2 := by
    intro v r hv ih
    unfold lg_sl at ih ⊢
    rw [List.map_cons, List.flatMap_cons, if_pos (by rw [pv_cat]; exact hv), List.length_append, ih]
    simp
    omega
  have one : ∀ (v : Value) (r : List Value), ¬ v.category = 2 → (lg_sl (r.map (pv ad))).length = (entL r).length → (lg_sl ((v :: r).map (pv ad))).length = (entL r).length + 1 := by
    intro v r hv ih
    unfold lg_sl at ih ⊢
    rw [List.map_cons, List.flatMap_cons, if_neg (by rw [pv_cat]; exact hv), List.length_append, ih]
    simp
    omega
  induction vs with
  | nil => rfl
  | cons v r ih =>
    cases v with
    | long x => exact two _ r rfl ih
    | double x => exact two _ r rfl ih
    | int x => exact one _ r (by simp [Value.category]) ih
    | float x => exact one _ r (by simp [Value.category]) ih
    | null => exact one _ r (by simp [Value.category]) ih
    | ref x => exact one _ r (by simp [Value.category]) ih
    | retAddr x => exact one _ r (by simp [Value.category]) ih
theorem step_of {p : Program} {l : Launch} {e : Env} {R : Room} {s : State} {m : MethodId} {args : Array Value} {below : List Frame} {meth : Method} {c : Code} {Q : State → Prop} {D : va_G} {ad : Nat → Nat} {cA : Nat → ClassId} {y cn d : Nat} {G : Nat → Prop} {cf sf : Nat → Nat}
    (B : Bd p R s m args c D ad cA y cn d G cf sf) {Rt : Option Value → Mm → Prop} {X : Nat × (Nat → Int32)} {E : EE} {lawf : Bool} {C : List Op} (hC : chk lawf y cn C = true) (hE : ∀ z, z ∉ yLaw → ∀ as M v M', E z as M v M' → Ev d z as M v M') (hR : RtW p l e R s m args below meth c Q D ad cA y G cf sf Rt) (hSc : ScW lawf s ad X) (h11 : C11 lawf E p l e R s m args below meth c Q D ad cA y G cf sf)
    (n pc : Nat) (L S : List Value) (M : Mm) (h : wp E (AtW p l e R s m args below meth c Q D ad cA y G cf sf) Rt X C n (jmT C pc) L S M) : AtW p l e R s m args below meth c Q D ad cA y G cf sf pc L S M := by
  unfold jmT at h
  obtain ⟨q1, q2⟩ := jm_chk (t := pc) hC
  split at h
  · rename_i pc0 i0 r hj
    have e0 : pc0 = pc := q2 _ _ hj
    subst e0
    rw [hj] at q1
    unfold chk at q1
    rw [Bool.and_eq_true] at q1
    obtain ⟨qr, q3⟩ := q1
    have q3 : hdP r = some pc0 := of_decide_eq_true q3
    cases r with
    | nil => cases q3
    | cons o r =>
      have e1 : o.1 = pc0 := Option.some.inj q3
      rw [← e1]
      exact snd B hC hE hR hSc h11 n _ qr L S M o r rfl h
  · cases n <;> exact h.elim
theorem Ev.intro {y cn d : Nat} {C : List Op} {args L0 : List Value} {M M' : Mm} {r : Option Value} (hk : okM y cn C = true) (hle : Nat.ble (entL args).length (yM y) = true) (hL : L0 = entL args ++ List.replicate (yM y - (entL args).length) (.retAddr 0))
    (h : ∀ At : JJ, (∀ pc L S M, wp (Ev d) At (fun r' M'' => r' = r ∧ M'' = M') X0 C 1000 (jmT C pc) L S M → At pc L S M) → wp (Ev d) At (fun r' M'' => r' = r ∧ M'' = M') X0 C 1000 C L0 [] M) : Ev (d + 1) y args M r M' := by
  intro l D ad cA sz
  unfold okM at hk
  simp only [Bool.and_eq_true, decide_eq_true_eq, Bool.not_eq_true', decide_eq_false_iff_not] at hk
  obtain ⟨k1, k2, k3, k4, k5, k6⟩ := hk
  refine Met.ofW (cc := yB y) (maxL := yM y) (ret := yR y) k3 rfl ?_
  intro p e s m args' below meth c s₁ B hml hv
  obtain ⟨rfl, hsz, hP, hK, hD, hSx, hN⟩ := hv
  subst hsz
  have hts := atoms_spec (ws := wsY y) B.pre
  have hown : s.vm.findClass (yN y).cls = some m.cls := findClass_of_methodNamed B.named
  have hret := B.returns
  have hlocks := B.notSynchronized
  have hB : Bd p (rmD (d + 1)) s m (args.map (pv ad)).toArray c D ad cA y cn d (fun g => g = gh M) (fun _ => 0) (fun _ => 0) :=
    ⟨B.exec, B.bytes, hml, by rw [k2]; exact hown, fun w hw => hts w (wsY_gtb hw), hK, wsM_D hD, hSx, hN, ⟨Nat.le_refl _, Nat.le_refl _⟩, fun g _ => ⟨Nat.le_refl _, Nat.le_refl _⟩⟩
  have hR : RtW p l e (rmD (d + 1)) s m (args.map (pv ad)).toArray below meth c (MQ below (PostE D ad cA s.heap.size r M M') (args.map (pv ad)).toArray s 0 0 (AA ad s.heap.size)) D ad cA y (fun g => g = gh M) (fun _ => 0) (fun _ => 0) (fun r' M'' => r' = r ∧ M'' = M') := by
    intro r' M'' ⟨e1, e2⟩ hg pc H locs ls hP1 hS1 hcase
    subst e1; subst e2
    have hq : ∀ t : State, t.heap = H → PostE D ad cA s.heap.size r' M M'' (args.map (pv ad)).toArray s (.returned (r'.map (pv ad))) t := fun t ht => ⟨⟨rfl, by rw [ht]; exact hP1, hg⟩, hS1.F ht⟩
    rcases hcase with ⟨x, rfl, hd, hr⟩ | ⟨x, rfl, hd, hr⟩ | ⟨x, z, rfl, hd, hr⟩ | ⟨rfl, hd, hr⟩
    · rcases hr with hr | ⟨hr, hx⟩
      · exact W.zret B.exec B.bytes (hret.trans hr) rfl (fun t ht _ => hq t ht) hS1.2.2 hd
      · exact W.zret B.exec B.bytes (hret.trans hr) (by rcases hx with rfl | rfl <;> rfl) (fun t ht _ => hq t ht) hS1.2.2 hd
    · exact W.lret B.exec B.bytes (hret.trans hr) (fun t ht _ => hq t ht) hS1.2.2 hd
    · exact W.aret B.exec B.bytes (hret.trans hr) (Or.inl ⟨z, rfl⟩) (va_rf_or _) (fun t ht _ => hq t ht) hS1.2.2 hd
    · exact W.vret B.exec B.bytes (hret.trans hr) (fun t ht _ => hq t ht) hS1.2.2 hd
  have hSc : ScW false s ad X0 := fun q => by cases q
  have h11 : C11 false (Ev d) p l e (rmD (d + 1)) s m (args.map (pv ad)).toArray below meth c (MQ below (PostE D ad cA s.heap.size r M M') (args.map (pv ad)).toArray s 0 0 (AA ad s.heap.size)) D ad cA y (fun g => g = gh M) (fun _ => 0) (fun _ => 0) := fun q => by cases q
  have hE : ∀ z, z ∉ yLaw → ∀ as M v M', Ev d z as M v M' → Ev d z as M v M' := fun _ _ _ _ _ _ q => q
  have hw := h _ (step_of hB k1 hE hR hSc h11 1000)
  cases C with
  | nil => cases k6
  | cons o rc =>
    have e0 : o.1 = 0 := Option.some.inj k6
    have hA := snd hB k1 hE hR hSc h11 1000 _ k1 L0 [] M o rc rfl hw rfl s.heap []
    rw [e0] at hA
    have hle2 : (lg_sl (args.map (pv ad))).length ≤ yM y := by rw [entL_len]; exact Nat.le_of_ble_eq_true hle
    have hl := lv_entry (args.map (pv ad)) (n := yM y) hle2
    rw [lg_entry_eq]
    refine hA _ ⟨hl.1, hl.2.1, ?_, fun i v hi hv => ?_⟩ hP va_S.rf
    · rw [hL, List.length_append, List.length_replicate]
      rw [entL_len] at hle2
      omega
    · rw [hL] at hi
      rw [List.getElem?_append] at hi
      split at hi
      · have := hl.2.2 _ (entL_mem (ad := ad) args 0 i v hi hv)
        simpa using this
      · rw [List.getElem?_replicate] at hi
        split at hi
        · cases hi; cases hv
        · cases hi
end
section
/-! which addresses are streets, states and so on; what lies there -/
def St (o : Nat) : Prop := o = 100 ∨ o = 120 ∨ o = 710 ∨ o = 810
theorem St_0 {o : Nat} (h : St o) : lay o = 8 := by rcases h with rfl | rfl | rfl | rfl <;> rfl
theorem St_1 {o : Nat} (h : St o) : lay (o + 1) = 101 := by rcases h with rfl | rfl | rfl | rfl <;> rfl
theorem St_2 {o : Nat} (h : St o) : lay (o + 2) = 100 := by rcases h with rfl | rfl | rfl | rfl <;> rfl
theorem St_3 {o : Nat} (h : St o) : lay (o + 3) = 101 := by rcases h with rfl | rfl | rfl | rfl <;> rfl
theorem St_4 {o : Nat} (h : St o) : lay (o + 4) = 100 := by rcases h with rfl | rfl | rfl | rfl <;> rfl
theorem St_5 {o : Nat} (h : St o) : lay (o + 5) = 100 := by rcases h with rfl | rfl | rfl | rfl <;> rfl
theorem St_6 {o : Nat} (h : St o) : lay (o + 6) = 100 := by rcases h with rfl | rfl | rfl | rfl <;> rfl
theorem St_7 {o : Nat} (h : St o) : lay (o + 7) = 101 := by rcases h with rfl | rfl | rfl | rfl <;> rfl
theorem St_8 {o : Nat} (h : St o) : lay (o + 8) = 100 := by rcases h with rfl | rfl | rfl | rfl <;> rfl
theorem St_9 {o : Nat} (h : St o) : lay (o + 9) = 100 := by rcases h with rfl | rfl | rfl | rfl <;> rfl
theorem St_10 {o : Nat} (h : St o) : lay (o + 10) = 100 := by rcases h with rfl | rfl | rfl | rfl <;> rfl
theorem St_11 {o : Nat} (h : St o) : lay (o + 11) = 3 := by rcases h with rfl | rfl | rfl | rfl <;> rfl
theorem St_12 {o : Nat} (h : St o) : lay (o + 12) = 100 := by rcases h with rfl | rfl | rfl | rfl <;> rfl
theorem St_13 {o : Nat} (h : St o) : lay (o + 13) = 100 := by rcases h with rfl | rfl | rfl | rfl <;> rfl
theorem St_14 {o : Nat} (h : St o) : lay (o + 14) = 3 := by rcases h with rfl | rfl | rfl | rfl <;> rfl
theorem St_15 {o : Nat} (h : St o) : lay (o + 15) = 100 := by rcases h with rfl | rfl | rfl | rfl <;> rfl
theorem St_16 {o : Nat} (h : St o) : lay (o + 16) = 100 := by rcases h with rfl | rfl | rfl | rfl <;> rfl
theorem Stl_1 {o : Nat} (h : St o) : alen (o + 1) = 5 := by rcases h with rfl | rfl | rfl | rfl <;> rfl
theorem Stl_2 {o : Nat} (h : St o) : alen (o + 2) = 5 := by rcases h with rfl | rfl | rfl | rfl <;> rfl
theorem Stl_3 {o : Nat} (h : St o) : alen (o + 3) = 10 := by rcases h with rfl | rfl | rfl | rfl <;> rfl
theorem Stl_4 {o : Nat} (h : St o) : alen (o + 4) = 10 := by rcases h with rfl | rfl | rfl | rfl <;> rfl
theorem Stl_5 {o : Nat} (h : St o) : alen (o + 5) = 10 := by rcases h with rfl | rfl | rfl | rfl <;> rfl
theorem Stl_6 {o : Nat} (h : St o) : alen (o + 6) = 10 := by rcases h with rfl | rfl | rfl | rfl <;> rfl
theorem Stl_7 {o : Nat} (h : St o) : alen (o + 7) = 6 := by rcases h with rfl | rfl | rfl | rfl <;> rfl
theorem Stl_8 {o : Nat} (h : St o) : alen (o + 8) = 6 := by rcases h with rfl | rfl | rfl | rfl <;> rfl
theorem Stl_9 {o : Nat} (h : St o) : alen (o + 9) = 6 := by rcases h with rfl | rfl | rfl | rfl <;> rfl
theorem Stl_10 {o : Nat} (h : St o) : alen (o + 10) = 6 := by rcases h with rfl | rfl | rfl | rfl <;> rfl
theorem Stl_12 {o : Nat} (h : St o) : alen (o + 12) = 6 := by rcases h with rfl | rfl | rfl | rfl <;> rfl
theorem Stl_13 {o : Nat} (h : St o) : alen (o + 13) = 6 := by rcases h with rfl | rfl | rfl | rfl <;> rfl
theorem Stl_15 {o : Nat} (h : St o) : alen (o + 15) = 8 := by rcases h with rfl | rfl | rfl | rfl <;> rfl
theorem Stl_16 {o : Nat} (h : St o) : alen (o + 16) = 8 := by rcases h with rfl | rfl | rfl | rfl <;> rfl
def Sa (o : Nat) : Prop := o = 200 ∨ o = 205 ∨ o = 210 ∨ o = 215 ∨ o = 220 ∨ o = 225 ∨ o = 230 ∨ o = 235 ∨ o = 240 ∨ o = 245 ∨ o = 740 ∨ o = 840
theorem Sa_0 {o : Nat} (h : Sa o) : lay o = 7 := by rcases h with rfl | rfl | rfl | rfl | rfl | rfl | rfl | rfl | rfl | rfl | rfl | rfl <;> rfl
theorem Sa_1 {o : Nat} (h : Sa o) : lay (o + 1) = 100 := by rcases h with rfl | rfl | rfl | rfl | rfl | rfl | rfl | rfl | rfl | rfl | rfl | rfl <;> rfl
theorem Sa_2 {o : Nat} (h : Sa o) : lay (o + 2) = 100 := by rcases h with rfl | rfl | rfl | rfl | rfl | rfl | rfl | rfl | rfl | rfl | rfl | rfl <;> rfl
theorem Sa_3 {o : Nat} (h : Sa o) : lay (o + 3) = 100 := by rcases h with rfl | rfl | rfl | rfl | rfl | rfl | rfl | rfl | rfl | rfl | rfl | rfl <;> rfl
theorem Sal_1 {o : Nat} (h : Sa o) : alen (o + 1) = 5 := by rcases h with rfl | rfl | rfl | rfl | rfl | rfl | rfl | rfl | rfl | rfl | rfl | rfl <;> rfl
theorem Sal_2 {o : Nat} (h : Sa o) : alen (o + 2) = 6 := by rcases h with rfl | rfl | rfl | rfl | rfl | rfl | rfl | rfl | rfl | rfl | rfl | rfl <;> rfl
theorem Sal_3 {o : Nat} (h : Sa o) : alen (o + 3) = 10 := by rcases h with rfl | rfl | rfl | rfl | rfl | rfl | rfl | rfl | rfl | rfl | rfl | rfl <;> rfl
def Se (o : Nat) : Prop := o = 300 ∨ o = 310 ∨ o = 750 ∨ o = 850
theorem Se_0 {o : Nat} (h : Se o) : lay o = 6 := by rcases h with rfl | rfl | rfl | rfl <;> rfl
theorem Se_1 {o : Nat} (h : Se o) : lay (o + 1) = 104 := by rcases h with rfl | rfl | rfl | rfl <;> rfl
theorem Se_2 {o : Nat} (h : Se o) : lay (o + 2) = 100 := by rcases h with rfl | rfl | rfl | rfl <;> rfl
theorem Se_3 {o : Nat} (h : Se o) : lay (o + 3) = 100 := by rcases h with rfl | rfl | rfl | rfl <;> rfl
theorem Se_4 {o : Nat} (h : Se o) : lay (o + 4) = 100 := by rcases h with rfl | rfl | rfl | rfl <;> rfl
theorem Sel_1 {o : Nat} (h : Se o) : alen (o + 1) = 40 := by rcases h with rfl | rfl | rfl | rfl <;> rfl
theorem Sel_2 {o : Nat} (h : Se o) : alen (o + 2) = 40 := by rcases h with rfl | rfl | rfl | rfl <;> rfl
theorem Sel_3 {o : Nat} (h : Se o) : alen (o + 3) = 40 := by rcases h with rfl | rfl | rfl | rfl <;> rfl
theorem Sel_4 {o : Nat} (h : Se o) : alen (o + 4) = 20 := by rcases h with rfl | rfl | rfl | rfl <;> rfl
def Im (o : Nat) : Prop := o = 700 ∨ o = 800
theorem Im_0 {o : Nat} (h : Im o) : lay o = 2 := by rcases h with rfl | rfl <;> rfl
def Pr (o n : Nat) : Prop := ((o = 111 ∨ o = 131 ∨ o = 721 ∨ o = 821) ∧ n = 6) ∨ ((o = 114 ∨ o = 134 ∨ o = 724 ∨ o = 824) ∧ n = 8)
theorem Pr_0 {o n : Nat} (h : Pr o n) : lay o = 3 := by rcases h with ⟨h, -⟩ | ⟨h, -⟩ <;> rcases h with rfl | rfl | rfl | rfl <;> rfl
theorem Pr_1 {o n : Nat} (h : Pr o n) : lay (o + 1) = 100 := by rcases h with ⟨h, -⟩ | ⟨h, -⟩ <;> rcases h with rfl | rfl | rfl | rfl <;> rfl
theorem Pr_2 {o n : Nat} (h : Pr o n) : lay (o + 2) = 100 := by rcases h with ⟨h, -⟩ | ⟨h, -⟩ <;> rcases h with rfl | rfl | rfl | rfl <;> rfl
theorem Prl_1 {o n : Nat} (h : Pr o n) : alen (o + 1) = n := by rcases h with ⟨h, rfl⟩ | ⟨h, rfl⟩ <;> rcases h with rfl | rfl | rfl | rfl <;> rfl
theorem Prl_2 {o n : Nat} (h : Pr o n) : alen (o + 2) = n := by rcases h with ⟨h, rfl⟩ | ⟨h, rfl⟩ <;> rcases h with rfl | rfl | rfl | rfl <;> rfl
theorem St_cr {o : Nat} (h : St o) : Pr (o + 11) 6 := by rcases h with rfl | rfl | rfl | rfl <;> simp [Pr]
theorem St_ga {o : Nat} (h : St o) : Pr (o + 14) 8 := by rcases h with rfl | rfl | rfl | rfl <;> simp [Pr]
theorem inR_c (k : Int) (n : Nat) (h : decide (0 ≤ k ∧ k < n ∧ n < 2147483648) = true) : inR (I k) n := by
  have h := of_decide_eq_true h
  have e := I_toInt (z := k) (by omega) (by omega)
  intro q
  rcases q with q | q
  · have q := Int32.lt_iff_toInt_lt.mp q
    rw [e] at q
    have : (0 : Int32).toInt = 0 := rfl
    omega
  · have e2 : (I k).toNatClampNeg = k.toNat := by show (I k).toInt.toNat = _; rw [e]
    rw [e2] at q
    omega
theorem inR_e {i : Int32} {a b : Nat} (e : a = b) (h : inR i b) : inR i a := e ▸ h
theorem rE_c (k : Nat) (h : decide (k = 0 ∨ (600 ≤ k ∧ k < 623)) = true) : rE k := by
  unfold rE
  exact of_decide_eq_true h
def StepP (d : Nat) (C : List Op) (r9 : Option Value) (M9 : Mm) (At : JJ) : Prop := ∀ (pc : Nat) (L S : List Value) (M : Mm), wp (Ev d) At (fun r' M'' => r' = r9 ∧ M'' = M9) X0 C 1000 (jmT C pc) L S M → At pc L S M
end
section
def k_Pairs_isFull : List Op := [(0, .aload_n 0, []), (1, .getfield 24, [2, 2, 0, 0]), (4, .aload_n 0, []), (5, .getfield 15, [2, 0, 3, 1]), (8, .arraylength, []), (9, .if_icmp .lt 7, [16]), (12, .iconst 1, []), (13, .goto 4, [17]), (16, .iconst 0, []), (17, .ireturn, [1])]
set_option maxRecDepth 100000 in
theorem ok_Pairs_isFull : okM 179 3 k_Pairs_isFull = true := by decide +kernel
def k_Pairs_has : List Op := [(0, .iconst 0, []), (1, .istore_n 2, []), (2, .nop, [0, 1, 2]), (2, .iload_n 2, []), (3, .aload_n 0, []), (4, .getfield 24, [2, 2, 0, 0]), (7, .if_icmp .ge 21, [28]), (10, .aload_n 0, []), (11, .getfield 15, [2, 0, 3, 1]), (14, .iload_n 2, []), (15, .iaload, []), (16, .iload_n 1, []), (17, .if_icmp .ne 5, [22]), (20, .iconst 1, []), (21, .ireturn, [1]), (22, .iinc 2 1, []), (25, .goto (-23), [2]), (28, .iconst 0, []), (29, .ireturn, [1])]
set_option maxRecDepth 100000 in
theorem ok_Pairs_has : okM 180 3 k_Pairs_has = true := by decide +kernel
def k_Pairs_add : List Op := [(0, .aload_n 0, []), (1, .invokevirtual 28, [1, 179, 0, 1, 3]), (4, .ifCond .ne 33, [37]), (7, .aload_n 0, []), (8, .getfield 15, [2, 0, 3, 1]), (11, .aload_n 0, []), (12, .getfield 24, [2, 2, 0, 0]), (15, .iload_n 1, []), (16, .iastore, []), (17, .aload_n 0, []), (18, .getfield 21, [2, 1, 3, 2]), (21, .aload_n 0, []), (22, .getfield 24, [2, 2, 0, 0]), (25, .iload_n 2, []), (26, .iastore, []), (27, .aload_n 0, []), (28, .dup, []), (29, .getfield 24, [2, 2, 0, 0]), (32, .iconst 1, []), (33, .iadd, []), (34, .putfield 24, [2, 2, 0, 0]), (37, .return_, [])]
set_option maxRecDepth 100000 in
theorem ok_Pairs_add : okM 181 3 k_Pairs_add = true := by decide +kernel
def k_Pairs_sumFrom : List Op := [(0, .iconst 0, []), (1, .istore_n 2, []), (2, .iconst 0, []), (3, .istore_n 3, []), (4, .nop, [0, 1, 2, 3]), (4, .iload_n 3, []), (5, .aload_n 0, []), (6, .getfield 24, [2, 2, 0, 0]), (9, .if_icmp .ge 32, [41]), (12, .iload_n 2, []), (13, .aload_n 0, []), (14, .getfield 15, [2, 0, 3, 1]), (17, .iload_n 3, []), (18, .iaload, []), (19, .iload_n 1, []), (20, .if_icmp .lt 12, [32]), (23, .aload_n 0, []), (24, .getfield 21, [2, 1, 3, 2]), (27, .iload_n 3, []), (28, .iaload, []), (29, .goto 4, [33]), (32, .iconst 0, []), (33, .iadd, []), (34, .istore_n 2, []), (35, .iinc 3 1, []), (38, .goto (-34), [4]), (41, .iload_n 2, []), (42, .ireturn, [])]
set_option maxRecDepth 100000 in
theorem ok_Pairs_sumFrom : okM 182 3 k_Pairs_sumFrom = true := by decide +kernel
def k_Pairs_greatestKey : List Op := [(0, .iconst 0, []), (1, .istore_n 1, []), (2, .iconst 0, []), (3, .istore_n 2, []), (4, .nop, [0, 1, 2]), (4, .iload_n 2, []), (5, .aload_n 0, []), (6, .getfield 24, [2, 2, 0, 0]), (9, .if_icmp .ge 20, [29]), (12, .iload_n 1, []), (13, .aload_n 0, []), (14, .getfield 15, [2, 0, 3, 1]), (17, .iload_n 2, []), (18, .iaload, []), (19, .invokestatic 9, [7]), (22, .istore_n 1, []), (23, .iinc 2 1, []), (26, .goto (-22), [4]), (29, .iload_n 1, []), (30, .ireturn, [])]
set_option maxRecDepth 100000 in
theorem ok_Pairs_greatestKey : okM 183 3 k_Pairs_greatestKey = true := by decide +kernel
def k_Pairs_latestValue : List Op := [(0, .iconst (-1), []), (1, .istore_n 2, []), (2, .iconst 0, []), (3, .istore_n 3, []), (4, .nop, [0, 1, 2, 3]), (4, .iload_n 3, []), (5, .aload_n 0, []), (6, .getfield 24, [2, 2, 0, 0]), (9, .if_icmp .ge 41, [50]), (12, .aload_n 0, []), (13, .getfield 15, [2, 0, 3, 1]), (16, .iload_n 3, []), (17, .iaload, []), (18, .iload_n 1, []), (19, .if_icmp .gt 25, [44]), (22, .iload_n 2, []), (23, .iconst (-1), []), (24, .if_icmp .eq 18, [42]), (27, .aload_n 0, []), (28, .getfield 15, [2, 0, 3, 1]), (31, .iload_n 3, []), (32, .iaload, []), (33, .aload_n 0, []), (34, .getfield 15, [2, 0, 3, 1]), (37, .iload_n 2, []), (38, .iaload, []), (39, .if_icmp .le 5, [44]), (42, .iload_n 3, []), (43, .istore_n 2, []), (44, .iinc 3 1, []), (47, .goto (-43), [4]), (50, .iload_n 2, []), (51, .iconst (-1), []), (52, .if_icmp .ne 7, [59]), (55, .iconst 0, []), (56, .goto 9, [65]), (59, .aload_n 0, []), (60, .getfield 21, [2, 1, 3, 2]), (63, .iload_n 2, []), (64, .iaload, []), (65, .ireturn, [])]
set_option maxRecDepth 100000 in
theorem ok_Pairs_latestValue : okM 184 3 k_Pairs_latestValue = true := by decide +kernel
def k_Pairs_copyFrom : List Op := [(0, .aload_n 1, []), (1, .getfield 15, [2, 0, 3, 1]), (4, .aload_n 0, []), (5, .getfield 15, [2, 0, 3, 1]), (8, .invokestatic 32, [0, 49, 2, 0]), (11, .aload_n 1, []), (12, .getfield 21, [2, 1, 3, 2]), (15, .aload_n 0, []), (16, .getfield 21, [2, 1, 3, 2]), (19, .invokestatic 32, [0, 49, 2, 0]), (22, .aload_n 0, []), (23, .aload_n 1, []), (24, .getfield 24, [2, 2, 0, 0]), (27, .putfield 24, [2, 2, 0, 0]), (30, .return_, [])]
set_option maxRecDepth 100000 in
theorem ok_Pairs_copyFrom : okM 185 3 k_Pairs_copyFrom = true := by decide +kernel
def k_State_begin : List Op := [(0, .aload_n 0, []), (1, .iconst 0, []), (2, .putfield 21, [6, 0, 0, 0]), (5, .aload_n 0, []), (6, .aload_n 1, []), (7, .getfield 25, [7, 16, 0, 0]), (10, .putfield 30, [6, 1, 0, 0]), (13, .aload_n 0, []), (14, .iconst 0, []), (15, .putfield 31, [6, 2, 0, 0]), (18, .aload_n 0, []), (19, .iconst 0, []), (20, .putfield 34, [6, 3, 0, 0]), (23, .aload_n 0, []), (24, .iconst 0, []), (25, .putfield 37, [6, 4, 0, 0]), (28, .aload_n 0, []), (29, .iconst 0, []), (30, .putfield 40, [6, 5, 0, 0]), (33, .aload_n 0, []), (34, .iconst 0, []), (35, .putfield 43, [6, 6, 0, 0]), (38, .aload_n 0, []), (39, .iconst 0, []), (40, .putfield 46, [6, 7, 0, 0]), (43, .aload_n 0, []), (44, .iconst 0, []), (45, .putfield 49, [6, 8, 0, 0]), (48, .aload_n 0, []), (49, .iconst 0, []), (50, .putfield 52, [6, 9, 0, 0]), (53, .aload_n 0, []), (54, .iconst 0, []), (55, .putfield 55, [6, 10, 0, 0]), (58, .iconst 0, []), (59, .istore_n 2, []), (60, .nop, [0, 2]), (60, .iload_n 2, []), (61, .iconst 5, []), (62, .if_icmp .ge 16, [78]), (65, .aload_n 0, []), (66, .getfield 9, [6, 11, 3, 1]), (69, .iload_n 2, []), (70, .iconst 0, []), (71, .iastore, []), (72, .iinc 2 1, []), (75, .goto (-15), [60]), (78, .iconst 0, []), (79, .istore_n 2, []), (80, .nop, [0, 2]), (80, .iload_n 2, []), (81, .bipush 6, []), (83, .if_icmp .ge 16, [99]), (86, .aload_n 0, []), (87, .getfield 15, [6, 12, 3, 2]), (90, .iload_n 2, []), (91, .iconst 0, []), (92, .iastore, []), (93, .iinc 2 1, []), (96, .goto (-16), [80]), (99, .iconst 0, []), (100, .istore_n 2, []), (101, .nop, [0, 2]), (101, .iload_n 2, []), (102, .bipush 10, []), (104, .if_icmp .ge 16, [120]), (107, .aload_n 0, []), (108, .getfield 18, [6, 13, 3, 3]), (111, .iload_n 2, []), (112, .iconst (-1), []), (113, .iastore, []), (114, .iinc 2 1, []), (117, .goto (-16), [101]), (120, .return_, [])]
set_option maxRecDepth 100000 in
theorem ok_State_begin : okM 207 7 k_State_begin = true := by decide +kernel
def k_State_copyFrom : List Op := [(0, .aload_n 0, []), (1, .aload_n 1, []), (2, .getfield 21, [6, 0, 0, 0]), (5, .putfield 21, [6, 0, 0, 0]), (8, .aload_n 0, []), (9, .aload_n 1, []), (10, .getfield 30, [6, 1, 0, 0]), (13, .putfield 30, [6, 1, 0, 0]), (16, .aload_n 0, []), (17, .aload_n 1, []), (18, .getfield 31, [6, 2, 0, 0]), (21, .putfield 31, [6, 2, 0, 0]), (24, .aload_n 0, []), (25, .aload_n 1, []), (26, .getfield 34, [6, 3, 0, 0]), (29, .putfield 34, [6, 3, 0, 0]), (32, .aload_n 0, []), (33, .aload_n 1, []), (34, .getfield 37, [6, 4, 0, 0]), (37, .putfield 37, [6, 4, 0, 0]), (40, .aload_n 0, []), (41, .aload_n 1, []), (42, .getfield 40, [6, 5, 0, 0]), (45, .putfield 40, [6, 5, 0, 0]), (48, .aload_n 0, []), (49, .aload_n 1, []), (50, .getfield 43, [6, 6, 0, 0]), (53, .putfield 43, [6, 6, 0, 0]), (56, .aload_n 0, []), (57, .aload_n 1, []), (58, .getfield 46, [6, 7, 0, 0]), (61, .putfield 46, [6, 7, 0, 0]), (64, .aload_n 0, []), (65, .aload_n 1, []), (66, .getfield 49, [6, 8, 0, 0]), (69, .putfield 49, [6, 8, 0, 0]), (72, .aload_n 0, []), (73, .aload_n 1, []), (74, .getfield 52, [6, 9, 0, 0]), (77, .putfield 52, [6, 9, 0, 0]), (80, .aload_n 0, []), (81, .aload_n 1, []), (82, .getfield 55, [6, 10, 0, 0]), (85, .putfield 55, [6, 10, 0, 0]), (88, .aload_n 1, []), (89, .getfield 9, [6, 11, 3, 1]), (92, .aload_n 0, []), (93, .getfield 9, [6, 11, 3, 1]), (96, .invokestatic 58, [0, 49, 2, 0]), (99, .aload_n 1, []), (100, .getfield 15, [6, 12, 3, 2]), (103, .aload_n 0, []), (104, .getfield 15, [6, 12, 3, 2]), (107, .invokestatic 58, [0, 49, 2, 0]), (110, .aload_n 1, []), (111, .getfield 18, [6, 13, 3, 3]), (114, .aload_n 0, []), (115, .getfield 18, [6, 13, 3, 3]), (118, .invokestatic 58, [0, 49, 2, 0]), (121, .return_, [])]
set_option maxRecDepth 100000 in
theorem ok_State_copyFrom : okM 208 7 k_State_copyFrom = true := by decide +kernel
def k_State_river : List Op := [(0, .aload_n 1, []), (1, .getfield 62, [7, 14, 3, 14]), (4, .aload_n 0, []), (5, .getfield 21, [6, 0, 0, 0]), (8, .invokevirtual 66, [1, 184, 1, 1, 3]), (11, .aload_n 0, []), (12, .getfield 37, [6, 4, 0, 0]), (15, .iadd, []), (16, .ireturn, [])]
set_option maxRecDepth 100000 in
theorem ok_State_river : okM 209 7 k_State_river = true := by decide +kernel
def k_State_greatestRiver : List Op := [(0, .aload_n 0, []), (1, .aload_n 1, []), (2, .invokevirtual 72, [1, 209, 1, 1, 7]), (5, .istore_n 2, []), (6, .aload_n 0, []), (7, .getfield 21, [6, 0, 0, 0]), (10, .istore_n 3, []), (11, .nop, [0, 1, 2, 3]), (11, .iload_n 3, []), (12, .bipush 48, []), (14, .if_icmp .ge 27, [41]), (17, .iload_n 2, []), (18, .aload_n 1, []), (19, .getfield 62, [7, 14, 3, 14]), (22, .iload_n 3, []), (23, .invokevirtual 66, [1, 184, 1, 1, 3]), (26, .aload_n 0, []), (27, .getfield 37, [6, 4, 0, 0]), (30, .iadd, []), (31, .invokestatic 76, [7]), (34, .istore_n 2, []), (35, .iinc 3 1, []), (38, .goto (-27), [11]), (41, .iload_n 2, []), (42, .ireturn, [])]
set_option maxRecDepth 100000 in
theorem ok_State_greatestRiver : okM 210 7 k_State_greatestRiver = true := by decide +kernel
def k_State_bagsEach : List Op := [(0, .aload_n 1, []), (1, .getfield 82, [7, 17, 0, 0]), (4, .aload_n 0, []), (5, .getfield 34, [6, 3, 0, 0]), (8, .iconst 2, []), (9, .idiv, []), (10, .isub, []), (11, .iconst 1, []), (12, .invokestatic 76, [7]), (15, .ireturn, [])]
set_option maxRecDepth 100000 in
theorem ok_State_bagsEach : okM 211 7 k_State_bagsEach = true := by decide +kernel
def k_State_isFlooded : List Op := [(0, .iload_n 1, []), (1, .ifCond .lt 23, [24]), (4, .iload_n 1, []), (5, .bipush 10, []), (7, .if_icmp .ge 17, [24]), (10, .aload_n 0, []), (11, .getfield 18, [6, 13, 3, 3]), (14, .iload_n 1, []), (15, .iaload, []), (16, .iconst (-1), []), (17, .if_icmp .eq 7, [24]), (20, .iconst 1, []), (21, .goto 4, [25]), (24, .iconst 0, []), (25, .ireturn, [1])]
set_option maxRecDepth 100000 in
theorem ok_State_isFlooded : okM 212 7 k_State_isFlooded = true := by decide +kernel
def k_State_floodedHouses : List Op := [(0, .iconst 0, []), (1, .istore_n 2, []), (2, .iconst 0, []), (3, .istore_n 3, []), (4, .nop, [0, 1, 2, 3]), (4, .iload_n 3, []), (5, .aload_n 1, []), (6, .getfield 85, [7, 7, 0, 0]), (9, .if_icmp .ge 27, [36]), (12, .iload_n 2, []), (13, .aload_n 0, []), (14, .iload_n 3, []), (15, .invokevirtual 88, [1, 212, 1, 1, 7]), (18, .ifCond .eq 9, [27]), (21, .iconst 1, []), (22, .iload_n 3, []), (23, .ishl, []), (24, .goto 4, [28]), (27, .iconst 0, []), (28, .ior, []), (29, .istore_n 2, []), (30, .iinc 3 1, []), (33, .goto (-29), [4]), (36, .iload_n 2, []), (37, .ireturn, [])]
set_option maxRecDepth 100000 in
theorem ok_State_floodedHouses : okM 213 7 k_State_floodedHouses = true := by decide +kernel
def k_State_isStopped : List Op := [(0, .aload_n 1, []), (1, .iload_n 2, []), (2, .invokevirtual 92, [1, 239, 1, 1, 8]), (5, .ifCond .eq 22, [27]), (8, .aload_n 0, []), (9, .getfield 15, [6, 12, 3, 2]), (12, .iload_n 2, []), (13, .iaload, []), (14, .aload_n 1, []), (15, .getfield 95, [7, 11, 3, 10]), (18, .iload_n 2, []), (19, .iaload, []), (20, .if_icmp .lt 7, [27]), (23, .iconst 1, []), (24, .goto 4, [28]), (27, .iconst 0, []), (28, .ireturn, [1])]
set_option maxRecDepth 100000 in
theorem ok_State_isStopped : okM 214 7 k_State_isStopped = true := by decide +kernel
def k_State_leakingDrains : List Op := [(0, .iconst 0, []), (1, .istore 4, []), (3, .iconst 0, []), (4, .istore 5, []), (6, .nop, [0, 1, 2, 3, 4, 5]), (6, .iload 5, []), (8, .aload_n 1, []), (9, .getfield 98, [7, 12, 0, 0]), (12, .if_icmp .ge 80, [92]), (15, .iload 5, []), (17, .bipush 6, []), (19, .if_icmp .ge 73, [92]), (22, .aload_n 1, []), (23, .getfield 101, [7, 9, 3, 8]), (26, .iload 5, []), (28, .iaload, []), (29, .iload_n 2, []), (30, .if_icmp .ne 18, [48]), (33, .aload_n 1, []), (34, .getfield 104, [7, 10, 3, 9]), (37, .iload 5, []), (39, .iaload, []), (40, .iload_n 3, []), (41, .if_icmp .gt 7, [48]), (44, .iconst 1, []), (45, .goto 4, [49]), (48, .iconst 0, []), (49, .istore 6, []), (51, .iload 4, []), (53, .iload 6, []), (55, .ifCond .eq 27, [82]), (58, .aload_n 0, []), (59, .getfield 15, [6, 12, 3, 2]), (62, .iload 5, []), (64, .iaload, []), (65, .aload_n 1, []), (66, .getfield 95, [7, 11, 3, 10]), (69, .iload 5, []), (71, .iaload, []), (72, .if_icmp .ge 10, [82]), (75, .iconst 1, []), (76, .iload 5, []), (78, .ishl, []), (79, .goto 4, [83]), (82, .iconst 0, []), (83, .ior, []), (84, .istore 4, []), (86, .iinc 5 1, []), (89, .goto (-83), [6]), (92, .iload 4, []), (94, .ireturn, [])]
set_option maxRecDepth 100000 in
theorem ok_State_leakingDrains : okM 215 7 k_State_leakingDrains = true := by decide +kernel
def k_State_heightOf : List Op := [(0, .aload_n 1, []), (1, .iload_n 2, []), (2, .invokevirtual 107, [1, 237, 1, 1, 8]), (5, .ifCond .eq 15, [20]), (8, .aload_n 0, []), (9, .getfield 52, [6, 9, 0, 0]), (12, .iload_n 2, []), (13, .invokestatic 110, [0, 46, 2, 1]), (16, .iconst 1, []), (17, .if_icmp .ne 5, [22]), (20, .iconst 0, []), (21, .ireturn, []), (22, .iconst 0, []), (23, .istore_n 3, []), (24, .nop, [0, 1, 2, 3]), (24, .iload_n 3, []), (25, .sipush 1000, []), (28, .if_icmp .ge 26, [54]), (31, .aload_n 1, []), (32, .iload_n 2, []), (33, .iload_n 3, []), (34, .iconst 1, []), (35, .iadd, []), (36, .invokevirtual 113, [1, 241, 2, 1, 8]), (39, .aload_n 0, []), (40, .getfield 9, [6, 11, 3, 1]), (43, .iload_n 2, []), (44, .iaload, []), (45, .if_icmp .gt 9, [54]), (48, .iinc 3 1, []), (51, .goto (-27), [24]), (54, .iload_n 3, []), (55, .ireturn, [])]
set_option maxRecDepth 100000 in
theorem ok_State_heightOf : okM 216 7 k_State_heightOf = true := by decide +kernel
def k_State_wouldFlood : List Op := [(0, .aload_n 1, []), (1, .iload_n 2, []), (2, .invokevirtual 116, [1, 238, 1, 1, 8]), (5, .ifCond .eq 13, [18]), (8, .iload_n 3, []), (9, .aload_n 1, []), (10, .getfield 119, [7, 6, 3, 6]), (13, .iload_n 2, []), (14, .iaload, []), (15, .if_icmp .gt 5, [20]), (18, .iconst 0, []), (19, .ireturn, [1]), (20, .aload_n 1, []), (21, .getfield 122, [7, 4, 3, 4]), (24, .iload_n 2, []), (25, .iaload, []), (26, .istore 4, []), (28, .aload_n 1, []), (29, .iload 4, []), (31, .invokevirtual 107, [1, 237, 1, 1, 8]), (34, .ifCond .eq 16, [50]), (37, .aload_n 0, []), (38, .getfield 52, [6, 9, 0, 0]), (41, .iload 4, []), (43, .invokestatic 110, [0, 46, 2, 1]), (46, .iconst 1, []), (47, .if_icmp .ne 5, [52]), (50, .iconst 1, []), (51, .ireturn, [1]), (52, .aload_n 1, []), (53, .iload 4, []), (55, .iload_n 3, []), (56, .invokevirtual 113, [1, 241, 2, 1, 8]), (59, .aload_n 0, []), (60, .getfield 9, [6, 11, 3, 1]), (63, .iload 4, []), (65, .iaload, []), (66, .if_icmp .gt 14, [80]), (69, .aload_n 0, []), (70, .aload_n 1, []), (71, .iload 4, []), (73, .iload_n 3, []), (74, .invokevirtual 125, [1, 215, 3, 1, 7]), (77, .ifCond .eq 7, [84]), (80, .iconst 1, []), (81, .goto 4, [85]), (84, .iconst 0, []), (85, .ireturn, [1])]
set_option maxRecDepth 100000 in
theorem ok_State_wouldFlood : okM 217 7 k_State_wouldFlood = true := by decide +kernel
def k_State_savedWorth : List Op := [(0, .iconst 0, []), (1, .istore_n 2, []), (2, .iconst 0, []), (3, .istore_n 3, []), (4, .nop, [0, 1, 2, 3]), (4, .iload_n 3, []), (5, .aload_n 1, []), (6, .getfield 85, [7, 7, 0, 0]), (9, .if_icmp .ge 52, [61]), (12, .aload_n 0, []), (13, .iload_n 3, []), (14, .invokevirtual 88, [1, 212, 1, 1, 7]), (17, .ifCond .ne 15, [32]), (20, .iload_n 2, []), (21, .aload_n 1, []), (22, .getfield 129, [7, 5, 3, 5]), (25, .iload_n 3, []), (26, .iaload, []), (27, .iadd, []), (28, .istore_n 2, []), (29, .goto 26, [55]), (32, .aload_n 0, []), (33, .getfield 55, [6, 10, 0, 0]), (36, .iload_n 3, []), (37, .invokestatic 110, [0, 46, 2, 1]), (40, .iconst 1, []), (41, .if_icmp .ne 14, [55]), (44, .iload_n 2, []), (45, .aload_n 1, []), (46, .getfield 129, [7, 5, 3, 5]), (49, .iload_n 3, []), (50, .iaload, []), (51, .iconst 2, []), (52, .idiv, []), (53, .iadd, []), (54, .istore_n 2, []), (55, .iinc 3 1, []), (58, .goto (-54), [4]), (61, .iload_n 2, []), (62, .ireturn, [])]
set_option maxRecDepth 100000 in
theorem ok_State_savedWorth : okM 218 7 k_State_savedWorth = true := by decide +kernel
def k_State_isPosted : List Op := [(0, .aload_n 0, []), (1, .getfield 43, [6, 6, 0, 0]), (4, .iload_n 1, []), (5, .if_icmp .ne 23, [28]), (8, .aload_n 0, []), (9, .getfield 46, [6, 7, 0, 0]), (12, .iload_n 2, []), (13, .if_icmp .ne 15, [28]), (16, .aload_n 0, []), (17, .getfield 49, [6, 8, 0, 0]), (20, .iload_n 3, []), (21, .if_icmp .ne 7, [28]), (24, .iconst 1, []), (25, .goto 4, [29]), (28, .iconst 0, []), (29, .ireturn, [1])]
set_option maxRecDepth 100000 in
theorem ok_State_isPosted : okM 219 7 k_State_isPosted = true := by decide +kernel
def k_State_takePosts : List Op := [(0, .aload_n 0, []), (1, .iload_n 1, []), (2, .putfield 43, [6, 6, 0, 0]), (5, .aload_n 0, []), (6, .iload_n 2, []), (7, .putfield 46, [6, 7, 0, 0]), (10, .aload_n 0, []), (11, .iload_n 3, []), (12, .putfield 49, [6, 8, 0, 0]), (15, .return_, [])]
set_option maxRecDepth 100000 in
theorem ok_State_takePosts : okM 220 7 k_State_takePosts = true := by decide +kernel
def k_State_whyNotQuit : List Op := [(0, .aload_n 0, []), (1, .getfield 52, [6, 9, 0, 0]), (4, .iload_n 1, []), (5, .invokestatic 110, [0, 46, 2, 1]), (8, .ireturn, [])]
set_option maxRecDepth 100000 in
theorem ok_State_whyNotQuit : okM 221 7 k_State_whyNotQuit = true := by decide +kernel
def k_State_giveUpWall : List Op := [(0, .iload_n 1, []), (1, .ifCond .lt 44, [45]), (4, .iload_n 1, []), (5, .iconst 5, []), (6, .if_icmp .ge 39, [45]), (9, .aload_n 0, []), (10, .dup, []), (11, .getfield 31, [6, 2, 0, 0]), (14, .aload_n 0, []), (15, .getfield 9, [6, 11, 3, 1]), (18, .iload_n 1, []), (19, .iaload, []), (20, .iconst 2, []), (21, .idiv, []), (22, .iadd, []), (23, .putfield 31, [6, 2, 0, 0]), (26, .aload_n 0, []), (27, .getfield 9, [6, 11, 3, 1]), (30, .iload_n 1, []), (31, .iconst 0, []), (32, .iastore, []), (33, .aload_n 0, []), (34, .dup, []), (35, .getfield 52, [6, 9, 0, 0]), (38, .iconst 1, []), (39, .iload_n 1, []), (40, .ishl, []), (41, .ior, []), (42, .putfield 52, [6, 9, 0, 0]), (45, .return_, [])]
set_option maxRecDepth 100000 in
theorem ok_State_giveUpWall : okM 222 7 k_State_giveUpWall = true := by decide +kernel
def k_State_whyNotUp : List Op := [(0, .aload_n 0, []), (1, .iload_n 1, []), (2, .invokevirtual 88, [1, 212, 1, 1, 7]), (5, .ifCond .eq 5, [10]), (8, .iconst 1, []), (9, .ireturn, []), (10, .aload_n 0, []), (11, .getfield 55, [6, 10, 0, 0]), (14, .iload_n 1, []), (15, .invokestatic 110, [0, 46, 2, 1]), (18, .iconst 1, []), (19, .if_icmp .ne 7, [26]), (22, .iconst 2, []), (23, .goto 4, [27]), (26, .iconst 0, []), (27, .ireturn, [])]
set_option maxRecDepth 100000 in
theorem ok_State_whyNotUp : okM 223 7 k_State_whyNotUp = true := by decide +kernel
def k_State_carryUp : List Op := [(0, .aload_n 0, []), (1, .dup, []), (2, .getfield 55, [6, 10, 0, 0]), (5, .iconst 1, []), (6, .iload_n 1, []), (7, .ishl, []), (8, .ior, []), (9, .putfield 55, [6, 10, 0, 0]), (12, .aload_n 0, []), (13, .dup, []), (14, .getfield 34, [6, 3, 0, 0]), (17, .iconst 1, []), (18, .iadd, []), (19, .putfield 34, [6, 3, 0, 0]), (22, .return_, [])]
set_option maxRecDepth 100000 in
theorem ok_State_carryUp : okM 224 7 k_State_carryUp = true := by decide +kernel
def k_State_work : List Op := [(0, .aload_n 0, []), (1, .aload_n 1, []), (2, .invokevirtual 132, [1, 211, 1, 1, 7]), (5, .istore_n 2, []), (6, .aload_n 0, []), (7, .getfield 43, [6, 6, 0, 0]), (10, .iconst 2, []), (11, .idiv, []), (12, .iload_n 2, []), (13, .imul, []), (14, .aload_n 0, []), (15, .getfield 30, [6, 1, 0, 0]), (18, .invokestatic 135, [6]), (21, .istore_n 3, []), (22, .aload_n 0, []), (23, .dup, []), (24, .getfield 30, [6, 1, 0, 0]), (27, .iload_n 3, []), (28, .isub, []), (29, .putfield 30, [6, 1, 0, 0]), (32, .aload_n 0, []), (33, .dup, []), (34, .getfield 31, [6, 2, 0, 0]), (37, .iload_n 3, []), (38, .iadd, []), (39, .putfield 31, [6, 2, 0, 0]), (42, .aload_n 0, []), (43, .aload_n 1, []), (44, .aload_n 0, []), (45, .getfield 46, [6, 7, 0, 0]), (48, .iload_n 2, []), (49, .imul, []), (50, .aload_n 0, []), (51, .getfield 31, [6, 2, 0, 0]), (54, .invokestatic 135, [6]), (57, .invokevirtual 138, [1, 226, 2, 0, 7]), (60, .aload_n 0, []), (61, .aload_n 0, []), (62, .getfield 43, [6, 6, 0, 0]), (65, .aload_n 0, []), (66, .getfield 46, [6, 7, 0, 0]), (69, .iadd, []), (70, .ifCond .le 12, [82]), (73, .aload_n 0, []), (74, .getfield 34, [6, 3, 0, 0]), (77, .iconst 1, []), (78, .iadd, []), (79, .goto 13, [92]), (82, .aload_n 0, []), (83, .getfield 34, [6, 3, 0, 0]), (86, .iconst 2, []), (87, .isub, []), (88, .iconst 0, []), (89, .invokestatic 76, [7]), (92, .putfield 34, [6, 3, 0, 0]), (95, .return_, [])]
set_option maxRecDepth 100000 in
theorem ok_State_work : okM 225 7 k_State_work = true := by decide +kernel
def k_State_layDown : List Op := [(0, .aload_n 1, []), (1, .aload_n 0, []), (2, .getfield 49, [6, 8, 0, 0]), (5, .invokevirtual 107, [1, 237, 1, 1, 8]), (8, .ifCond .eq 35, [43]), (11, .aload_n 0, []), (12, .getfield 52, [6, 9, 0, 0]), (15, .aload_n 0, []), (16, .getfield 49, [6, 8, 0, 0]), (19, .invokestatic 110, [0, 46, 2, 1]), (22, .iconst 1, []), (23, .if_icmp .ne 4, [27]), (26, .return_, []), (27, .aload_n 0, []), (28, .getfield 9, [6, 11, 3, 1]), (31, .aload_n 0, []), (32, .getfield 49, [6, 8, 0, 0]), (35, .dup2, []), (36, .iaload, []), (37, .iload_n 2, []), (38, .iadd, []), (39, .iastore, []), (40, .goto 37, [77]), (43, .aload_n 1, []), (44, .aload_n 0, []), (45, .getfield 49, [6, 8, 0, 0]), (48, .bipush 10, []), (50, .isub, []), (51, .invokevirtual 92, [1, 239, 1, 1, 8]), (54, .ifCond .eq 22, [76]), (57, .aload_n 0, []), (58, .getfield 15, [6, 12, 3, 2]), (61, .aload_n 0, []), (62, .getfield 49, [6, 8, 0, 0]), (65, .bipush 10, []), (67, .isub, []), (68, .dup2, []), (69, .iaload, []), (70, .iload_n 2, []), (71, .iadd, []), (72, .iastore, []), (73, .goto 4, [77]), (76, .return_, []), (77, .aload_n 0, []), (78, .dup, []), (79, .getfield 31, [6, 2, 0, 0]), (82, .iload_n 2, []), (83, .isub, []), (84, .putfield 31, [6, 2, 0, 0]), (87, .aload_n 0, []), (88, .dup, []), (89, .getfield 40, [6, 5, 0, 0]), (92, .iload_n 2, []), (93, .iadd, []), (94, .putfield 40, [6, 5, 0, 0]), (97, .return_, [])]
set_option maxRecDepth 100000 in
theorem ok_State_layDown : okM 226 7 k_State_layDown = true := by decide +kernel
def k_State_goHour : List Op := [(0, .aload_n 0, []), (1, .aload_n 1, []), (2, .invokevirtual 142, [1, 225, 1, 0, 7]), (5, .aload_n 0, []), (6, .aload_n 1, []), (7, .invokevirtual 72, [1, 209, 1, 1, 7]), (10, .istore_n 2, []), (11, .iconst 0, []), (12, .istore_n 3, []), (13, .nop, [0, 1, 2, 3]), (13, .iload_n 3, []), (14, .aload_n 1, []), (15, .getfield 85, [7, 7, 0, 0]), (18, .if_icmp .ge 37, [55]), (21, .aload_n 0, []), (22, .iload_n 3, []), (23, .invokevirtual 88, [1, 212, 1, 1, 7]), (26, .ifCond .ne 23, [49]), (29, .aload_n 0, []), (30, .aload_n 1, []), (31, .iload_n 3, []), (32, .iload_n 2, []), (33, .invokevirtual 146, [1, 217, 3, 1, 7]), (36, .ifCond .eq 13, [49]), (39, .aload_n 0, []), (40, .getfield 18, [6, 13, 3, 3]), (43, .iload_n 3, []), (44, .aload_n 0, []), (45, .getfield 21, [6, 0, 0, 0]), (48, .iastore, []), (49, .iinc 3 1, []), (52, .goto (-39), [13]), (55, .aload_n 0, []), (56, .dup, []), (57, .getfield 21, [6, 0, 0, 0]), (60, .iconst 1, []), (61, .iadd, []), (62, .putfield 21, [6, 0, 0, 0]), (65, .return_, [])]
set_option maxRecDepth 100000 in
theorem ok_State_goHour : okM 227 7 k_State_goHour = true := by decide +kernel
def k_State_goHours : List Op := [(0, .iconst 0, []), (1, .istore_n 3, []), (2, .nop, [0, 1, 2, 3]), (2, .iload_n 3, []), (3, .iload_n 2, []), (4, .if_icmp .ge 23, [27]), (7, .aload_n 0, []), (8, .getfield 21, [6, 0, 0, 0]), (11, .bipush 48, []), (13, .if_icmp .ge 14, [27]), (16, .aload_n 0, []), (17, .aload_n 1, []), (18, .invokevirtual 150, [1, 227, 1, 0, 7]), (21, .iinc 3 1, []), (24, .goto (-22), [2]), (27, .return_, [])]
set_option maxRecDepth 100000 in
theorem ok_State_goHours : okM 228 7 k_State_goHours = true := by decide +kernel
def k_State_drawHours : List Op := [(0, .iload_n 3, []), (1, .istore 4, []), (3, .iconst 0, []), (4, .istore 5, []), (6, .nop, [0, 1, 2, 4, 5]), (6, .iload 5, []), (8, .iload_n 2, []), (9, .if_icmp .ge 55, [64]), (12, .aload_n 0, []), (13, .getfield 21, [6, 0, 0, 0]), (16, .bipush 48, []), (18, .if_icmp .ge 46, [64]), (21, .iload 4, []), (23, .ldc 153, [1103515245]), (25, .imul, []), (26, .sipush 12345, []), (29, .iadd, []), (30, .istore 4, []), (32, .iload 4, []), (34, .bipush 8, []), (36, .iushr, []), (37, .bipush 6, []), (39, .irem, []), (40, .ifCond .ne 13, [53]), (43, .aload_n 0, []), (44, .dup, []), (45, .getfield 37, [6, 4, 0, 0]), (48, .iconst 1, []), (49, .iadd, []), (50, .putfield 37, [6, 4, 0, 0]), (53, .aload_n 0, []), (54, .aload_n 1, []), (55, .invokevirtual 150, [1, 227, 1, 0, 7]), (58, .iinc 5 1, []), (61, .goto (-55), [6]), (64, .return_, [])]
set_option maxRecDepth 100000 in
theorem ok_State_drawHours : okM 229 7 k_State_drawHours = true := by decide +kernel
end
section
theorem e_Pairs_isFull {o : Nat} {no : Nat} (ho : Pr o no) {d : Nat} {M M9 : Mm} {r9 : Option Value} (h : ∀ At : JJ, StepP d k_Pairs_isFull r9 M9 At → (((M.1 o 2) < (I (alen (o + 1)))) → ((some (.int (I 0))) = r9 ∧ M = M9)) ∧ (¬ ((M.1 o 2) < (I (alen (o + 1)))) → ((some (.int (I 1))) = r9 ∧ M = M9))) : Ev (d + 1) 179 [.ref o] M r9 M9 :=
  Ev.intro (L0 := [.ref o]) ok_Pairs_isFull rfl rfl fun At step =>
  have h := h At step
  ⟨(Pr_0 ho), ⟨(Pr_0 ho), ⟨⟨by rw [Pr_1 ho]; decide, by rw [Pr_1 ho]; decide⟩, ⟨fun c1 => ⟨Or.inl rfl, (h.1 c1)⟩, fun c1 => ⟨Or.inr rfl, (h.2 c1)⟩⟩⟩⟩⟩
theorem e_Pairs_has {o : Nat} {no : Nat} {p1 : Int32} (ho : Pr o no) {d : Nat} {M M9 : Mm} {r9 : Option Value} (h : ∀ At : JJ, StepP d k_Pairs_has r9 M9 At → At 2 [.ref o, .int p1, .int (I 0)] [] M) : Ev (d + 1) 180 [.ref o, .int p1] M r9 M9 :=
  Ev.intro (L0 := [.ref o, .int p1, .retAddr 0]) ok_Pairs_has rfl rfl fun At step =>
  have h := h At step
  h
theorem s_Pairs_has_2 {o : Nat} {no : Nat} {x1 : Int32} {x2 : Int32} (ho : Pr o no) {d : Nat} {M M9 : Mm} {r9 : Option Value} {At : JJ} (step : StepP d k_Pairs_has r9 M9 At) (h : ((x2 < (M.1 o 2)) → inR x2 no ∧ ((((M.1 (o + 1) x2.toNatClampNeg) = x1) → ((some (.int (I 1))) = r9 ∧ M = M9)) ∧ (¬ ((M.1 (o + 1) x2.toNatClampNeg) = x1) → At 2 [.ref o, .int x1, .int (x2 + I 1)] [] M))) ∧ (¬ (x2 < (M.1 o 2)) → ((some (.int (I 0))) = r9 ∧ M = M9))) : At 2 [.ref o, .int x1, .int x2] [] M :=
  step 2 [.ref o, .int x1, .int x2] [] M (⟨(Pr_0 ho), ⟨fun c1 => ⟨Or.inl rfl, (h.2 (Int32.not_lt.mpr c1))⟩, fun c1 => ⟨(Pr_0 ho), ⟨(Pr_1 ho), (inR_e (Prl_1 ho) (h.1 (Int32.not_le.mp c1)).1), ⟨fun c2 => ((h.1 (Int32.not_le.mp c1)).2.2 (id c2)), fun c2 => ⟨Or.inr rfl, ((h.1 (Int32.not_le.mp c1)).2.1 (Decidable.of_not_not c2))⟩⟩⟩⟩⟩⟩)
theorem e_Pairs_add {o : Nat} {no : Nat} {p1 : Int32} {p2 : Int32} (ho : Pr o no) {d : Nat} {M M9 : Mm} {r9 : Option Value} (h : ∀ At : JJ, StepP d k_Pairs_add r9 M9 At → ∃ (v2 : Int32), ∃ (M1 : Mm), (Ev d 179 [.ref o] M (some (.int v2)) M1 ∧ (((v2 = (I 0)) → inR (M1.1 o 2) no ∧ (inR ((sI M1 (o + 1) (M1.1 o 2).toNatClampNeg p1).1 o 2) no ∧ ((none = r9 ∧ (sI (sI (sI M1 (o + 1) (M1.1 o 2).toNatClampNeg p1) (o + 2) ((sI M1 (o + 1) (M1.1 o 2).toNatClampNeg p1).1 o 2).toNatClampNeg p2) o 2 (((sI (sI M1 (o + 1) (M1.1 o 2).toNatClampNeg p1) (o + 2) ((sI M1 (o + 1) (M1.1 o 2).toNatClampNeg p1).1 o 2).toNatClampNeg p2).1 o 2) + (I 1))) = M9)))) ∧ (¬ (v2 = (I 0)) → (none = r9 ∧ M1 = M9))))) : Ev (d + 1) 181 [.ref o, .int p1, .int p2] M r9 M9 :=
  Ev.intro (L0 := [.ref o, .int p1, .int p2]) ok_Pairs_add rfl rfl fun At step =>
  have h := h At step
  (h).elim fun v2 h3 => (h3).elim fun M1 h4 => ⟨(Pr_0 ho), v2, M1, h4.1, ⟨fun c5 => (h4.2.2 (id c5)), fun c5 => ⟨(Pr_0 ho), ⟨(Pr_0 ho), ⟨(Pr_1 ho), (inR_e (Prl_1 ho) (h4.2.1 (Decidable.of_not_not c5)).1), ⟨(Pr_0 ho), ⟨(Pr_0 ho), ⟨(Pr_2 ho), (inR_e (Prl_2 ho) (h4.2.1 (Decidable.of_not_not c5)).2.1), ⟨(Pr_0 ho), ⟨(Pr_0 ho), (h4.2.1 (Decidable.of_not_not c5)).2.2⟩⟩⟩⟩⟩⟩⟩⟩⟩⟩
theorem e_Pairs_sumFrom {o : Nat} {no : Nat} {p1 : Int32} (ho : Pr o no) {d : Nat} {M M9 : Mm} {r9 : Option Value} (h : ∀ At : JJ, StepP d k_Pairs_sumFrom r9 M9 At → At 4 [.ref o, .int p1, .int (I 0), .int (I 0)] [] M) : Ev (d + 1) 182 [.ref o, .int p1] M r9 M9 :=
  Ev.intro (L0 := [.ref o, .int p1, .retAddr 0, .retAddr 0]) ok_Pairs_sumFrom rfl rfl fun At step =>
  have h := h At step
  h
theorem s_Pairs_sumFrom_4 {o : Nat} {no : Nat} {x1 : Int32} {x2 : Int32} {x3 : Int32} (ho : Pr o no) {d : Nat} {M M9 : Mm} {r9 : Option Value} {At : JJ} (step : StepP d k_Pairs_sumFrom r9 M9 At) (h : ((x3 < (M.1 o 2)) → inR x3 no ∧ ((((M.1 (o + 1) x3.toNatClampNeg) < x1) → At 4 [.ref o, .int x1, .int (x2 + (I 0)), .int (x3 + I 1)] [] M) ∧ (¬ ((M.1 (o + 1) x3.toNatClampNeg) < x1) → inR x3 no ∧ (At 4 [.ref o, .int x1, .int (x2 + (M.1 (o + 2) x3.toNatClampNeg)), .int (x3 + I 1)] [] M)))) ∧ (¬ (x3 < (M.1 o 2)) → ((some (.int x2)) = r9 ∧ M = M9))) : At 4 [.ref o, .int x1, .int x2, .int x3] [] M :=
  step 4 [.ref o, .int x1, .int x2, .int x3] [] M (⟨(Pr_0 ho), ⟨fun c1 => (h.2 (Int32.not_lt.mpr c1)), fun c1 => ⟨(Pr_0 ho), ⟨(Pr_1 ho), (inR_e (Prl_1 ho) (h.1 (Int32.not_le.mp c1)).1), ⟨fun c2 => ((h.1 (Int32.not_le.mp c1)).2.1 c2), fun c2 => ⟨(Pr_0 ho), ⟨(Pr_2 ho), (inR_e (Prl_2 ho) ((h.1 (Int32.not_le.mp c1)).2.2 c2).1), ((h.1 (Int32.not_le.mp c1)).2.2 c2).2⟩⟩⟩⟩⟩⟩⟩)
theorem e_Pairs_greatestKey {o : Nat} {no : Nat} (ho : Pr o no) {d : Nat} {M M9 : Mm} {r9 : Option Value} (h : ∀ At : JJ, StepP d k_Pairs_greatestKey r9 M9 At → At 4 [.ref o, .int (I 0), .int (I 0)] [] M) : Ev (d + 1) 183 [.ref o] M r9 M9 :=
  Ev.intro (L0 := [.ref o, .retAddr 0, .retAddr 0]) ok_Pairs_greatestKey rfl rfl fun At step =>
  have h := h At step
  h
theorem s_Pairs_greatestKey_4 {o : Nat} {no : Nat} {x1 : Int32} {x2 : Int32} (ho : Pr o no) {d : Nat} {M M9 : Mm} {r9 : Option Value} {At : JJ} (step : StepP d k_Pairs_greatestKey r9 M9 At) (h : ((x2 < (M.1 o 2)) → inR x2 no ∧ (At 4 [.ref o, .int (if x1 < (M.1 (o + 1) x2.toNatClampNeg) then M.1 (o + 1) x2.toNatClampNeg else x1), .int (x2 + I 1)] [] M)) ∧ (¬ (x2 < (M.1 o 2)) → ((some (.int x1)) = r9 ∧ M = M9))) : At 4 [.ref o, .int x1, .int x2] [] M :=
  step 4 [.ref o, .int x1, .int x2] [] M (⟨(Pr_0 ho), ⟨fun c1 => (h.2 (Int32.not_lt.mpr c1)), fun c1 => ⟨(Pr_0 ho), ⟨(Pr_1 ho), (inR_e (Prl_1 ho) (h.1 (Int32.not_le.mp c1)).1), (h.1 (Int32.not_le.mp c1)).2⟩⟩⟩⟩)
theorem e_Pairs_latestValue {o : Nat} {no : Nat} {p1 : Int32} (ho : Pr o no) {d : Nat} {M M9 : Mm} {r9 : Option Value} (h : ∀ At : JJ, StepP d k_Pairs_latestValue r9 M9 At → At 4 [.ref o, .int p1, .int (I (-1)), .int (I 0)] [] M) : Ev (d + 1) 184 [.ref o, .int p1] M r9 M9 :=
  Ev.intro (L0 := [.ref o, .int p1, .retAddr 0, .retAddr 0]) ok_Pairs_latestValue rfl rfl fun At step =>
  have h := h At step
  h
theorem s_Pairs_latestValue_4 {o : Nat} {no : Nat} {x1 : Int32} {x2 : Int32} {x3 : Int32} (ho : Pr o no) {d : Nat} {M M9 : Mm} {r9 : Option Value} {At : JJ} (step : StepP d k_Pairs_latestValue r9 M9 At) (h : ((x3 < (M.1 o 2)) → inR x3 no ∧ (((x1 < (M.1 (o + 1) x3.toNatClampNeg)) → At 4 [.ref o, .int x1, .int x2, .int (x3 + I 1)] [] M) ∧ (¬ (x1 < (M.1 (o + 1) x3.toNatClampNeg)) → ((x2 = (I (-1))) → At 4 [.ref o, .int x1, .int x3, .int (x3 + I 1)] [] M) ∧ (¬ (x2 = (I (-1))) → inR x3 no ∧ (inR x2 no ∧ ((((M.1 (o + 1) x2.toNatClampNeg) < (M.1 (o + 1) x3.toNatClampNeg)) → At 4 [.ref o, .int x1, .int x3, .int (x3 + I 1)] [] M) ∧ (¬ ((M.1 (o + 1) x2.toNatClampNeg) < (M.1 (o + 1) x3.toNatClampNeg)) → At 4 [.ref o, .int x1, .int x2, .int (x3 + I 1)] [] M))))))) ∧ (¬ (x3 < (M.1 o 2)) → ((x2 = (I (-1))) → ((some (.int (I 0))) = r9 ∧ M = M9)) ∧ (¬ (x2 = (I (-1))) → inR x2 no ∧ (((some (.int (M.1 (o + 2) x2.toNatClampNeg))) = r9 ∧ M = M9))))) : At 4 [.ref o, .int x1, .int x2, .int x3] [] M :=
  step 4 [.ref o, .int x1, .int x2, .int x3] [] M (⟨(Pr_0 ho), ⟨fun c1 => ⟨fun c5 => ⟨(Pr_0 ho), ⟨(Pr_2 ho), (inR_e (Prl_2 ho) ((h.2 (Int32.not_lt.mpr c1)).2 (id c5)).1), ((h.2 (Int32.not_lt.mpr c1)).2 (id c5)).2⟩⟩, fun c5 => ((h.2 (Int32.not_lt.mpr c1)).1 (Decidable.of_not_not c5))⟩, fun c1 => ⟨(Pr_0 ho), ⟨(Pr_1 ho), (inR_e (Prl_1 ho) (h.1 (Int32.not_le.mp c1)).1), ⟨fun c2 => ((h.1 (Int32.not_le.mp c1)).2.1 c2), fun c2 => ⟨fun c3 => (((h.1 (Int32.not_le.mp c1)).2.2 c2).1 c3), fun c3 => ⟨(Pr_0 ho), ⟨(Pr_1 ho), (inR_e (Prl_1 ho) (((h.1 (Int32.not_le.mp c1)).2.2 c2).2 c3).1), ⟨(Pr_0 ho), ⟨(Pr_1 ho), (inR_e (Prl_1 ho) (((h.1 (Int32.not_le.mp c1)).2.2 c2).2 c3).2.1), ⟨fun c4 => ((((h.1 (Int32.not_le.mp c1)).2.2 c2).2 c3).2.2.2 (Int32.not_lt.mpr c4)), fun c4 => ((((h.1 (Int32.not_le.mp c1)).2.2 c2).2 c3).2.2.1 (Int32.not_le.mp c4))⟩⟩⟩⟩⟩⟩⟩⟩⟩⟩⟩)
theorem e_Pairs_copyFrom {o : Nat} {no : Nat} {p1 : Nat} {np1 : Nat} (ho : Pr o no) (hp1 : Pr p1 np1) {d : Nat} {M M9 : Mm} {r9 : Option Value} (h : ∀ At : JJ, StepP d k_Pairs_copyFrom r9 M9 At → ∃ (M1 : Mm), (Ev d 49 [.ref (p1 + 1), .ref (o + 1)] M none M1 ∧ (∃ (M3 : Mm), (Ev d 49 [.ref (p1 + 2), .ref (o + 2)] M1 none M3 ∧ ((none = r9 ∧ (sI M3 o 2 (M3.1 p1 2)) = M9)))))) : Ev (d + 1) 185 [.ref o, .ref p1] M r9 M9 :=
  Ev.intro (L0 := [.ref o, .ref p1]) ok_Pairs_copyFrom rfl rfl fun At step =>
  have h := h At step
  ⟨(Pr_0 hp1), ⟨(Pr_0 ho), (h).elim fun M1 h2 => ⟨M1, h2.1, ⟨(Pr_0 hp1), ⟨(Pr_0 ho), (h2.2).elim fun M3 h4 => ⟨M3, h4.1, ⟨(Pr_0 hp1), ⟨(Pr_0 ho), h4.2⟩⟩⟩⟩⟩⟩⟩⟩
theorem e_State_begin {o : Nat} {p1 : Nat} (ho : Sa o) (hp1 : St p1) {d : Nat} {M M9 : Mm} {r9 : Option Value} (h : ∀ At : JJ, StepP d k_State_begin r9 M9 At → At 60 [.ref o, .retAddr 0, .int (I 0)] [] (sI (sI (sI (sI (sI (sI (sI (sI (sI (sI (sI M o 0 (I 0)) o 1 ((sI M o 0 (I 0)).1 p1 16)) o 2 (I 0)) o 3 (I 0)) o 4 (I 0)) o 5 (I 0)) o 6 (I 0)) o 7 (I 0)) o 8 (I 0)) o 9 (I 0)) o 10 (I 0))) : Ev (d + 1) 207 [.ref o, .ref p1] M r9 M9 :=
  Ev.intro (L0 := [.ref o, .ref p1, .retAddr 0]) ok_State_begin rfl rfl fun At step =>
  have h := h At step
  ⟨(Sa_0 ho), ⟨(St_0 hp1), ⟨(Sa_0 ho), ⟨(Sa_0 ho), ⟨(Sa_0 ho), ⟨(Sa_0 ho), ⟨(Sa_0 ho), ⟨(Sa_0 ho), ⟨(Sa_0 ho), ⟨(Sa_0 ho), ⟨(Sa_0 ho), ⟨(Sa_0 ho), h⟩⟩⟩⟩⟩⟩⟩⟩⟩⟩⟩⟩
theorem s_State_begin_60 {o : Nat} {x2 : Int32} (ho : Sa o) {d : Nat} {M M9 : Mm} {r9 : Option Value} {At : JJ} (step : StepP d k_State_begin r9 M9 At) (h : ((x2 < (I 5)) → inR x2 5 ∧ (At 60 [.ref o, .retAddr 0, .int (x2 + I 1)] [] (sI M (o + 1) x2.toNatClampNeg (I 0)))) ∧ (¬ (x2 < (I 5)) → At 80 [.ref o, .retAddr 0, .int (I 0)] [] M)) : At 60 [.ref o, .retAddr 0, .int x2] [] M :=
  step 60 [.ref o, .retAddr 0, .int x2] [] M (⟨fun c1 => (h.2 (Int32.not_lt.mpr c1)), fun c1 => ⟨(Sa_0 ho), ⟨(Sa_1 ho), (inR_e (Sal_1 ho) (h.1 (Int32.not_le.mp c1)).1), (h.1 (Int32.not_le.mp c1)).2⟩⟩⟩)
theorem s_State_begin_80 {o : Nat} {x2 : Int32} (ho : Sa o) {d : Nat} {M M9 : Mm} {r9 : Option Value} {At : JJ} (step : StepP d k_State_begin r9 M9 At) (h : ((x2 < (I 6)) → inR x2 6 ∧ (At 80 [.ref o, .retAddr 0, .int (x2 + I 1)] [] (sI M (o + 2) x2.toNatClampNeg (I 0)))) ∧ (¬ (x2 < (I 6)) → At 101 [.ref o, .retAddr 0, .int (I 0)] [] M)) : At 80 [.ref o, .retAddr 0, .int x2] [] M :=
  step 80 [.ref o, .retAddr 0, .int x2] [] M (⟨fun c2 => (h.2 (Int32.not_lt.mpr c2)), fun c2 => ⟨(Sa_0 ho), ⟨(Sa_2 ho), (inR_e (Sal_2 ho) (h.1 (Int32.not_le.mp c2)).1), (h.1 (Int32.not_le.mp c2)).2⟩⟩⟩)
theorem s_State_begin_101 {o : Nat} {x2 : Int32} (ho : Sa o) {d : Nat} {M M9 : Mm} {r9 : Option Value} {At : JJ} (step : StepP d k_State_begin r9 M9 At) (h : ((x2 < (I 10)) → inR x2 10 ∧ (At 101 [.ref o, .retAddr 0, .int (x2 + I 1)] [] (sI M (o + 3) x2.toNatClampNeg (I (-1))))) ∧ (¬ (x2 < (I 10)) → (none = r9 ∧ M = M9))) : At 101 [.ref o, .retAddr 0, .int x2] [] M :=
  step 101 [.ref o, .retAddr 0, .int x2] [] M (⟨fun c3 => (h.2 (Int32.not_lt.mpr c3)), fun c3 => ⟨(Sa_0 ho), ⟨(Sa_3 ho), (inR_e (Sal_3 ho) (h.1 (Int32.not_le.mp c3)).1), (h.1 (Int32.not_le.mp c3)).2⟩⟩⟩)
theorem e_State_copyFrom {o : Nat} {p1 : Nat} (ho : Sa o) (hp1 : Sa p1) {d : Nat} {M M9 : Mm} {r9 : Option Value} (h : ∀ At : JJ, StepP d k_State_copyFrom r9 M9 At → ∃ (M1 : Mm), (Ev d 49 [.ref (p1 + 1), .ref (o + 1)] (sI (sI (sI (sI (sI (sI (sI (sI (sI (sI (sI M o 0 (M.1 p1 0)) o 1 ((sI M o 0 (M.1 p1 0)).1 p1 1)) o 2 ((sI (sI M o 0 (M.1 p1 0)) o 1 ((sI M o 0 (M.1 p1 0)).1 p1 1)).1 p1 2)) o 3 ((sI (sI (sI M o 0 (M.1 p1 0)) o 1 ((sI M o 0 (M.1 p1 0)).1 p1 1)) o 2 ((sI (sI M o 0 (M.1 p1 0)) o 1 ((sI M o 0 (M.1 p1 0)).1 p1 1)).1 p1 2)).1 p1 3)) o 4 ((sI (sI (sI (sI M o 0 (M.1 p1 0)) o 1 ((sI M o 0 (M.1 p1 0)).1 p1 1)) o 2 ((sI (sI M o 0 (M.1 p1 0)) o 1 ((sI M o 0 (M.1 p1 0)).1 p1 1)).1 p1 2)) o 3 ((sI (sI (sI M o 0 (M.1 p1 0)) o 1 ((sI M o 0 (M.1 p1 0)).1 p1 1)) o 2 ((sI (sI M o 0 (M.1 p1 0)) o 1 ((sI M o 0 (M.1 p1 0)).1 p1 1)).1 p1 2)).1 p1 3)).1 p1 4)) o 5 ((sI (sI (sI (sI (sI M o 0 (M.1 p1 0)) o 1 ((sI M o 0 (M.1 p1 0)).1 p1 1)) o 2 ((sI (sI M o 0 (M.1 p1 0)) o 1 ((sI M o 0 (M.1 p1 0)).1 p1 1)).1 p1 2)) o 3 ((sI (sI (sI M o 0 (M.1 p1 0)) o 1 ((sI M o 0 (M.1 p1 0)).1 p1 1)) o 2 ((sI (sI M o 0 (M.1 p1 0)) o 1 ((sI M o 0 (M.1 p1 0)).1 p1 1)).1 p1 2)).1 p1 3)) o 4 ((sI (sI (sI (sI M o 0 (M.1 p1 0)) o 1 ((sI M o 0 (M.1 p1 0)).1 p1 1)) o 2 ((sI (sI M o 0 (M.1 p1 0)) o 1 ((sI M o 0 (M.1 p1 0)).1 p1 1)).1 p1 2)) o 3 ((sI (sI (sI M o 0 (M.1 p1 0)) o 1 ((sI M o 0 (M.1 p1 0)).1 p1 1)) o 2 ((sI (sI M o 0 (M.1 p1 0)) o 1 ((sI M o 0 (M.1 p1 0)).1 p1 1)).1 p1 2)).1 p1 3)).1 p1 4)).1 p1 5)) o 6 ((sI (sI (sI (sI (sI (sI M o 0 (M.1 p1 0)) o 1 ((sI M o 0 (M.1 p1 0)).1 p1 1)) o 2 ((sI (sI M o 0 (M.1 p1 0)) o 1 ((sI M o 0 (M.1 p1 0)).1 p1 1)).1 p1 2)) o 3 ((sI (sI (sI M o 0 (M.1 p1 0)) o 1 ((sI M o 0 (M.1 p1 0)).1 p1 1)) o 2 ((sI (sI M o 0 (M.1 p1 0)) o 1 ((sI M o 0 (M.1 p1 0)).1 p1 1)).1 p1 2)).1 p1 3)) o 4 ((sI (sI (sI (sI M o 0 (M.1 p1 0)) o 1 ((sI M o 0 (M.1 p1 0)).1 p1 1)) o 2 ((sI (sI M o 0 (M.1 p1 0)) o 1 ((sI M o 0 (M.1 p1 0)).1 p1 1)).1 p1 2)) o 3 ((sI (sI (sI M o 0 (M.1 p1 0)) o 1 ((sI M o 0 (M.1 p1 0)).1 p1 1)) o 2 ((sI (sI M o 0 (M.1 p1 0)) o 1 ((sI M o 0 (M.1 p1 0)).1 p1 1)).1 p1 2)).1 p1 3)).1 p1 4)) o 5 ((sI (sI (sI (sI (sI M o 0 (M.1 p1 0)) o 1 ((sI M o 0 (M.1 p1 0)).1 p1 1)) o 2 ((sI (sI M o 0 (M.1 p1 0)) o 1 ((sI M o 0 (M.1 p1 0)).1 p1 1)).1 p1 2)) o 3 ((sI (sI (sI M o 0 (M.1 p1 0)) o 1 ((sI M o 0 (M.1 p1 0)).1 p1 1)) o 2 ((sI (sI M o 0 (M.1 p1 0)) o 1 ((sI M o 0 (M.1 p1 0)).1 p1 1)).1 p1 2)).1 p1 3)) o 4 ((sI (sI (sI (sI M o 0 (M.1 p1 0)) o 1 ((sI M o 0 (M.1 p1 0)).1 p1 1)) o 2 ((sI (sI M o 0 (M.1 p1 0)) o 1 ((sI M o 0 (M.1 p1 0)).1 p1 1)).1 p1 2)) o 3 ((sI (sI (sI M o 0 (M.1 p1 0)) o 1 ((sI M o 0 (M.1 p1 0)).1 p1 1)) o 2 ((sI (sI M o 0 (M.1 p1 0)) o 1 ((sI M o 0 (M.1 p1 0)).1 p1 1)).1 p1 2)).1 p1 3)).1 p1 4)).1 p1 5)).1 p1 6)) o 7 ((sI (sI (sI (sI (sI (sI (sI M o 0 (M.1 p1 0)) o 1 ((sI M o 0 (M.1 p1 0)).1 p1 1)) o 2 ((sI (sI M o 0 (M.1 p1 0)) o 1 ((sI M o 0 (M.1 p1 0)).1 p1 1)).1 p1 2)) o 3 ((sI (sI (sI M o 0 (M.1 p1 0)) o 1 ((sI M o 0 (M.1 p1 0)).1 p1 1)) o 2 ((sI (sI M o 0 (M.1 p1 0)) o 1 ((sI M o 0 (M.1 p1 0)).1 p1 1)).1 p1 2)).1 p1 3)) o 4 ((sI (sI (sI (sI M o 0 (M.1 p1 0)) o 1 ((sI M o 0 (M.1 p1 0)).1 p1 1)) o 2 ((sI (sI M o 0 (M.1 p1 0)) o 1 ((sI M o 0 (M.1 p1 0)).1 p1 1)).1 p1 2)) o 3 ((sI (sI (sI M o 0 (M.1 p1 0)) o 1 ((sI M o 0 (M.1 p1 0)).1 p1 1)) o 2 ((sI (sI M o 0 (M.1 p1 0)) o 1 ((sI M o 0 (M.1 p1 0)).1 p1 1)).1 p1 2)).1 p1 3)).1 p1 4)) o 5 ((sI (sI (sI (sI (sI M o 0 (M.1 p1 0)) o 1 ((sI M o 0 (M.1 p1 0)).1 p1 1)) o 2 ((sI (sI M o 0 (M.1 p1 0)) o 1 ((sI M o 0 (M.1 p1 0)).1 p1 1)).1 p1 2)) o 3 ((sI (sI (sI M o 0 (M.1 p1 0)) o 1 ((sI M o 0 (M.1 p1 0)).1 p1 1)) o 2 ((sI (sI M o 0 (M.1 p1 0)) o 1 ((sI M o 0 (M.1 p1 0)).1 p1 1)).1 p1 2)).1 p1 3)) o 4 ((sI (sI (sI (sI M o 0 (M.1 p1 0)) o 1 ((sI M o 0 (M.1 p1 0)).1 p1 1)) o 2 ((sI (sI M o 0 (M.1 p1 0)) o 1 ((sI M o 0 (M.1 p1 0)).1 p1 1)).1 p1 2)) o 3 ((sI (sI (sI M o 0 (M.1 p1 0)) o 1 ((sI M o 0 (M.1 p1 0)).1 p1 1)) o 2 ((sI (sI M o 0 (M.1 p1 0)) o 1 ((sI M o 0 (M.1 p1 0)).1 p1 1)).1 p1 2)).1 p1 3)).1 p1 4)).1 p1 5)) o 6 ((sI (sI (sI (sI (sI (sI M o 0 (M.1 p1 0)) o 1 ((sI M o 0 (M.1 p1 0)).1 p1 1)) o 2 ((sI (sI M o 0 (M.1 p1 0)) o 1 ((sI M o 0 (M.1 p1 0)).1 p1 1)).1 p1 2)) o 3 ((sI (sI (sI M o 0 (M.1 p1 0)) o 1 ((sI M o 0 (M.1 p1 0)).1 p1 1)) o 2 ((sI (sI M o 0 (M.1 p1 0)) o 1 ((sI M o 0 (M.1 p1 0)).1 p1 1)).1 p1 2)).1 p1 3)) o 4 ((sI (sI (sI (sI M o 0 (M.1 p1 0)) o 1 ((sI M o 0 (M.1 p1 0)).1 p1 1)) o 2 ((sI (sI M o 0 (M.1 p1 0)) o 1 ((sI M o 0 (M.1 p1 0)).1 p1 1)).1 p1 2)) o 3 ((sI (sI (sI M o 0 (M.1 p1 0)) o 1 ((sI M o 0 (M.1 p1 0)).1 p1 1)) o 2 ((sI (sI M o 0 (M.1 p1 0)) o 1 ((sI M o 0 (M.1 p1 0)).1 p1 1)).1 p1 2)).1 p1 3)).1 p1 4)) o 5 ((sI (sI (sI (sI (sI M o 0 (M.1 p1 0)) o 1 ((sI M o 0 (M.1 p1 0)).1 p1 1)) o 2 ((sI (sI M o 0 (M.1 p1 0)) o 1 ((sI M o 0 (M.1 p1 0)).1 p1 1)).1 p1 2)) o 3 ((sI (sI (sI M o 0 (M.1 p1 0)) o 1 ((sI M o 0 (M.1 p1 0)).1 p1 1)) o 2 ((sI (sI M o 0 (M.1 p1 0)) o 1 ((sI M o 0 (M.1 p1 0)).1 p1 1)).1 p1 2)).1 p1 3)) o 4 ((sI (sI (sI (sI M o 0 (M.1 p1 0)) o 1 ((sI M o 0 (M.1 p1 0)).1 p1 1)) o 2 ((sI (sI M o 0 (M.1 p1 0)) o 1 ((sI M o 0 (M.1 p1 0)).1 p1 1)).1 p1 2)) o 3 ((sI (sI (sI M o 0 (M.1 p1 0)) o 1 ((sI M o 0 (M.1 p1 0)).1 p1 1)) o 2 ((sI (sI M o 0 (M.1 p1 0)) o 1 ((sI M o 0 (M.1 p1 0)).1 p1 1)).1 p1 2)).1 p1 3)).1 p1 4)).1 p1 5)).1 p1 6)).1 p1 7)) o 8 ((sI (sI (sI (sI (sI (sI (sI (sI M o 0 (M.1 p1 0)) o 1 ((sI M o 0 (M.1 p1 0)).1 p1 1)) o 2 ((sI (sI M o 0 (M.1 p1 0)) o 1 ((sI M o 0 (M.1 p1 0)).1 p1 1)).1 p1 2)) o 3 ((sI (sI (sI M o 0 (M.1 p1 0)) o 1 ((sI M o 0 (M.1 p1 0)).1 p1 1)) o 2 ((sI (sI M o 0 (M.1 p1 0)) o 1 ((sI M o 0 (M.1 p1 0)).1 p1 1)).1 p1 2)).1 p1 3)) o 4 ((sI (sI (sI (sI M o 0 (M.1 p1 0)) o 1 ((sI M o 0 (M.1 p1 0)).1 p1 1)) o 2 ((sI (sI M o 0 (M.1 p1 0)) o 1 ((sI M o 0 (M.1 p1 0)).1 p1 1)).1 p1 2)) o 3 ((sI (sI (sI M o 0 (M.1 p1 0)) o 1 ((sI M o 0 (M.1 p1 0)).1 p1 1)) o 2 ((sI (sI M o 0 (M.1 p1 0)) o 1 ((sI M o 0 (M.1 p1 0)).1 p1 1)).1 p1 2)).1 p1 3)).1 p1 4)) o 5 ((sI (sI (sI (sI (sI M o 0 (M.1 p1 0)) o 1 ((sI M o 0 (M.1 p1 0)).1 p1 1)) o 2 ((sI (sI M o 0 (M.1 p1 0)) o 1 ((sI M o 0 (M.1 p1 0)).1 p1 1)).1 p1 2)) o 3 ((sI (sI (sI M o 0 (M.1 p1 0)) o 1 ((sI M o 0 (M.1 p1 0)).1 p1 1)) o 2 ((sI (sI M o 0 (M.1 p1 0)) o 1 ((sI M o 0 (M.1 p1 0)).1 p1 1)).1 p1 2)).1 p1 3)) o 4 ((sI (sI (sI (sI M o 0 (M.1 p1 0)) o 1 ((sI M o 0 (M.1 p1 0)).1 p1 1)) o 2 ((sI (sI M o 0 (M.1 p1 0)) o 1 ((sI M o 0 (M.1 p1 0)).1 p1 1)).1 p1 2)) o 3 ((sI (sI (sI M o 0 (M.1 p1 0)) o 1 ((sI M o 0 (M.1 p1 0)).1 p1 1)) o 2 ((sI (sI M o 0 (M.1 p1 0)) o 1 ((sI M o 0 (M.1 p1 0)).1 p1 1)).1 p1 2)).1 p1 3)).1 p1 4)).1 p1 5)) o 6 ((sI (sI (sI (sI (sI (sI M o 0 (M.1 p1 0)) o 1 ((sI M o 0 (M.1 p1 0)).1 p1 1)) o 2 ((sI (sI M o 0 (M.1 p1 0)) o 1 ((sI M o 0 (M.1 p1 0)).1 p1 1)).1 p1 2)) o 3 ((sI (sI (sI M o 0 (M.1 p1 0)) o 1 ((sI M o 0 (M.1 p1 0)).1 p1 1)) o 2 ((sI (sI M o 0 (M.1 p1 0)) o 1 ((sI M o 0 (M.1 p1 0)).1 p1 1)).1 p1 2)).1 p1 3)) o 4 ((sI (sI (sI (sI M o 0 (M.1 p1 0)) o 1 ((sI M o 0 (M.1 p1 0)).1 p1 1)) o 2 ((sI (sI M o 0 (M.1 p1 0)) o 1 ((sI M o 0 (M.1 p1 0)).1 p1 1)).1 p1 2)) o 3 ((sI (sI (sI M o 0 (M.1 p1 0)) o 1 ((sI M o 0 (M.1 p1 0)).1 p1 1)) o 2 ((sI (sI M o 0 (M.1 p1 0)) o 1 ((sI M o 0 (M.1 p1 0)).1 p1 1)).1 p1 2)).1 p1 3)).1 p1 4)) o 5 ((sI (sI (sI (sI (sI M o 0 (M.1 p1 0)) o 1 ((sI M o 0 (M.1 p1 0)).1 p1 1)) o 2 ((sI (sI M o 0 (M.1 p1 0)) o 1 ((sI M o 0 (M.1 p1 0)).1 p1 1)).1 p1 2)) o 3 ((sI (sI (sI M o 0 (M.1 p1 0)) o 1 ((sI M o 0 (M.1 p1 0)).1 p1 1)) o 2 ((sI (sI M o 0 (M.1 p1 0)) o 1 ((sI M o 0 (M.1 p1 0)).1 p1 1)).1 p1 2)).1 p1 3)) o 4 ((sI (sI (sI (sI M o 0 (M.1 p1 0)) o 1 ((sI M o 0 (M.1 p1 0)).1 p1 1)) o 2 ((sI (sI M o 0 (M.1 p1 0)) o 1 ((sI M o 0 (M.1 p1 0)).1 p1 1)).1 p1 2)) o 3 ((sI (sI (sI M o 0 (M.1 p1 0)) o 1 ((sI M o 0 (M.1 p1 0)).1 p1 1)) o 2 ((sI (sI M o 0 (M.1 p1 0)) o 1 ((sI M o 0 (M.1 p1 0)).1 p1 1)).1 p1 2)).1 p1 3)).1 p1 4)).1 p1 5)).1 p1 6)) o 7 ((sI (sI (sI (sI (sI (sI (sI M o 0 (M.1 p1 0)) o 1 ((sI M o 0 (M.1 p1 0)).1 p1 1)) o 2 ((sI (sI M o 0 (M.1 p1 0)) o 1 ((sI M o 0 (M.1 p1 0)).1 p1 1)).1 p1 2)) o 3 ((sI (sI (sI M o 0 (M.1 p1 0)) o 1 ((sI M o 0 (M.1 p1 0)).1 p1 1)) o 2 ((sI (sI M o 0 (M.1 p1 0)) o 1 ((sI M o 0 (M.1 p1 0)).1 p1 1)).1 p1 2)).1 p1 3)) o 4 ((sI (sI (sI (sI M o 0 (M.1 p1 0)) o 1 ((sI M o 0 (M.1 p1 0)).1 p1 1)) o 2 ((sI (sI M o 0 (M.1 p1 0)) o 1 ((sI M o 0 (M.1 p1 0)).1 p1 1)).1 p1 2)) o 3 ((sI (sI (sI M o 0 (M.1 p1 0)) o 1 ((sI M o 0 (M.1 p1 0)).1 p1 1)) o 2 ((sI (sI M o 0 (M.1 p1 0)) o 1 ((sI M o 0 (M.1 p1 0)).1 p1 1)).1 p1 2)).1 p1 3)).1 p1 4)) o 5 ((sI (sI (sI (sI (sI M o 0 (M.1 p1 0)) o 1 ((sI M o 0 (M.1 p1 0)).1 p1 1)) o 2 ((sI (sI M o 0 (M.1 p1 0)) o 1 ((sI M o 0 (M.1 p1 0)).1 p1 1)).1 p1 2)) o 3 ((sI (sI (sI M o 0 (M.1 p1 0)) o 1 ((sI M o 0 (M.1 p1 0)).1 p1 1)) o 2 ((sI (sI M o 0 (M.1 p1 0)) o 1 ((sI M o 0 (M.1 p1 0)).1 p1 1)).1 p1 2)).1 p1 3)) o 4 ((sI (sI (sI (sI M o 0 (M.1 p1 0)) o 1 ((sI M o 0 (M.1 p1 0)).1 p1 1)) o 2 ((sI (sI M o 0 (M.1 p1 0)) o 1 ((sI M o 0 (M.1 p1 0)).1 p1 1)).1 p1 2)) o 3 ((sI (sI (sI M o 0 (M.1 p1 0)) o 1 ((sI M o 0 (M.1 p1 0)).1 p1 1)) o 2 ((sI (sI M o 0 (M.1 p1 0)) o 1 ((sI M o 0 (M.1 p1 0)).1 p1 1)).1 p1 2)).1 p1 3)).1 p1 4)).1 p1 5)) o 6 ((sI (sI (sI (sI (sI (sI M o 0 (M.1 p1 0)) o 1 ((sI M o 0 (M.1 p1 0)).1 p1 1)) o 2 ((sI (sI M o 0 (M.1 p1 0)) o 1 ((sI M o 0 (M.1 p1 0)).1 p1 1)).1 p1 2)) o 3 ((sI (sI (sI M o 0 (M.1 p1 0)) o 1 ((sI M o 0 (M.1 p1 0)).1 p1 1)) o 2 ((sI (sI M o 0 (M.1 p1 0)) o 1 ((sI M o 0 (M.1 p1 0)).1 p1 1)).1 p1 2)).1 p1 3)) o 4 ((sI (sI (sI (sI M o 0 (M.1 p1 0)) o 1 ((sI M o 0 (M.1 p1 0)).1 p1 1)) o 2 ((sI (sI M o 0 (M.1 p1 0)) o 1 ((sI M o 0 (M.1 p1 0)).1 p1 1)).1 p1 2)) o 3 ((sI (sI (sI M o 0 (M.1 p1 0)) o 1 ((sI M o 0 (M.1 p1 0)).1 p1 1)) o 2 ((sI (sI M o 0 (M.1 p1 0)) o 1 ((sI M o 0 (M.1 p1 0)).1 p1 1)).1 p1 2)).1 p1 3)).1 p1 4)) o 5 ((sI (sI (sI (sI (sI M o 0 (M.1 p1 0)) o 1 ((sI M o 0 (M.1 p1 0)).1 p1 1)) o 2 ((sI (sI M o 0 (M.1 p1 0)) o 1 ((sI M o 0 (M.1 p1 0)).1 p1 1)).1 p1 2)) o 3 ((sI (sI (sI M o 0 (M.1 p1 0)) o 1 ((sI M o 0 (M.1 p1 0)).1 p1 1)) o 2 ((sI (sI M o 0 (M.1 p1 0)) o 1 ((sI M o 0 (M.1 p1 0)).1 p1 1)).1 p1 2)).1 p1 3)) o 4 ((sI (sI (sI (sI M o 0 (M.1 p1 0)) o 1 ((sI M o 0 (M.1 p1 0)).1 p1 1)) o 2 ((sI (sI M o 0 (M.1 p1 0)) o 1 ((sI M o 0 (M.1 p1 0)).1 p1 1)).1 p1 2)) o 3 ((sI (sI (sI M o 0 (M.1 p1 0)) o 1 ((sI M o 0 (M.1 p1 0)).1 p1 1)) o 2 ((sI (sI M o 0 (M.1 p1 0)) o 1 ((sI M o 0 (M.1 p1 0)).1 p1 1)).1 p1 2)).1 p1 3)).1 p1 4)).1 p1 5)).1 p1 6)).1 p1 7)).1 p1 8)) o 9 ((sI (sI (sI (sI (sI (sI (sI (sI (sI M o 0 (M.1 p1 0)) o 1 ((sI M o 0 (M.1 p1 0)).1 p1 1)) o 2 ((sI (sI M o 0 (M.1 p1 0)) o 1 ((sI M o 0 (M.1 p1 0)).1 p1 1)).1 p1 2)) o 3 ((sI (sI (sI M o 0 (M.1 p1 0)) o 1 ((sI M o 0 (M.1 p1 0)).1 p1 1)) o 2 ((sI (sI M o 0 (M.1 p1 0)) o 1 ((sI M o 0 (M.1 p1 0)).1 p1 1)).1 p1 2)).1 p1 3)) o 4 ((sI (sI (sI (sI M o 0 (M.1 p1 0)) o 1 ((sI M o 0 (M.1 p1 0)).1 p1 1)) o 2 ((sI (sI M o 0 (M.1 p1 0)) o 1 ((sI M o 0 (M.1 p1 0)).1 p1 1)).1 p1 2)) o 3 ((sI (sI (sI M o 0 (M.1 p1 0)) o 1 ((sI M o 0 (M.1 p1 0)).1 p1 1)) o 2 ((sI (sI M o 0 (M.1 p1 0)) o 1 ((sI M o 0 (M.1 p1 0)).1 p1 1)).1 p1 2)).1 p1 3)).1 p1 4)) o 5 ((sI (sI (sI (sI (sI M o 0 (M.1 p1 0)) o 1 ((sI M o 0 (M.1 p1 0)).1 p1 1)) o 2 ((sI (sI M o 0 (M.1 p1 0)) o 1 ((sI M o 0 (M.1 p1 0)).1 p1 1)).1 p1 2)) o 3 ((sI (sI (sI M o 0 (M.1 p1 0)) o 1 ((sI M o 0 (M.1 p1 0)).1 p1 1)) o 2 ((sI (sI M o 0 (M.1 p1 0)) o 1 ((sI M o 0 (M.1 p1 0)).1 p1 1)).1 p1 2)).1 p1 3)) o 4 ((sI (sI (sI (sI M o 0 (M.1 p1 0)) o 1 ((sI M o 0 (M.1 p1 0)).1 p1 1)) o 2 ((sI (sI M o 0 (M.1 p1 0)) o 1 ((sI M o 0 (M.1 p1 0)).1 p1 1)).1 p1 2)) o 3 ((sI (sI (sI M o 0 (M.1 p1 0)) o 1 ((sI M o 0 (M.1 p1 0)).1 p1 1)) o 2 ((sI (sI M o 0 (M.1 p1 0)) o 1 ((sI M o 0 (M.1 p1 0)).1 p1 1)).1 p1 2)).1 p1 3)).1 p1 4)).1 p1 5)) o 6 ((sI (sI (sI (sI (sI (sI M o 0 (M.1 p1 0)) o 1 ((sI M o 0 (M.1 p1 0)).1 p1 1)) o 2 ((sI (sI M o 0 (M.1 p1 0)) o 1 ((sI M o 0 (M.1 p1 0)).1 p1 1)).1 p1 2)) o 3 ((sI (sI (sI M o 0 (M.1 p1 0)) o 1 ((sI M o 0 (M.1 p1 0)).1 p1 1)) o 2 ((sI (sI M o 0 (M.1 p1 0)) o 1 ((sI M o 0 (M.1 p1 0)).1 p1 1)).1 p1 2)).1 p1 3)) o 4 ((sI (sI (sI (sI M o 0 (M.1 p1 0)) o 1 ((sI M o 0 (M.1 p1 0)).1 p1 1)) o 2 ((sI (sI M o 0 (M.1 p1 0)) o 1 ((sI M o 0 (M.1 p1 0)).1 p1 1)).1 p1 2)) o 3 ((sI (sI (sI M o 0 (M.1 p1 0)) o 1 ((sI M o 0 (M.1 p1 0)).1 p1 1)) o 2 ((sI (sI M o 0 (M.1 p1 0)) o 1 ((sI M o 0 (M.1 p1 0)).1 p1 1)).1 p1 2)).1 p1 3)).1 p1 4)) o 5 ((sI (sI (sI (sI (sI M o 0 (M.1 p1 0)) o 1 ((sI M o 0 (M.1 p1 0)).1 p1 1)) o 2 ((sI (sI M o 0 (M.1 p1 0)) o 1 ((sI M o 0 (M.1 p1 0)).1 p1 1)).1 p1 2)) o 3 ((sI (sI (sI M o 0 (M.1 p1 0)) o 1 ((sI M o 0 (M.1 p1 0)).1 p1 1)) o 2 ((sI (sI M o 0 (M.1 p1 0)) o 1 ((sI M o 0 (M.1 p1 0)).1 p1 1)).1 p1 2)).1 p1 3)) o 4 ((sI (sI (sI (sI M o 0 (M.1 p1 0)) o 1 ((sI M o 0 (M.1 p1 0)).1 p1 1)) o 2 ((sI (sI M o 0 (M.1 p1 0)) o 1 ((sI M o 0 (M.1 p1 0)).1 p1 1)).1 p1 2)) o 3 ((sI (sI (sI M o 0 (M.1 p1 0)) o 1 ((sI M o 0 (M.1 p1 0)).1 p1 1)) o 2 ((sI (sI M o 0 (M.1 p1 0)) o 1 ((sI M o 0 (M.1 p1 0)).1 p1 1)).1 p1 2)).1 p1 3)).1 p1 4)).1 p1 5)).1 p1 6)) o 7 ((sI (sI (sI (sI (sI (sI (sI M o 0 (M.1 p1 0)) o 1 ((sI M o 0 (M.1 p1 0)).1 p1 1)) o 2 ((sI (sI M o 0 (M.1 p1 0)) o 1 ((sI M o 0 (M.1 p1 0)).1 p1 1)).1 p1 2)) o 3 ((sI (sI (sI M o 0 (M.1 p1 0)) o 1 ((sI M o 0 (M.1 p1 0)).1 p1 1)) o 2 ((sI (sI M o 0 (M.1 p1 0)) o 1 ((sI M o 0 (M.1 p1 0)).1 p1 1)).1 p1 2)).1 p1 3)) o 4 ((sI (sI (sI (sI M o 0 (M.1 p1 0)) o 1 ((sI M o 0 (M.1 p1 0)).1 p1 1)) o 2 ((sI (sI M o 0 (M.1 p1 0)) o 1 ((sI M o 0 (M.1 p1 0)).1 p1 1)).1 p1 2)) o 3 ((sI (sI (sI M o 0 (M.1 p1 0)) o 1 ((sI M o 0 (M.1 p1 0)).1 p1 1)) o 2 ((sI (sI M o 0 (M.1 p1 0)) o 1 ((sI M o 0 (M.1 p1 0)).1 p1 1)).1 p1 2)).1 p1 3)).1 p1 4)) o 5 ((sI (sI (sI (sI (sI M o 0 (M.1 p1 0)) o 1 ((sI M o 0 (M.1 p1 0)).1 p1 1)) o 2 ((sI (sI M o 0 (M.1 p1 0)) o 1 ((sI M o 0 (M.1 p1 0)).1 p1 1)).1 p1 2)) o 3 ((sI (sI (sI M o 0 (M.1 p1 0)) o 1 ((sI M o 0 (M.1 p1 0)).1 p1 1)) o 2 ((sI (sI M o 0 (M.1 p1 0)) o 1 ((sI M o 0 (M.1 p1 0)).1 p1 1)).1 p1 2)).1 p1 3)) o 4 ((sI (sI (sI (sI M o 0 (M.1 p1 0)) o 1 ((sI M o 0 (M.1 p1 0)).1 p1 1)) o 2 ((sI (sI M o 0 (M.1 p1 0)) o 1 ((sI M o 0 (M.1 p1 0)).1 p1 1)).1 p1 2)) o 3 ((sI (sI (sI M o 0 (M.1 p1 0)) o 1 ((sI M o 0 (M.1 p1 0)).1 p1 1)) o 2 ((sI (sI M o 0 (M.1 p1 0)) o 1 ((sI M o 0 (M.1 p1 0)).1 p1 1)).1 p1 2)).1 p1 3)).1 p1 4)).1 p1 5)) o 6 ((sI (sI (sI (sI (sI (sI M o 0 (M.1 p1 0)) o 1 ((sI M o 0 (M.1 p1 0)).1 p1 1)) o 2 ((sI (sI M o 0 (M.1 p1 0)) o 1 ((sI M o 0 (M.1 p1 0)).1 p1 1)).1 p1 2)) o 3 ((sI (sI (sI M o 0 (M.1 p1 0)) o 1 ((sI M o 0 (M.1 p1 0)).1 p1 1)) o 2 ((sI (sI M o 0 (M.1 p1 0)) o 1 ((sI M o 0 (M.1 p1 0)).1 p1 1)).1 p1 2)).1 p1 3)) o 4 ((sI (sI (sI (sI M o 0 (M.1 p1 0)) o 1 ((sI M o 0 (M.1 p1 0)).1 p1 1)) o 2 ((sI (sI M o 0 (M.1 p1 0)) o 1 ((sI M o 0 (M.1 p1 0)).1 p1 1)).1 p1 2)) o 3 ((sI (sI (sI M o 0 (M.1 p1 0)) o 1 ((sI M o 0 (M.1 p1 0)).1 p1 1)) o 2 ((sI (sI M o 0 (M.1 p1 0)) o 1 ((sI M o 0 (M.1 p1 0)).1 p1 1)).1 p1 2)).1 p1 3)).1 p1 4)) o 5 ((sI (sI (sI (sI (sI M o 0 (M.1 p1 0)) o 1 ((sI M o 0 (M.1 p1 0)).1 p1 1)) o 2 ((sI (sI M o 0 (M.1 p1 0)) o 1 ((sI M o 0 (M.1 p1 0)).1 p1 1)).1 p1 2)) o 3 ((sI (sI (sI M o 0 (M.1 p1 0)) o 1 ((sI M o 0 (M.1 p1 0)).1 p1 1)) o 2 ((sI (sI M o 0 (M.1 p1 0)) o 1 ((sI M o 0 (M.1 p1 0)).1 p1 1)).1 p1 2)).1 p1 3)) o 4 ((sI (sI (sI (sI M o 0 (M.1 p1 0)) o 1 ((sI M o 0 (M.1 p1 0)).1 p1 1)) o 2 ((sI (sI M o 0 (M.1 p1 0)) o 1 ((sI M o 0 (M.1 p1 0)).1 p1 1)).1 p1 2)) o 3 ((sI (sI (sI M o 0 (M.1 p1 0)) o 1 ((sI M o 0 (M.1 p1 0)).1 p1 1)) o 2 ((sI (sI M o 0 (M.1 p1 0)) o 1 ((sI M o 0 (M.1 p1 0)).1 p1 1)).1 p1 2)).1 p1 3)).1 p1 4)).1 p1 5)).1 p1 6)).1 p1 7)) o 8 ((sI (sI (sI (sI (sI (sI (sI (sI M o 0 (M.1 p1 0)) o 1 ((sI M o 0 (M.1 p1 0)).1 p1 1)) o 2 ((sI (sI M o 0 (M.1 p1 0)) o 1 ((sI M o 0 (M.1 p1 0)).1 p1 1)).1 p1 2)) o 3 ((sI (sI (sI M o 0 (M.1 p1 0)) o 1 ((sI M o 0 (M.1 p1 0)).1 p1 1)) o 2 ((sI (sI M o 0 (M.1 p1 0)) o 1 ((sI M o 0 (M.1 p1 0)).1 p1 1)).1 p1 2)).1 p1 3)) o 4 ((sI (sI (sI (sI M o 0 (M.1 p1 0)) o 1 ((sI M o 0 (M.1 p1 0)).1 p1 1)) o 2 ((sI (sI M o 0 (M.1 p1 0)) o 1 ((sI M o 0 (M.1 p1 0)).1 p1 1)).1 p1 2)) o 3 ((sI (sI (sI M o 0 (M.1 p1 0)) o 1 ((sI M o 0 (M.1 p1 0)).1 p1 1)) o 2 ((sI (sI M o 0 (M.1 p1 0)) o 1 ((sI M o 0 (M.1 p1 0)).1 p1 1)).1 p1 2)).1 p1 3)).1 p1 4)) o 5 ((sI (sI (sI (sI (sI M o 0 (M.1 p1 0)) o 1 ((sI M o 0 (M.1 p1 0)).1 p1 1)) o 2 ((sI (sI M o 0 (M.1 p1 0)) o 1 ((sI M o 0 (M.1 p1 0)).1 p1 1)).1 p1 2)) o 3 ((sI (sI (sI M o 0 (M.1 p1 0)) o 1 ((sI M o 0 (M.1 p1 0)).1 p1 1)) o 2 ((sI (sI M o 0 (M.1 p1 0)) o 1 ((sI M o 0 (M.1 p1 0)).1 p1 1)).1 p1 2)).1 p1 3)) o 4 ((sI (sI (sI (sI M o 0 (M.1 p1 0)) o 1 ((sI M o 0 (M.1 p1 0)).1 p1 1)) o 2 ((sI (sI M o 0 (M.1 p1 0)) o 1 ((sI M o 0 (M.1 p1 0)).1 p1 1)).1 p1 2)) o 3 ((sI (sI (sI M o 0 (M.1 p1 0)) o 1 ((sI M o 0 (M.1 p1 0)).1 p1 1)) o 2 ((sI (sI M o 0 (M.1 p1 0)) o 1 ((sI M o 0 (M.1 p1 0)).1 p1 1)).1 p1 2)).1 p1 3)).1 p1 4)).1 p1 5)) o 6 ((sI (sI (sI (sI (sI (sI M o 0 (M.1 p1 0)) o 1 ((sI M o 0 (M.1 p1 0)).1 p1 1)) o 2 ((sI (sI M o 0 (M.1 p1 0)) o 1 ((sI M o 0 (M.1 p1 0)).1 p1 1)).1 p1 2)) o 3 ((sI (sI (sI M o 0 (M.1 p1 0)) o 1 ((sI M o 0 (M.1 p1 0)).1 p1 1)) o 2 ((sI (sI M o 0 (M.1 p1 0)) o 1 ((sI M o 0 (M.1 p1 0)).1 p1 1)).1 p1 2)).1 p1 3)) o 4 ((sI (sI (sI (sI M o 0 (M.1 p1 0)) o 1 ((sI M o 0 (M.1 p1 0)).1 p1 1)) o 2 ((sI (sI M o 0 (M.1 p1 0)) o 1 ((sI M o 0 (M.1 p1 0)).1 p1 1)).1 p1 2)) o 3 ((sI (sI (sI M o 0 (M.1 p1 0)) o 1 ((sI M o 0 (M.1 p1 0)).1 p1 1)) o 2 ((sI (sI M o 0 (M.1 p1 0)) o 1 ((sI M o 0 (M.1 p1 0)).1 p1 1)).1 p1 2)).1 p1 3)).1 p1 4)) o 5 ((sI (sI (sI (sI (sI M o 0 (M.1 p1 0)) o 1 ((sI M o 0 (M.1 p1 0)).1 p1 1)) o 2 ((sI (sI M o 0 (M.1 p1 0)) o 1 ((sI M o 0 (M.1 p1 0)).1 p1 1)).1 p1 2)) o 3 ((sI (sI (sI M o 0 (M.1 p1 0)) o 1 ((sI M o 0 (M.1 p1 0)).1 p1 1)) o 2 ((sI (sI M o 0 (M.1 p1 0)) o 1 ((sI M o 0 (M.1 p1 0)).1 p1 1)).1 p1 2)).1 p1 3)) o 4 ((sI (sI (sI (sI M o 0 (M.1 p1 0)) o 1 ((sI M o 0 (M.1 p1 0)).1 p1 1)) o 2 ((sI (sI M o 0 (M.1 p1 0)) o 1 ((sI M o 0 (M.1 p1 0)).1 p1 1)).1 p1 2)) o 3 ((sI (sI (sI M o 0 (M.1 p1 0)) o 1 ((sI M o 0 (M.1 p1 0)).1 p1 1)) o 2 ((sI (sI M o 0 (M.1 p1 0)) o 1 ((sI M o 0 (M.1 p1 0)).1 p1 1)).1 p1 2)).1 p1 3)).1 p1 4)).1 p1 5)).1 p1 6)) o 7 ((sI (sI (sI (sI (sI (sI (sI M o 0 (M.1 p1 0)) o 1 ((sI M o 0 (M.1 p1 0)).1 p1 1)) o 2 ((sI (sI M o 0 (M.1 p1 0)) o 1 ((sI M o 0 (M.1 p1 0)).1 p1 1)).1 p1 2)) o 3 ((sI (sI (sI M o 0 (M.1 p1 0)) o 1 ((sI M o 0 (M.1 p1 0)).1 p1 1)) o 2 ((sI (sI M o 0 (M.1 p1 0)) o 1 ((sI M o 0 (M.1 p1 0)).1 p1 1)).1 p1 2)).1 p1 3)) o 4 ((sI (sI (sI (sI M o 0 (M.1 p1 0)) o 1 ((sI M o 0 (M.1 p1 0)).1 p1 1)) o 2 ((sI (sI M o 0 (M.1 p1 0)) o 1 ((sI M o 0 (M.1 p1 0)).1 p1 1)).1 p1 2)) o 3 ((sI (sI (sI M o 0 (M.1 p1 0)) o 1 ((sI M o 0 (M.1 p1 0)).1 p1 1)) o 2 ((sI (sI M o 0 (M.1 p1 0)) o 1 ((sI M o 0 (M.1 p1 0)).1 p1 1)).1 p1 2)).1 p1 3)).1 p1 4)) o 5 ((sI (sI (sI (sI (sI M o 0 (M.1 p1 0)) o 1 ((sI M o 0 (M.1 p1 0)).1 p1 1)) o 2 ((sI (sI M o 0 (M.1 p1 0)) o 1 ((sI M o 0 (M.1 p1 0)).1 p1 1)).1 p1 2)) o 3 ((sI (sI (sI M o 0 (M.1 p1 0)) o 1 ((sI M o 0 (M.1 p1 0)).1 p1 1)) o 2 ((sI (sI M o 0 (M.1 p1 0)) o 1 ((sI M o 0 (M.1 p1 0)).1 p1 1)).1 p1 2)).1 p1 3)) o 4 ((sI (sI (sI (sI M o 0 (M.1 p1 0)) o 1 ((sI M o 0 (M.1 p1 0)).1 p1 1)) o 2 ((sI (sI M o 0 (M.1 p1 0)) o 1 ((sI M o 0 (M.1 p1 0)).1 p1 1)).1 p1 2)) o 3 ((sI (sI (sI M o 0 (M.1 p1 0)) o 1 ((sI M o 0 (M.1 p1 0)).1 p1 1)) o 2 ((sI (sI M o 0 (M.1 p1 0)) o 1 ((sI M o 0 (M.1 p1 0)).1 p1 1)).1 p1 2)).1 p1 3)).1 p1 4)).1 p1 5)) o 6 ((sI (sI (sI (sI (sI (sI M o 0 (M.1 p1 0)) o 1 ((sI M o 0 (M.1 p1 0)).1 p1 1)) o 2 ((sI (sI M o 0 (M.1 p1 0)) o 1 ((sI M o 0 (M.1 p1 0)).1 p1 1)).1 p1 2)) o 3 ((sI (sI (sI M o 0 (M.1 p1 0)) o 1 ((sI M o 0 (M.1 p1 0)).1 p1 1)) o 2 ((sI (sI M o 0 (M.1 p1 0)) o 1 ((sI M o 0 (M.1 p1 0)).1 p1 1)).1 p1 2)).1 p1 3)) o 4 ((sI (sI (sI (sI M o 0 (M.1 p1 0)) o 1 ((sI M o 0 (M.1 p1 0)).1 p1 1)) o 2 ((sI (sI M o 0 (M.1 p1 0)) o 1 ((sI M o 0 (M.1 p1 0)).1 p1 1)).1 p1 2)) o 3 ((sI (sI (sI M o 0 (M.1 p1 0)) o 1 ((sI M o 0 (M.1 p1 0)).1 p1 1)) o 2 ((sI (sI M o 0 (M.1 p1 0)) o 1 ((sI M o 0 (M.1 p1 0)).1 p1 1)).1 p1 2)).1 p1 3)).1 p1 4)) o 5 ((sI (sI (sI (sI (sI M o 0 (M.1 p1 0)) o 1 ((sI M o 0 (M.1 p1 0)).1 p1 1)) o 2 ((sI (sI M o 0 (M.1 p1 0)) o 1 ((sI M o 0 (M.1 p1 0)).1 p1 1)).1 p1 2)) o 3 ((sI (sI (sI M o 0 (M.1 p1 0)) o 1 ((sI M o 0 (M.1 p1 0)).1 p1 1)) o 2 ((sI (sI M o 0 (M.1 p1 0)) o 1 ((sI M o 0 (M.1 p1 0)).1 p1 1)).1 p1 2)).1 p1 3)) o 4 ((sI (sI (sI (sI M o 0 (M.1 p1 0)) o 1 ((sI M o 0 (M.1 p1 0)).1 p1 1)) o 2 ((sI (sI M o 0 (M.1 p1 0)) o 1 ((sI M o 0 (M.1 p1 0)).1 p1 1)).1 p1 2)) o 3 ((sI (sI (sI M o 0 (M.1 p1 0)) o 1 ((sI M o 0 (M.1 p1 0)).1 p1 1)) o 2 ((sI (sI M o 0 (M.1 p1 0)) o 1 ((sI M o 0 (M.1 p1 0)).1 p1 1)).1 p1 2)).1 p1 3)).1 p1 4)).1 p1 5)).1 p1 6)).1 p1 7)).1 p1 8)).1 p1 9)) o 10 ((sI (sI (sI (sI (sI (sI (sI (sI (sI (sI M o 0 (M.1 p1 0)) o 1 ((sI M o 0 (M.1 p1 0)).1 p1 1)) o 2 ((sI (sI M o 0 (M.1 p1 0)) o 1 ((sI M o 0 (M.1 p1 0)).1 p1 1)).1 p1 2)) o 3 ((sI (sI (sI M o 0 (M.1 p1 0)) o 1 ((sI M o 0 (M.1 p1 0)).1 p1 1)) o 2 ((sI (sI M o 0 (M.1 p1 0)) o 1 ((sI M o 0 (M.1 p1 0)).1 p1 1)).1 p1 2)).1 p1 3)) o 4 ((sI (sI (sI (sI M o 0 (M.1 p1 0)) o 1 ((sI M o 0 (M.1 p1 0)).1 p1 1)) o 2 ((sI (sI M o 0 (M.1 p1 0)) o 1 ((sI M o 0 (M.1 p1 0)).1 p1 1)).1 p1 2)) o 3 ((sI (sI (sI M o 0 (M.1 p1 0)) o 1 ((sI M o 0 (M.1 p1 0)).1 p1 1)) o 2 ((sI (sI M o 0 (M.1 p1 0)) o 1 ((sI M o 0 (M.1 p1 0)).1 p1 1)).1 p1 2)).1 p1 3)).1 p1 4)) o 5 ((sI (sI (sI (sI (sI M o 0 (M.1 p1 0)) o 1 ((sI M o 0 (M.1 p1 0)).1 p1 1)) o 2 ((sI (sI M o 0 (M.1 p1 0)) o 1 ((sI M o 0 (M.1 p1 0)).1 p1 1)).1 p1 2)) o 3 ((sI (sI (sI M o 0 (M.1 p1 0)) o 1 ((sI M o 0 (M.1 p1 0)).1 p1 1)) o 2 ((sI (sI M o 0 (M.1 p1 0)) o 1 ((sI M o 0 (M.1 p1 0)).1 p1 1)).1 p1 2)).1 p1 3)) o 4 ((sI (sI (sI (sI M o 0 (M.1 p1 0)) o 1 ((sI M o 0 (M.1 p1 0)).1 p1 1)) o 2 ((sI (sI M o 0 (M.1 p1 0)) o 1 ((sI M o 0 (M.1 p1 0)).1 p1 1)).1 p1 2)) o 3 ((sI (sI (sI M o 0 (M.1 p1 0)) o 1 ((sI M o 0 (M.1 p1 0)).1 p1 1)) o 2 ((sI (sI M o 0 (M.1 p1 0)) o 1 ((sI M o 0 (M.1 p1 0)).1 p1 1)).1 p1 2)).1 p1 3)).1 p1 4)).1 p1 5)) o 6 ((sI (sI (sI (sI (sI (sI M o 0 (M.1 p1 0)) o 1 ((sI M o 0 (M.1 p1 0)).1 p1 1)) o 2 ((sI (sI M o 0 (M.1 p1 0)) o 1 ((sI M o 0 (M.1 p1 0)).1 p1 1)).1 p1 2)) o 3 ((sI (sI (sI M o 0 (M.1 p1 0)) o 1 ((sI M o 0 (M.1 p1 0)).1 p1 1)) o 2 ((sI (sI M o 0 (M.1 p1 0)) o 1 ((sI M o 0 (M.1 p1 0)).1 p1 1)).1 p1 2)).1 p1 3)) o 4 ((sI (sI (sI (sI M o 0 (M.1 p1 0)) o 1 ((sI M o 0 (M.1 p1 0)).1 p1 1)) o 2 ((sI (sI M o 0 (M.1 p1 0)) o 1 ((sI M o 0 (M.1 p1 0)).1 p1 1)).1 p1 2)) o 3 ((sI (sI (sI M o 0 (M.1 p1 0)) o 1 ((sI M o 0 (M.1 p1 0)).1 p1 1)) o 2 ((sI (sI M o 0 (M.1 p1 0)) o 1 ((sI M o 0 (M.1 p1 0)).1 p1 1)).1 p1 2)).1 p1 3)).1 p1 4)) o 5 ((sI (sI (sI (sI (sI M o 0 (M.1 p1 0)) o 1 ((sI M o 0 (M.1 p1 0)).1 p1 1)) o 2 ((sI (sI M o 0 (M.1 p1 0)) o 1 ((sI M o 0 (M.1 p1 0)).1 p1 1)).1 p1 2)) o 3 ((sI (sI (sI M o 0 (M.1 p1 0)) o 1 ((sI M o 0 (M.1 p1 0)).1 p1 1)) o 2 ((sI (sI M o 0 (M.1 p1 0)) o 1 ((sI M o 0 (M.1 p1 0)).1 p1 1)).1 p1 2)).1 p1 3)) o 4 ((sI (sI (sI (sI M o 0 (M.1 p1 0)) o 1 ((sI M o 0 (M.1 p1 0)).1 p1 1)) o 2 ((sI (sI M o 0 (M.1 p1 0)) o 1 ((sI M o 0 (M.1 p1 0)).1 p1 1)).1 p1 2)) o 3 ((sI (sI (sI M o 0 (M.1 p1 0)) o 1 ((sI M o 0 (M.1 p1 0)).1 p1 1)) o 2 ((sI (sI M o 0 (M.1 p1 0)) o 1 ((sI M o 0 (M.1 p1 0)).1 p1 1)).1 p1 2)).1 p1 3)).1 p1 4)).1 p1 5)).1 p1 6)) o 7 ((sI (sI (sI (sI (sI (sI (sI M o 0 (M.1 p1 0)) o 1 ((sI M o 0 (M.1 p1 0)).1 p1 1)) o 2 ((sI (sI M o 0 (M.1 p1 0)) o 1 ((sI M o 0 (M.1 p1 0)).1 p1 1)).1 p1 2)) o 3 ((sI (sI (sI M o 0 (M.1 p1 0)) o 1 ((sI M o 0 (M.1 p1 0)).1 p1 1)) o 2 ((sI (sI M o 0 (M.1 p1 0)) o 1 ((sI M o 0 (M.1 p1 0)).1 p1 1)).1 p1 2)).1 p1 3)) o 4 ((sI (sI (sI (sI M o 0 (M.1 p1 0)) o 1 ((sI M o 0 (M.1 p1 0)).1 p1 1)) o 2 ((sI (sI M o 0 (M.1 p1 0)) o 1 ((sI M o 0 (M.1 p1 0)).1 p1 1)).1 p1 2)) o 3 ((sI (sI (sI M o 0 (M.1 p1 0)) o 1 ((sI M o 0 (M.1 p1 0)).1 p1 1)) o 2 ((sI (sI M o 0 (M.1 p1 0)) o 1 ((sI M o 0 (M.1 p1 0)).1 p1 1)).1 p1 2)).1 p1 3)).1 p1 4)) o 5 ((sI (sI (sI (sI (sI M o 0 (M.1 p1 0)) o 1 ((sI M o 0 (M.1 p1 0)).1 p1 1)) o 2 ((sI (sI M o 0 (M.1 p1 0)) o 1 ((sI M o 0 (M.1 p1 0)).1 p1 1)).1 p1 2)) o 3 ((sI (sI (sI M o 0 (M.1 p1 0)) o 1 ((sI M o 0 (M.1 p1 0)).1 p1 1)) o 2 ((sI (sI M o 0 (M.1 p1 0)) o 1 ((sI M o 0 (M.1 p1 0)).1 p1 1)).1 p1 2)).1 p1 3)) o 4 ((sI (sI (sI (sI M o 0 (M.1 p1 0)) o 1 ((sI M o 0 (M.1 p1 0)).1 p1 1)) o 2 ((sI (sI M o 0 (M.1 p1 0)) o 1 ((sI M o 0 (M.1 p1 0)).1 p1 1)).1 p1 2)) o 3 ((sI (sI (sI M o 0 (M.1 p1 0)) o 1 ((sI M o 0 (M.1 p1 0)).1 p1 1)) o 2 ((sI (sI M o 0 (M.1 p1 0)) o 1 ((sI M o 0 (M.1 p1 0)).1 p1 1)).1 p1 2)).1 p1 3)).1 p1 4)).1 p1 5)) o 6 ((sI (sI (sI (sI (sI (sI M o 0 (M.1 p1 0)) o 1 ((sI M o 0 (M.1 p1 0)).1 p1 1)) o 2 ((sI (sI M o 0 (M.1 p1 0)) o 1 ((sI M o 0 (M.1 p1 0)).1 p1 1)).1 p1 2)) o 3 ((sI (sI (sI M o 0 (M.1 p1 0)) o 1 ((sI M o 0 (M.1 p1 0)).1 p1 1)) o 2 ((sI (sI M o 0 (M.1 p1 0)) o 1 ((sI M o 0 (M.1 p1 0)).1 p1 1)).1 p1 2)).1 p1 3)) o 4 ((sI (sI (sI (sI M o 0 (M.1 p1 0)) o 1 ((sI M o 0 (M.1 p1 0)).1 p1 1)) o 2 ((sI (sI M o 0 (M.1 p1 0)) o 1 ((sI M o 0 (M.1 p1 0)).1 p1 1)).1 p1 2)) o 3 ((sI (sI (sI M o 0 (M.1 p1 0)) o 1 ((sI M o 0 (M.1 p1 0)).1 p1 1)) o 2 ((sI (sI M o 0 (M.1 p1 0)) o 1 ((sI M o 0 (M.1 p1 0)).1 p1 1)).1 p1 2)).1 p1 3)).1 p1 4)) o 5 ((sI (sI (sI (sI (sI M o 0 (M.1 p1 0)) o 1 ((sI M o 0 (M.1 p1 0)).1 p1 1)) o 2 ((sI (sI M o 0 (M.1 p1 0)) o 1 ((sI M o 0 (M.1 p1 0)).1 p1 1)).1 p1 2)) o 3 ((sI (sI (sI M o 0 (M.1 p1 0)) o 1 ((sI M o 0 (M.1 p1 0)).1 p1 1)) o 2 ((sI (sI M o 0 (M.1 p1 0)) o 1 ((sI M o 0 (M.1 p1 0)).1 p1 1)).1 p1 2)).1 p1 3)) o 4 ((sI (sI (sI (sI M o 0 (M.1 p1 0)) o 1 ((sI M o 0 (M.1 p1 0)).1 p1 1)) o 2 ((sI (sI M o 0 (M.1 p1 0)) o 1 ((sI M o 0 (M.1 p1 0)).1 p1 1)).1 p1 2)) o 3 ((sI (sI (sI M o 0 (M.1 p1 0)) o 1 ((sI M o 0 (M.1 p1 0)).1 p1 1)) o 2 ((sI (sI M o 0 (M.1 p1 0)) o 1 ((sI M o 0 (M.1 p1 0)).1 p1 1)).1 p1 2)).1 p1 3)).1 p1 4)).1 p1 5)).1 p1 6)).1 p1 7)) o 8 ((sI (sI (sI (sI (sI (sI (sI (sI M o 0 (M.1 p1 0)) o 1 ((sI M o 0 (M.1 p1 0)).1 p1 1)) o 2 ((sI (sI M o 0 (M.1 p1 0)) o 1 ((sI M o 0 (M.1 p1 0)).1 p1 1)).1 p1 2)) o 3 ((sI (sI (sI M o 0 (M.1 p1 0)) o 1 ((sI M o 0 (M.1 p1 0)).1 p1 1)) o 2 ((sI (sI M o 0 (M.1 p1 0)) o 1 ((sI M o 0 (M.1 p1 0)).1 p1 1)).1 p1 2)).1 p1 3)) o 4 ((sI (sI (sI (sI M o 0 (M.1 p1 0)) o 1 ((sI M o 0 (M.1 p1 0)).1 p1 1)) o 2 ((sI (sI M o 0 (M.1 p1 0)) o 1 ((sI M o 0 (M.1 p1 0)).1 p1 1)).1 p1 2)) o 3 ((sI (sI (sI M o 0 (M.1 p1 0)) o 1 ((sI M o 0 (M.1 p1 0)).1 p1 1)) o 2 ((sI (sI M o 0 (M.1 p1 0)) o 1 ((sI M o 0 (M.1 p1 0)).1 p1 1)).1 p1 2)).1 p1 3)).1 p1 4)) o 5 ((sI (sI (sI (sI (sI M o 0 (M.1 p1 0)) o 1 ((sI M o 0 (M.1 p1 0)).1 p1 1)) o 2 ((sI (sI M o 0 (M.1 p1 0)) o 1 ((sI M o 0 (M.1 p1 0)).1 p1 1)).1 p1 2)) o 3 ((sI (sI (sI M o 0 (M.1 p1 0)) o 1 ((sI M o 0 (M.1 p1 0)).1 p1 1)) o 2 ((sI (sI M o 0 (M.1 p1 0)) o 1 ((sI M o 0 (M.1 p1 0)).1 p1 1)).1 p1 2)).1 p1 3)) o 4 ((sI (sI (sI (sI M o 0 (M.1 p1 0)) o 1 ((sI M o 0 (M.1 p1 0)).1 p1 1)) o 2 ((sI (sI M o 0 (M.1 p1 0)) o 1 ((sI M o 0 (M.1 p1 0)).1 p1 1)).1 p1 2)) o 3 ((sI (sI (sI M o 0 (M.1 p1 0)) o 1 ((sI M o 0 (M.1 p1 0)).1 p1 1)) o 2 ((sI (sI M o 0 (M.1 p1 0)) o 1 ((sI M o 0 (M.1 p1 0)).1 p1 1)).1 p1 2)).1 p1 3)).1 p1 4)).1 p1 5)) o 6 ((sI (sI (sI (sI (sI (sI M o 0 (M.1 p1 0)) o 1 ((sI M o 0 (M.1 p1 0)).1 p1 1)) o 2 ((sI (sI M o 0 (M.1 p1 0)) o 1 ((sI M o 0 (M.1 p1 0)).1 p1 1)).1 p1 2)) o 3 ((sI (sI (sI M o 0 (M.1 p1 0)) o 1 ((sI M o 0 (M.1 p1 0)).1 p1 1)) o 2 ((sI (sI M o 0 (M.1 p1 0)) o 1 ((sI M o 0 (M.1 p1 0)).1 p1 1)).1 p1 2)).1 p1 3)) o 4 ((sI (sI (sI (sI M o 0 (M.1 p1 0)) o 1 ((sI M o 0 (M.1 p1 0)).1 p1 1)) o 2 ((sI (sI M o 0 (M.1 p1 0)) o 1 ((sI M o 0 (M.1 p1 0)).1 p1 1)).1 p1 2)) o 3 ((sI (sI (sI M o 0 (M.1 p1 0)) o 1 ((sI M o 0 (M.1 p1 0)).1 p1 1)) o 2 ((sI (sI M o 0 (M.1 p1 0)) o 1 ((sI M o 0 (M.1 p1 0)).1 p1 1)).1 p1 2)).1 p1 3)).1 p1 4)) o 5 ((sI (sI (sI (sI (sI M o 0 (M.1 p1 0)) o 1 ((sI M o 0 (M.1 p1 0)).1 p1 1)) o 2 ((sI (sI M o 0 (M.1 p1 0)) o 1 ((sI M o 0 (M.1 p1 0)).1 p1 1)).1 p1 2)) o 3 ((sI (sI (sI M o 0 (M.1 p1 0)) o 1 ((sI M o 0 (M.1 p1 0)).1 p1 1)) o 2 ((sI (sI M o 0 (M.1 p1 0)) o 1 ((sI M o 0 (M.1 p1 0)).1 p1 1)).1 p1 2)).1 p1 3)) o 4 ((sI (sI (sI (sI M o 0 (M.1 p1 0)) o 1 ((sI M o 0 (M.1 p1 0)).1 p1 1)) o 2 ((sI (sI M o 0 (M.1 p1 0)) o 1 ((sI M o 0 (M.1 p1 0)).1 p1 1)).1 p1 2)) o 3 ((sI (sI (sI M o 0 (M.1 p1 0)) o 1 ((sI M o 0 (M.1 p1 0)).1 p1 1)) o 2 ((sI (sI M o 0 (M.1 p1 0)) o 1 ((sI M o 0 (M.1 p1 0)).1 p1 1)).1 p1 2)).1 p1 3)).1 p1 4)).1 p1 5)).1 p1 6)) o 7 ((sI (sI (sI (sI (sI (sI (sI M o 0 (M.1 p1 0)) o 1 ((sI M o 0 (M.1 p1 0)).1 p1 1)) o 2 ((sI (sI M o 0 (M.1 p1 0)) o 1 ((sI M o 0 (M.1 p1 0)).1 p1 1)).1 p1 2)) o 3 ((sI (sI (sI M o 0 (M.1 p1 0)) o 1 ((sI M o 0 (M.1 p1 0)).1 p1 1)) o 2 ((sI (sI M o 0 (M.1 p1 0)) o 1 ((sI M o 0 (M.1 p1 0)).1 p1 1)).1 p1 2)).1 p1 3)) o 4 ((sI (sI (sI (sI M o 0 (M.1 p1 0)) o 1 ((sI M o 0 (M.1 p1 0)).1 p1 1)) o 2 ((sI (sI M o 0 (M.1 p1 0)) o 1 ((sI M o 0 (M.1 p1 0)).1 p1 1)).1 p1 2)) o 3 ((sI (sI (sI M o 0 (M.1 p1 0)) o 1 ((sI M o 0 (M.1 p1 0)).1 p1 1)) o 2 ((sI (sI M o 0 (M.1 p1 0)) o 1 ((sI M o 0 (M.1 p1 0)).1 p1 1)).1 p1 2)).1 p1 3)).1 p1 4)) o 5 ((sI (sI (sI (sI (sI M o 0 (M.1 p1 0)) o 1 ((sI M o 0 (M.1 p1 0)).1 p1 1)) o 2 ((sI (sI M o 0 (M.1 p1 0)) o 1 ((sI M o 0 (M.1 p1 0)).1 p1 1)).1 p1 2)) o 3 ((sI (sI (sI M o 0 (M.1 p1 0)) o 1 ((sI M o 0 (M.1 p1 0)).1 p1 1)) o 2 ((sI (sI M o 0 (M.1 p1 0)) o 1 ((sI M o 0 (M.1 p1 0)).1 p1 1)).1 p1 2)).1 p1 3)) o 4 ((sI (sI (sI (sI M o 0 (M.1 p1 0)) o 1 ((sI M o 0 (M.1 p1 0)).1 p1 1)) o 2 ((sI (sI M o 0 (M.1 p1 0)) o 1 ((sI M o 0 (M.1 p1 0)).1 p1 1)).1 p1 2)) o 3 ((sI (sI (sI M o 0 (M.1 p1 0)) o 1 ((sI M o 0 (M.1 p1 0)).1 p1 1)) o 2 ((sI (sI M o 0 (M.1 p1 0)) o 1 ((sI M o 0 (M.1 p1 0)).1 p1 1)).1 p1 2)).1 p1 3)).1 p1 4)).1 p1 5)) o 6 ((sI (sI (sI (sI (sI (sI M o 0 (M.1 p1 0)) o 1 ((sI M o 0 (M.1 p1 0)).1 p1 1)) o 2 ((sI (sI M o 0 (M.1 p1 0)) o 1 ((sI M o 0 (M.1 p1 0)).1 p1 1)).1 p1 2)) o 3 ((sI (sI (sI M o 0 (M.1 p1 0)) o 1 ((sI M o 0 (M.1 p1 0)).1 p1 1)) o 2 ((sI (sI M o 0 (M.1 p1 0)) o 1 ((sI M o 0 (M.1 p1 0)).1 p1 1)).1 p1 2)).1 p1 3)) o 4 ((sI (sI (sI (sI M o 0 (M.1 p1 0)) o 1 ((sI M o 0 (M.1 p1 0)).1 p1 1)) o 2 ((sI (sI M o 0 (M.1 p1 0)) o 1 ((sI M o 0 (M.1 p1 0)).1 p1 1)).1 p1 2)) o 3 ((sI (sI (sI M o 0 (M.1 p1 0)) o 1 ((sI M o 0 (M.1 p1 0)).1 p1 1)) o 2 ((sI (sI M o 0 (M.1 p1 0)) o 1 ((sI M o 0 (M.1 p1 0)).1 p1 1)).1 p1 2)).1 p1 3)).1 p1 4)) o 5 ((sI (sI (sI (sI (sI M o 0 (M.1 p1 0)) o 1 ((sI M o 0 (M.1 p1 0)).1 p1 1)) o 2 ((sI (sI M o 0 (M.1 p1 0)) o 1 ((sI M o 0 (M.1 p1 0)).1 p1 1)).1 p1 2)) o 3 ((sI (sI (sI M o 0 (M.1 p1 0)) o 1 ((sI M o 0 (M.1 p1 0)).1 p1 1)) o 2 ((sI (sI M o 0 (M.1 p1 0)) o 1 ((sI M o 0 (M.1 p1 0)).1 p1 1)).1 p1 2)).1 p1 3)) o 4 ((sI (sI (sI (sI M o 0 (M.1 p1 0)) o 1 ((sI M o 0 (M.1 p1 0)).1 p1 1)) o 2 ((sI (sI M o 0 (M.1 p1 0)) o 1 ((sI M o 0 (M.1 p1 0)).1 p1 1)).1 p1 2)) o 3 ((sI (sI (sI M o 0 (M.1 p1 0)) o 1 ((sI M o 0 (M.1 p1 0)).1 p1 1)) o 2 ((sI (sI M o 0 (M.1 p1 0)) o 1 ((sI M o 0 (M.1 p1 0)).1 p1 1)).1 p1 2)).1 p1 3)).1 p1 4)).1 p1 5)).1 p1 6)).1 p1 7)).1 p1 8)) o 9 ((sI (sI (sI (sI (sI (sI (sI (sI (sI M o 0 (M.1 p1 0)) o 1 ((sI M o 0 (M.1 p1 0)).1 p1 1)) o 2 ((sI (sI M o 0 (M.1 p1 0)) o 1 ((sI M o 0 (M.1 p1 0)).1 p1 1)).1 p1 2)) o 3 ((sI (sI (sI M o 0 (M.1 p1 0)) o 1 ((sI M o 0 (M.1 p1 0)).1 p1 1)) o 2 ((sI (sI M o 0 (M.1 p1 0)) o 1 ((sI M o 0 (M.1 p1 0)).1 p1 1)).1 p1 2)).1 p1 3)) o 4 ((sI (sI (sI (sI M o 0 (M.1 p1 0)) o 1 ((sI M o 0 (M.1 p1 0)).1 p1 1)) o 2 ((sI (sI M o 0 (M.1 p1 0)) o 1 ((sI M o 0 (M.1 p1 0)).1 p1 1)).1 p1 2)) o 3 ((sI (sI (sI M o 0 (M.1 p1 0)) o 1 ((sI M o 0 (M.1 p1 0)).1 p1 1)) o 2 ((sI (sI M o 0 (M.1 p1 0)) o 1 ((sI M o 0 (M.1 p1 0)).1 p1 1)).1 p1 2)).1 p1 3)).1 p1 4)) o 5 ((sI (sI (sI (sI (sI M o 0 (M.1 p1 0)) o 1 ((sI M o 0 (M.1 p1 0)).1 p1 1)) o 2 ((sI (sI M o 0 (M.1 p1 0)) o 1 ((sI M o 0 (M.1 p1 0)).1 p1 1)).1 p1 2)) o 3 ((sI (sI (sI M o 0 (M.1 p1 0)) o 1 ((sI M o 0 (M.1 p1 0)).1 p1 1)) o 2 ((sI (sI M o 0 (M.1 p1 0)) o 1 ((sI M o 0 (M.1 p1 0)).1 p1 1)).1 p1 2)).1 p1 3)) o 4 ((sI (sI (sI (sI M o 0 (M.1 p1 0)) o 1 ((sI M o 0 (M.1 p1 0)).1 p1 1)) o 2 ((sI (sI M o 0 (M.1 p1 0)) o 1 ((sI M o 0 (M.1 p1 0)).1 p1 1)).1 p1 2)) o 3 ((sI (sI (sI M o 0 (M.1 p1 0)) o 1 ((sI M o 0 (M.1 p1 0)).1 p1 1)) o 2 ((sI (sI M o 0 (M.1 p1 0)) o 1 ((sI M o 0 (M.1 p1 0)).1 p1 1)).1 p1 2)).1 p1 3)).1 p1 4)).1 p1 5)) o 6 ((sI (sI (sI (sI (sI (sI M o 0 (M.1 p1 0)) o 1 ((sI M o 0 (M.1 p1 0)).1 p1 1)) o 2 ((sI (sI M o 0 (M.1 p1 0)) o 1 ((sI M o 0 (M.1 p1 0)).1 p1 1)).1 p1 2)) o 3 ((sI (sI (sI M o 0 (M.1 p1 0)) o 1 ((sI M o 0 (M.1 p1 0)).1 p1 1)) o 2 ((sI (sI M o 0 (M.1 p1 0)) o 1 ((sI M o 0 (M.1 p1 0)).1 p1 1)).1 p1 2)).1 p1 3)) o 4 ((sI (sI (sI (sI M o 0 (M.1 p1 0)) o 1 ((sI M o 0 (M.1 p1 0)).1 p1 1)) o 2 ((sI (sI M o 0 (M.1 p1 0)) o 1 ((sI M o 0 (M.1 p1 0)).1 p1 1)).1 p1 2)) o 3 ((sI (sI (sI M o 0 (M.1 p1 0)) o 1 ((sI M o 0 (M.1 p1 0)).1 p1 1)) o 2 ((sI (sI M o 0 (M.1 p1 0)) o 1 ((sI M o 0 (M.1 p1 0)).1 p1 1)).1 p1 2)).1 p1 3)).1 p1 4)) o 5 ((sI (sI (sI (sI (sI M o 0 (M.1 p1 0)) o 1 ((sI M o 0 (M.1 p1 0)).1 p1 1)) o 2 ((sI (sI M o 0 (M.1 p1 0)) o 1 ((sI M o 0 (M.1 p1 0)).1 p1 1)).1 p1 2)) o 3 ((sI (sI (sI M o 0 (M.1 p1 0)) o 1 ((sI M o 0 (M.1 p1 0)).1 p1 1)) o 2 ((sI (sI M o 0 (M.1 p1 0)) o 1 ((sI M o 0 (M.1 p1 0)).1 p1 1)).1 p1 2)).1 p1 3)) o 4 ((sI (sI (sI (sI M o 0 (M.1 p1 0)) o 1 ((sI M o 0 (M.1 p1 0)).1 p1 1)) o 2 ((sI (sI M o 0 (M.1 p1 0)) o 1 ((sI M o 0 (M.1 p1 0)).1 p1 1)).1 p1 2)) o 3 ((sI (sI (sI M o 0 (M.1 p1 0)) o 1 ((sI M o 0 (M.1 p1 0)).1 p1 1)) o 2 ((sI (sI M o 0 (M.1 p1 0)) o 1 ((sI M o 0 (M.1 p1 0)).1 p1 1)).1 p1 2)).1 p1 3)).1 p1 4)).1 p1 5)).1 p1 6)) o 7 ((sI (sI (sI (sI (sI (sI (sI M o 0 (M.1 p1 0)) o 1 ((sI M o 0 (M.1 p1 0)).1 p1 1)) o 2 ((sI (sI M o 0 (M.1 p1 0)) o 1 ((sI M o 0 (M.1 p1 0)).1 p1 1)).1 p1 2)) o 3 ((sI (sI (sI M o 0 (M.1 p1 0)) o 1 ((sI M o 0 (M.1 p1 0)).1 p1 1)) o 2 ((sI (sI M o 0 (M.1 p1 0)) o 1 ((sI M o 0 (M.1 p1 0)).1 p1 1)).1 p1 2)).1 p1 3)) o 4 ((sI (sI (sI (sI M o 0 (M.1 p1 0)) o 1 ((sI M o 0 (M.1 p1 0)).1 p1 1)) o 2 ((sI (sI M o 0 (M.1 p1 0)) o 1 ((sI M o 0 (M.1 p1 0)).1 p1 1)).1 p1 2)) o 3 ((sI (sI (sI M o 0 (M.1 p1 0)) o 1 ((sI M o 0 (M.1 p1 0)).1 p1 1)) o 2 ((sI (sI M o 0 (M.1 p1 0)) o 1 ((sI M o 0 (M.1 p1 0)).1 p1 1)).1 p1 2)).1 p1 3)).1 p1 4)) o 5 ((sI (sI (sI (sI (sI M o 0 (M.1 p1 0)) o 1 ((sI M o 0 (M.1 p1 0)).1 p1 1)) o 2 ((sI (sI M o 0 (M.1 p1 0)) o 1 ((sI M o 0 (M.1 p1 0)).1 p1 1)).1 p1 2)) o 3 ((sI (sI (sI M o 0 (M.1 p1 0)) o 1 ((sI M o 0 (M.1 p1 0)).1 p1 1)) o 2 ((sI (sI M o 0 (M.1 p1 0)) o 1 ((sI M o 0 (M.1 p1 0)).1 p1 1)).1 p1 2)).1 p1 3)) o 4 ((sI (sI (sI (sI M o 0 (M.1 p1 0)) o 1 ((sI M o 0 (M.1 p1 0)).1 p1 1)) o 2 ((sI (sI M o 0 (M.1 p1 0)) o 1 ((sI M o 0 (M.1 p1 0)).1 p1 1)).1 p1 2)) o 3 ((sI (sI (sI M o 0 (M.1 p1 0)) o 1 ((sI M o 0 (M.1 p1 0)).1 p1 1)) o 2 ((sI (sI M o 0 (M.1 p1 0)) o 1 ((sI M o 0 (M.1 p1 0)).1 p1 1)).1 p1 2)).1 p1 3)).1 p1 4)).1 p1 5)) o 6 ((sI (sI (sI (sI (sI (sI M o 0 (M.1 p1 0)) o 1 ((sI M o 0 (M.1 p1 0)).1 p1 1)) o 2 ((sI (sI M o 0 (M.1 p1 0)) o 1 ((sI M o 0 (M.1 p1 0)).1 p1 1)).1 p1 2)) o 3 ((sI (sI (sI M o 0 (M.1 p1 0)) o 1 ((sI M o 0 (M.1 p1 0)).1 p1 1)) o 2 ((sI (sI M o 0 (M.1 p1 0)) o 1 ((sI M o 0 (M.1 p1 0)).1 p1 1)).1 p1 2)).1 p1 3)) o 4 ((sI (sI (sI (sI M o 0 (M.1 p1 0)) o 1 ((sI M o 0 (M.1 p1 0)).1 p1 1)) o 2 ((sI (sI M o 0 (M.1 p1 0)) o 1 ((sI M o 0 (M.1 p1 0)).1 p1 1)).1 p1 2)) o 3 ((sI (sI (sI M o 0 (M.1 p1 0)) o 1 ((sI M o 0 (M.1 p1 0)).1 p1 1)) o 2 ((sI (sI M o 0 (M.1 p1 0)) o 1 ((sI M o 0 (M.1 p1 0)).1 p1 1)).1 p1 2)).1 p1 3)).1 p1 4)) o 5 ((sI (sI (sI (sI (sI M o 0 (M.1 p1 0)) o 1 ((sI M o 0 (M.1 p1 0)).1 p1 1)) o 2 ((sI (sI M o 0 (M.1 p1 0)) o 1 ((sI M o 0 (M.1 p1 0)).1 p1 1)).1 p1 2)) o 3 ((sI (sI (sI M o 0 (M.1 p1 0)) o 1 ((sI M o 0 (M.1 p1 0)).1 p1 1)) o 2 ((sI (sI M o 0 (M.1 p1 0)) o 1 ((sI M o 0 (M.1 p1 0)).1 p1 1)).1 p1 2)).1 p1 3)) o 4 ((sI (sI (sI (sI M o 0 (M.1 p1 0)) o 1 ((sI M o 0 (M.1 p1 0)).1 p1 1)) o 2 ((sI (sI M o 0 (M.1 p1 0)) o 1 ((sI M o 0 (M.1 p1 0)).1 p1 1)).1 p1 2)) o 3 ((sI (sI (sI M o 0 (M.1 p1 0)) o 1 ((sI M o 0 (M.1 p1 0)).1 p1 1)) o 2 ((sI (sI M o 0 (M.1 p1 0)) o 1 ((sI M o 0 (M.1 p1 0)).1 p1 1)).1 p1 2)).1 p1 3)).1 p1 4)).1 p1 5)).1 p1 6)).1 p1 7)) o 8 ((sI (sI (sI (sI (sI (sI (sI (sI M o 0 (M.1 p1 0)) o 1 ((sI M o 0 (M.1 p1 0)).1 p1 1)) o 2 ((sI (sI M o 0 (M.1 p1 0)) o 1 ((sI M o 0 (M.1 p1 0)).1 p1 1)).1 p1 2)) o 3 ((sI (sI (sI M o 0 (M.1 p1 0)) o 1 ((sI M o 0 (M.1 p1 0)).1 p1 1)) o 2 ((sI (sI M o 0 (M.1 p1 0)) o 1 ((sI M o 0 (M.1 p1 0)).1 p1 1)).1 p1 2)).1 p1 3)) o 4 ((sI (sI (sI (sI M o 0 (M.1 p1 0)) o 1 ((sI M o 0 (M.1 p1 0)).1 p1 1)) o 2 ((sI (sI M o 0 (M.1 p1 0)) o 1 ((sI M o 0 (M.1 p1 0)).1 p1 1)).1 p1 2)) o 3 ((sI (sI (sI M o 0 (M.1 p1 0)) o 1 ((sI M o 0 (M.1 p1 0)).1 p1 1)) o 2 ((sI (sI M o 0 (M.1 p1 0)) o 1 ((sI M o 0 (M.1 p1 0)).1 p1 1)).1 p1 2)).1 p1 3)).1 p1 4)) o 5 ((sI (sI (sI (sI (sI M o 0 (M.1 p1 0)) o 1 ((sI M o 0 (M.1 p1 0)).1 p1 1)) o 2 ((sI (sI M o 0 (M.1 p1 0)) o 1 ((sI M o 0 (M.1 p1 0)).1 p1 1)).1 p1 2)) o 3 ((sI (sI (sI M o 0 (M.1 p1 0)) o 1 ((sI M o 0 (M.1 p1 0)).1 p1 1)) o 2 ((sI (sI M o 0 (M.1 p1 0)) o 1 ((sI M o 0 (M.1 p1 0)).1 p1 1)).1 p1 2)).1 p1 3)) o 4 ((sI (sI (sI (sI M o 0 (M.1 p1 0)) o 1 ((sI M o 0 (M.1 p1 0)).1 p1 1)) o 2 ((sI (sI M o 0 (M.1 p1 0)) o 1 ((sI M o 0 (M.1 p1 0)).1 p1 1)).1 p1 2)) o 3 ((sI (sI (sI M o 0 (M.1 p1 0)) o 1 ((sI M o 0 (M.1 p1 0)).1 p1 1)) o 2 ((sI (sI M o 0 (M.1 p1 0)) o 1 ((sI M o 0 (M.1 p1 0)).1 p1 1)).1 p1 2)).1 p1 3)).1 p1 4)).1 p1 5)) o 6 ((sI (sI (sI (sI (sI (sI M o 0 (M.1 p1 0)) o 1 ((sI M o 0 (M.1 p1 0)).1 p1 1)) o 2 ((sI (sI M o 0 (M.1 p1 0)) o 1 ((sI M o 0 (M.1 p1 0)).1 p1 1)).1 p1 2)) o 3 ((sI (sI (sI M o 0 (M.1 p1 0)) o 1 ((sI M o 0 (M.1 p1 0)).1 p1 1)) o 2 ((sI (sI M o 0 (M.1 p1 0)) o 1 ((sI M o 0 (M.1 p1 0)).1 p1 1)).1 p1 2)).1 p1 3)) o 4 ((sI (sI (sI (sI M o 0 (M.1 p1 0)) o 1 ((sI M o 0 (M.1 p1 0)).1 p1 1)) o 2 ((sI (sI M o 0 (M.1 p1 0)) o 1 ((sI M o 0 (M.1 p1 0)).1 p1 1)).1 p1 2)) o 3 ((sI (sI (sI M o 0 (M.1 p1 0)) o 1 ((sI M o 0 (M.1 p1 0)).1 p1 1)) o 2 ((sI (sI M o 0 (M.1 p1 0)) o 1 ((sI M o 0 (M.1 p1 0)).1 p1 1)).1 p1 2)).1 p1 3)).1 p1 4)) o 5 ((sI (sI (sI (sI (sI M o 0 (M.1 p1 0)) o 1 ((sI M o 0 (M.1 p1 0)).1 p1 1)) o 2 ((sI (sI M o 0 (M.1 p1 0)) o 1 ((sI M o 0 (M.1 p1 0)).1 p1 1)).1 p1 2)) o 3 ((sI (sI (sI M o 0 (M.1 p1 0)) o 1 ((sI M o 0 (M.1 p1 0)).1 p1 1)) o 2 ((sI (sI M o 0 (M.1 p1 0)) o 1 ((sI M o 0 (M.1 p1 0)).1 p1 1)).1 p1 2)).1 p1 3)) o 4 ((sI (sI (sI (sI M o 0 (M.1 p1 0)) o 1 ((sI M o 0 (M.1 p1 0)).1 p1 1)) o 2 ((sI (sI M o 0 (M.1 p1 0)) o 1 ((sI M o 0 (M.1 p1 0)).1 p1 1)).1 p1 2)) o 3 ((sI (sI (sI M o 0 (M.1 p1 0)) o 1 ((sI M o 0 (M.1 p1 0)).1 p1 1)) o 2 ((sI (sI M o 0 (M.1 p1 0)) o 1 ((sI M o 0 (M.1 p1 0)).1 p1 1)).1 p1 2)).1 p1 3)).1 p1 4)).1 p1 5)).1 p1 6)) o 7 ((sI (sI (sI (sI (sI (sI (sI M o 0 (M.1 p1 0)) o 1 ((sI M o 0 (M.1 p1 0)).1 p1 1)) o 2 ((sI (sI M o 0 (M.1 p1 0)) o 1 ((sI M o 0 (M.1 p1 0)).1 p1 1)).1 p1 2)) o 3 ((sI (sI (sI M o 0 (M.1 p1 0)) o 1 ((sI M o 0 (M.1 p1 0)).1 p1 1)) o 2 ((sI (sI M o 0 (M.1 p1 0)) o 1 ((sI M o 0 (M.1 p1 0)).1 p1 1)).1 p1 2)).1 p1 3)) o 4 ((sI (sI (sI (sI M o 0 (M.1 p1 0)) o 1 ((sI M o 0 (M.1 p1 0)).1 p1 1)) o 2 ((sI (sI M o 0 (M.1 p1 0)) o 1 ((sI M o 0 (M.1 p1 0)).1 p1 1)).1 p1 2)) o 3 ((sI (sI (sI M o 0 (M.1 p1 0)) o 1 ((sI M o 0 (M.1 p1 0)).1 p1 1)) o 2 ((sI (sI M o 0 (M.1 p1 0)) o 1 ((sI M o 0 (M.1 p1 0)).1 p1 1)).1 p1 2)).1 p1 3)).1 p1 4)) o 5 ((sI (sI (sI (sI (sI M o 0 (M.1 p1 0)) o 1 ((sI M o 0 (M.1 p1 0)).1 p1 1)) o 2 ((sI (sI M o 0 (M.1 p1 0)) o 1 ((sI M o 0 (M.1 p1 0)).1 p1 1)).1 p1 2)) o 3 ((sI (sI (sI M o 0 (M.1 p1 0)) o 1 ((sI M o 0 (M.1 p1 0)).1 p1 1)) o 2 ((sI (sI M o 0 (M.1 p1 0)) o 1 ((sI M o 0 (M.1 p1 0)).1 p1 1)).1 p1 2)).1 p1 3)) o 4 ((sI (sI (sI (sI M o 0 (M.1 p1 0)) o 1 ((sI M o 0 (M.1 p1 0)).1 p1 1)) o 2 ((sI (sI M o 0 (M.1 p1 0)) o 1 ((sI M o 0 (M.1 p1 0)).1 p1 1)).1 p1 2)) o 3 ((sI (sI (sI M o 0 (M.1 p1 0)) o 1 ((sI M o 0 (M.1 p1 0)).1 p1 1)) o 2 ((sI (sI M o 0 (M.1 p1 0)) o 1 ((sI M o 0 (M.1 p1 0)).1 p1 1)).1 p1 2)).1 p1 3)).1 p1 4)).1 p1 5)) o 6 ((sI (sI (sI (sI (sI (sI M o 0 (M.1 p1 0)) o 1 ((sI M o 0 (M.1 p1 0)).1 p1 1)) o 2 ((sI (sI M o 0 (M.1 p1 0)) o 1 ((sI M o 0 (M.1 p1 0)).1 p1 1)).1 p1 2)) o 3 ((sI (sI (sI M o 0 (M.1 p1 0)) o 1 ((sI M o 0 (M.1 p1 0)).1 p1 1)) o 2 ((sI (sI M o 0 (M.1 p1 0)) o 1 ((sI M o 0 (M.1 p1 0)).1 p1 1)).1 p1 2)).1 p1 3)) o 4 ((sI (sI (sI (sI M o 0 (M.1 p1 0)) o 1 ((sI M o 0 (M.1 p1 0)).1 p1 1)) o 2 ((sI (sI M o 0 (M.1 p1 0)) o 1 ((sI M o 0 (M.1 p1 0)).1 p1 1)).1 p1 2)) o 3 ((sI (sI (sI M o 0 (M.1 p1 0)) o 1 ((sI M o 0 (M.1 p1 0)).1 p1 1)) o 2 ((sI (sI M o 0 (M.1 p1 0)) o 1 ((sI M o 0 (M.1 p1 0)).1 p1 1)).1 p1 2)).1 p1 3)).1 p1 4)) o 5 ((sI (sI (sI (sI (sI M o 0 (M.1 p1 0)) o 1 ((sI M o 0 (M.1 p1 0)).1 p1 1)) o 2 ((sI (sI M o 0 (M.1 p1 0)) o 1 ((sI M o 0 (M.1 p1 0)).1 p1 1)).1 p1 2)) o 3 ((sI (sI (sI M o 0 (M.1 p1 0)) o 1 ((sI M o 0 (M.1 p1 0)).1 p1 1)) o 2 ((sI (sI M o 0 (M.1 p1 0)) o 1 ((sI M o 0 (M.1 p1 0)).1 p1 1)).1 p1 2)).1 p1 3)) o 4 ((sI (sI (sI (sI M o 0 (M.1 p1 0)) o 1 ((sI M o 0 (M.1 p1 0)).1 p1 1)) o 2 ((sI (sI M o 0 (M.1 p1 0)) o 1 ((sI M o 0 (M.1 p1 0)).1 p1 1)).1 p1 2)) o 3 ((sI (sI (sI M o 0 (M.1 p1 0)) o 1 ((sI M o 0 (M.1 p1 0)).1 p1 1)) o 2 ((sI (sI M o 0 (M.1 p1 0)) o 1 ((sI M o 0 (M.1 p1 0)).1 p1 1)).1 p1 2)).1 p1 3)).1 p1 4)).1 p1 5)).1 p1 6)).1 p1 7)).1 p1 8)).1 p1 9)).1 p1 10)) none M1 ∧ (∃ (M3 : Mm), (Ev d 49 [.ref (p1 + 2), .ref (o + 2)] M1 none M3 ∧ (∃ (M5 : Mm), (Ev d 49 [.ref (p1 + 3), .ref (o + 3)] M3 none M5 ∧ ((none = r9 ∧ M5 = M9)))))))) : Ev (d + 1) 208 [.ref o, .ref p1] M r9 M9 :=
  Ev.intro (L0 := [.ref o, .ref p1]) ok_State_copyFrom rfl rfl fun At step =>
  have h := h At step
  ⟨(Sa_0 hp1), ⟨(Sa_0 ho), ⟨(Sa_0 hp1), ⟨(Sa_0 ho), ⟨(Sa_0 hp1), ⟨(Sa_0 ho), ⟨(Sa_0 hp1), ⟨(Sa_0 ho), ⟨(Sa_0 hp1), ⟨(Sa_0 ho), ⟨(Sa_0 hp1), ⟨(Sa_0 ho), ⟨(Sa_0 hp1), ⟨(Sa_0 ho), ⟨(Sa_0 hp1), ⟨(Sa_0 ho), ⟨(Sa_0 hp1), ⟨(Sa_0 ho), ⟨(Sa_0 hp1), ⟨(Sa_0 ho), ⟨(Sa_0 hp1), ⟨(Sa_0 ho), ⟨(Sa_0 hp1), ⟨(Sa_0 ho), (h).elim fun M1 h2 => ⟨M1, h2.1, ⟨(Sa_0 hp1), ⟨(Sa_0 ho), (h2.2).elim fun M3 h4 => ⟨M3, h4.1, ⟨(Sa_0 hp1), ⟨(Sa_0 ho), (h4.2).elim fun M5 h6 => ⟨M5, h6.1, h6.2⟩⟩⟩⟩⟩⟩⟩⟩⟩⟩⟩⟩⟩⟩⟩⟩⟩⟩⟩⟩⟩⟩⟩⟩⟩⟩⟩⟩⟩⟩⟩
theorem e_State_river {o : Nat} {p1 : Nat} (ho : Sa o) (hp1 : St p1) {d : Nat} {M M9 : Mm} {r9 : Option Value} (h : ∀ At : JJ, StepP d k_State_river r9 M9 At → ∃ (v2 : Int32), ∃ (M1 : Mm), (Ev d 184 [.ref (p1 + 14), .int (M.1 o 0)] M (some (.int v2)) M1 ∧ (((some (.int (v2 + (M1.1 o 4)))) = r9 ∧ M1 = M9)))) : Ev (d + 1) 209 [.ref o, .ref p1] M r9 M9 :=
  Ev.intro (L0 := [.ref o, .ref p1]) ok_State_river rfl rfl fun At step =>
  have h := h At step
  ⟨(St_0 hp1), ⟨(Sa_0 ho), (h).elim fun v2 h3 => (h3).elim fun M1 h4 => ⟨(St_14 hp1), v2, M1, h4.1, ⟨(Sa_0 ho), h4.2⟩⟩⟩⟩
theorem e_State_greatestRiver {o : Nat} {p1 : Nat} (ho : Sa o) (hp1 : St p1) {d : Nat} {M M9 : Mm} {r9 : Option Value} (h : ∀ At : JJ, StepP d k_State_greatestRiver r9 M9 At → ∃ (v2 : Int32), ∃ (M1 : Mm), (Ev d 209 [.ref o, .ref p1] M (some (.int v2)) M1 ∧ (At 11 [.ref o, .ref p1, .int v2, .int (M1.1 o 0)] [] M1))) : Ev (d + 1) 210 [.ref o, .ref p1] M r9 M9 :=
  Ev.intro (L0 := [.ref o, .ref p1, .retAddr 0, .retAddr 0]) ok_State_greatestRiver rfl rfl fun At step =>
  have h := h At step
  (h).elim fun v2 h3 => (h3).elim fun M1 h4 => ⟨(Sa_0 ho), v2, M1, h4.1, ⟨(Sa_0 ho), h4.2⟩⟩
theorem s_State_greatestRiver_11 {o : Nat} {p1 : Nat} {x2 : Int32} {x3 : Int32} (ho : Sa o) (hp1 : St p1) {d : Nat} {M M9 : Mm} {r9 : Option Value} {At : JJ} (step : StepP d k_State_greatestRiver r9 M9 At) (h : ((x3 < (I 48)) → ∃ (v7 : Int32), ∃ (M6 : Mm), (Ev d 184 [.ref (p1 + 14), .int x3] M (some (.int v7)) M6 ∧ (At 11 [.ref o, .ref p1, .int (if x2 < (v7 + (M6.1 o 4)) then v7 + (M6.1 o 4) else x2), .int (x3 + I 1)] [] M6))) ∧ (¬ (x3 < (I 48)) → ((some (.int x2)) = r9 ∧ M = M9))) : At 11 [.ref o, .ref p1, .int x2, .int x3] [] M :=
  step 11 [.ref o, .ref p1, .int x2, .int x3] [] M (⟨fun c5 => (h.2 (Int32.not_lt.mpr c5)), fun c5 => ⟨(St_0 hp1), ((h.1 (Int32.not_le.mp c5))).elim fun v7 h8 => (h8).elim fun M6 h9 => ⟨(St_14 hp1), v7, M6, h9.1, ⟨(Sa_0 ho), h9.2⟩⟩⟩⟩)
theorem e_State_bagsEach {o : Nat} {p1 : Nat} (ho : Sa o) (hp1 : St p1) {d : Nat} {M M9 : Mm} {r9 : Option Value} (h : ∀ At : JJ, StepP d k_State_bagsEach r9 M9 At → ((some (.int (if ((M.1 p1 17) - ((M.1 o 3) / (I 2))) < (I 1) then I 1 else (M.1 p1 17) - ((M.1 o 3) / (I 2))))) = r9 ∧ M = M9)) : Ev (d + 1) 211 [.ref o, .ref p1] M r9 M9 :=
  Ev.intro (L0 := [.ref o, .ref p1]) ok_State_bagsEach rfl rfl fun At step =>
  have h := h At step
  ⟨(St_0 hp1), ⟨(Sa_0 ho), ⟨(of_decide_eq_false rfl), h⟩⟩⟩
theorem e_State_isFlooded {o : Nat} {p1 : Int32} (ho : Sa o) {d : Nat} {M M9 : Mm} {r9 : Option Value} (h : ∀ At : JJ, StepP d k_State_isFlooded r9 M9 At → ((p1 < (I 0)) → ((some (.int (I 0))) = r9 ∧ M = M9)) ∧ (¬ (p1 < (I 0)) → ((p1 < (I 10)) → inR p1 10 ∧ ((((M.1 (o + 3) p1.toNatClampNeg) = (I (-1))) → ((some (.int (I 0))) = r9 ∧ M = M9)) ∧ (¬ ((M.1 (o + 3) p1.toNatClampNeg) = (I (-1))) → ((some (.int (I 1))) = r9 ∧ M = M9)))) ∧ (¬ (p1 < (I 10)) → ((some (.int (I 0))) = r9 ∧ M = M9)))) : Ev (d + 1) 212 [.ref o, .int p1] M r9 M9 :=
  Ev.intro (L0 := [.ref o, .int p1]) ok_State_isFlooded rfl rfl fun At step =>
  have h := h At step
  ⟨fun c1 => ⟨Or.inl rfl, (h.1 c1)⟩, fun c1 => ⟨fun c2 => ⟨Or.inl rfl, ((h.2 c1).2 (Int32.not_lt.mpr c2))⟩, fun c2 => ⟨(Sa_0 ho), ⟨(Sa_3 ho), (inR_e (Sal_3 ho) ((h.2 c1).1 (Int32.not_le.mp c2)).1), ⟨fun c3 => ⟨Or.inl rfl, (((h.2 c1).1 (Int32.not_le.mp c2)).2.1 c3)⟩, fun c3 => ⟨Or.inr rfl, (((h.2 c1).1 (Int32.not_le.mp c2)).2.2 c3)⟩⟩⟩⟩⟩⟩
theorem e_State_floodedHouses {o : Nat} {p1 : Nat} (ho : Sa o) (hp1 : St p1) {d : Nat} {M M9 : Mm} {r9 : Option Value} (h : ∀ At : JJ, StepP d k_State_floodedHouses r9 M9 At → At 4 [.ref o, .ref p1, .int (I 0), .int (I 0)] [] M) : Ev (d + 1) 213 [.ref o, .ref p1] M r9 M9 :=
  Ev.intro (L0 := [.ref o, .ref p1, .retAddr 0, .retAddr 0]) ok_State_floodedHouses rfl rfl fun At step =>
  have h := h At step
  h
theorem s_State_floodedHouses_4 {o : Nat} {p1 : Nat} {x2 : Int32} {x3 : Int32} (ho : Sa o) (hp1 : St p1) {d : Nat} {M M9 : Mm} {r9 : Option Value} {At : JJ} (step : StepP d k_State_floodedHouses r9 M9 At) (h : ((x3 < (M.1 p1 7)) → ∃ (v3 : Int32), ∃ (M2 : Mm), (Ev d 212 [.ref o, .int x3] M (some (.int v3)) M2 ∧ (((v3 = (I 0)) → At 4 [.ref o, .ref p1, .int (x2 ||| (I 0)), .int (x3 + I 1)] [] M2) ∧ (¬ (v3 = (I 0)) → At 4 [.ref o, .ref p1, .int (x2 ||| ((I 1) <<< (x3 &&& 31))), .int (x3 + I 1)] [] M2)))) ∧ (¬ (x3 < (M.1 p1 7)) → ((some (.int x2)) = r9 ∧ M = M9))) : At 4 [.ref o, .ref p1, .int x2, .int x3] [] M :=
  step 4 [.ref o, .ref p1, .int x2, .int x3] [] M (⟨(St_0 hp1), ⟨fun c1 => (h.2 (Int32.not_lt.mpr c1)), fun c1 => ((h.1 (Int32.not_le.mp c1))).elim fun v3 h4 => (h4).elim fun M2 h5 => ⟨(Sa_0 ho), v3, M2, h5.1, ⟨fun c6 => (h5.2.1 c6), fun c6 => (h5.2.2 c6)⟩⟩⟩⟩)
theorem e_State_isStopped {o : Nat} {p1 : Nat} {p2 : Int32} (ho : Sa o) (hp1 : St p1) {d : Nat} {M M9 : Mm} {r9 : Option Value} (h : ∀ At : JJ, StepP d k_State_isStopped r9 M9 At → ∃ (v2 : Int32), ∃ (M1 : Mm), (Ev d 239 [.ref p1, .int p2] M (some (.int v2)) M1 ∧ (((v2 = (I 0)) → ((some (.int (I 0))) = r9 ∧ M1 = M9)) ∧ (¬ (v2 = (I 0)) → inR p2 6 ∧ (inR p2 6 ∧ ((((M1.1 (o + 2) p2.toNatClampNeg) < (M1.1 (p1 + 10) p2.toNatClampNeg)) → ((some (.int (I 0))) = r9 ∧ M1 = M9)) ∧ (¬ ((M1.1 (o + 2) p2.toNatClampNeg) < (M1.1 (p1 + 10) p2.toNatClampNeg)) → ((some (.int (I 1))) = r9 ∧ M1 = M9)))))))) : Ev (d + 1) 214 [.ref o, .ref p1, .int p2] M r9 M9 :=
  Ev.intro (L0 := [.ref o, .ref p1, .int p2]) ok_State_isStopped rfl rfl fun At step =>
  have h := h At step
  (h).elim fun v2 h3 => (h3).elim fun M1 h4 => ⟨(St_0 hp1), v2, M1, h4.1, ⟨fun c5 => ⟨Or.inl rfl, (h4.2.1 c5)⟩, fun c5 => ⟨(Sa_0 ho), ⟨(Sa_2 ho), (inR_e (Sal_2 ho) (h4.2.2 c5).1), ⟨(St_0 hp1), ⟨(St_10 hp1), (inR_e (Stl_10 hp1) (h4.2.2 c5).2.1), ⟨fun c6 => ⟨Or.inl rfl, ((h4.2.2 c5).2.2.1 c6)⟩, fun c6 => ⟨Or.inr rfl, ((h4.2.2 c5).2.2.2 c6)⟩⟩⟩⟩⟩⟩⟩⟩
theorem e_State_leakingDrains {o : Nat} {p1 : Nat} {p2 : Int32} {p3 : Int32} (ho : Sa o) (hp1 : St p1) {d : Nat} {M M9 : Mm} {r9 : Option Value} (h : ∀ At : JJ, StepP d k_State_leakingDrains r9 M9 At → At 6 [.ref o, .ref p1, .int p2, .int p3, .int (I 0), .int (I 0), .retAddr 0] [] M) : Ev (d + 1) 215 [.ref o, .ref p1, .int p2, .int p3] M r9 M9 :=
  Ev.intro (L0 := [.ref o, .ref p1, .int p2, .int p3, .retAddr 0, .retAddr 0, .retAddr 0]) ok_State_leakingDrains rfl rfl fun At step =>
  have h := h At step
  h
theorem s_State_leakingDrains_6 {o : Nat} {p1 : Nat} {x2 : Int32} {x3 : Int32} {x4 : Int32} {x5 : Int32} (ho : Sa o) (hp1 : St p1) {d : Nat} {M M9 : Mm} {r9 : Option Value} {At : JJ} (step : StepP d k_State_leakingDrains r9 M9 At) (h : ((x5 < (M.1 p1 12)) → ((x5 < (I 6)) → inR x5 6 ∧ ((((M.1 (p1 + 8) x5.toNatClampNeg) = x2) → inR x5 6 ∧ (((x3 < (M.1 (p1 + 9) x5.toNatClampNeg)) → At 6 [.ref o, .ref p1, .int x2, .int x3, .int (x4 ||| (I 0)), .int (x5 + I 1), .retAddr 0] [] M) ∧ (¬ (x3 < (M.1 (p1 + 9) x5.toNatClampNeg)) → inR x5 6 ∧ (inR x5 6 ∧ ((((M.1 (o + 2) x5.toNatClampNeg) < (M.1 (p1 + 10) x5.toNatClampNeg)) → At 6 [.ref o, .ref p1, .int x2, .int x3, .int (x4 ||| ((I 1) <<< (x5 &&& 31))), .int (x5 + I 1), .retAddr 0] [] M) ∧ (¬ ((M.1 (o + 2) x5.toNatClampNeg) < (M.1 (p1 + 10) x5.toNatClampNeg)) → At 6 [.ref o, .ref p1, .int x2, .int x3, .int (x4 ||| (I 0)), .int (x5 + I 1), .retAddr 0] [] M)))))) ∧ (¬ ((M.1 (p1 + 8) x5.toNatClampNeg) = x2) → At 6 [.ref o, .ref p1, .int x2, .int x3, .int (x4 ||| (I 0)), .int (x5 + I 1), .retAddr 0] [] M))) ∧ (¬ (x5 < (I 6)) → ((some (.int x4)) = r9 ∧ M = M9))) ∧ (¬ (x5 < (M.1 p1 12)) → ((some (.int x4)) = r9 ∧ M = M9))) : At 6 [.ref o, .ref p1, .int x2, .int x3, .int x4, .int x5, .retAddr 0] [] M :=
  step 6 [.ref o, .ref p1, .int x2, .int x3, .int x4, .int x5, .retAddr 0] [] M (⟨(St_0 hp1), ⟨fun c1 => (h.2 (Int32.not_lt.mpr c1)), fun c1 => ⟨fun c2 => ((h.1 (Int32.not_le.mp c1)).2 (Int32.not_lt.mpr c2)), fun c2 => ⟨(St_0 hp1), ⟨(St_8 hp1), (inR_e (Stl_8 hp1) ((h.1 (Int32.not_le.mp c1)).1 (Int32.not_le.mp c2)).1), ⟨fun c3 => ⟨fun _ => (((h.1 (Int32.not_le.mp c1)).1 (Int32.not_le.mp c2)).2.2 (id c3)), fun c => absurd (of_decide_eq_true rfl : (I 0) = 0) c⟩, fun c3 => ⟨(St_0 hp1), ⟨(St_9 hp1), (inR_e (Stl_9 hp1) (((h.1 (Int32.not_le.mp c1)).1 (Int32.not_le.mp c2)).2.1 (Decidable.of_not_not c3)).1), ⟨fun c4 => ⟨fun _ => ((((h.1 (Int32.not_le.mp c1)).1 (Int32.not_le.mp c2)).2.1 (Decidable.of_not_not c3)).2.1 c4), fun c => absurd (of_decide_eq_true rfl : (I 0) = 0) c⟩, fun c4 => ⟨fun c => absurd c (of_decide_eq_false rfl : ¬ (I 1) = 0), fun _ => ⟨(Sa_0 ho), ⟨(Sa_2 ho), (inR_e (Sal_2 ho) ((((h.1 (Int32.not_le.mp c1)).1 (Int32.not_le.mp c2)).2.1 (Decidable.of_not_not c3)).2.2 c4).1), ⟨(St_0 hp1), ⟨(St_10 hp1), (inR_e (Stl_10 hp1) ((((h.1 (Int32.not_le.mp c1)).1 (Int32.not_le.mp c2)).2.1 (Decidable.of_not_not c3)).2.2 c4).2.1), ⟨fun c5 => (((((h.1 (Int32.not_le.mp c1)).1 (Int32.not_le.mp c2)).2.1 (Decidable.of_not_not c3)).2.2 c4).2.2.2 (Int32.not_lt.mpr c5)), fun c5 => (((((h.1 (Int32.not_le.mp c1)).1 (Int32.not_le.mp c2)).2.1 (Decidable.of_not_not c3)).2.2 c4).2.2.1 (Int32.not_le.mp c5))⟩⟩⟩⟩⟩⟩⟩⟩⟩⟩⟩⟩⟩⟩⟩)
theorem e_State_heightOf {o : Nat} {p1 : Nat} {p2 : Int32} (ho : Sa o) (hp1 : St p1) {d : Nat} {M M9 : Mm} {r9 : Option Value} (h : ∀ At : JJ, StepP d k_State_heightOf r9 M9 At → ∃ (v2 : Int32), ∃ (M1 : Mm), (Ev d 237 [.ref p1, .int p2] M (some (.int v2)) M1 ∧ (((v2 = (I 0)) → ((some (.int (I 0))) = r9 ∧ M1 = M9)) ∧ (¬ (v2 = (I 0)) → ∃ (v7 : Int32), ∃ (M6 : Mm), (Ev d 46 [.int (M1.1 o 9), .int p2] M1 (some (.int v7)) M6 ∧ (((v7 = (I 1)) → ((some (.int (I 0))) = r9 ∧ M6 = M9)) ∧ (¬ (v7 = (I 1)) → At 24 [.ref o, .ref p1, .int p2, .int (I 0)] [] M6))))))) : Ev (d + 1) 216 [.ref o, .ref p1, .int p2] M r9 M9 :=
  Ev.intro (L0 := [.ref o, .ref p1, .int p2, .retAddr 0]) ok_State_heightOf rfl rfl fun At step =>
  have h := h At step
  (h).elim fun v2 h3 => (h3).elim fun M1 h4 => ⟨(St_0 hp1), v2, M1, h4.1, ⟨fun c5 => (h4.2.1 c5), fun c5 => ⟨(Sa_0 ho), ((h4.2.2 c5)).elim fun v7 h8 => (h8).elim fun M6 h9 => ⟨v7, M6, h9.1, ⟨fun c10 => (h9.2.2 (id c10)), fun c10 => (h9.2.1 (Decidable.of_not_not c10))⟩⟩⟩⟩⟩
theorem s_State_heightOf_24 {o : Nat} {p1 : Nat} {x2 : Int32} {x3 : Int32} (ho : Sa o) (hp1 : St p1) {d : Nat} {M M9 : Mm} {r9 : Option Value} {At : JJ} (step : StepP d k_State_heightOf r9 M9 At) (h : ((x3 < (I 1000)) → ∃ (v13 : Int32), ∃ (M12 : Mm), (Ev d 241 [.ref p1, .int x2, .int (x3 + (I 1))] M (some (.int v13)) M12 ∧ (inR x2 5 ∧ ((((M12.1 (o + 1) x2.toNatClampNeg) < v13) → ((some (.int x3)) = r9 ∧ M12 = M9)) ∧ (¬ ((M12.1 (o + 1) x2.toNatClampNeg) < v13) → At 24 [.ref o, .ref p1, .int x2, .int (x3 + I 1)] [] M12))))) ∧ (¬ (x3 < (I 1000)) → ((some (.int x3)) = r9 ∧ M = M9))) : At 24 [.ref o, .ref p1, .int x2, .int x3] [] M :=
  step 24 [.ref o, .ref p1, .int x2, .int x3] [] M (⟨fun c11 => (h.2 (Int32.not_lt.mpr c11)), fun c11 => ((h.1 (Int32.not_le.mp c11))).elim fun v13 h14 => (h14).elim fun M12 h15 => ⟨(St_0 hp1), v13, M12, h15.1, ⟨(Sa_0 ho), ⟨(Sa_1 ho), (inR_e (Sal_1 ho) h15.2.1), ⟨fun c16 => (h15.2.2.1 c16), fun c16 => (h15.2.2.2 c16)⟩⟩⟩⟩⟩)
theorem e_State_wouldFlood {o : Nat} {p1 : Nat} {p2 : Int32} {p3 : Int32} (ho : Sa o) (hp1 : St p1) {d : Nat} {M M9 : Mm} {r9 : Option Value} (h : ∀ At : JJ, StepP d k_State_wouldFlood r9 M9 At → ∃ (v2 : Int32), ∃ (M1 : Mm), (Ev d 238 [.ref p1, .int p2] M (some (.int v2)) M1 ∧ (((v2 = (I 0)) → ((some (.int (I 0))) = r9 ∧ M1 = M9)) ∧ (¬ (v2 = (I 0)) → inR p2 10 ∧ ((((M1.1 (p1 + 6) p2.toNatClampNeg) < p3) → inR p2 10 ∧ (∃ (v8 : Int32), ∃ (M7 : Mm), (Ev d 237 [.ref p1, .int (M1.1 (p1 + 4) p2.toNatClampNeg)] M1 (some (.int v8)) M7 ∧ (((v8 = (I 0)) → ((some (.int (I 1))) = r9 ∧ M7 = M9)) ∧ (¬ (v8 = (I 0)) → ∃ (v13 : Int32), ∃ (M12 : Mm), (Ev d 46 [.int (M7.1 o 9), .int (M1.1 (p1 + 4) p2.toNatClampNeg)] M7 (some (.int v13)) M12 ∧ (((v13 = (I 1)) → ((some (.int (I 1))) = r9 ∧ M12 = M9)) ∧ (¬ (v13 = (I 1)) → ∃ (v18 : Int32), ∃ (M17 : Mm), (Ev d 241 [.ref p1, .int (M1.1 (p1 + 4) p2.toNatClampNeg), .int p3] M12 (some (.int v18)) M17 ∧ (inR (M1.1 (p1 + 4) p2.toNatClampNeg) 5 ∧ ((((M17.1 (o + 1) (M1.1 (p1 + 4) p2.toNatClampNeg).toNatClampNeg) < v18) → ((some (.int (I 1))) = r9 ∧ M17 = M9)) ∧ (¬ ((M17.1 (o + 1) (M1.1 (p1 + 4) p2.toNatClampNeg).toNatClampNeg) < v18) → ∃ (v23 : Int32), ∃ (M22 : Mm), (Ev d 215 [.ref o, .ref p1, .int (M1.1 (p1 + 4) p2.toNatClampNeg), .int p3] M17 (some (.int v23)) M22 ∧ (((v23 = (I 0)) → ((some (.int (I 0))) = r9 ∧ M22 = M9)) ∧ (¬ (v23 = (I 0)) → ((some (.int (I 1))) = r9 ∧ M22 = M9)))))))))))))))) ∧ (¬ ((M1.1 (p1 + 6) p2.toNatClampNeg) < p3) → ((some (.int (I 0))) = r9 ∧ M1 = M9))))))) : Ev (d + 1) 217 [.ref o, .ref p1, .int p2, .int p3] M r9 M9 :=
  Ev.intro (L0 := [.ref o, .ref p1, .int p2, .int p3, .retAddr 0]) ok_State_wouldFlood rfl rfl fun At step =>
  have h := h At step
  (h).elim fun v2 h3 => (h3).elim fun M1 h4 => ⟨(St_0 hp1), v2, M1, h4.1, ⟨fun c5 => ⟨Or.inl rfl, (h4.2.1 c5)⟩, fun c5 => ⟨(St_0 hp1), ⟨(St_6 hp1), (inR_e (Stl_6 hp1) (h4.2.2 c5).1), ⟨fun c6 => ⟨(St_0 hp1), ⟨(St_4 hp1), (inR_e (Stl_4 hp1) ((h4.2.2 c5).2.1 c6).1), (((h4.2.2 c5).2.1 c6).2).elim fun v8 h9 => (h9).elim fun M7 h10 => ⟨(St_0 hp1), v8, M7, h10.1, ⟨fun c11 => ⟨Or.inr rfl, (h10.2.1 c11)⟩, fun c11 => ⟨(Sa_0 ho), ((h10.2.2 c11)).elim fun v13 h14 => (h14).elim fun M12 h15 => ⟨v13, M12, h15.1, ⟨fun c16 => ((h15.2.2 (id c16))).elim fun v18 h19 => (h19).elim fun M17 h20 => ⟨(St_0 hp1), v18, M17, h20.1, ⟨(Sa_0 ho), ⟨(Sa_1 ho), (inR_e (Sal_1 ho) h20.2.1), ⟨fun c21 => ⟨Or.inr rfl, (h20.2.2.1 c21)⟩, fun c21 => ((h20.2.2.2 c21)).elim fun v23 h24 => (h24).elim fun M22 h25 => ⟨(Sa_0 ho), v23, M22, h25.1, ⟨fun c26 => ⟨Or.inl rfl, (h25.2.1 c26)⟩, fun c26 => ⟨Or.inr rfl, (h25.2.2 c26)⟩⟩⟩⟩⟩⟩⟩, fun c16 => ⟨Or.inr rfl, (h15.2.1 (Decidable.of_not_not c16))⟩⟩⟩⟩⟩⟩⟩⟩, fun c6 => ⟨Or.inl rfl, ((h4.2.2 c5).2.2 c6)⟩⟩⟩⟩⟩⟩
theorem e_State_savedWorth {o : Nat} {p1 : Nat} (ho : Sa o) (hp1 : St p1) {d : Nat} {M M9 : Mm} {r9 : Option Value} (h : ∀ At : JJ, StepP d k_State_savedWorth r9 M9 At → At 4 [.ref o, .ref p1, .int (I 0), .int (I 0)] [] M) : Ev (d + 1) 218 [.ref o, .ref p1] M r9 M9 :=
  Ev.intro (L0 := [.ref o, .ref p1, .retAddr 0, .retAddr 0]) ok_State_savedWorth rfl rfl fun At step =>
  have h := h At step
  h
theorem s_State_savedWorth_4 {o : Nat} {p1 : Nat} {x2 : Int32} {x3 : Int32} (ho : Sa o) (hp1 : St p1) {d : Nat} {M M9 : Mm} {r9 : Option Value} {At : JJ} (step : StepP d k_State_savedWorth r9 M9 At) (h : ((x3 < (M.1 p1 7)) → ∃ (v3 : Int32), ∃ (M2 : Mm), (Ev d 212 [.ref o, .int x3] M (some (.int v3)) M2 ∧ (((v3 = (I 0)) → inR x3 10 ∧ (At 4 [.ref o, .ref p1, .int (x2 + (M2.1 (p1 + 5) x3.toNatClampNeg)), .int (x3 + I 1)] [] M2)) ∧ (¬ (v3 = (I 0)) → ∃ (v8 : Int32), ∃ (M7 : Mm), (Ev d 46 [.int (M2.1 o 10), .int x3] M2 (some (.int v8)) M7 ∧ (((v8 = (I 1)) → inR x3 10 ∧ (At 4 [.ref o, .ref p1, .int (x2 + ((M7.1 (p1 + 5) x3.toNatClampNeg) / (I 2))), .int (x3 + I 1)] [] M7)) ∧ (¬ (v8 = (I 1)) → At 4 [.ref o, .ref p1, .int x2, .int (x3 + I 1)] [] M7))))))) ∧ (¬ (x3 < (M.1 p1 7)) → ((some (.int x2)) = r9 ∧ M = M9))) : At 4 [.ref o, .ref p1, .int x2, .int x3] [] M :=
  step 4 [.ref o, .ref p1, .int x2, .int x3] [] M (⟨(St_0 hp1), ⟨fun c1 => (h.2 (Int32.not_lt.mpr c1)), fun c1 => ((h.1 (Int32.not_le.mp c1))).elim fun v3 h4 => (h4).elim fun M2 h5 => ⟨(Sa_0 ho), v3, M2, h5.1, ⟨fun c6 => ⟨(Sa_0 ho), ((h5.2.2 (id c6))).elim fun v8 h9 => (h9).elim fun M7 h10 => ⟨v8, M7, h10.1, ⟨fun c11 => (h10.2.2 (id c11)), fun c11 => ⟨(St_0 hp1), ⟨(St_5 hp1), (inR_e (Stl_5 hp1) (h10.2.1 (Decidable.of_not_not c11)).1), ⟨(of_decide_eq_false rfl), (h10.2.1 (Decidable.of_not_not c11)).2⟩⟩⟩⟩⟩⟩, fun c6 => ⟨(St_0 hp1), ⟨(St_5 hp1), (inR_e (Stl_5 hp1) (h5.2.1 (Decidable.of_not_not c6)).1), (h5.2.1 (Decidable.of_not_not c6)).2⟩⟩⟩⟩⟩⟩)
theorem e_State_isPosted {o : Nat} {p1 : Int32} {p2 : Int32} {p3 : Int32} (ho : Sa o) {d : Nat} {M M9 : Mm} {r9 : Option Value} (h : ∀ At : JJ, StepP d k_State_isPosted r9 M9 At → (((M.1 o 6) = p1) → (((M.1 o 7) = p2) → (((M.1 o 8) = p3) → ((some (.int (I 1))) = r9 ∧ M = M9)) ∧ (¬ ((M.1 o 8) = p3) → ((some (.int (I 0))) = r9 ∧ M = M9))) ∧ (¬ ((M.1 o 7) = p2) → ((some (.int (I 0))) = r9 ∧ M = M9))) ∧ (¬ ((M.1 o 6) = p1) → ((some (.int (I 0))) = r9 ∧ M = M9))) : Ev (d + 1) 219 [.ref o, .int p1, .int p2, .int p3] M r9 M9 :=
  Ev.intro (L0 := [.ref o, .int p1, .int p2, .int p3]) ok_State_isPosted rfl rfl fun At step =>
  have h := h At step
  ⟨(Sa_0 ho), ⟨fun c1 => ⟨Or.inl rfl, (h.2 (id c1))⟩, fun c1 => ⟨(Sa_0 ho), ⟨fun c2 => ⟨Or.inl rfl, ((h.1 (Decidable.of_not_not c1)).2 (id c2))⟩, fun c2 => ⟨(Sa_0 ho), ⟨fun c3 => ⟨Or.inl rfl, (((h.1 (Decidable.of_not_not c1)).1 (Decidable.of_not_not c2)).2 (id c3))⟩, fun c3 => ⟨Or.inr rfl, (((h.1 (Decidable.of_not_not c1)).1 (Decidable.of_not_not c2)).1 (Decidable.of_not_not c3))⟩⟩⟩⟩⟩⟩⟩
theorem e_State_takePosts {o : Nat} {p1 : Int32} {p2 : Int32} {p3 : Int32} (ho : Sa o) {d : Nat} {M M9 : Mm} {r9 : Option Value} (h : ∀ At : JJ, StepP d k_State_takePosts r9 M9 At → (none = r9 ∧ (sI (sI (sI M o 6 p1) o 7 p2) o 8 p3) = M9)) : Ev (d + 1) 220 [.ref o, .int p1, .int p2, .int p3] M r9 M9 :=
  Ev.intro (L0 := [.ref o, .int p1, .int p2, .int p3]) ok_State_takePosts rfl rfl fun At step =>
  have h := h At step
  ⟨(Sa_0 ho), ⟨(Sa_0 ho), ⟨(Sa_0 ho), h⟩⟩⟩
theorem e_State_whyNotQuit {o : Nat} {p1 : Int32} (ho : Sa o) {d : Nat} {M M9 : Mm} {r9 : Option Value} (h : ∀ At : JJ, StepP d k_State_whyNotQuit r9 M9 At → ∃ (v2 : Int32), ∃ (M1 : Mm), (Ev d 46 [.int (M.1 o 9), .int p1] M (some (.int v2)) M1 ∧ (((some (.int v2)) = r9 ∧ M1 = M9)))) : Ev (d + 1) 221 [.ref o, .int p1] M r9 M9 :=
  Ev.intro (L0 := [.ref o, .int p1]) ok_State_whyNotQuit rfl rfl fun At step =>
  have h := h At step
  ⟨(Sa_0 ho), (h).elim fun v2 h3 => (h3).elim fun M1 h4 => ⟨v2, M1, h4.1, h4.2⟩⟩
theorem e_State_giveUpWall {o : Nat} {p1 : Int32} (ho : Sa o) {d : Nat} {M M9 : Mm} {r9 : Option Value} (h : ∀ At : JJ, StepP d k_State_giveUpWall r9 M9 At → ((p1 < (I 0)) → (none = r9 ∧ M = M9)) ∧ (¬ (p1 < (I 0)) → ((p1 < (I 5)) → inR p1 5 ∧ (inR p1 5 ∧ ((none = r9 ∧ (sI (sI (sI M o 2 ((M.1 o 2) + ((M.1 (o + 1) p1.toNatClampNeg) / (I 2)))) (o + 1) p1.toNatClampNeg (I 0)) o 9 (((sI (sI M o 2 ((M.1 o 2) + ((M.1 (o + 1) p1.toNatClampNeg) / (I 2)))) (o + 1) p1.toNatClampNeg (I 0)).1 o 9) ||| ((I 1) <<< (p1 &&& 31)))) = M9)))) ∧ (¬ (p1 < (I 5)) → (none = r9 ∧ M = M9)))) : Ev (d + 1) 222 [.ref o, .int p1] M r9 M9 :=
  Ev.intro (L0 := [.ref o, .int p1]) ok_State_giveUpWall rfl rfl fun At step =>
  have h := h At step
  ⟨fun c1 => (h.1 c1), fun c1 => ⟨fun c2 => ((h.2 c1).2 (Int32.not_lt.mpr c2)), fun c2 => ⟨(Sa_0 ho), ⟨(Sa_0 ho), ⟨(Sa_1 ho), (inR_e (Sal_1 ho) ((h.2 c1).1 (Int32.not_le.mp c2)).1), ⟨(of_decide_eq_false rfl), ⟨(Sa_0 ho), ⟨(Sa_0 ho), ⟨(Sa_1 ho), (inR_e (Sal_1 ho) ((h.2 c1).1 (Int32.not_le.mp c2)).2.1), ⟨(Sa_0 ho), ⟨(Sa_0 ho), ((h.2 c1).1 (Int32.not_le.mp c2)).2.2⟩⟩⟩⟩⟩⟩⟩⟩⟩⟩⟩
theorem e_State_whyNotUp {o : Nat} {p1 : Int32} (ho : Sa o) {d : Nat} {M M9 : Mm} {r9 : Option Value} (h : ∀ At : JJ, StepP d k_State_whyNotUp r9 M9 At → ∃ (v2 : Int32), ∃ (M1 : Mm), (Ev d 212 [.ref o, .int p1] M (some (.int v2)) M1 ∧ (((v2 = (I 0)) → ∃ (v7 : Int32), ∃ (M6 : Mm), (Ev d 46 [.int (M1.1 o 10), .int p1] M1 (some (.int v7)) M6 ∧ (((v7 = (I 1)) → ((some (.int (I 2))) = r9 ∧ M6 = M9)) ∧ (¬ (v7 = (I 1)) → ((some (.int (I 0))) = r9 ∧ M6 = M9))))) ∧ (¬ (v2 = (I 0)) → ((some (.int (I 1))) = r9 ∧ M1 = M9))))) : Ev (d + 1) 223 [.ref o, .int p1] M r9 M9 :=
  Ev.intro (L0 := [.ref o, .int p1]) ok_State_whyNotUp rfl rfl fun At step =>
  have h := h At step
  (h).elim fun v2 h3 => (h3).elim fun M1 h4 => ⟨(Sa_0 ho), v2, M1, h4.1, ⟨fun c5 => ⟨(Sa_0 ho), ((h4.2.1 c5)).elim fun v7 h8 => (h8).elim fun M6 h9 => ⟨v7, M6, h9.1, ⟨fun c10 => (h9.2.2 (id c10)), fun c10 => (h9.2.1 (Decidable.of_not_not c10))⟩⟩⟩, fun c5 => (h4.2.2 c5)⟩⟩
theorem e_State_carryUp {o : Nat} {p1 : Int32} (ho : Sa o) {d : Nat} {M M9 : Mm} {r9 : Option Value} (h : ∀ At : JJ, StepP d k_State_carryUp r9 M9 At → (none = r9 ∧ (sI (sI M o 10 ((M.1 o 10) ||| ((I 1) <<< (p1 &&& 31)))) o 3 (((sI M o 10 ((M.1 o 10) ||| ((I 1) <<< (p1 &&& 31)))).1 o 3) + (I 1))) = M9)) : Ev (d + 1) 224 [.ref o, .int p1] M r9 M9 :=
  Ev.intro (L0 := [.ref o, .int p1]) ok_State_carryUp rfl rfl fun At step =>
  have h := h At step
  ⟨(Sa_0 ho), ⟨(Sa_0 ho), ⟨(Sa_0 ho), ⟨(Sa_0 ho), h⟩⟩⟩⟩
theorem e_State_work {o : Nat} {p1 : Nat} (ho : Sa o) (hp1 : St p1) {d : Nat} {M M9 : Mm} {r9 : Option Value} (h : ∀ At : JJ, StepP d k_State_work r9 M9 At → ∃ (v2 : Int32), ∃ (M1 : Mm), (Ev d 211 [.ref o, .ref p1] M (some (.int v2)) M1 ∧ (∃ (M5 : Mm), (Ev d 226 [.ref o, .ref p1, .int (if ((sI (sI M1 o 1 ((M1.1 o 1) - (if (M1.1 o 1) < (((M1.1 o 6) / (I 2)) * v2) then M1.1 o 1 else ((M1.1 o 6) / (I 2)) * v2))) o 2 (((sI M1 o 1 ((M1.1 o 1) - (if (M1.1 o 1) < (((M1.1 o 6) / (I 2)) * v2) then M1.1 o 1 else ((M1.1 o 6) / (I 2)) * v2))).1 o 2) + (if (M1.1 o 1) < (((M1.1 o 6) / (I 2)) * v2) then M1.1 o 1 else ((M1.1 o 6) / (I 2)) * v2))).1 o 2) < (((sI (sI M1 o 1 ((M1.1 o 1) - (if (M1.1 o 1) < (((M1.1 o 6) / (I 2)) * v2) then M1.1 o 1 else ((M1.1 o 6) / (I 2)) * v2))) o 2 (((sI M1 o 1 ((M1.1 o 1) - (if (M1.1 o 1) < (((M1.1 o 6) / (I 2)) * v2) then M1.1 o 1 else ((M1.1 o 6) / (I 2)) * v2))).1 o 2) + (if (M1.1 o 1) < (((M1.1 o 6) / (I 2)) * v2) then M1.1 o 1 else ((M1.1 o 6) / (I 2)) * v2))).1 o 7) * v2) then (sI (sI M1 o 1 ((M1.1 o 1) - (if (M1.1 o 1) < (((M1.1 o 6) / (I 2)) * v2) then M1.1 o 1 else ((M1.1 o 6) / (I 2)) * v2))) o 2 (((sI M1 o 1 ((M1.1 o 1) - (if (M1.1 o 1) < (((M1.1 o 6) / (I 2)) * v2) then M1.1 o 1 else ((M1.1 o 6) / (I 2)) * v2))).1 o 2) + (if (M1.1 o 1) < (((M1.1 o 6) / (I 2)) * v2) then M1.1 o 1 else ((M1.1 o 6) / (I 2)) * v2))).1 o 2 else ((sI (sI M1 o 1 ((M1.1 o 1) - (if (M1.1 o 1) < (((M1.1 o 6) / (I 2)) * v2) then M1.1 o 1 else ((M1.1 o 6) / (I 2)) * v2))) o 2 (((sI M1 o 1 ((M1.1 o 1) - (if (M1.1 o 1) < (((M1.1 o 6) / (I 2)) * v2) then M1.1 o 1 else ((M1.1 o 6) / (I 2)) * v2))).1 o 2) + (if (M1.1 o 1) < (((M1.1 o 6) / (I 2)) * v2) then M1.1 o 1 else ((M1.1 o 6) / (I 2)) * v2))).1 o 7) * v2)] (sI (sI M1 o 1 ((M1.1 o 1) - (if (M1.1 o 1) < (((M1.1 o 6) / (I 2)) * v2) then M1.1 o 1 else ((M1.1 o 6) / (I 2)) * v2))) o 2 (((sI M1 o 1 ((M1.1 o 1) - (if (M1.1 o 1) < (((M1.1 o 6) / (I 2)) * v2) then M1.1 o 1 else ((M1.1 o 6) / (I 2)) * v2))).1 o 2) + (if (M1.1 o 1) < (((M1.1 o 6) / (I 2)) * v2) then M1.1 o 1 else ((M1.1 o 6) / (I 2)) * v2))) none M5 ∧ ((((I 0) < ((M5.1 o 6) + (M5.1 o 7))) → (none = r9 ∧ (sI M5 o 3 ((M5.1 o 3) + (I 1))) = M9)) ∧ (¬ ((I 0) < ((M5.1 o 6) + (M5.1 o 7))) → (none = r9 ∧ (sI M5 o 3 (if ((M5.1 o 3) - (I 2)) < (I 0) then I 0 else (M5.1 o 3) - (I 2))) = M9))))))) : Ev (d + 1) 225 [.ref o, .ref p1] M r9 M9 :=
  Ev.intro (L0 := [.ref o, .ref p1, .retAddr 0, .retAddr 0]) ok_State_work rfl rfl fun At step =>
  have h := h At step
  (h).elim fun v2 h3 => (h3).elim fun M1 h4 => ⟨(Sa_0 ho), v2, M1, h4.1, ⟨(Sa_0 ho), ⟨(of_decide_eq_false rfl), ⟨(Sa_0 ho), ⟨(Sa_0 ho), ⟨(Sa_0 ho), ⟨(Sa_0 ho), ⟨(Sa_0 ho), ⟨(Sa_0 ho), ⟨(Sa_0 ho), (h4.2).elim fun M5 h6 => ⟨(Sa_0 ho), M5, h6.1, ⟨(Sa_0 ho), ⟨(Sa_0 ho), ⟨fun c7 => ⟨(Sa_0 ho), ⟨(Sa_0 ho), (h6.2.2 (Int32.not_lt.mpr c7))⟩⟩, fun c7 => ⟨(Sa_0 ho), ⟨(Sa_0 ho), (h6.2.1 (Int32.not_le.mp c7))⟩⟩⟩⟩⟩⟩⟩⟩⟩⟩⟩⟩⟩⟩⟩⟩
theorem e_State_layDown {o : Nat} {p1 : Nat} {p2 : Int32} (ho : Sa o) (hp1 : St p1) {d : Nat} {M M9 : Mm} {r9 : Option Value} (h : ∀ At : JJ, StepP d k_State_layDown r9 M9 At → ∃ (v2 : Int32), ∃ (M1 : Mm), (Ev d 237 [.ref p1, .int (M.1 o 8)] M (some (.int v2)) M1 ∧ (((v2 = (I 0)) → ∃ (v7 : Int32), ∃ (M6 : Mm), (Ev d 239 [.ref p1, .int ((M1.1 o 8) - (I 10))] M1 (some (.int v7)) M6 ∧ (((v7 = (I 0)) → (none = r9 ∧ M6 = M9)) ∧ (¬ (v7 = (I 0)) → inR ((M6.1 o 8) - (I 10)) 6 ∧ (inR ((M6.1 o 8) - (I 10)) 6 ∧ ((none = r9 ∧ (sI (sI (sI M6 (o + 2) ((M6.1 o 8) - (I 10)).toNatClampNeg ((M6.1 (o + 2) ((M6.1 o 8) - (I 10)).toNatClampNeg) + p2)) o 2 (((sI M6 (o + 2) ((M6.1 o 8) - (I 10)).toNatClampNeg ((M6.1 (o + 2) ((M6.1 o 8) - (I 10)).toNatClampNeg) + p2)).1 o 2) - p2)) o 5 (((sI (sI M6 (o + 2) ((M6.1 o 8) - (I 10)).toNatClampNeg ((M6.1 (o + 2) ((M6.1 o 8) - (I 10)).toNatClampNeg) + p2)) o 2 (((sI M6 (o + 2) ((M6.1 o 8) - (I 10)).toNatClampNeg ((M6.1 (o + 2) ((M6.1 o 8) - (I 10)).toNatClampNeg) + p2)).1 o 2) - p2)).1 o 5) + p2)) = M9))))))) ∧ (¬ (v2 = (I 0)) → ∃ (v12 : Int32), ∃ (M11 : Mm), (Ev d 46 [.int (M1.1 o 9), .int (M1.1 o 8)] M1 (some (.int v12)) M11 ∧ (((v12 = (I 1)) → (none = r9 ∧ M11 = M9)) ∧ (¬ (v12 = (I 1)) → inR (M11.1 o 8) 5 ∧ (inR (M11.1 o 8) 5 ∧ ((none = r9 ∧ (sI (sI (sI M11 (o + 1) (M11.1 o 8).toNatClampNeg ((M11.1 (o + 1) (M11.1 o 8).toNatClampNeg) + p2)) o 2 (((sI M11 (o + 1) (M11.1 o 8).toNatClampNeg ((M11.1 (o + 1) (M11.1 o 8).toNatClampNeg) + p2)).1 o 2) - p2)) o 5 (((sI (sI M11 (o + 1) (M11.1 o 8).toNatClampNeg ((M11.1 (o + 1) (M11.1 o 8).toNatClampNeg) + p2)) o 2 (((sI M11 (o + 1) (M11.1 o 8).toNatClampNeg ((M11.1 (o + 1) (M11.1 o 8).toNatClampNeg) + p2)).1 o 2) - p2)).1 o 5) + p2)) = M9)))))))))) : Ev (d + 1) 226 [.ref o, .ref p1, .int p2] M r9 M9 :=
  Ev.intro (L0 := [.ref o, .ref p1, .int p2]) ok_State_layDown rfl rfl fun At step =>
  have h := h At step
  ⟨(Sa_0 ho), (h).elim fun v2 h3 => (h3).elim fun M1 h4 => ⟨(St_0 hp1), v2, M1, h4.1, ⟨fun c5 => ⟨(Sa_0 ho), ((h4.2.1 c5)).elim fun v7 h8 => (h8).elim fun M6 h9 => ⟨(St_0 hp1), v7, M6, h9.1, ⟨fun c10 => (h9.2.1 c10), fun c10 => ⟨(Sa_0 ho), ⟨(Sa_0 ho), ⟨(Sa_2 ho), (inR_e (Sal_2 ho) (h9.2.2 c10).1), ⟨(Sa_2 ho), (inR_e (Sal_2 ho) (h9.2.2 c10).2.1), ⟨(Sa_0 ho), ⟨(Sa_0 ho), ⟨(Sa_0 ho), ⟨(Sa_0 ho), (h9.2.2 c10).2.2⟩⟩⟩⟩⟩⟩⟩⟩⟩⟩⟩, fun c5 => ⟨(Sa_0 ho), ⟨(Sa_0 ho), ((h4.2.2 c5)).elim fun v12 h13 => (h13).elim fun M11 h14 => ⟨v12, M11, h14.1, ⟨fun c15 => ⟨(Sa_0 ho), ⟨(Sa_0 ho), ⟨(Sa_1 ho), (inR_e (Sal_1 ho) (h14.2.2 (id c15)).1), ⟨(Sa_1 ho), (inR_e (Sal_1 ho) (h14.2.2 (id c15)).2.1), ⟨(Sa_0 ho), ⟨(Sa_0 ho), ⟨(Sa_0 ho), ⟨(Sa_0 ho), (h14.2.2 (id c15)).2.2⟩⟩⟩⟩⟩⟩⟩⟩, fun c15 => (h14.2.1 (Decidable.of_not_not c15))⟩⟩⟩⟩⟩⟩⟩
theorem e_State_goHour {o : Nat} {p1 : Nat} (ho : Sa o) (hp1 : St p1) {d : Nat} {M M9 : Mm} {r9 : Option Value} (h : ∀ At : JJ, StepP d k_State_goHour r9 M9 At → ∃ (M1 : Mm), (Ev d 225 [.ref o, .ref p1] M none M1 ∧ (∃ (v4 : Int32), ∃ (M3 : Mm), (Ev d 209 [.ref o, .ref p1] M1 (some (.int v4)) M3 ∧ (At 13 [.ref o, .ref p1, .int v4, .int (I 0)] [] M3))))) : Ev (d + 1) 227 [.ref o, .ref p1] M r9 M9 :=
  Ev.intro (L0 := [.ref o, .ref p1, .retAddr 0, .retAddr 0]) ok_State_goHour rfl rfl fun At step =>
  have h := h At step
  (h).elim fun M1 h2 => ⟨(Sa_0 ho), M1, h2.1, (h2.2).elim fun v4 h5 => (h5).elim fun M3 h6 => ⟨(Sa_0 ho), v4, M3, h6.1, h6.2⟩⟩
theorem s_State_goHour_13 {o : Nat} {p1 : Nat} {x2 : Int32} {x3 : Int32} (ho : Sa o) (hp1 : St p1) {d : Nat} {M M9 : Mm} {r9 : Option Value} {At : JJ} (step : StepP d k_State_goHour r9 M9 At) (h : ((x3 < (M.1 p1 7)) → ∃ (v9 : Int32), ∃ (M8 : Mm), (Ev d 212 [.ref o, .int x3] M (some (.int v9)) M8 ∧ (((v9 = (I 0)) → ∃ (v14 : Int32), ∃ (M13 : Mm), (Ev d 217 [.ref o, .ref p1, .int x3, .int x2] M8 (some (.int v14)) M13 ∧ (((v14 = (I 0)) → At 13 [.ref o, .ref p1, .int x2, .int (x3 + I 1)] [] M13) ∧ (¬ (v14 = (I 0)) → inR x3 10 ∧ (At 13 [.ref o, .ref p1, .int x2, .int (x3 + I 1)] [] (sI M13 (o + 3) x3.toNatClampNeg (M13.1 o 0))))))) ∧ (¬ (v9 = (I 0)) → At 13 [.ref o, .ref p1, .int x2, .int (x3 + I 1)] [] M8)))) ∧ (¬ (x3 < (M.1 p1 7)) → (none = r9 ∧ (sI M o 0 ((M.1 o 0) + (I 1))) = M9))) : At 13 [.ref o, .ref p1, .int x2, .int x3] [] M :=
  step 13 [.ref o, .ref p1, .int x2, .int x3] [] M (⟨(St_0 hp1), ⟨fun c7 => ⟨(Sa_0 ho), ⟨(Sa_0 ho), (h.2 (Int32.not_lt.mpr c7))⟩⟩, fun c7 => ((h.1 (Int32.not_le.mp c7))).elim fun v9 h10 => (h10).elim fun M8 h11 => ⟨(Sa_0 ho), v9, M8, h11.1, ⟨fun c12 => (h11.2.2 (id c12)), fun c12 => ((h11.2.1 (Decidable.of_not_not c12))).elim fun v14 h15 => (h15).elim fun M13 h16 => ⟨(Sa_0 ho), v14, M13, h16.1, ⟨fun c17 => (h16.2.1 c17), fun c17 => ⟨(Sa_0 ho), ⟨(Sa_0 ho), ⟨(Sa_3 ho), (inR_e (Sal_3 ho) (h16.2.2 c17).1), (h16.2.2 c17).2⟩⟩⟩⟩⟩⟩⟩⟩⟩)
theorem e_State_goHours {o : Nat} {p1 : Nat} {p2 : Int32} (ho : Sa o) (hp1 : St p1) {d : Nat} {M M9 : Mm} {r9 : Option Value} (h : ∀ At : JJ, StepP d k_State_goHours r9 M9 At → At 2 [.ref o, .ref p1, .int p2, .int (I 0)] [] M) : Ev (d + 1) 228 [.ref o, .ref p1, .int p2] M r9 M9 :=
  Ev.intro (L0 := [.ref o, .ref p1, .int p2, .retAddr 0]) ok_State_goHours rfl rfl fun At step =>
  have h := h At step
  h
theorem s_State_goHours_2 {o : Nat} {p1 : Nat} {x2 : Int32} {x3 : Int32} (ho : Sa o) (hp1 : St p1) {d : Nat} {M M9 : Mm} {r9 : Option Value} {At : JJ} (step : StepP d k_State_goHours r9 M9 At) (h : ((x3 < x2) → (((M.1 o 0) < (I 48)) → ∃ (M3 : Mm), (Ev d 227 [.ref o, .ref p1] M none M3 ∧ (At 2 [.ref o, .ref p1, .int x2, .int (x3 + I 1)] [] M3))) ∧ (¬ ((M.1 o 0) < (I 48)) → (none = r9 ∧ M = M9))) ∧ (¬ (x3 < x2) → (none = r9 ∧ M = M9))) : At 2 [.ref o, .ref p1, .int x2, .int x3] [] M :=
  step 2 [.ref o, .ref p1, .int x2, .int x3] [] M (⟨fun c1 => (h.2 (Int32.not_lt.mpr c1)), fun c1 => ⟨(Sa_0 ho), ⟨fun c2 => ((h.1 (Int32.not_le.mp c1)).2 (Int32.not_lt.mpr c2)), fun c2 => (((h.1 (Int32.not_le.mp c1)).1 (Int32.not_le.mp c2))).elim fun M3 h4 => ⟨(Sa_0 ho), M3, h4.1, h4.2⟩⟩⟩⟩)
theorem e_State_drawHours {o : Nat} {p1 : Nat} {p2 : Int32} {p3 : Int32} (ho : Sa o) (hp1 : St p1) {d : Nat} {M M9 : Mm} {r9 : Option Value} (h : ∀ At : JJ, StepP d k_State_drawHours r9 M9 At → At 6 [.ref o, .ref p1, .int p2, .retAddr 0, .int p3, .int (I 0)] [] M) : Ev (d + 1) 229 [.ref o, .ref p1, .int p2, .int p3] M r9 M9 :=
  Ev.intro (L0 := [.ref o, .ref p1, .int p2, .int p3, .retAddr 0, .retAddr 0]) ok_State_drawHours rfl rfl fun At step =>
  have h := h At step
  h
theorem s_State_drawHours_6 {o : Nat} {p1 : Nat} {x2 : Int32} {x4 : Int32} {x5 : Int32} (ho : Sa o) (hp1 : St p1) {d : Nat} {M M9 : Mm} {r9 : Option Value} {At : JJ} (step : StepP d k_State_drawHours r9 M9 At) (h : ((x5 < x2) → (((M.1 o 0) < (I 48)) → (((((((x4 * (I 1103515245)) + (I 12345)).toUInt32 >>> ((I 8).toUInt32 &&& Int32.toUInt32 31)).toInt32) - ((((x4 * (I 1103515245)) + (I 12345)).toUInt32 >>> ((I 8).toUInt32 &&& Int32.toUInt32 31)).toInt32) / (I 6) * (I 6)) = (I 0)) → ∃ (M4 : Mm), (Ev d 227 [.ref o, .ref p1] (sI M o 4 ((M.1 o 4) + (I 1))) none M4 ∧ (At 6 [.ref o, .ref p1, .int x2, .retAddr 0, .int ((x4 * (I 1103515245)) + (I 12345)), .int (x5 + I 1)] [] M4))) ∧ (¬ ((((((x4 * (I 1103515245)) + (I 12345)).toUInt32 >>> ((I 8).toUInt32 &&& Int32.toUInt32 31)).toInt32) - ((((x4 * (I 1103515245)) + (I 12345)).toUInt32 >>> ((I 8).toUInt32 &&& Int32.toUInt32 31)).toInt32) / (I 6) * (I 6)) = (I 0)) → ∃ (M6 : Mm), (Ev d 227 [.ref o, .ref p1] M none M6 ∧ (At 6 [.ref o, .ref p1, .int x2, .retAddr 0, .int ((x4 * (I 1103515245)) + (I 12345)), .int (x5 + I 1)] [] M6)))) ∧ (¬ ((M.1 o 0) < (I 48)) → (none = r9 ∧ M = M9))) ∧ (¬ (x5 < x2) → (none = r9 ∧ M = M9))) : At 6 [.ref o, .ref p1, .int x2, .retAddr 0, .int x4, .int x5] [] M :=
  step 6 [.ref o, .ref p1, .int x2, .retAddr 0, .int x4, .int x5] [] M (⟨fun c1 => (h.2 (Int32.not_lt.mpr c1)), fun c1 => ⟨(Sa_0 ho), ⟨fun c2 => ((h.1 (Int32.not_le.mp c1)).2 (Int32.not_lt.mpr c2)), fun c2 => ⟨(of_decide_eq_false rfl), ⟨fun c3 => ((((h.1 (Int32.not_le.mp c1)).1 (Int32.not_le.mp c2)).2 (id c3))).elim fun M6 h7 => ⟨(Sa_0 ho), M6, h7.1, h7.2⟩, fun c3 => ⟨(Sa_0 ho), ⟨(Sa_0 ho), ((((h.1 (Int32.not_le.mp c1)).1 (Int32.not_le.mp c2)).1 (Decidable.of_not_not c3))).elim fun M4 h5 => ⟨(Sa_0 ho), M4, h5.1, h5.2⟩⟩⟩⟩⟩⟩⟩⟩)
end
