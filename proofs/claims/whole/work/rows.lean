section
-- ===== PART A: goes FIRST, ahead of the names: the tables' words, and 'selects' of the private methods out of them =====
/-- a private method of a class that the tables say can be made, by its rows of tables_1 -/
def lw_okq (q : MethodName × Nat) : Prop := (q.1.cls ≠ "java/lang/invoke/MethodHandle" ∧ q.1.cls ≠ "java/lang/invoke/VarHandle") ∧ Cond.instantiable q.1.cls q.2 ∈ tables_1 ∧ Cond.privateMethod q.1 ∈ tables_1 ∧ Cond.instanceMethod q.1 ∈ tables_1
theorem lw_p0 : lw_okq (⟨"java/lang/Throwable", "fillInStackTrace", "(I)Ljava/lang/Throwable;"⟩, 6) := ⟨⟨by decide +kernel, by decide +kernel⟩, List.mem_of_getElem? (i := 654) (by decide +kernel), List.mem_of_getElem? (i := 652) (by decide +kernel), List.mem_of_getElem? (i := 653) (by decide +kernel)⟩
theorem lw_p1 : lw_okq (⟨"MergeBelts$Tape", "takeIf", "(Z)V"⟩, 8) := ⟨⟨by decide +kernel, by decide +kernel⟩, List.mem_of_getElem? (i := 35) (by decide +kernel), List.mem_of_getElem? (i := 760) (by decide +kernel), List.mem_of_getElem? (i := 761) (by decide +kernel)⟩
theorem lw_p2 : lw_okq (⟨"MergeBelts$BeltText", "readExit", "(LMergeBelts$Tape;)V"⟩, 1) := ⟨⟨by decide +kernel, by decide +kernel⟩, List.mem_of_getElem? (i := 80) (by decide +kernel), List.mem_of_getElem? (i := 796) (by decide +kernel), List.mem_of_getElem? (i := 797) (by decide +kernel)⟩
theorem lw_p3 : lw_okq (⟨"MergeBelts$BeltText", "takeOwnPlace", "(LMergeBelts$Tape;LMergeBelts$Row;I)I"⟩, 1) := ⟨⟨by decide +kernel, by decide +kernel⟩, List.mem_of_getElem? (i := 80) (by decide +kernel), List.mem_of_getElem? (i := 805) (by decide +kernel), List.mem_of_getElem? (i := 806) (by decide +kernel)⟩
theorem lw_p4 : lw_okq (⟨"MergeBelts$BeltText", "readWare", "(LMergeBelts$Tape;)V"⟩, 1) := ⟨⟨by decide +kernel, by decide +kernel⟩, List.mem_of_getElem? (i := 80) (by decide +kernel), List.mem_of_getElem? (i := 820) (by decide +kernel), List.mem_of_getElem? (i := 821) (by decide +kernel)⟩
theorem lw_p5 : lw_okq (⟨"MergeBelts$BeltText", "readSide", "(LMergeBelts$Tape;)V"⟩, 1) := ⟨⟨by decide +kernel, by decide +kernel⟩, List.mem_of_getElem? (i := 80) (by decide +kernel), List.mem_of_getElem? (i := 826) (by decide +kernel), List.mem_of_getElem? (i := 827) (by decide +kernel)⟩
theorem lw_p6 : lw_okq (⟨"MergeBelts$BeltText", "readComing", "(LMergeBelts$Tape;)V"⟩, 1) := ⟨⟨by decide +kernel, by decide +kernel⟩, List.mem_of_getElem? (i := 80) (by decide +kernel), List.mem_of_getElem? (i := 831) (by decide +kernel), List.mem_of_getElem? (i := 832) (by decide +kernel)⟩
theorem lw_p7 : lw_okq (⟨"MergeBelts$BeltText", "readTurns", "(LMergeBelts$Tape;)V"⟩, 1) := ⟨⟨by decide +kernel, by decide +kernel⟩, List.mem_of_getElem? (i := 80) (by decide +kernel), List.mem_of_getElem? (i := 836) (by decide +kernel), List.mem_of_getElem? (i := 837) (by decide +kernel)⟩
theorem lw_p8 : lw_okq (⟨"MergeBelts$BeltText", "takeOpening", "(LMergeBelts$Tape;I)I"⟩, 1) := ⟨⟨by decide +kernel, by decide +kernel⟩, List.mem_of_getElem? (i := 80) (by decide +kernel), List.mem_of_getElem? (i := 841) (by decide +kernel), List.mem_of_getElem? (i := 842) (by decide +kernel)⟩
theorem lw_p9 : lw_okq (⟨"MergeBelts$BeltText", "readPart", "(LMergeBelts$Tape;)V"⟩, 1) := ⟨⟨by decide +kernel, by decide +kernel⟩, List.mem_of_getElem? (i := 80) (by decide +kernel), List.mem_of_getElem? (i := 850) (by decide +kernel), List.mem_of_getElem? (i := 851) (by decide +kernel)⟩
theorem lw_p10 : lw_okq (⟨"MergeBelts$Formula", "settle", "(I)V"⟩, 6) := ⟨⟨by decide +kernel, by decide +kernel⟩, List.mem_of_getElem? (i := 94) (by decide +kernel), List.mem_of_getElem? (i := 881) (by decide +kernel), List.mem_of_getElem? (i := 882) (by decide +kernel)⟩
theorem lw_p11 : lw_okq (⟨"MergeBelts$Ring", "cell", "(I)I"⟩, 8) := ⟨⟨by decide +kernel, by decide +kernel⟩, List.mem_of_getElem? (i := 266) (by decide +kernel), List.mem_of_getElem? (i := 946) (by decide +kernel), List.mem_of_getElem? (i := 947) (by decide +kernel)⟩
theorem lw_p12 : lw_okq (⟨"MergeBelts$State", "goesTo", "(LMergeBelts$Plan;II)Z"⟩, 18) := ⟨⟨by decide +kernel, by decide +kernel⟩, List.mem_of_getElem? (i := 260) (by decide +kernel), List.mem_of_getElem? (i := 982) (by decide +kernel), List.mem_of_getElem? (i := 983) (by decide +kernel)⟩
theorem lw_p13 : lw_okq (⟨"MergeBelts$State", "comeIn", "(LMergeBelts$Plan;)V"⟩, 18) := ⟨⟨by decide +kernel, by decide +kernel⟩, List.mem_of_getElem? (i := 260) (by decide +kernel), List.mem_of_getElem? (i := 1085) (by decide +kernel), List.mem_of_getElem? (i := 1086) (by decide +kernel)⟩
theorem lw_p14 : lw_okq (⟨"MergeBelts$State", "takeOut", "(LMergeBelts$Plan;)V"⟩, 18) := ⟨⟨by decide +kernel, by decide +kernel⟩, List.mem_of_getElem? (i := 260) (by decide +kernel), List.mem_of_getElem? (i := 1101) (by decide +kernel), List.mem_of_getElem? (i := 1102) (by decide +kernel)⟩
theorem lw_p15 : lw_okq (⟨"MergeBelts$State", "goOn", "(LMergeBelts$Plan;)V"⟩, 18) := ⟨⟨by decide +kernel, by decide +kernel⟩, List.mem_of_getElem? (i := 260) (by decide +kernel), List.mem_of_getElem? (i := 1123) (by decide +kernel), List.mem_of_getElem? (i := 1124) (by decide +kernel)⟩
def lw_privs_1 : List (MethodName × Nat) := [(⟨"java/lang/Throwable", "fillInStackTrace", "(I)Ljava/lang/Throwable;"⟩, 6), (⟨"MergeBelts$Tape", "takeIf", "(Z)V"⟩, 8), (⟨"MergeBelts$BeltText", "readExit", "(LMergeBelts$Tape;)V"⟩, 1), (⟨"MergeBelts$BeltText", "takeOwnPlace", "(LMergeBelts$Tape;LMergeBelts$Row;I)I"⟩, 1), (⟨"MergeBelts$BeltText", "readWare", "(LMergeBelts$Tape;)V"⟩, 1), (⟨"MergeBelts$BeltText", "readSide", "(LMergeBelts$Tape;)V"⟩, 1), (⟨"MergeBelts$BeltText", "readComing", "(LMergeBelts$Tape;)V"⟩, 1), (⟨"MergeBelts$BeltText", "readTurns", "(LMergeBelts$Tape;)V"⟩, 1), (⟨"MergeBelts$BeltText", "takeOpening", "(LMergeBelts$Tape;I)I"⟩, 1), (⟨"MergeBelts$BeltText", "readPart", "(LMergeBelts$Tape;)V"⟩, 1), (⟨"MergeBelts$Formula", "settle", "(I)V"⟩, 6), (⟨"MergeBelts$Ring", "cell", "(I)I"⟩, 8), (⟨"MergeBelts$State", "goesTo", "(LMergeBelts$Plan;II)Z"⟩, 18), (⟨"MergeBelts$State", "comeIn", "(LMergeBelts$Plan;)V"⟩, 18), (⟨"MergeBelts$State", "takeOut", "(LMergeBelts$Plan;)V"⟩, 18), (⟨"MergeBelts$State", "goOn", "(LMergeBelts$Plan;)V"⟩, 18)]
theorem lw_r1 : ∀ q ∈ lw_privs_1, lw_okq q := List.forall_mem_cons.mpr ⟨lw_p0, List.forall_mem_cons.mpr ⟨lw_p1, List.forall_mem_cons.mpr ⟨lw_p2, List.forall_mem_cons.mpr ⟨lw_p3, List.forall_mem_cons.mpr ⟨lw_p4, List.forall_mem_cons.mpr ⟨lw_p5, List.forall_mem_cons.mpr ⟨lw_p6, List.forall_mem_cons.mpr ⟨lw_p7, List.forall_mem_cons.mpr ⟨lw_p8, List.forall_mem_cons.mpr ⟨lw_p9, List.forall_mem_cons.mpr ⟨lw_p10, List.forall_mem_cons.mpr ⟨lw_p11, List.forall_mem_cons.mpr ⟨lw_p12, List.forall_mem_cons.mpr ⟨lw_p13, List.forall_mem_cons.mpr ⟨lw_p14, List.forall_mem_cons.mpr ⟨lw_p15, fun _ h => absurd h List.not_mem_nil⟩⟩⟩⟩⟩⟩⟩⟩⟩⟩⟩⟩⟩⟩⟩⟩
theorem lw_p16 : lw_okq (⟨"MergeBelts$State", "takeTurns", "(LMergeBelts$Plan;)V"⟩, 18) := ⟨⟨by decide +kernel, by decide +kernel⟩, List.mem_of_getElem? (i := 260) (by decide +kernel), List.mem_of_getElem? (i := 1146) (by decide +kernel), List.mem_of_getElem? (i := 1147) (by decide +kernel)⟩
theorem lw_p17 : lw_okq (⟨"MergeBelts$State", "nearestGap", "(LMergeBelts$Plan;I)I"⟩, 18) := ⟨⟨by decide +kernel, by decide +kernel⟩, List.mem_of_getElem? (i := 260) (by decide +kernel), List.mem_of_getElem? (i := 1150) (by decide +kernel), List.mem_of_getElem? (i := 1151) (by decide +kernel)⟩
theorem lw_p18 : lw_okq (⟨"MergeBelts$State", "payCredits", "(LMergeBelts$Plan;III)V"⟩, 18) := ⟨⟨by decide +kernel, by decide +kernel⟩, List.mem_of_getElem? (i := 260) (by decide +kernel), List.mem_of_getElem? (i := 1155) (by decide +kernel), List.mem_of_getElem? (i := 1156) (by decide +kernel)⟩
theorem lw_p19 : lw_okq (⟨"MergeBelts", "mayBecome", "(II)Z"⟩, 12) := ⟨⟨by decide +kernel, by decide +kernel⟩, List.mem_of_getElem? (i := 27) (by decide +kernel), List.mem_of_getElem? (i := 1174) (by decide +kernel), List.mem_of_getElem? (i := 1175) (by decide +kernel)⟩
theorem lw_p20 : lw_okq (⟨"MergeBelts", "findAgain", "()I"⟩, 12) := ⟨⟨by decide +kernel, by decide +kernel⟩, List.mem_of_getElem? (i := 27) (by decide +kernel), List.mem_of_getElem? (i := 1197) (by decide +kernel), List.mem_of_getElem? (i := 1198) (by decide +kernel)⟩
theorem lw_p21 : lw_okq (⟨"MergeBelts$State", "waitsAsLong", "(LMergeBelts$State;LMergeBelts$Plan;)Z"⟩, 18) := ⟨⟨by decide +kernel, by decide +kernel⟩, List.mem_of_getElem? (i := 260) (by decide +kernel), List.mem_of_getElem? (i := 1220) (by decide +kernel), List.mem_of_getElem? (i := 1221) (by decide +kernel)⟩
theorem lw_p22 : lw_okq (⟨"MergeBelts$Question", "readFact", "(LMergeBelts$Tape;)Z"⟩, 4) := ⟨⟨by decide +kernel, by decide +kernel⟩, List.mem_of_getElem? (i := 236) (by decide +kernel), List.mem_of_getElem? (i := 1300) (by decide +kernel), List.mem_of_getElem? (i := 1301) (by decide +kernel)⟩
theorem lw_p23 : lw_okq (⟨"MergeBelts$Question", "openOneMore", "(LMergeBelts$Tape;Z)V"⟩, 4) := ⟨⟨by decide +kernel, by decide +kernel⟩, List.mem_of_getElem? (i := 236) (by decide +kernel), List.mem_of_getElem? (i := 1306) (by decide +kernel), List.mem_of_getElem? (i := 1307) (by decide +kernel)⟩
theorem lw_p24 : lw_okq (⟨"MergeBelts$Question", "readValue", "(LMergeBelts$Tape;)V"⟩, 4) := ⟨⟨by decide +kernel, by decide +kernel⟩, List.mem_of_getElem? (i := 236) (by decide +kernel), List.mem_of_getElem? (i := 1313) (by decide +kernel), List.mem_of_getElem? (i := 1314) (by decide +kernel)⟩
theorem lw_p25 : lw_okq (⟨"MergeBeltsModel", "itemsAt", "(I)I"⟩, 28) := ⟨⟨by decide +kernel, by decide +kernel⟩, List.mem_of_getElem? (i := 1368) (by decide +kernel), List.mem_of_getElem? (i := 1471) (by decide +kernel), List.mem_of_getElem? (i := 1472) (by decide +kernel)⟩
theorem lw_p26 : lw_okq (⟨"MergeBeltsModel", "n", "()I"⟩, 28) := ⟨⟨by decide +kernel, by decide +kernel⟩, List.mem_of_getElem? (i := 1368) (by decide +kernel), List.mem_of_getElem? (i := 1475) (by decide +kernel), List.mem_of_getElem? (i := 1476) (by decide +kernel)⟩
theorem lw_p27 : lw_okq (⟨"MergeBeltsModel", "placeOf", "(II)I"⟩, 28) := ⟨⟨by decide +kernel, by decide +kernel⟩, List.mem_of_getElem? (i := 1368) (by decide +kernel), List.mem_of_getElem? (i := 1479) (by decide +kernel), List.mem_of_getElem? (i := 1480) (by decide +kernel)⟩
theorem lw_p28 : lw_okq (⟨"MergeBeltsModel", "reservedOnes", "()I"⟩, 28) := ⟨⟨by decide +kernel, by decide +kernel⟩, List.mem_of_getElem? (i := 1368) (by decide +kernel), List.mem_of_getElem? (i := 1483) (by decide +kernel), List.mem_of_getElem? (i := 1484) (by decide +kernel)⟩
theorem lw_p29 : lw_okq (⟨"MergeBeltsModel", "waitingOf", "(I)I"⟩, 28) := ⟨⟨by decide +kernel, by decide +kernel⟩, List.mem_of_getElem? (i := 1368) (by decide +kernel), List.mem_of_getElem? (i := 1487) (by decide +kernel), List.mem_of_getElem? (i := 1488) (by decide +kernel)⟩
theorem lw_p30 : lw_okq (⟨"MergeBeltsModel", "sideOf", "(II)I"⟩, 28) := ⟨⟨by decide +kernel, by decide +kernel⟩, List.mem_of_getElem? (i := 1368) (by decide +kernel), List.mem_of_getElem? (i := 1491) (by decide +kernel), List.mem_of_getElem? (i := 1492) (by decide +kernel)⟩
theorem lw_p31 : lw_okq (⟨"MergeBeltsModel", "queueAt", "(II)I"⟩, 28) := ⟨⟨by decide +kernel, by decide +kernel⟩, List.mem_of_getElem? (i := 1368) (by decide +kernel), List.mem_of_getElem? (i := 1495) (by decide +kernel), List.mem_of_getElem? (i := 1496) (by decide +kernel)⟩
def lw_privs_2 : List (MethodName × Nat) := [(⟨"MergeBelts$State", "takeTurns", "(LMergeBelts$Plan;)V"⟩, 18), (⟨"MergeBelts$State", "nearestGap", "(LMergeBelts$Plan;I)I"⟩, 18), (⟨"MergeBelts$State", "payCredits", "(LMergeBelts$Plan;III)V"⟩, 18), (⟨"MergeBelts", "mayBecome", "(II)Z"⟩, 12), (⟨"MergeBelts", "findAgain", "()I"⟩, 12), (⟨"MergeBelts$State", "waitsAsLong", "(LMergeBelts$State;LMergeBelts$Plan;)Z"⟩, 18), (⟨"MergeBelts$Question", "readFact", "(LMergeBelts$Tape;)Z"⟩, 4), (⟨"MergeBelts$Question", "openOneMore", "(LMergeBelts$Tape;Z)V"⟩, 4), (⟨"MergeBelts$Question", "readValue", "(LMergeBelts$Tape;)V"⟩, 4), (⟨"MergeBeltsModel", "itemsAt", "(I)I"⟩, 28), (⟨"MergeBeltsModel", "n", "()I"⟩, 28), (⟨"MergeBeltsModel", "placeOf", "(II)I"⟩, 28), (⟨"MergeBeltsModel", "reservedOnes", "()I"⟩, 28), (⟨"MergeBeltsModel", "waitingOf", "(I)I"⟩, 28), (⟨"MergeBeltsModel", "sideOf", "(II)I"⟩, 28), (⟨"MergeBeltsModel", "queueAt", "(II)I"⟩, 28)]
theorem lw_r2 : ∀ q ∈ lw_privs_2, lw_okq q := List.forall_mem_cons.mpr ⟨lw_p16, List.forall_mem_cons.mpr ⟨lw_p17, List.forall_mem_cons.mpr ⟨lw_p18, List.forall_mem_cons.mpr ⟨lw_p19, List.forall_mem_cons.mpr ⟨lw_p20, List.forall_mem_cons.mpr ⟨lw_p21, List.forall_mem_cons.mpr ⟨lw_p22, List.forall_mem_cons.mpr ⟨lw_p23, List.forall_mem_cons.mpr ⟨lw_p24, List.forall_mem_cons.mpr ⟨lw_p25, List.forall_mem_cons.mpr ⟨lw_p26, List.forall_mem_cons.mpr ⟨lw_p27, List.forall_mem_cons.mpr ⟨lw_p28, List.forall_mem_cons.mpr ⟨lw_p29, List.forall_mem_cons.mpr ⟨lw_p30, List.forall_mem_cons.mpr ⟨lw_p31, fun _ h => absurd h List.not_mem_nil⟩⟩⟩⟩⟩⟩⟩⟩⟩⟩⟩⟩⟩⟩⟩⟩
theorem lw_p32 : lw_okq (⟨"MergeBeltsModel", "fail", "(I)I"⟩, 28) := ⟨⟨by decide +kernel, by decide +kernel⟩, List.mem_of_getElem? (i := 1368) (by decide +kernel), List.mem_of_getElem? (i := 1499) (by decide +kernel), List.mem_of_getElem? (i := 1500) (by decide +kernel)⟩
theorem lw_p33 : lw_okq (⟨"MergeBeltsModel", "isPlace", "(I)Z"⟩, 28) := ⟨⟨by decide +kernel, by decide +kernel⟩, List.mem_of_getElem? (i := 1368) (by decide +kernel), List.mem_of_getElem? (i := 1507) (by decide +kernel), List.mem_of_getElem? (i := 1508) (by decide +kernel)⟩
theorem lw_p34 : lw_okq (⟨"MergeBeltsModel", "ridesOf", "(I)I"⟩, 28) := ⟨⟨by decide +kernel, by decide +kernel⟩, List.mem_of_getElem? (i := 1368) (by decide +kernel), List.mem_of_getElem? (i := 1514) (by decide +kernel), List.mem_of_getElem? (i := 1515) (by decide +kernel)⟩
theorem lw_p35 : lw_okq (⟨"MergeBeltsModel", "isExit", "(I)Z"⟩, 28) := ⟨⟨by decide +kernel, by decide +kernel⟩, List.mem_of_getElem? (i := 1368) (by decide +kernel), List.mem_of_getElem? (i := 1522) (by decide +kernel), List.mem_of_getElem? (i := 1523) (by decide +kernel)⟩
theorem lw_p36 : lw_okq (⟨"MergeBeltsModel", "exitOf", "(II)I"⟩, 28) := ⟨⟨by decide +kernel, by decide +kernel⟩, List.mem_of_getElem? (i := 1368) (by decide +kernel), List.mem_of_getElem? (i := 1526) (by decide +kernel), List.mem_of_getElem? (i := 1527) (by decide +kernel)⟩
theorem lw_p37 : lw_okq (⟨"MergeBeltsModel", "jamAt", "(I)I"⟩, 28) := ⟨⟨by decide +kernel, by decide +kernel⟩, List.mem_of_getElem? (i := 1368) (by decide +kernel), List.mem_of_getElem? (i := 1530) (by decide +kernel), List.mem_of_getElem? (i := 1531) (by decide +kernel)⟩
theorem lw_p38 : lw_okq (⟨"MergeBeltsModel", "wareOf", "(II)I"⟩, 28) := ⟨⟨by decide +kernel, by decide +kernel⟩, List.mem_of_getElem? (i := 1368) (by decide +kernel), List.mem_of_getElem? (i := 1534) (by decide +kernel), List.mem_of_getElem? (i := 1535) (by decide +kernel)⟩
theorem lw_p39 : lw_okq (⟨"MergeBeltsModel", "mayIn", "(I)I"⟩, 28) := ⟨⟨by decide +kernel, by decide +kernel⟩, List.mem_of_getElem? (i := 1368) (by decide +kernel), List.mem_of_getElem? (i := 1538) (by decide +kernel), List.mem_of_getElem? (i := 1539) (by decide +kernel)⟩
theorem lw_p40 : lw_okq (⟨"MergeBeltsModel", "isWare", "(I)Z"⟩, 28) := ⟨⟨by decide +kernel, by decide +kernel⟩, List.mem_of_getElem? (i := 1368) (by decide +kernel), List.mem_of_getElem? (i := 1547) (by decide +kernel), List.mem_of_getElem? (i := 1548) (by decide +kernel)⟩
theorem lw_p41 : lw_okq (⟨"MergeBeltsModel", "isSide", "(I)Z"⟩, 28) := ⟨⟨by decide +kernel, by decide +kernel⟩, List.mem_of_getElem? (i := 1368) (by decide +kernel), List.mem_of_getElem? (i := 1555) (by decide +kernel), List.mem_of_getElem? (i := 1556) (by decide +kernel)⟩
theorem lw_p42 : lw_okq (⟨"MergeBeltsModel", "heldFor", "(I)I"⟩, 28) := ⟨⟨by decide +kernel, by decide +kernel⟩, List.mem_of_getElem? (i := 1368) (by decide +kernel), List.mem_of_getElem? (i := 1559) (by decide +kernel), List.mem_of_getElem? (i := 1560) (by decide +kernel)⟩
theorem lw_p43 : lw_okq (⟨"MergeBeltsModel", "lateOf", "(I)I"⟩, 28) := ⟨⟨by decide +kernel, by decide +kernel⟩, List.mem_of_getElem? (i := 1368) (by decide +kernel), List.mem_of_getElem? (i := 1563) (by decide +kernel), List.mem_of_getElem? (i := 1564) (by decide +kernel)⟩
theorem lw_p44 : lw_okq (⟨"MergeBeltsModel", "urgentAt", "(I)I"⟩, 28) := ⟨⟨by decide +kernel, by decide +kernel⟩, List.mem_of_getElem? (i := 1368) (by decide +kernel), List.mem_of_getElem? (i := 1567) (by decide +kernel), List.mem_of_getElem? (i := 1568) (by decide +kernel)⟩
theorem lw_p45 : lw_okq (⟨"MergeBeltsModel", "rankOf", "(I)I"⟩, 28) := ⟨⟨by decide +kernel, by decide +kernel⟩, List.mem_of_getElem? (i := 1368) (by decide +kernel), List.mem_of_getElem? (i := 1571) (by decide +kernel), List.mem_of_getElem? (i := 1572) (by decide +kernel)⟩
theorem lw_p46 : lw_okq (⟨"MergeBeltsModel", "turnSum", "()I"⟩, 28) := ⟨⟨by decide +kernel, by decide +kernel⟩, List.mem_of_getElem? (i := 1368) (by decide +kernel), List.mem_of_getElem? (i := 1575) (by decide +kernel), List.mem_of_getElem? (i := 1576) (by decide +kernel)⟩
theorem lw_p47 : lw_okq (⟨"MergeBeltsModel", "turnTerm", "()I"⟩, 28) := ⟨⟨by decide +kernel, by decide +kernel⟩, List.mem_of_getElem? (i := 1368) (by decide +kernel), List.mem_of_getElem? (i := 1579) (by decide +kernel), List.mem_of_getElem? (i := 1580) (by decide +kernel)⟩
def lw_privs_3 : List (MethodName × Nat) := [(⟨"MergeBeltsModel", "fail", "(I)I"⟩, 28), (⟨"MergeBeltsModel", "isPlace", "(I)Z"⟩, 28), (⟨"MergeBeltsModel", "ridesOf", "(I)I"⟩, 28), (⟨"MergeBeltsModel", "isExit", "(I)Z"⟩, 28), (⟨"MergeBeltsModel", "exitOf", "(II)I"⟩, 28), (⟨"MergeBeltsModel", "jamAt", "(I)I"⟩, 28), (⟨"MergeBeltsModel", "wareOf", "(II)I"⟩, 28), (⟨"MergeBeltsModel", "mayIn", "(I)I"⟩, 28), (⟨"MergeBeltsModel", "isWare", "(I)Z"⟩, 28), (⟨"MergeBeltsModel", "isSide", "(I)Z"⟩, 28), (⟨"MergeBeltsModel", "heldFor", "(I)I"⟩, 28), (⟨"MergeBeltsModel", "lateOf", "(I)I"⟩, 28), (⟨"MergeBeltsModel", "urgentAt", "(I)I"⟩, 28), (⟨"MergeBeltsModel", "rankOf", "(I)I"⟩, 28), (⟨"MergeBeltsModel", "turnSum", "()I"⟩, 28), (⟨"MergeBeltsModel", "turnTerm", "()I"⟩, 28)]
theorem lw_r3 : ∀ q ∈ lw_privs_3, lw_okq q := List.forall_mem_cons.mpr ⟨lw_p32, List.forall_mem_cons.mpr ⟨lw_p33, List.forall_mem_cons.mpr ⟨lw_p34, List.forall_mem_cons.mpr ⟨lw_p35, List.forall_mem_cons.mpr ⟨lw_p36, List.forall_mem_cons.mpr ⟨lw_p37, List.forall_mem_cons.mpr ⟨lw_p38, List.forall_mem_cons.mpr ⟨lw_p39, List.forall_mem_cons.mpr ⟨lw_p40, List.forall_mem_cons.mpr ⟨lw_p41, List.forall_mem_cons.mpr ⟨lw_p42, List.forall_mem_cons.mpr ⟨lw_p43, List.forall_mem_cons.mpr ⟨lw_p44, List.forall_mem_cons.mpr ⟨lw_p45, List.forall_mem_cons.mpr ⟨lw_p46, List.forall_mem_cons.mpr ⟨lw_p47, fun _ h => absurd h List.not_mem_nil⟩⟩⟩⟩⟩⟩⟩⟩⟩⟩⟩⟩⟩⟩⟩⟩
theorem lw_p48 : lw_okq (⟨"MergeBeltsModel", "turnPart", "()I"⟩, 28) := ⟨⟨by decide +kernel, by decide +kernel⟩, List.mem_of_getElem? (i := 1368) (by decide +kernel), List.mem_of_getElem? (i := 1583) (by decide +kernel), List.mem_of_getElem? (i := 1584) (by decide +kernel)⟩
theorem lw_p49 : lw_okq (⟨"MergeBeltsModel", "turnByte", "()I"⟩, 28) := ⟨⟨by decide +kernel, by decide +kernel⟩, List.mem_of_getElem? (i := 1368) (by decide +kernel), List.mem_of_getElem? (i := 1587) (by decide +kernel), List.mem_of_getElem? (i := 1588) (by decide +kernel)⟩
theorem lw_p50 : lw_okq (⟨"MergeBeltsModel", "turnWord", "(II)I"⟩, 28) := ⟨⟨by decide +kernel, by decide +kernel⟩, List.mem_of_getElem? (i := 1368) (by decide +kernel), List.mem_of_getElem? (i := 1598) (by decide +kernel), List.mem_of_getElem? (i := 1599) (by decide +kernel)⟩
theorem lw_p51 : lw_okq (⟨"MergeBeltsModel", "dueIn", "(I)I"⟩, 28) := ⟨⟨by decide +kernel, by decide +kernel⟩, List.mem_of_getElem? (i := 1368) (by decide +kernel), List.mem_of_getElem? (i := 1610) (by decide +kernel), List.mem_of_getElem? (i := 1611) (by decide +kernel)⟩
theorem lw_p52 : lw_okq (⟨"MergeBeltsModel", "comingOf", "(II)I"⟩, 28) := ⟨⟨by decide +kernel, by decide +kernel⟩, List.mem_of_getElem? (i := 1368) (by decide +kernel), List.mem_of_getElem? (i := 1614) (by decide +kernel), List.mem_of_getElem? (i := 1615) (by decide +kernel)⟩
theorem lw_p53 : lw_okq (⟨"MergeBeltsModel", "keep", "()V"⟩, 28) := ⟨⟨by decide +kernel, by decide +kernel⟩, List.mem_of_getElem? (i := 1368) (by decide +kernel), List.mem_of_getElem? (i := 1626) (by decide +kernel), List.mem_of_getElem? (i := 1627) (by decide +kernel)⟩
theorem lw_p54 : lw_okq (⟨"MergeBeltsModel", "runs", "(I)V"⟩, 28) := ⟨⟨by decide +kernel, by decide +kernel⟩, List.mem_of_getElem? (i := 1368) (by decide +kernel), List.mem_of_getElem? (i := 1630) (by decide +kernel), List.mem_of_getElem? (i := 1631) (by decide +kernel)⟩
theorem lw_p55 : lw_okq (⟨"MergeBeltsModel", "tick", "()V"⟩, 28) := ⟨⟨by decide +kernel, by decide +kernel⟩, List.mem_of_getElem? (i := 1368) (by decide +kernel), List.mem_of_getElem? (i := 1634) (by decide +kernel), List.mem_of_getElem? (i := 1635) (by decide +kernel)⟩
theorem lw_p56 : lw_okq (⟨"MergeBeltsModel", "allCome", "()V"⟩, 28) := ⟨⟨by decide +kernel, by decide +kernel⟩, List.mem_of_getElem? (i := 1368) (by decide +kernel), List.mem_of_getElem? (i := 1638) (by decide +kernel), List.mem_of_getElem? (i := 1639) (by decide +kernel)⟩
theorem lw_p57 : lw_okq (⟨"MergeBeltsModel", "comes", "(II)Z"⟩, 28) := ⟨⟨by decide +kernel, by decide +kernel⟩, List.mem_of_getElem? (i := 1368) (by decide +kernel), List.mem_of_getElem? (i := 1642) (by decide +kernel), List.mem_of_getElem? (i := 1643) (by decide +kernel)⟩
theorem lw_p58 : lw_okq (⟨"MergeBeltsModel", "turns", "()V"⟩, 28) := ⟨⟨by decide +kernel, by decide +kernel⟩, List.mem_of_getElem? (i := 1368) (by decide +kernel), List.mem_of_getElem? (i := 1646) (by decide +kernel), List.mem_of_getElem? (i := 1647) (by decide +kernel)⟩
theorem lw_p59 : lw_okq (⟨"MergeBeltsModel", "exitsTake", "()V"⟩, 28) := ⟨⟨by decide +kernel, by decide +kernel⟩, List.mem_of_getElem? (i := 1368) (by decide +kernel), List.mem_of_getElem? (i := 1650) (by decide +kernel), List.mem_of_getElem? (i := 1651) (by decide +kernel)⟩
theorem lw_p60 : lw_okq (⟨"MergeBeltsModel", "logs", "(II)V"⟩, 28) := ⟨⟨by decide +kernel, by decide +kernel⟩, List.mem_of_getElem? (i := 1368) (by decide +kernel), List.mem_of_getElem? (i := 1654) (by decide +kernel), List.mem_of_getElem? (i := 1655) (by decide +kernel)⟩
theorem lw_p61 : lw_okq (⟨"MergeBeltsModel", "clear", "(I)V"⟩, 28) := ⟨⟨by decide +kernel, by decide +kernel⟩, List.mem_of_getElem? (i := 1368) (by decide +kernel), List.mem_of_getElem? (i := 1658) (by decide +kernel), List.mem_of_getElem? (i := 1659) (by decide +kernel)⟩
theorem lw_p62 : lw_okq (⟨"MergeBeltsModel", "sidesGive", "()V"⟩, 28) := ⟨⟨by decide +kernel, by decide +kernel⟩, List.mem_of_getElem? (i := 1368) (by decide +kernel), List.mem_of_getElem? (i := 1662) (by decide +kernel), List.mem_of_getElem? (i := 1663) (by decide +kernel)⟩
theorem lw_p63 : lw_okq (⟨"MergeBeltsModel", "isFree", "(I)Z"⟩, 28) := ⟨⟨by decide +kernel, by decide +kernel⟩, List.mem_of_getElem? (i := 1368) (by decide +kernel), List.mem_of_getElem? (i := 1666) (by decide +kernel), List.mem_of_getElem? (i := 1667) (by decide +kernel)⟩
def lw_privs_4 : List (MethodName × Nat) := [(⟨"MergeBeltsModel", "turnPart", "()I"⟩, 28), (⟨"MergeBeltsModel", "turnByte", "()I"⟩, 28), (⟨"MergeBeltsModel", "turnWord", "(II)I"⟩, 28), (⟨"MergeBeltsModel", "dueIn", "(I)I"⟩, 28), (⟨"MergeBeltsModel", "comingOf", "(II)I"⟩, 28), (⟨"MergeBeltsModel", "keep", "()V"⟩, 28), (⟨"MergeBeltsModel", "runs", "(I)V"⟩, 28), (⟨"MergeBeltsModel", "tick", "()V"⟩, 28), (⟨"MergeBeltsModel", "allCome", "()V"⟩, 28), (⟨"MergeBeltsModel", "comes", "(II)Z"⟩, 28), (⟨"MergeBeltsModel", "turns", "()V"⟩, 28), (⟨"MergeBeltsModel", "exitsTake", "()V"⟩, 28), (⟨"MergeBeltsModel", "logs", "(II)V"⟩, 28), (⟨"MergeBeltsModel", "clear", "(I)V"⟩, 28), (⟨"MergeBeltsModel", "sidesGive", "()V"⟩, 28), (⟨"MergeBeltsModel", "isFree", "(I)Z"⟩, 28)]
theorem lw_r4 : ∀ q ∈ lw_privs_4, lw_okq q := List.forall_mem_cons.mpr ⟨lw_p48, List.forall_mem_cons.mpr ⟨lw_p49, List.forall_mem_cons.mpr ⟨lw_p50, List.forall_mem_cons.mpr ⟨lw_p51, List.forall_mem_cons.mpr ⟨lw_p52, List.forall_mem_cons.mpr ⟨lw_p53, List.forall_mem_cons.mpr ⟨lw_p54, List.forall_mem_cons.mpr ⟨lw_p55, List.forall_mem_cons.mpr ⟨lw_p56, List.forall_mem_cons.mpr ⟨lw_p57, List.forall_mem_cons.mpr ⟨lw_p58, List.forall_mem_cons.mpr ⟨lw_p59, List.forall_mem_cons.mpr ⟨lw_p60, List.forall_mem_cons.mpr ⟨lw_p61, List.forall_mem_cons.mpr ⟨lw_p62, List.forall_mem_cons.mpr ⟨lw_p63, fun _ h => absurd h List.not_mem_nil⟩⟩⟩⟩⟩⟩⟩⟩⟩⟩⟩⟩⟩⟩⟩⟩
theorem lw_p64 : lw_okq (⟨"MergeBeltsModel", "goes", "(II)V"⟩, 28) := ⟨⟨by decide +kernel, by decide +kernel⟩, List.mem_of_getElem? (i := 1368) (by decide +kernel), List.mem_of_getElem? (i := 1670) (by decide +kernel), List.mem_of_getElem? (i := 1671) (by decide +kernel)⟩
theorem lw_p65 : lw_okq (⟨"MergeBeltsModel", "reserves", "()V"⟩, 28) := ⟨⟨by decide +kernel, by decide +kernel⟩, List.mem_of_getElem? (i := 1368) (by decide +kernel), List.mem_of_getElem? (i := 1674) (by decide +kernel), List.mem_of_getElem? (i := 1675) (by decide +kernel)⟩
theorem lw_p66 : lw_okq (⟨"MergeBeltsModel", "isAsking", "(I)Z"⟩, 28) := ⟨⟨by decide +kernel, by decide +kernel⟩, List.mem_of_getElem? (i := 1368) (by decide +kernel), List.mem_of_getElem? (i := 1678) (by decide +kernel), List.mem_of_getElem? (i := 1679) (by decide +kernel)⟩
theorem lw_p67 : lw_okq (⟨"MergeBeltsModel", "nearest", "(I)I"⟩, 28) := ⟨⟨by decide +kernel, by decide +kernel⟩, List.mem_of_getElem? (i := 1368) (by decide +kernel), List.mem_of_getElem? (i := 1682) (by decide +kernel), List.mem_of_getElem? (i := 1683) (by decide +kernel)⟩
theorem lw_p68 : lw_okq (⟨"MergeBeltsModel", "gives", "(II)V"⟩, 28) := ⟨⟨by decide +kernel, by decide +kernel⟩, List.mem_of_getElem? (i := 1368) (by decide +kernel), List.mem_of_getElem? (i := 1686) (by decide +kernel), List.mem_of_getElem? (i := 1687) (by decide +kernel)⟩
theorem lw_p69 : lw_okq (⟨"MergeBeltsModel", "longestJam", "()I"⟩, 28) := ⟨⟨by decide +kernel, by decide +kernel⟩, List.mem_of_getElem? (i := 1368) (by decide +kernel), List.mem_of_getElem? (i := 1721) (by decide +kernel), List.mem_of_getElem? (i := 1722) (by decide +kernel)⟩
theorem lw_p70 : lw_okq (⟨"MergeBeltsModel", "layAgain", "()V"⟩, 28) := ⟨⟨by decide +kernel, by decide +kernel⟩, List.mem_of_getElem? (i := 1368) (by decide +kernel), List.mem_of_getElem? (i := 1729) (by decide +kernel), List.mem_of_getElem? (i := 1730) (by decide +kernel)⟩
theorem lw_p71 : lw_okq (⟨"MergeBeltsModel", "asksLate", "()Z"⟩, 28) := ⟨⟨by decide +kernel, by decide +kernel⟩, List.mem_of_getElem? (i := 1368) (by decide +kernel), List.mem_of_getElem? (i := 1733) (by decide +kernel), List.mem_of_getElem? (i := 1734) (by decide +kernel)⟩
theorem lw_p72 : lw_okq (⟨"MergeBeltsModel", "writesMoment", "(IZ)V"⟩, 28) := ⟨⟨by decide +kernel, by decide +kernel⟩, List.mem_of_getElem? (i := 1368) (by decide +kernel), List.mem_of_getElem? (i := 1737) (by decide +kernel), List.mem_of_getElem? (i := 1738) (by decide +kernel)⟩
theorem lw_p73 : lw_okq (⟨"MergeBeltsModel", "writes", "(I)V"⟩, 28) := ⟨⟨by decide +kernel, by decide +kernel⟩, List.mem_of_getElem? (i := 1368) (by decide +kernel), List.mem_of_getElem? (i := 1741) (by decide +kernel), List.mem_of_getElem? (i := 1742) (by decide +kernel)⟩
theorem lw_p74 : lw_okq (⟨"MergeBeltsModel", "areAlike", "(II)Z"⟩, 28) := ⟨⟨by decide +kernel, by decide +kernel⟩, List.mem_of_getElem? (i := 1368) (by decide +kernel), List.mem_of_getElem? (i := 1745) (by decide +kernel), List.mem_of_getElem? (i := 1746) (by decide +kernel)⟩
theorem lw_p75 : lw_okq (⟨"MergeBeltsModel", "rated", "(II)I"⟩, 28) := ⟨⟨by decide +kernel, by decide +kernel⟩, List.mem_of_getElem? (i := 1368) (by decide +kernel), List.mem_of_getElem? (i := 1753) (by decide +kernel), List.mem_of_getElem? (i := 1754) (by decide +kernel)⟩
theorem lw_p76 : lw_okq (⟨"MergeBeltsModel", "loadOf", "(I)J"⟩, 28) := ⟨⟨by decide +kernel, by decide +kernel⟩, List.mem_of_getElem? (i := 1368) (by decide +kernel), List.mem_of_getElem? (i := 1761) (by decide +kernel), List.mem_of_getElem? (i := 1762) (by decide +kernel)⟩
theorem lw_p77 : lw_okq (⟨"MergeBeltsModel", "isOnWay", "(II)Z"⟩, 28) := ⟨⟨by decide +kernel, by decide +kernel⟩, List.mem_of_getElem? (i := 1368) (by decide +kernel), List.mem_of_getElem? (i := 1765) (by decide +kernel), List.mem_of_getElem? (i := 1766) (by decide +kernel)⟩
theorem lw_p78 : lw_okq (⟨"MergeBeltsModel", "inTrial", "(IIIII)I"⟩, 28) := ⟨⟨by decide +kernel, by decide +kernel⟩, List.mem_of_getElem? (i := 1368) (by decide +kernel), List.mem_of_getElem? (i := 1781) (by decide +kernel), List.mem_of_getElem? (i := 1782) (by decide +kernel)⟩
theorem lw_p79 : lw_okq (⟨"MergeBeltsModel", "takenOfOthers", "(IIZ)I"⟩, 28) := ⟨⟨by decide +kernel, by decide +kernel⟩, List.mem_of_getElem? (i := 1368) (by decide +kernel), List.mem_of_getElem? (i := 1793) (by decide +kernel), List.mem_of_getElem? (i := 1794) (by decide +kernel)⟩
def lw_privs_5 : List (MethodName × Nat) := [(⟨"MergeBeltsModel", "goes", "(II)V"⟩, 28), (⟨"MergeBeltsModel", "reserves", "()V"⟩, 28), (⟨"MergeBeltsModel", "isAsking", "(I)Z"⟩, 28), (⟨"MergeBeltsModel", "nearest", "(I)I"⟩, 28), (⟨"MergeBeltsModel", "gives", "(II)V"⟩, 28), (⟨"MergeBeltsModel", "longestJam", "()I"⟩, 28), (⟨"MergeBeltsModel", "layAgain", "()V"⟩, 28), (⟨"MergeBeltsModel", "asksLate", "()Z"⟩, 28), (⟨"MergeBeltsModel", "writesMoment", "(IZ)V"⟩, 28), (⟨"MergeBeltsModel", "writes", "(I)V"⟩, 28), (⟨"MergeBeltsModel", "areAlike", "(II)Z"⟩, 28), (⟨"MergeBeltsModel", "rated", "(II)I"⟩, 28), (⟨"MergeBeltsModel", "loadOf", "(I)J"⟩, 28), (⟨"MergeBeltsModel", "isOnWay", "(II)Z"⟩, 28), (⟨"MergeBeltsModel", "inTrial", "(IIIII)I"⟩, 28), (⟨"MergeBeltsModel", "takenOfOthers", "(IIZ)I"⟩, 28)]
theorem lw_r5 : ∀ q ∈ lw_privs_5, lw_okq q := List.forall_mem_cons.mpr ⟨lw_p64, List.forall_mem_cons.mpr ⟨lw_p65, List.forall_mem_cons.mpr ⟨lw_p66, List.forall_mem_cons.mpr ⟨lw_p67, List.forall_mem_cons.mpr ⟨lw_p68, List.forall_mem_cons.mpr ⟨lw_p69, List.forall_mem_cons.mpr ⟨lw_p70, List.forall_mem_cons.mpr ⟨lw_p71, List.forall_mem_cons.mpr ⟨lw_p72, List.forall_mem_cons.mpr ⟨lw_p73, List.forall_mem_cons.mpr ⟨lw_p74, List.forall_mem_cons.mpr ⟨lw_p75, List.forall_mem_cons.mpr ⟨lw_p76, List.forall_mem_cons.mpr ⟨lw_p77, List.forall_mem_cons.mpr ⟨lw_p78, List.forall_mem_cons.mpr ⟨lw_p79, fun _ h => absurd h List.not_mem_nil⟩⟩⟩⟩⟩⟩⟩⟩⟩⟩⟩⟩⟩⟩⟩⟩
theorem lw_p80 : lw_okq (⟨"MergeBeltsModel", "opens", "(I)V"⟩, 28) := ⟨⟨by decide +kernel, by decide +kernel⟩, List.mem_of_getElem? (i := 1368) (by decide +kernel), List.mem_of_getElem? (i := 1809) (by decide +kernel), List.mem_of_getElem? (i := 1810) (by decide +kernel)⟩
theorem lw_p81 : lw_okq (⟨"MergeBeltsModel", "next", "()V"⟩, 28) := ⟨⟨by decide +kernel, by decide +kernel⟩, List.mem_of_getElem? (i := 1368) (by decide +kernel), List.mem_of_getElem? (i := 1813) (by decide +kernel), List.mem_of_getElem? (i := 1814) (by decide +kernel)⟩
theorem lw_p82 : lw_okq (⟨"MergeBeltsModel", "byteAt", "(I)I"⟩, 28) := ⟨⟨by decide +kernel, by decide +kernel⟩, List.mem_of_getElem? (i := 1368) (by decide +kernel), List.mem_of_getElem? (i := 1817) (by decide +kernel), List.mem_of_getElem? (i := 1818) (by decide +kernel)⟩
theorem lw_p83 : lw_okq (⟨"MergeBeltsModel", "isWord", "(Ljava/lang/String;)Z"⟩, 28) := ⟨⟨by decide +kernel, by decide +kernel⟩, List.mem_of_getElem? (i := 1368) (by decide +kernel), List.mem_of_getElem? (i := 1822) (by decide +kernel), List.mem_of_getElem? (i := 1823) (by decide +kernel)⟩
theorem lw_p84 : lw_okq (⟨"MergeBeltsModel", "wrong", "(I)V"⟩, 28) := ⟨⟨by decide +kernel, by decide +kernel⟩, List.mem_of_getElem? (i := 1368) (by decide +kernel), List.mem_of_getElem? (i := 1828) (by decide +kernel), List.mem_of_getElem? (i := 1829) (by decide +kernel)⟩
theorem lw_p85 : lw_okq (⟨"MergeBeltsModel", "pass", "()V"⟩, 28) := ⟨⟨by decide +kernel, by decide +kernel⟩, List.mem_of_getElem? (i := 1368) (by decide +kernel), List.mem_of_getElem? (i := 1832) (by decide +kernel), List.mem_of_getElem? (i := 1833) (by decide +kernel)⟩
theorem lw_p86 : lw_okq (⟨"MergeBeltsModel", "number", "(II)I"⟩, 28) := ⟨⟨by decide +kernel, by decide +kernel⟩, List.mem_of_getElem? (i := 1368) (by decide +kernel), List.mem_of_getElem? (i := 1836) (by decide +kernel), List.mem_of_getElem? (i := 1837) (by decide +kernel)⟩
theorem lw_p87 : lw_okq (⟨"MergeBeltsModel", "numberHere", "(II)I"⟩, 28) := ⟨⟨by decide +kernel, by decide +kernel⟩, List.mem_of_getElem? (i := 1368) (by decide +kernel), List.mem_of_getElem? (i := 1840) (by decide +kernel), List.mem_of_getElem? (i := 1841) (by decide +kernel)⟩
theorem lw_p88 : lw_okq (⟨"MergeBeltsModel", "must", "(I)V"⟩, 28) := ⟨⟨by decide +kernel, by decide +kernel⟩, List.mem_of_getElem? (i := 1368) (by decide +kernel), List.mem_of_getElem? (i := 1845) (by decide +kernel), List.mem_of_getElem? (i := 1846) (by decide +kernel)⟩
theorem lw_p89 : lw_okq (⟨"MergeBeltsModel", "isSign", "(I)Z"⟩, 28) := ⟨⟨by decide +kernel, by decide +kernel⟩, List.mem_of_getElem? (i := 1368) (by decide +kernel), List.mem_of_getElem? (i := 1849) (by decide +kernel), List.mem_of_getElem? (i := 1850) (by decide +kernel)⟩
theorem lw_p90 : lw_okq (⟨"MergeBeltsModel", "readLine", "()V"⟩, 28) := ⟨⟨by decide +kernel, by decide +kernel⟩, List.mem_of_getElem? (i := 1368) (by decide +kernel), List.mem_of_getElem? (i := 1853) (by decide +kernel), List.mem_of_getElem? (i := 1854) (by decide +kernel)⟩
theorem lw_p91 : lw_okq (⟨"MergeBeltsModel", "readExit", "()V"⟩, 28) := ⟨⟨by decide +kernel, by decide +kernel⟩, List.mem_of_getElem? (i := 1368) (by decide +kernel), List.mem_of_getElem? (i := 1858) (by decide +kernel), List.mem_of_getElem? (i := 1859) (by decide +kernel)⟩
theorem lw_p92 : lw_okq (⟨"MergeBeltsModel", "ownPlace", "(III)I"⟩, 28) := ⟨⟨by decide +kernel, by decide +kernel⟩, List.mem_of_getElem? (i := 1368) (by decide +kernel), List.mem_of_getElem? (i := 1862) (by decide +kernel), List.mem_of_getElem? (i := 1863) (by decide +kernel)⟩
theorem lw_p93 : lw_okq (⟨"MergeBeltsModel", "readWare", "()V"⟩, 28) := ⟨⟨by decide +kernel, by decide +kernel⟩, List.mem_of_getElem? (i := 1368) (by decide +kernel), List.mem_of_getElem? (i := 1867) (by decide +kernel), List.mem_of_getElem? (i := 1868) (by decide +kernel)⟩
theorem lw_p94 : lw_okq (⟨"MergeBeltsModel", "readSide", "()V"⟩, 28) := ⟨⟨by decide +kernel, by decide +kernel⟩, List.mem_of_getElem? (i := 1368) (by decide +kernel), List.mem_of_getElem? (i := 1873) (by decide +kernel), List.mem_of_getElem? (i := 1874) (by decide +kernel)⟩
theorem lw_p95 : lw_okq (⟨"MergeBeltsModel", "readComing", "()V"⟩, 28) := ⟨⟨by decide +kernel, by decide +kernel⟩, List.mem_of_getElem? (i := 1368) (by decide +kernel), List.mem_of_getElem? (i := 1878) (by decide +kernel), List.mem_of_getElem? (i := 1879) (by decide +kernel)⟩
def lw_privs_6 : List (MethodName × Nat) := [(⟨"MergeBeltsModel", "opens", "(I)V"⟩, 28), (⟨"MergeBeltsModel", "next", "()V"⟩, 28), (⟨"MergeBeltsModel", "byteAt", "(I)I"⟩, 28), (⟨"MergeBeltsModel", "isWord", "(Ljava/lang/String;)Z"⟩, 28), (⟨"MergeBeltsModel", "wrong", "(I)V"⟩, 28), (⟨"MergeBeltsModel", "pass", "()V"⟩, 28), (⟨"MergeBeltsModel", "number", "(II)I"⟩, 28), (⟨"MergeBeltsModel", "numberHere", "(II)I"⟩, 28), (⟨"MergeBeltsModel", "must", "(I)V"⟩, 28), (⟨"MergeBeltsModel", "isSign", "(I)Z"⟩, 28), (⟨"MergeBeltsModel", "readLine", "()V"⟩, 28), (⟨"MergeBeltsModel", "readExit", "()V"⟩, 28), (⟨"MergeBeltsModel", "ownPlace", "(III)I"⟩, 28), (⟨"MergeBeltsModel", "readWare", "()V"⟩, 28), (⟨"MergeBeltsModel", "readSide", "()V"⟩, 28), (⟨"MergeBeltsModel", "readComing", "()V"⟩, 28)]
theorem lw_r6 : ∀ q ∈ lw_privs_6, lw_okq q := List.forall_mem_cons.mpr ⟨lw_p80, List.forall_mem_cons.mpr ⟨lw_p81, List.forall_mem_cons.mpr ⟨lw_p82, List.forall_mem_cons.mpr ⟨lw_p83, List.forall_mem_cons.mpr ⟨lw_p84, List.forall_mem_cons.mpr ⟨lw_p85, List.forall_mem_cons.mpr ⟨lw_p86, List.forall_mem_cons.mpr ⟨lw_p87, List.forall_mem_cons.mpr ⟨lw_p88, List.forall_mem_cons.mpr ⟨lw_p89, List.forall_mem_cons.mpr ⟨lw_p90, List.forall_mem_cons.mpr ⟨lw_p91, List.forall_mem_cons.mpr ⟨lw_p92, List.forall_mem_cons.mpr ⟨lw_p93, List.forall_mem_cons.mpr ⟨lw_p94, List.forall_mem_cons.mpr ⟨lw_p95, fun _ h => absurd h List.not_mem_nil⟩⟩⟩⟩⟩⟩⟩⟩⟩⟩⟩⟩⟩⟩⟩⟩
theorem lw_p96 : lw_okq (⟨"MergeBeltsModel", "readTurns", "()V"⟩, 28) := ⟨⟨by decide +kernel, by decide +kernel⟩, List.mem_of_getElem? (i := 1368) (by decide +kernel), List.mem_of_getElem? (i := 1883) (by decide +kernel), List.mem_of_getElem? (i := 1884) (by decide +kernel)⟩
theorem lw_p97 : lw_okq (⟨"MergeBeltsModel", "readSum", "()V"⟩, 28) := ⟨⟨by decide +kernel, by decide +kernel⟩, List.mem_of_getElem? (i := 1368) (by decide +kernel), List.mem_of_getElem? (i := 1887) (by decide +kernel), List.mem_of_getElem? (i := 1888) (by decide +kernel)⟩
theorem lw_p98 : lw_okq (⟨"MergeBeltsModel", "readTerm", "()V"⟩, 28) := ⟨⟨by decide +kernel, by decide +kernel⟩, List.mem_of_getElem? (i := 1368) (by decide +kernel), List.mem_of_getElem? (i := 1891) (by decide +kernel), List.mem_of_getElem? (i := 1892) (by decide +kernel)⟩
theorem lw_p99 : lw_okq (⟨"MergeBeltsModel", "readPart", "()V"⟩, 28) := ⟨⟨by decide +kernel, by decide +kernel⟩, List.mem_of_getElem? (i := 1368) (by decide +kernel), List.mem_of_getElem? (i := 1895) (by decide +kernel), List.mem_of_getElem? (i := 1896) (by decide +kernel)⟩
theorem lw_p100 : lw_okq (⟨"MergeBeltsModel", "ends", "()I"⟩, 28) := ⟨⟨by decide +kernel, by decide +kernel⟩, List.mem_of_getElem? (i := 1368) (by decide +kernel), List.mem_of_getElem? (i := 1905) (by decide +kernel), List.mem_of_getElem? (i := 1906) (by decide +kernel)⟩
theorem lw_p101 : lw_okq (⟨"MergeBeltsModel", "readQuestion", "(II)Z"⟩, 28) := ⟨⟨by decide +kernel, by decide +kernel⟩, List.mem_of_getElem? (i := 1368) (by decide +kernel), List.mem_of_getElem? (i := 1914) (by decide +kernel), List.mem_of_getElem? (i := 1915) (by decide +kernel)⟩
theorem lw_p102 : lw_okq (⟨"MergeBeltsModel", "readTest", "()Z"⟩, 28) := ⟨⟨by decide +kernel, by decide +kernel⟩, List.mem_of_getElem? (i := 1368) (by decide +kernel), List.mem_of_getElem? (i := 1919) (by decide +kernel), List.mem_of_getElem? (i := 1920) (by decide +kernel)⟩
theorem lw_p103 : lw_okq (⟨"MergeBeltsModel", "readBoth", "()Z"⟩, 28) := ⟨⟨by decide +kernel, by decide +kernel⟩, List.mem_of_getElem? (i := 1368) (by decide +kernel), List.mem_of_getElem? (i := 1923) (by decide +kernel), List.mem_of_getElem? (i := 1924) (by decide +kernel)⟩
theorem lw_p104 : lw_okq (⟨"MergeBeltsModel", "readFact", "()Z"⟩, 28) := ⟨⟨by decide +kernel, by decide +kernel⟩, List.mem_of_getElem? (i := 1368) (by decide +kernel), List.mem_of_getElem? (i := 1927) (by decide +kernel), List.mem_of_getElem? (i := 1928) (by decide +kernel)⟩
theorem lw_p105 : lw_okq (⟨"MergeBeltsModel", "goesIn", "()V"⟩, 28) := ⟨⟨by decide +kernel, by decide +kernel⟩, List.mem_of_getElem? (i := 1368) (by decide +kernel), List.mem_of_getElem? (i := 1932) (by decide +kernel), List.mem_of_getElem? (i := 1933) (by decide +kernel)⟩
theorem lw_p106 : lw_okq (⟨"MergeBeltsModel", "readValue", "()I"⟩, 28) := ⟨⟨by decide +kernel, by decide +kernel⟩, List.mem_of_getElem? (i := 1368) (by decide +kernel), List.mem_of_getElem? (i := 1936) (by decide +kernel), List.mem_of_getElem? (i := 1937) (by decide +kernel)⟩
theorem lw_p107 : lw_okq (⟨"MergeBeltsModel", "atOf", "(III)I"⟩, 28) := ⟨⟨by decide +kernel, by decide +kernel⟩, List.mem_of_getElem? (i := 1368) (by decide +kernel), List.mem_of_getElem? (i := 1944) (by decide +kernel), List.mem_of_getElem? (i := 1945) (by decide +kernel)⟩
def lw_privs_7 : List (MethodName × Nat) := [(⟨"MergeBeltsModel", "readTurns", "()V"⟩, 28), (⟨"MergeBeltsModel", "readSum", "()V"⟩, 28), (⟨"MergeBeltsModel", "readTerm", "()V"⟩, 28), (⟨"MergeBeltsModel", "readPart", "()V"⟩, 28), (⟨"MergeBeltsModel", "ends", "()I"⟩, 28), (⟨"MergeBeltsModel", "readQuestion", "(II)Z"⟩, 28), (⟨"MergeBeltsModel", "readTest", "()Z"⟩, 28), (⟨"MergeBeltsModel", "readBoth", "()Z"⟩, 28), (⟨"MergeBeltsModel", "readFact", "()Z"⟩, 28), (⟨"MergeBeltsModel", "goesIn", "()V"⟩, 28), (⟨"MergeBeltsModel", "readValue", "()I"⟩, 28), (⟨"MergeBeltsModel", "atOf", "(III)I"⟩, 28)]
theorem lw_r7 : ∀ q ∈ lw_privs_7, lw_okq q := List.forall_mem_cons.mpr ⟨lw_p96, List.forall_mem_cons.mpr ⟨lw_p97, List.forall_mem_cons.mpr ⟨lw_p98, List.forall_mem_cons.mpr ⟨lw_p99, List.forall_mem_cons.mpr ⟨lw_p100, List.forall_mem_cons.mpr ⟨lw_p101, List.forall_mem_cons.mpr ⟨lw_p102, List.forall_mem_cons.mpr ⟨lw_p103, List.forall_mem_cons.mpr ⟨lw_p104, List.forall_mem_cons.mpr ⟨lw_p105, List.forall_mem_cons.mpr ⟨lw_p106, List.forall_mem_cons.mpr ⟨lw_p107, fun _ h => absurd h List.not_mem_nil⟩⟩⟩⟩⟩⟩⟩⟩⟩⟩⟩⟩
def lw_privs : List (MethodName × Nat) := lw_privs_1 ++ (lw_privs_2 ++ (lw_privs_3 ++ (lw_privs_4 ++ (lw_privs_5 ++ (lw_privs_6 ++ (lw_privs_7))))))
def lw_tbl : List Cond := k2_sels lw_privs ++ tables_1
theorem lw_privs_ok : ∀ q ∈ lw_privs, lw_okq q := by
  show ∀ q ∈ lw_privs_1 ++ (lw_privs_2 ++ (lw_privs_3 ++ (lw_privs_4 ++ (lw_privs_5 ++ (lw_privs_6 ++ (lw_privs_7)))))), lw_okq q
  exact List.forall_mem_append.mpr ⟨lw_r1, List.forall_mem_append.mpr ⟨lw_r2, List.forall_mem_append.mpr ⟨lw_r3, List.forall_mem_append.mpr ⟨lw_r4, List.forall_mem_append.mpr ⟨lw_r5, List.forall_mem_append.mpr ⟨lw_r6, lw_r7⟩⟩⟩⟩⟩⟩
end
section
def RX0 : String := "MergeBelts$Acts"
def TX0 : u_T := fun k => match k with
  | 0 => ("MergeBelts$Acts", "before", "[LMergeBelts$State;", true)
  | 1 => ("MergeBelts$Acts", "next", "I", false)
  | _ => ("MergeBelts$Acts", "size", "I", false)
def tyX0 : Nat → FieldType := fun k => match k with
  | 0 => .array (.object "MergeBelts$State")
  | 1 => .int
  | _ => .int
theorem nmX0 : ∀ a, a < 3 → ∀ b, b < 3 → a ≠ b → (TX0 a).2.1 ≠ (TX0 b).2.1 := by decide +kernel
theorem tyX0_ok : ∀ k, k < 3 → parseFieldDescriptor (TX0 k).2.2.1 = some (tyX0 k) := by decide +kernel
def RX1 : String := "MergeBelts$BeltText"
def TX1 : u_T := fun k => match k with
  | _ => ("MergeBelts$BeltText", "plan", "LMergeBelts$Plan;", true)
def tyX1 : Nat → FieldType := fun k => match k with
  | _ => .object "MergeBelts$Plan"
theorem nmX1 : ∀ a, a < 1 → ∀ b, b < 1 → a ≠ b → (TX1 a).2.1 ≠ (TX1 b).2.1 := by decide +kernel
theorem tyX1_ok : ∀ k, k < 1 → parseFieldDescriptor (TX1 k).2.2.1 = some (tyX1 k) := by decide +kernel
def RX2 : String := "MergeBelts$Formula"
def TX2 : u_T := fun k => match k with
  | 0 => ("MergeBelts$Formula", "parts", "LMergeBelts$Row;", true)
  | 1 => ("MergeBelts$Formula", "code", "LMergeBelts$Row;", true)
  | 2 => ("MergeBelts$Formula", "size", "I", false)
  | 3 => ("MergeBelts$Formula", "waitingOperators", "LMergeBelts$Row;", true)
  | 4 => ("MergeBelts$Formula", "waitingSize", "I", false)
  | _ => ("MergeBelts$Formula", "stack", "LMergeBelts$Row;", true)
def tyX2 : Nat → FieldType := fun k => match k with
  | 0 => .object "MergeBelts$Row"
  | 1 => .object "MergeBelts$Row"
  | 2 => .int
  | 3 => .object "MergeBelts$Row"
  | 4 => .int
  | _ => .object "MergeBelts$Row"
theorem nmX2 : ∀ a, a < 6 → ∀ b, b < 6 → a ≠ b → (TX2 a).2.1 ≠ (TX2 b).2.1 := by decide +kernel
theorem tyX2_ok : ∀ k, k < 6 → parseFieldDescriptor (TX2 k).2.2.1 = some (tyX2 k) := by decide +kernel
def RX3 : String := "MergeBelts$Log"
def TX3 : u_T := fun k => match k with
  | 0 => ("MergeBelts$Log", "cells", "LMergeBelts$Row;", true)
  | 1 => ("MergeBelts$Log", "next", "I", false)
  | _ => ("MergeBelts$Log", "size", "I", false)
def tyX3 : Nat → FieldType := fun k => match k with
  | 0 => .object "MergeBelts$Row"
  | 1 => .int
  | _ => .int
theorem nmX3 : ∀ a, a < 3 → ∀ b, b < 3 → a ≠ b → (TX3 a).2.1 ≠ (TX3 b).2.1 := by decide +kernel
theorem tyX3_ok : ∀ k, k < 3 → parseFieldDescriptor (TX3 k).2.2.1 = some (tyX3 k) := by decide +kernel
def RX4 : String := "MergeBelts$Plan"
def TX4 : u_T := fun k => match k with
  | 0 => ("MergeBelts$Plan", "places", "I", false)
  | 1 => ("MergeBelts$Plan", "exits", "I", false)
  | 2 => ("MergeBelts$Plan", "exitPlace", "LMergeBelts$Row;", true)
  | 3 => ("MergeBelts$Plan", "exitPace", "LMergeBelts$Row;", true)
  | 4 => ("MergeBelts$Plan", "wares", "I", false)
  | 5 => ("MergeBelts$Plan", "wareExit", "LMergeBelts$Row;", true)
  | 6 => ("MergeBelts$Plan", "wareUrgent", "LMergeBelts$Row;", true)
  | 7 => ("MergeBelts$Plan", "sides", "I", false)
  | 8 => ("MergeBelts$Plan", "sidePlace", "LMergeBelts$Row;", true)
  | 9 => ("MergeBelts$Plan", "sideRoom", "LMergeBelts$Row;", true)
  | 10 => ("MergeBelts$Plan", "sideReach", "LMergeBelts$Row;", true)
  | 11 => ("MergeBelts$Plan", "sideShare", "LMergeBelts$Row;", true)
  | 12 => ("MergeBelts$Plan", "comings", "I", false)
  | 13 => ("MergeBelts$Plan", "comingSide", "LMergeBelts$Row;", true)
  | 14 => ("MergeBelts$Plan", "comingWare", "LMergeBelts$Row;", true)
  | 15 => ("MergeBelts$Plan", "comingEvery", "LMergeBelts$Row;", true)
  | 16 => ("MergeBelts$Plan", "comingFrom", "LMergeBelts$Row;", true)
  | 17 => ("MergeBelts$Plan", "hasTurns", "Z", false)
  | _ => ("MergeBelts$Plan", "law", "LMergeBelts$Formula;", true)
def tyX4 : Nat → FieldType := fun k => match k with
  | 0 => .int
  | 1 => .int
  | 2 => .object "MergeBelts$Row"
  | 3 => .object "MergeBelts$Row"
  | 4 => .int
  | 5 => .object "MergeBelts$Row"
  | 6 => .object "MergeBelts$Row"
  | 7 => .int
  | 8 => .object "MergeBelts$Row"
  | 9 => .object "MergeBelts$Row"
  | 10 => .object "MergeBelts$Row"
  | 11 => .object "MergeBelts$Row"
  | 12 => .int
  | 13 => .object "MergeBelts$Row"
  | 14 => .object "MergeBelts$Row"
  | 15 => .object "MergeBelts$Row"
  | 16 => .object "MergeBelts$Row"
  | 17 => .boolean
  | _ => .object "MergeBelts$Formula"
theorem nmX4 : ∀ a, a < 19 → ∀ b, b < 19 → a ≠ b → (TX4 a).2.1 ≠ (TX4 b).2.1 := by decide +kernel
theorem tyX4_ok : ∀ k, k < 19 → parseFieldDescriptor (TX4 k).2.2.1 = some (tyX4 k) := by decide +kernel
def RX5 : String := "MergeBelts$Question"
def TX5 : u_T := fun k => match k with
  | 0 => ("MergeBelts$Question", "test", "LMergeBelts$Formula;", true)
  | 1 => ("MergeBelts$Question", "many", "Z", false)
  | 2 => ("MergeBelts$Question", "braces", "I", false)
  | _ => ("MergeBelts$Question", "nots", "I", false)
def tyX5 : Nat → FieldType := fun k => match k with
  | 0 => .object "MergeBelts$Formula"
  | 1 => .boolean
  | 2 => .int
  | _ => .int
theorem nmX5 : ∀ a, a < 4 → ∀ b, b < 4 → a ≠ b → (TX5 a).2.1 ≠ (TX5 b).2.1 := by decide +kernel
theorem tyX5_ok : ∀ k, k < 4 → parseFieldDescriptor (TX5 k).2.2.1 = some (tyX5 k) := by decide +kernel
def RX6 : String := "MergeBelts$Queues"
def TX6 : u_T := fun k => match k with
  | 0 => ("MergeBelts$Queues", "ware", "LMergeBelts$Row;", true)
  | 1 => ("MergeBelts$Queues", "came", "LMergeBelts$Row;", true)
  | _ => ("MergeBelts$Queues", "size", "LMergeBelts$Row;", true)
def tyX6 : Nat → FieldType := fun k => match k with
  | 0 => .object "MergeBelts$Row"
  | 1 => .object "MergeBelts$Row"
  | _ => .object "MergeBelts$Row"
theorem nmX6 : ∀ a, a < 3 → ∀ b, b < 3 → a ≠ b → (TX6 a).2.1 ≠ (TX6 b).2.1 := by decide +kernel
theorem tyX6_ok : ∀ k, k < 3 → parseFieldDescriptor (TX6 k).2.2.1 = some (tyX6 k) := by decide +kernel
def RX7 : String := "MergeBelts$Ring"
def TX7 : u_T := fun k => match k with
  | 0 => ("MergeBelts$Ring", "ware", "LMergeBelts$Row;", true)
  | 1 => ("MergeBelts$Ring", "from", "LMergeBelts$Row;", true)
  | 2 => ("MergeBelts$Ring", "rounds", "LMergeBelts$Row;", true)
  | 3 => ("MergeBelts$Ring", "went", "LMergeBelts$Row;", true)
  | 4 => ("MergeBelts$Ring", "waited", "LMergeBelts$Row;", true)
  | 5 => ("MergeBelts$Ring", "heldFor", "LMergeBelts$Row;", true)
  | 6 => ("MergeBelts$Ring", "size", "I", false)
  | _ => ("MergeBelts$Ring", "turned", "I", false)
def tyX7 : Nat → FieldType := fun k => match k with
  | 0 => .object "MergeBelts$Row"
  | 1 => .object "MergeBelts$Row"
  | 2 => .object "MergeBelts$Row"
  | 3 => .object "MergeBelts$Row"
  | 4 => .object "MergeBelts$Row"
  | 5 => .object "MergeBelts$Row"
  | 6 => .int
  | _ => .int
theorem nmX7 : ∀ a, a < 8 → ∀ b, b < 8 → a ≠ b → (TX7 a).2.1 ≠ (TX7 b).2.1 := by decide +kernel
theorem tyX7_ok : ∀ k, k < 8 → parseFieldDescriptor (TX7 k).2.2.1 = some (tyX7 k) := by decide +kernel
def RX8 : String := "MergeBelts$Row"
def TX8 : u_T := fun k => match k with
  | _ => ("MergeBelts$Row", "cells", "[I", true)
def tyX8 : Nat → FieldType := fun k => match k with
  | _ => .array .int
theorem nmX8 : ∀ a, a < 1 → ∀ b, b < 1 → a ≠ b → (TX8 a).2.1 ≠ (TX8 b).2.1 := by decide +kernel
theorem tyX8_ok : ∀ k, k < 1 → parseFieldDescriptor (TX8 k).2.2.1 = some (tyX8 k) := by decide +kernel
def RX9 : String := "MergeBelts$State"
def TX9 : u_T := fun k => match k with
  | 0 => ("MergeBelts$State", "tick", "I", false)
  | 1 => ("MergeBelts$State", "ring", "LMergeBelts$Ring;", true)
  | 2 => ("MergeBelts$State", "queues", "LMergeBelts$Queues;", true)
  | 3 => ("MergeBelts$State", "room", "LMergeBelts$Row;", true)
  | 4 => ("MergeBelts$State", "reach", "LMergeBelts$Row;", true)
  | 5 => ("MergeBelts$State", "share", "LMergeBelts$Row;", true)
  | 6 => ("MergeBelts$State", "credit", "LMergeBelts$Row;", true)
  | 7 => ("MergeBelts$State", "held", "LMergeBelts$Row;", true)
  | 8 => ("MergeBelts$State", "gone", "LMergeBelts$Row;", true)
  | 9 => ("MergeBelts$State", "sideTaken", "LMergeBelts$Row;", true)
  | 10 => ("MergeBelts$State", "lost", "LMergeBelts$Row;", true)
  | 11 => ("MergeBelts$State", "longestWait", "LMergeBelts$Row;", true)
  | 12 => ("MergeBelts$State", "mayTake", "LMergeBelts$Row;", true)
  | 13 => ("MergeBelts$State", "shutFor", "LMergeBelts$Row;", true)
  | 14 => ("MergeBelts$State", "exitTaken", "LMergeBelts$Row;", true)
  | 15 => ("MergeBelts$State", "wareTaken", "LMergeBelts$Row;", true)
  | 16 => ("MergeBelts$State", "log", "LMergeBelts$Log;", true)
  | _ => ("MergeBelts$State", "silent", "I", false)
def tyX9 : Nat → FieldType := fun k => match k with
  | 0 => .int
  | 1 => .object "MergeBelts$Ring"
  | 2 => .object "MergeBelts$Queues"
  | 3 => .object "MergeBelts$Row"
  | 4 => .object "MergeBelts$Row"
  | 5 => .object "MergeBelts$Row"
  | 6 => .object "MergeBelts$Row"
  | 7 => .object "MergeBelts$Row"
  | 8 => .object "MergeBelts$Row"
  | 9 => .object "MergeBelts$Row"
  | 10 => .object "MergeBelts$Row"
  | 11 => .object "MergeBelts$Row"
  | 12 => .object "MergeBelts$Row"
  | 13 => .object "MergeBelts$Row"
  | 14 => .object "MergeBelts$Row"
  | 15 => .object "MergeBelts$Row"
  | 16 => .object "MergeBelts$Log"
  | _ => .int
theorem nmX9 : ∀ a, a < 18 → ∀ b, b < 18 → a ≠ b → (TX9 a).2.1 ≠ (TX9 b).2.1 := by decide +kernel
theorem tyX9_ok : ∀ k, k < 18 → parseFieldDescriptor (TX9 k).2.2.1 = some (tyX9 k) := by decide +kernel
def RX10 : String := "MergeBelts$Tape"
def TX10 : u_T := fun k => match k with
  | 0 => ("MergeBelts$Tape", "bytes", "LMergeBelts$Row;", true)
  | 1 => ("MergeBelts$Tape", "size", "I", false)
  | 2 => ("MergeBelts$Tape", "length", "I", false)
  | 3 => ("MergeBelts$Tape", "kind", "I", false)
  | 4 => ("MergeBelts$Tape", "start", "I", false)
  | 5 => ("MergeBelts$Tape", "end", "I", false)
  | 6 => ("MergeBelts$Tape", "faultKind", "I", false)
  | _ => ("MergeBelts$Tape", "faultPlace", "I", false)
def tyX10 : Nat → FieldType := fun k => match k with
  | 0 => .object "MergeBelts$Row"
  | 1 => .int
  | 2 => .int
  | 3 => .int
  | 4 => .int
  | 5 => .int
  | 6 => .int
  | _ => .int
theorem nmX10 : ∀ a, a < 8 → ∀ b, b < 8 → a ≠ b → (TX10 a).2.1 ≠ (TX10 b).2.1 := by decide +kernel
theorem tyX10_ok : ∀ k, k < 8 → parseFieldDescriptor (TX10 k).2.2.1 = some (tyX10 k) := by decide +kernel
def RX11 : String := "MergeBelts"
def TX11 : u_T := fun k => match k with
  | 0 => ("MergeBelts", "tape", "LMergeBelts$Tape;", true)
  | 1 => ("MergeBelts", "beltText", "LMergeBelts$BeltText;", true)
  | 2 => ("MergeBelts", "question", "LMergeBelts$Question;", true)
  | 3 => ("MergeBelts", "plan", "LMergeBelts$Plan;", true)
  | 4 => ("MergeBelts", "now", "LMergeBelts$State;", true)
  | 5 => ("MergeBelts", "acts", "LMergeBelts$Acts;", true)
  | 6 => ("MergeBelts", "earlier", "LMergeBelts$State;", true)
  | 7 => ("MergeBelts", "later", "LMergeBelts$State;", true)
  | 8 => ("MergeBelts", "keptPlan", "LMergeBelts$Plan;", true)
  | 9 => ("MergeBelts", "keptState", "LMergeBelts$State;", true)
  | 10 => ("MergeBelts", "kept", "Z", false)
  | _ => ("MergeBelts", "faultPlace", "I", false)
def tyX11 : Nat → FieldType := fun k => match k with
  | 0 => .object "MergeBelts$Tape"
  | 1 => .object "MergeBelts$BeltText"
  | 2 => .object "MergeBelts$Question"
  | 3 => .object "MergeBelts$Plan"
  | 4 => .object "MergeBelts$State"
  | 5 => .object "MergeBelts$Acts"
  | 6 => .object "MergeBelts$State"
  | 7 => .object "MergeBelts$State"
  | 8 => .object "MergeBelts$Plan"
  | 9 => .object "MergeBelts$State"
  | 10 => .boolean
  | _ => .int
theorem nmX11 : ∀ a, a < 12 → ∀ b, b < 12 → a ≠ b → (TX11 a).2.1 ≠ (TX11 b).2.1 := by decide +kernel
theorem tyX11_ok : ∀ k, k < 12 → parseFieldDescriptor (TX11 k).2.2.1 = some (tyX11 k) := by decide +kernel
def RX12 : String := "MergeBeltsModel"
def TX12 : u_T := fun k => match k with
  | 0 => ("MergeBeltsModel", "row", "[I", true)
  | 1 => ("MergeBeltsModel", "read", "[I", true)
  | 2 => ("MergeBeltsModel", "aside", "[I", true)
  | 3 => ("MergeBeltsModel", "image", "[I", true)
  | 4 => ("MergeBeltsModel", "past", "[I", true)
  | 5 => ("MergeBeltsModel", "hasImage", "Z", false)
  | 6 => ("MergeBeltsModel", "acts", "I", false)
  | 7 => ("MergeBeltsModel", "code", "I", false)
  | 8 => ("MergeBeltsModel", "off", "I", false)
  | 9 => ("MergeBeltsModel", "carried", "[I", true)
  | 10 => ("MergeBeltsModel", "turnAt", "I", false)
  | 11 => ("MergeBeltsModel", "turnSide", "I", false)
  | 12 => ("MergeBeltsModel", "moments", "[I", true)
  | 13 => ("MergeBeltsModel", "written", "I", false)
  | 14 => ("MergeBeltsModel", "againAt", "I", false)
  | 15 => ("MergeBeltsModel", "againBy", "I", false)
  | 16 => ("MergeBeltsModel", "tape", "[I", true)
  | 17 => ("MergeBeltsModel", "taped", "I", false)
  | 18 => ("MergeBeltsModel", "size", "I", false)
  | 19 => ("MergeBeltsModel", "at", "I", false)
  | 20 => ("MergeBeltsModel", "token", "I", false)
  | 21 => ("MergeBeltsModel", "begins", "I", false)
  | 22 => ("MergeBeltsModel", "stops", "I", false)
  | 23 => ("MergeBeltsModel", "bad", "I", false)
  | 24 => ("MergeBeltsModel", "badPlace", "I", false)
  | 25 => ("MergeBeltsModel", "faultPlace", "I", false)
  | 26 => ("MergeBeltsModel", "open", "I", false)
  | _ => ("MergeBeltsModel", "asked", "I", false)
def tyX12 : Nat → FieldType := fun k => match k with
  | 0 => .array .int
  | 1 => .array .int
  | 2 => .array .int
  | 3 => .array .int
  | 4 => .array .int
  | 5 => .boolean
  | 6 => .int
  | 7 => .int
  | 8 => .int
  | 9 => .array .int
  | 10 => .int
  | 11 => .int
  | 12 => .array .int
  | 13 => .int
  | 14 => .int
  | 15 => .int
  | 16 => .array .int
  | 17 => .int
  | 18 => .int
  | 19 => .int
  | 20 => .int
  | 21 => .int
  | 22 => .int
  | 23 => .int
  | 24 => .int
  | 25 => .int
  | 26 => .int
  | _ => .int
theorem nmX12 : ∀ a, a < 28 → ∀ b, b < 28 → a ≠ b → (TX12 a).2.1 ≠ (TX12 b).2.1 := by decide +kernel
theorem tyX12_ok : ∀ k, k < 28 → parseFieldDescriptor (TX12 k).2.2.1 = some (tyX12 k) := by decide +kernel
abbrev vwCl : List vw_C := [(RX0, TX0, 3), (RX1, TX1, 1), (RX2, TX2, 6), (RX3, TX3, 3), (RX4, TX4, 19), (RX5, TX5, 4), (RX6, TX6, 3), (RX7, TX7, 8), (RX8, TX8, 1), (RX9, TX9, 18), (RX10, TX10, 8), (RX11, TX11, 12), (RX12, TX12, 28)]
end
