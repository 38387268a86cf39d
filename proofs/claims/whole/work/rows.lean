section
-- ===== PART A: goes FIRST, ahead of the names: the tables' words, and 'selects' of the private methods out of them =====
/-- a private method of a class that the tables say can be made, by its rows of tables_1 -/
def lw_okq (q : MethodName × Nat) : Prop := (q.1.cls ≠ "java/lang/invoke/MethodHandle" ∧ q.1.cls ≠ "java/lang/invoke/VarHandle") ∧ Cond.instantiable q.1.cls q.2 ∈ tables_1 ∧ Cond.privateMethod q.1 ∈ tables_1 ∧ Cond.instanceMethod q.1 ∈ tables_1
theorem lw_p0 : lw_okq (⟨"java/lang/Throwable", "fillInStackTrace", "(I)Ljava/lang/Throwable;"⟩, 6) := ⟨⟨by decide +kernel, by decide +kernel⟩, List.mem_of_getElem? (i := 654) (by decide +kernel), List.mem_of_getElem? (i := 652) (by decide +kernel), List.mem_of_getElem? (i := 653) (by decide +kernel)⟩
theorem lw_p1 : lw_okq (⟨"MergeBelts$Tape", "takeIf", "(Z)V"⟩, 8) := ⟨⟨by decide +kernel, by decide +kernel⟩, List.mem_of_getElem? (i := 35) (by decide +kernel), List.mem_of_getElem? (i := 760) (by decide +kernel), List.mem_of_getElem? (i := 761) (by decide +kernel)⟩
theorem lw_p2 : lw_okq (⟨"MergeBelts$BeltText", "readExit", "(LMergeBelts$Tape;)V"⟩, 1) := ⟨⟨by decide +kernel, by decide +kernel⟩, List.mem_of_getElem? (i := 80) (by decide +kernel), List.mem_of_getElem? (i := 796) (by decide +kernel), List.mem_of_getElem? (i := 797) (by decide +kernel)⟩
theorem lw_p3 : lw_okq (⟨"MergeBelts$BeltText", "takeOwnPlace", "(LMergeBelts$Tape;LMergeBelts$Row;I)I"⟩, 1) := ⟨⟨by decide +kernel, by decide +kernel⟩, List.mem_of_getElem? (i := 80) (by decide +kernel), List.mem_of_getElem? (i := 805) (by decide +kernel), List.mem_of_getElem? (i := 806) (by decide +kernel)⟩
theorem lw_p4 : lw_okq (⟨"MergeBelts$BeltText", "readWare", "(LMergeBelts$Tape;)V"⟩, 1) := ⟨⟨by decide +kernel, by decide +kernel⟩, List.mem_of_getElem? (i := 80) (by decide +kernel), List.mem_of_getElem? (i := 820) (by decide +kernel), List.mem_of_getElem? (i := 821) (by decide +kernel)⟩
theorem lw_p5 : lw_okq (⟨"MergeBelts$BeltText", "readSide", "(LMergeBelts$Tape;)V"⟩, 1) := ⟨⟨by decide +kernel, by decide +kernel⟩, List.mem_of_getElem? (i := 80) (by decide +kernel), List.mem_of_getElem? (i := 826) (by decide +kernel), List.mem_of_getElem? (i := 827) (by decide +kernel)⟩
theorem lw_p6 : lw_okq (⟨"MergeBelts$BeltText", "readComing", "(LMergeBelts$Tape;)V"⟩, 1) := ⟨⟨by decide +kernel, by decide +kernel⟩, List.mem_of_getElem? (i := 80) (by decide +kernel), List.mem_of_getElem? (i := 831) (by decide +kernel), List.mem_of_getElem? (i := 832) (by decide +kernel)⟩
theorem lw_p7 : lw_okq (⟨"MergeBelts$BeltText", "readTurns", "(LMergeBelts$Tape;)V"⟩, 1) := ⟨⟨by decide +kernel, by decide +kernel⟩, List.mem_of_getElem? (i := 80) (by decide +kernel), List.mem_of_getElem? (i := 836) (by decide +kernel), List.mem_of_getElem? (i := 837) (by decide +kernel)⟩
theorem lw_p8 : lw_okq (⟨"MergeBelts$BeltText", "takeOpening", "(LMergeBelts$Tape;I)I"⟩, 1) := ⟨⟨by decide +kernel, by decide +kernel⟩, List.mem_of_getElem? (i := 80) (by decide +kernel), List.mem_of_getElem? (i := 841) (by decide +kernel), List.mem_of_getElem? (i := 842) (by decide +kernel)⟩
theorem lw_p9 : lw_okq (⟨"MergeBelts$BeltText", "readPart", "(LMergeBelts$Tape;)V"⟩, 1) := ⟨⟨by decide +kernel, by decide +kernel⟩, List.mem_of_getElem? (i := 80) (by decide +kernel), List.mem_of_getElem? (i := 850) (by decide +kernel), List.mem_of_getElem? (i := 851) (by decide +kernel)⟩
theorem lw_p10 : lw_okq (⟨"MergeBelts$Formula", "settle", "(I)V"⟩, 6) := ⟨⟨by decide +kernel, by decide +kernel⟩, List.mem_of_getElem? (i := 94) (by decide +kernel), List.mem_of_getElem? (i := 881) (by decide +kernel), List.mem_of_getElem? (i := 882) (by decide +kernel)⟩
theorem lw_p11 : lw_okq (⟨"MergeBelts$Ring", "cell", "(I)I"⟩, 8) := ⟨⟨by decide +kernel, by decide +kernel⟩, List.mem_of_getElem? (i := 266) (by decide +kernel), List.mem_of_getElem? (i := 946) (by decide +kernel), List.mem_of_getElem? (i := 947) (by decide +kernel)⟩
theorem lw_p12 : lw_okq (⟨"MergeBelts$State", "goesTo", "(LMergeBelts$Plan;II)Z"⟩, 18) := ⟨⟨by decide +kernel, by decide +kernel⟩, List.mem_of_getElem? (i := 260) (by decide +kernel), List.mem_of_getElem? (i := 982) (by decide +kernel), List.mem_of_getElem? (i := 983) (by decide +kernel)⟩
theorem lw_p13 : lw_okq (⟨"MergeBelts$State", "comeIn", "(LMergeBelts$Plan;)V"⟩, 18) := ⟨⟨by decide +kernel, by decide +kernel⟩, List.mem_of_getElem? (i := 260) (by decide +kernel), List.mem_of_getElem? (i := 1085) (by decide +kernel), List.mem_of_getElem? (i := 1086) (by decide +kernel)⟩
theorem lw_p14 : lw_okq (⟨"MergeBelts$State", "takeOut", "(LMergeBelts$Plan;)V"⟩, 18) := ⟨⟨by decide +kernel, by decide +kernel⟩, List.mem_of_getElem? (i := 260) (by decide +kernel), List.mem_of_getElem? (i := 1101) (by decide +kernel), List.mem_of_getElem? (i := 1102) (by decide +kernel)⟩
theorem lw_p15 : lw_okq (⟨"MergeBelts$State", "goOn", "(LMergeBelts$Plan;)V"⟩, 18) := ⟨⟨by decide +kernel, by decide +kernel⟩, List.mem_of_getElem? (i := 260) (by decide +kernel), List.mem_of_getElem? (i := 1123) (by decide +kernel), List.mem_of_getElem? (i := 1124) (by decide +kernel)⟩
def lw_privs_1 : List (MethodName × Nat) := [(⟨"java/lang/Throwable", "fillInStackTrace", "(I)Ljava/lang/Throwable;"⟩, 6), (⟨"MergeBelts$Tape", "takeIf", "(Z)V"⟩, 8), (⟨"MergeBelts$BeltText", "readExit", "(LMergeBelts$Tape;)V"⟩, 1), (⟨"MergeBelts$BeltText", "takeOwnPlace", "(LMergeBelts$Tape;LMergeBelts$Row;I)I"⟩, 1), (⟨"MergeBelts$BeltText", "readWare", "(LMergeBelts$Tape;)V"⟩, 1), (⟨"MergeBelts$BeltText", "readSide", "(LMergeBelts$Tape;)V"⟩, 1), (⟨"MergeBelts$BeltText", "readComing", "(LMergeBelts$Tape;)V"⟩, 1), (⟨"MergeBelts$BeltText", "readTurns", "(LMergeBelts$Tape;)V"⟩, 1), (⟨"MergeBelts$BeltText", "takeOpening", "(LMergeBelts$Tape;I)I"⟩, 1), (⟨"MergeBelts$BeltText", "readPart", "(LMergeBelts$Tape;)V"⟩, 1), (⟨"MergeBelts$Formula", "settle", "(I)V"⟩, 6), (⟨"MergeBelts$Ring", "cell", "(I)I"⟩, 8), (⟨"MergeBelts$State", "goesTo", "(LMergeBelts$Plan;II)Z"⟩, 18), (⟨"MergeBelts$State", "comeIn", "(LMergeBelts$Plan;)V"⟩, 18), (⟨"MergeBelts$State", "takeOut", "(LMergeBelts$Plan;)V"⟩, 18), (⟨"MergeBelts$State", "goOn", "(LMergeBelts$Plan;)V"⟩, 18)]
theorem lw_r1 : ∀ q ∈ lw_privs_1, lw_okq q := List.forall_mem_cons.mpr ⟨lw_p0, List.forall_mem_cons.mpr ⟨lw_p1, List.forall_mem_cons.mpr ⟨lw_p2, List.forall_mem_cons.mpr ⟨lw_p3, List.forall_mem_cons.mpr ⟨lw_p4, List.forall_mem_cons.mpr ⟨lw_p5, List.forall_mem_cons.mpr ⟨lw_p6, List.forall_mem_cons.mpr ⟨lw_p7, List.forall_mem_cons.mpr ⟨lw_p8, List.forall_mem_cons.mpr ⟨lw_p9, List.forall_mem_cons.mpr ⟨lw_p10, List.forall_mem_cons.mpr ⟨lw_p11, List.forall_mem_cons.mpr ⟨lw_p12, List.forall_mem_cons.mpr ⟨lw_p13, List.forall_mem_cons.mpr ⟨lw_p14, List.forall_mem_cons.mpr ⟨lw_p15, fun _ h => absurd h List.not_mem_nil⟩⟩⟩⟩⟩⟩⟩⟩⟩⟩⟩⟩⟩⟩⟩⟩
theorem lw_p16 : lw_okq (⟨"MergeBelts$State", "takeTurns", "(LMergeBelts$Plan;)V"⟩, 18) := ⟨⟨by decide +kernel, by decide +kernel⟩, List.mem_of_getElem? (i := 260) (by decide +kernel), List.mem_of_getElem? (i := 1146) (by decide +kernel), List.mem_of_getElem? (i := 1147) (by decide +kernel)⟩
theorem lw_p17 : lw_okq (⟨"MergeBelts$State", "nearestGap", "(LMergeBelts$Plan;I)I"⟩, 18) := ⟨⟨by decide +kernel, by decide +kernel⟩, List.mem_of_getElem? (i := 260) (by decide +kernel), List.mem_of_getElem? (i := 1150) (by decide +kernel), List.mem_of_getElem? (i := 1151) (by decide +kernel)⟩
theorem lw_p18 : lw_okq (⟨"MergeBelts$State", "payCredits", "(LMergeBelts$Plan;III)V"⟩, 18) := ⟨⟨by decide +kernel, by decide +kernel⟩, List.mem_of_getElem? (i := 260) (by decide +kernel), List.mem_of_getElem? (i := 1155) (by decide +kernel), List.mem_of_getElem? (i := 1156) (by decide +kernel)⟩
theorem lw_p19 : lw_okq (⟨"MergeBelts", "mayBecome", "(II)Z"⟩, 12) := ⟨⟨by decide +kernel, by decide +kernel⟩, List.mem_of_getElem? (i := 27) (by decide +kernel), List.mem_of_getElem? (i := 1174) (by decide +kernel), List.mem_of_getElem? (i := 1175) (by decide +kernel)⟩
theorem lw_p20 : lw_okq (⟨"MergeBelts", "findAgain", "()I"⟩, 12) := ⟨⟨by decide +kernel, by decide +kernel⟩, List.mem_of_getElem? (i := 27) (by decide +kernel), List.mem_of_getElem? (i := 1197) (by decide +kernel), List.mem_of_getElem? (i := 1198) (by decide +kernel)⟩
theorem lw_p21 : lw_okq (⟨"MergeBelts$State", "waitsAsLong", "(LMergeBelts$State;LMergeBelts$Plan;)Z"⟩, 18) := ⟨⟨by decide +kernel, by decide +kernel⟩, List.mem_of_getElem? (i := 260) (by decide +kernel), List.mem_of_getElem? (i := 1220) (by decide +kernel), List.mem_of_getElem? (i := 1221) (by decide +kernel)⟩
theorem lw_p22 : lw_okq (⟨"MergeBelts$Question", "readFact", "(LMergeBelts$Tape;)Z"⟩, 4) := ⟨⟨by decide +kernel, by decide +kernel⟩, List.mem_of_getElem? (i := 236) (by decide +kernel), List.mem_of_getElem? (i := 1300) (by decide +kernel), List.mem_of_getElem? (i := 1301) (by decide +kernel)⟩
theorem lw_p23 : lw_okq (⟨"MergeBelts$Question", "openOneMore", "(LMergeBelts$Tape;Z)V"⟩, 4) := ⟨⟨by decide +kernel, by decide +kernel⟩, List.mem_of_getElem? (i := 236) (by decide +kernel), List.mem_of_getElem? (i := 1306) (by decide +kernel), List.mem_of_getElem? (i := 1307) (by decide +kernel)⟩
theorem lw_p24 : lw_okq (⟨"MergeBelts$Question", "readValue", "(LMergeBelts$Tape;)V"⟩, 4) := ⟨⟨by decide +kernel, by decide +kernel⟩, List.mem_of_getElem? (i := 236) (by decide +kernel), List.mem_of_getElem? (i := 1313) (by decide +kernel), List.mem_of_getElem? (i := 1314) (by decide +kernel)⟩
theorem lw_p25 : lw_okq (⟨"MergeBeltsModel", "itemsAt", "(I)I"⟩, 28) := ⟨⟨by decide +kernel, by decide +kernel⟩, List.mem_of_getElem? (i := 1368) (by decide +kernel), List.mem_of_getElem? (i := 1471) (by decide +kernel), List.mem_of_getElem? (i := 1472) (by decide +kernel)⟩
theorem lw_p26 : lw_okq (⟨"MergeBeltsModel", "n", "()I"⟩, 28) := ⟨⟨by decide +kernel, by decide +kernel⟩, List.mem_of_getElem? (i := 1368) (by decide +kernel), List.mem_of_getElem? (i := 1475) (by decide +kernel), List.mem_of_getElem? (i := 1476) (by decide +kernel)⟩
theorem lw_p27 : lw_okq (⟨"MergeBeltsModel", "placeOf", "(II)I"⟩, 28) := ⟨⟨by decide +kernel, by decide +kernel⟩, List.mem_of_getElem? (i := 1368) (by decide +kernel), List.mem_of_getElem? (i := 1479) (by decide +kernel), List.mem_of_getElem? (i := 1480) (by decide +kernel)⟩
theorem lw_p28 : lw_okq (⟨"MergeBeltsModel", "reservedOnes", "()I"⟩, 28) := ⟨⟨by decide +kernel, by decide +kernel⟩, List.mem_of_getElem? (i := 1368) (by decide +kernel), List.mem_of_getElem? (i := 1483) (by decide +kernel), List.mem_of_getElem? (i := 1484) (by decide +kernel)⟩
theorem lw_p29 : lw_okq (⟨"MergeBeltsModel", "waitingOf", "(I)I"⟩, 28) := ⟨⟨by decide +kernel, by decide +kernel⟩, List.mem_of_getElem? (i := 1368) (by decide +kernel), List.mem_of_getElem? (i := 1487) (by decide +kernel), List.mem_of_getElem? (i := 1488) (by decide +kernel)⟩
theorem lw_p30 : lw_okq (⟨"MergeBeltsModel", "sideOf", "(II)I"⟩, 28) := ⟨⟨by decide +kernel, by decide +kernel⟩, List.mem_of_getElem? (i := 1368) (by decide +kernel), List.mem_of_getElem? (i := 1491) (by decide +kernel), List.mem_of_getElem? (i := 1492) (by decide +kernel)⟩
theorem lw_p31 : lw_okq (⟨"MergeBeltsModel", "queueAt", "(II)I"⟩, 28) := ⟨⟨by decide +kernel, by decide +kernel⟩, List.mem_of_getElem? (i := 1368) (by decide +kernel), List.mem_of_getElem? (i := 1495) (by decide +kernel), List.mem_of_getElem? (i := 1496) (by decide +kernel)⟩
def lw_privs_2 : List (MethodName × Nat) := [(⟨"MergeBelts$State", "takeTurns", "(LMergeBelts$Plan;)V"⟩, 18), (⟨"MergeBelts$State", "nearestGap", "(LMergeBelts$Plan;I)I"⟩, 18), (⟨"MergeBelts$State", "payCredits", "(LMergeBelts$Plan;III)V"⟩, 18), (⟨"MergeBelts", "mayBecome", "(II)Z"⟩, 12), (⟨"MergeBelts", "findAgain", "()I"⟩, 12), (⟨"MergeBelts$State", "waitsAsLong", "(LMergeBelts$State;LMergeBelts$Plan;)Z"⟩, 18), (⟨"MergeBelts$Question", "readFact", "(LMergeBelts$Tape;)Z"⟩, 4), (⟨"MergeBelts$Question", "openOneMore", "(LMergeBelts$Tape;Z)V"⟩, 4), (⟨"MergeBelts$Question", "readValue", "(LMergeBelts$Tape;)V"⟩, 4), (⟨"MergeBeltsModel", "itemsAt", "(I)I"⟩, 28), (⟨"MergeBeltsModel", "n", "()I"⟩, 28), (⟨"MergeBeltsModel", "placeOf", "(II)I"⟩, 28), (⟨"MergeBeltsModel", "reservedOnes", "()I"⟩, 28), (⟨"MergeBeltsModel", "waitingOf", "(I)I"⟩, 28), (⟨"MergeBeltsModel", "sideOf", "(II)I"⟩, 28), (⟨"MergeBeltsModel", "queueAt", "(II)I"⟩, 28)]
theorem lw_r2 : ∀ q ∈ lw_privs_2, lw_okq q := List.forall_mem_cons.mpr ⟨lw_p16, List.forall_mem_cons.mpr ⟨lw_p17, List.forall_mem_cons.mpr ⟨lw_p18, List.forall_mem_cons.mpr ⟨lw_p19, List.forall_mem_cons.mpr ⟨lw_p20, List.forall_mem_cons.mpr ⟨lw_p21, List.forall_mem_cons.mpr ⟨lw_p22, List.forall_mem_cons.mpr ⟨lw_p23, List.forall_mem_cons.mpr ⟨lw_p24, List.forall_mem_cons.mpr ⟨lw_p25, List.forall_mem_cons.mpr ⟨lw_p26, List.forall_mem_cons.mpr ⟨lw_p27, List.forall_mem_cons.mpr ⟨lw_p28, List.forall_mem_cons.mpr ⟨lw_p29, List.forall_mem_cons.mpr ⟨lw_p30, List.forall_mem_cons.mpr ⟨lw_p31, fun _ h => absurd h List.not_mem_nil⟩⟩⟩⟩⟩⟩⟩⟩⟩⟩⟩⟩⟩⟩⟩⟩
theorem lw_p32 : lw_okq (⟨"MergeBeltsModel", "fail", "(I)I"⟩, 28) := ⟨⟨by decide +kernel, by decide +kernel⟩, List.mem_of_getElem? (i := 1368) (by decide +kernel), List.mem_of_getElem? (i := 1499) (by decide +kernel), List.mem_of_getElem? (i := 1500) (by decide +kernel)⟩
theorem lw_p33 : lw_okq (⟨"MergeBeltsModel", "isPlace", "(I)Z"⟩, 28) := ⟨⟨by decide +kernel, by decide +kernel⟩, List.mem_of_getElem? (i := 1368) (by decide +kernel), List.mem_of_getElem? (i := 1507) (by decide +kernel), List.mem_of_getElem? (i := 1508) (by decide +kernel)⟩
theorem lw_p34 : lw_okq (⟨"MergeBeltsModel", "ridesOf", "(I)I"⟩, 28) := ⟨⟨by decide +kernel, by decide +kernel⟩, List.mem_of_getElem? (i := 1368) (by decide +kernel), List.mem_of_getElem? (i := 1514) (by decide +kernel), List.mem_of_getElem? (i := 1515) (by decide +kernel)⟩
theorem lw_p35 : lw_okq (⟨"MergeBeltsModel", "isExit", "(I)Z"⟩, 28) := ⟨⟨by decide +kernel, by decide +kernel⟩, List.mem_of_getElem? (i := 1368) (by decide +kernel), List.mem_of_getElem? (i := 1522) (by decide +kernel), List.mem_of_getElem? (i := 1523) (by decide +kernel)⟩
theorem lw_p36 : lw_okq (⟨"MergeBeltsModel", "exitOf", "(II)I"⟩, 28) := ⟨⟨by decide +kernel, by decide +kernel⟩, List.mem_of_getElem? (i := 1368) (by decide +kernel), List.mem_of_getElem? (i := 1526) (by decide +kernel), List.mem_of_getElem? (i := 1527) (by decide +kernel)⟩
theorem lw_p37 : lw_okq (⟨"MergeBeltsModel", "jamAt", "(I)I"⟩, 28) := ⟨⟨by decide +kernel, by decide +kernel⟩, List.mem_of_getElem? (i := 1368) (by decide +kernel), List.mem_of_getElem? (i := 1530) (by decide +kernel), List.mem_of_getElem? (i := 1531) (by decide +kernel)⟩
theorem lw_p38 : lw_okq (⟨"MergeBeltsModel", "wareOf", "(II)I"⟩, 28) := ⟨⟨by decide +kernel, by decide +kernel⟩, List.mem_of_getElem? (i := 1368) (by decide +kernel), List.mem_of_getElem? (i := 1534) (by decide +kernel), List.mem_of_getElem? (i := 1535) (by decide +kernel)⟩
theorem lw_p39 : lw_okq (⟨"MergeBeltsModel", "mayIn", "(I)I"⟩, 28) := ⟨⟨by decide +kernel, by decide +kernel⟩, List.mem_of_getElem? (i := 1368) (by decide +kernel), List.mem_of_getElem? (i := 1538) (by decide +kernel), List.mem_of_getElem? (i := 1539) (by decide +kernel)⟩
theorem lw_p40 : lw_okq (⟨"MergeBeltsModel", "isWare", "(I)Z"⟩, 28) := ⟨⟨by decide +kernel, by decide +kernel⟩, List.mem_of_getElem? (i := 1368) (by decide +kernel), List.mem_of_getElem? (i := 1547) (by decide +kernel), List.mem_of_getElem? (i := 1548) (by decide +kernel)⟩
theorem lw_p41 : lw_okq (⟨"MergeBeltsModel", "isSide", "(I)Z"⟩, 28) := ⟨⟨by decide +kernel, by decide +kernel⟩, List.mem_of_getElem? (i := 1368) (by decide +kernel), List.mem_of_getElem? (i := 1555) (by decide +kernel), List.mem_of_getElem? (i := 1556) (by decide +kernel)⟩
theorem lw_p42 : lw_okq (⟨"MergeBeltsModel", "heldFor", "(I)I"⟩, 28) := ⟨⟨by decide +kernel, by decide +kernel⟩, List.mem_of_getElem? (i := 1368) (by decide +kernel), List.mem_of_getElem? (i := 1559) (by decide +kernel), List.mem_of_getElem? (i := 1560) (by decide +kernel)⟩
theorem lw_p43 : lw_okq (⟨"MergeBeltsModel", "lateOf", "(I)I"⟩, 28) := ⟨⟨by decide +kernel, by decide +kernel⟩, List.mem_of_getElem? (i := 1368) (by decide +kernel), List.mem_of_getElem? (i := 1563) (by decide +kernel), List.mem_of_getElem? (i := 1564) (by decide +kernel)⟩
theorem lw_p44 : lw_okq (⟨"MergeBeltsModel", "urgentAt", "(I)I"⟩, 28) := ⟨⟨by decide +kernel, by decide +kernel⟩, List.mem_of_getElem? (i := 1368) (by decide +kernel), List.mem_of_getElem? (i := 1567) (by decide +kernel), List.mem_of_getElem? (i := 1568) (by decide +kernel)⟩
theorem lw_p45 : lw_okq (⟨"MergeBeltsModel", "rankOf", "(I)I"⟩, 28) := ⟨⟨by decide +kernel, by decide +kernel⟩, List.mem_of_getElem? (i := 1368) (by decide +kernel), List.mem_of_getElem? (i := 1571) (by decide +kernel), List.mem_of_getElem? (i := 1572) (by decide +kernel)⟩
theorem lw_p46 : lw_okq (⟨"MergeBeltsModel", "turnSum", "()I"⟩, 28) := ⟨⟨by decide +kernel, by decide +kernel⟩, List.mem_of_getElem? (i := 1368) (by decide +kernel), List.mem_of_getElem? (i := 1575) (by decide +kernel), List.mem_of_getElem? (i := 1576) (by decide +kernel)⟩
theorem lw_p47 : lw_okq (⟨"MergeBeltsModel", "turnTerm", "()I"⟩, 28) := ⟨⟨by decide +kernel, by decide +kernel⟩, List.mem_of_getElem? (i := 1368) (by decide +kernel), List.mem_of_getElem? (i := 1579) (by decide +kernel), List.mem_of_getElem? (i := 1580) (by decide +kernel)⟩
def lw_privs_3 : List (MethodName × Nat) := [(⟨"MergeBeltsModel", "fail", "(I)I"⟩, 28), (⟨"MergeBeltsModel", "isPlace", "(I)Z"⟩, 28), (⟨"MergeBeltsModel", "ridesOf", "(I)I"⟩, 28), (⟨"MergeBeltsModel", "isExit", "(I)Z"⟩, 28), (⟨"MergeBeltsModel", "exitOf", "(II)I"⟩, 28), (⟨"MergeBeltsModel", "jamAt", "(I)I"⟩, 28), (⟨"MergeBeltsModel", "wareOf", "(II)I"⟩, 28), (⟨"MergeBeltsModel", "mayIn", "(I)I"⟩, 28), (⟨"MergeBeltsModel", "isWare", "(I)Z"⟩, 28), (⟨"MergeBeltsModel", "isSide", "(I)Z"⟩, 28), (⟨"MergeBeltsModel", "heldFor", "(I)I"⟩, 28), (⟨"MergeBeltsModel", "lateOf", "(I)I"⟩, 28), (⟨"MergeBeltsModel", "urgentAt", "(I)I"⟩, 28), (⟨"MergeBeltsModel", "rankOf", "(I)I"⟩, 28), (⟨"MergeBeltsModel", "turnSum", "()I"⟩, 28), (⟨"MergeBeltsModel", "turnTerm", "()I"⟩, 28)]
theorem lw_r3 : ∀ q ∈ lw_privs_3, lw_okq q := List.forall_mem_cons.mpr ⟨lw_p32, List.forall_mem_cons.mpr ⟨lw_p33, List.forall_mem_cons.mpr ⟨lw_p34, List.forall_mem_cons.mpr ⟨lw_p35, List.forall_mem_cons.mpr ⟨lw_p36, List.forall_mem_cons.mpr ⟨lw_p37, List.forall_mem_cons.mpr ⟨lw_p38, List.forall_mem_cons.mpr ⟨lw_p39, List.forall_mem_cons.mpr ⟨lw_p40, List.forall_mem_cons.mpr ⟨lw_p41, List.forall_mem_cons.mpr ⟨lw_p42, List.forall_mem_cons.mpr ⟨lw_p43, List.forall_mem_cons.mpr ⟨lw_p44, List.forall_mem_cons.mpr ⟨lw_p45, List.forall_mem_cons.mpr ⟨lw_p46, List.forall_mem_cons.mpr ⟨lw_p47, fun _ h => absurd h List.not_mem_nil⟩⟩⟩⟩⟩⟩⟩⟩⟩⟩⟩⟩⟩⟩⟩⟩
theorem lw_p48 : lw_okq (⟨"MergeBeltsModel", "turnPart", "()I"⟩, 28) := ⟨⟨by decide +kernel, by decide +kernel⟩, List.mem_of_getElem? (i := 1368) (by decide +kernel), List.mem_of_getElem? (i := 1583) (by decide +kernel), List.mem_of_getElem? (i := 1584) (by decide +kernel)⟩
theorem lw_p49 : lw_okq (⟨"MergeBeltsModel", "turnByte", "()I"⟩, 28) := ⟨⟨by decide +kernel, by decide +kernel⟩, List.mem_of_getElem? (i := 1368) (by decide +kernel), List.mem_of_getElem? (i := 1587) (by decide +kernel), List.mem_of_getElem? (i := 1588) (by decide +kernel)⟩
theorem lw_p50 : lw_okq (⟨"MergeBeltsModel", "turnWord", "(II)I"⟩, 28) := ⟨⟨by decide +kernel, by decide +kernel⟩, List.mem_of_getElem? (i := 1368) (by decide +kernel), List.mem_of_getElem? (i := 1598) (by decide +kernel), List.mem_of_getElem? (i := 1599) (by decide +kernel)⟩
theorem lw_p51 : lw_okq (⟨"MergeBeltsModel", "dueIn", "(I)I"⟩, 28) := ⟨⟨by decide +kernel, by decide +kernel⟩, List.mem_of_getElem? (i := 1368) (by decide +kernel), List.mem_of_getElem? (i := 1610) (by decide +kernel), List.mem_of_getElem? (i := 1611) (by decide +kernel)⟩
theorem lw_p52 : lw_okq (⟨"MergeBeltsModel", "comingOf", "(II)I"⟩, 28) := ⟨⟨by decide +kernel, by decide +kernel⟩, List.mem_of_getElem? (i := 1368) (by decide +kernel), List.mem_of_getElem? (i := 1614) (by decide +kernel), List.mem_of_getElem? (i := 1615) (by decide +kernel)⟩
theorem lw_p53 : lw_okq (⟨"MergeBeltsModel", "keep", "()V"⟩, 28) := ⟨⟨by decide +kernel, by decide +kernel⟩, List.mem_of_getElem? (i := 1368) (by decide +kernel), List.mem_of_getElem? (i := 1626) (by decide +kernel), List.mem_of_getElem? (i := 1627) (by decide +kernel)⟩
theorem lw_p54 : lw_okq (⟨"MergeBeltsModel", "runs", "(I)V"⟩, 28) := ⟨⟨by decide +kernel, by decide +kernel⟩, List.mem_of_getElem? (i := 1368) (by decide +kernel), List.mem_of_getElem? (i := 1630) (by decide +kernel), List.mem_of_getElem? (i := 1631) (by decide +kernel)⟩
theorem lw_p55 : lw_okq (⟨"MergeBeltsModel", "tick", "()V"⟩, 28) := ⟨⟨by decide +kernel, by decide +kernel⟩, List.mem_of_getElem? (i := 1368) (by decide +kernel), List.mem_of_getElem? (i := 1634) (by decide +kernel), List.mem_of_getElem? (i := 1635) (by decide +kernel)⟩
theorem lw_p56 : lw_okq (⟨"MergeBeltsModel", "allCome", "()V"⟩, 28) := ⟨⟨by decide +kernel, by decide +kernel⟩, List.mem_of_getElem? (i := 1368) (by decide +kernel), List.mem_of_getElem? (i := 1638) (by decide +kernel), List.mem_of_getElem? (i := 1639) (by decide +kernel)⟩
theorem lw_p57 : lw_okq (⟨"MergeBeltsModel", "comes", "(II)Z"⟩, 28) := ⟨⟨by decide +kernel, by decide +kernel⟩, List.mem_of_getElem? (i := 1368) (by decide +kernel), List.mem_of_getElem? (i := 1642) (by decide +kernel), List.mem_of_getElem? (i := 1643) (by decide +kernel)⟩
theorem lw_p58 : lw_okq (⟨"MergeBeltsModel", "turns", "()V"⟩, 28) := ⟨⟨by decide +kernel, by decide +kernel⟩, List.mem_of_getElem? (i := 1368) (by decide +kernel), List.mem_of_getElem? (i := 1646) (by decide +kernel), List.mem_of_getElem? (i := 1647) (by decide +kernel)⟩
theorem lw_p59 : lw_okq (⟨"MergeBeltsModel", "exitsTake", "()V"⟩, 28) := ⟨⟨by decide +kernel, by decide +kernel⟩, List.mem_of_getElem? (i := 1368) (by decide +kernel), List.mem_of_getElem? (i := 1650) (by decide +kernel), List.mem_of_getElem? (i := 1651) (by decide +kernel)⟩
theorem lw_p60 : lw_okq (⟨"MergeBeltsModel", "logs", "(II)V"⟩, 28) := ⟨⟨by decide +kernel, by decide +kernel⟩, List.mem_of_getElem? (i := 1368) (by decide +kernel), List.mem_of_getElem? (i := 1654) (by decide +kernel), List.mem_of_getElem? (i := 1655) (by decide +kernel)⟩
theorem lw_p61 : lw_okq (⟨"MergeBeltsModel", "clear", "(I)V"⟩, 28) := ⟨⟨by decide +kernel, by decide +kernel⟩, List.mem_of_getElem? (i := 1368) (by decide +kernel), List.mem_of_getElem? (i := 1658) (by decide +kernel), List.mem_of_getElem? (i := 1659) (by decide +kernel)⟩
theorem lw_p62 : lw_okq (⟨"MergeBeltsModel", "sidesGive", "()V"⟩, 28) := ⟨⟨by decide +kernel, by decide +kernel⟩, List.mem_of_getElem? (i := 1368) (by decide +kernel), List.mem_of_getElem? (i := 1662) (by decide +kernel), List.mem_of_getElem? (i := 1663) (by decide +kernel)⟩
theorem lw_p63 : lw_okq (⟨"MergeBeltsModel", "isFree", "(I)Z"⟩, 28) := ⟨⟨by decide +kernel, by decide +kernel⟩, List.mem_of_getElem? (i := 1368) (by decide +kernel), List.mem_of_getElem? (i := 1666) (by decide +kernel), List.mem_of_getElem? (i := 1667) (by decide +kernel)⟩
def lw_privs_4 : List (MethodName × Nat) := [(⟨"MergeBeltsModel", "turnPart", "()I"⟩, 28), (⟨"MergeBeltsModel", "turnByte", "()I"⟩, 28), (⟨"MergeBeltsModel", "turnWord", "(II)I"⟩, 28), (⟨"MergeBeltsModel", "dueIn", "(I)I"⟩, 28), (⟨"MergeBeltsModel", "comingOf", "(II)I"⟩, 28), (⟨"MergeBeltsModel", "keep", "()V"⟩, 28), (⟨"MergeBeltsModel", "runs", "(I)V"⟩, 28), (⟨"MergeBeltsModel", "tick", "()V"⟩, 28), (⟨"MergeBeltsModel", "allCome", "()V"⟩, 28), (⟨"MergeBeltsModel", "comes", "(II)Z"⟩, 28), (⟨"MergeBeltsModel", "turns", "()V"⟩, 28), (⟨"MergeBeltsModel", "exitsTake", "()V"⟩, 28), (⟨"MergeBeltsModel", "logs", "(II)V"⟩, 28), (⟨"MergeBeltsModel", "clear", "(I)V"⟩, 28), (⟨"MergeBeltsModel", "sidesGive", "()V"⟩, 28), (⟨"MergeBeltsModel", "isFree", "(I)Z"⟩, 28)]
theorem lw_r4 : ∀ q ∈ lw_privs_4, lw_okq q := List.forall_mem_cons.mpr ⟨lw_p48, List.forall_mem_cons.mpr ⟨lw_p49, List.forall_mem_cons.mpr ⟨lw_p50, List.forall_mem_cons.mpr ⟨lw_p51, List.forall_mem_cons.mpr ⟨lw_p52, List.forall_mem_cons.mpr ⟨lw_p53, List.forall_mem_cons.mpr ⟨lw_p54, List.forall_mem_cons.mpr ⟨lw_p55, List.forall_mem_cons.mpr ⟨lw_p56, List.forall_mem_cons.mpr ⟨lw_p57, List.forall_mem_cons.mpr ⟨lw_p58, List.forall_mem_cons.mpr ⟨lw_p59, List.forall_mem_cons.mpr ⟨lw_p60, List.forall_mem_cons.mpr ⟨lw_p61, List.forall_mem_cons.mpr ⟨lw_p62, List.forall_mem_cons.mpr ⟨lw_p63, fun _ h => absurd h List.not_mem_nil⟩⟩⟩⟩⟩⟩⟩⟩⟩⟩⟩⟩⟩⟩⟩⟩
theorem lw_p64 : lw_okq (⟨"MergeBeltsModel", "goes", "(II)V"⟩, 28) := ⟨⟨by decide +kernel, by decide +kernel⟩, List.mem_of_getElem? (i := 1368) (by decide +kernel), List.mem_of_getElem? (i := 1670) (by decide +kernel), List.mem_of_getElem? (i := 1671) (by decide +kernel)⟩
theorem lw_p65 : lw_okq (⟨"MergeBeltsModel", "reserves", "()V"⟩, 28) := ⟨⟨by decide +kernel, by decide +kernel⟩, List.mem_of_getElem? (i := 1368) (by decide +kernel), List.mem_of_getElem? (i := 1674) (by decide +kernel), List.mem_of_getElem? (i := 1675) (by decide +kernel)⟩
theorem lw_p66 : lw_okq (⟨"MergeBeltsModel", "isAsking", "(I)Z"⟩, 28) := ⟨⟨by decide +kernel, by decide +kernel⟩, List.mem_of_getElem? (i := 1368) (by decide +kernel), List.mem_of_getElem? (i := 1678) (by decide +kernel), List.mem_of_getElem? (i := 1679) (by decide +kernel)⟩
theorem lw_p67 : lw_okq (⟨"MergeBeltsModel", "nearest", "(I)I"⟩, 28) := ⟨⟨by decide +kernel, by decide +kernel⟩, List.mem_of_getElem? (i := 1368) (by decide +kernel), List.mem_of_getElem? (i := 1682) (by decide +kernel), List.mem_of_getElem? (i := 1683) (by decide +kernel)⟩
theorem lw_p68 : lw_okq (⟨"MergeBeltsModel", "gives", "(II)V"⟩, 28) := ⟨⟨by decide +kernel, by decide +kernel⟩, List.mem_of_getElem? (i := 1368) (by decide +kernel), List.mem_of_getElem? (i := 1686) (by decide +kernel), List.mem_of_getElem? (i := 1687) (by decide +kernel)⟩
theorem lw_p69 : lw_okq (⟨"MergeBeltsModel", "longestJam", "()I"⟩, 28) := ⟨⟨by decide +kernel, by decide +kernel⟩, List.mem_of_getElem? (i := 1368) (by decide +kernel), List.mem_of_getElem? (i := 1721) (by decide +kernel), List.mem_of_getElem? (i := 1722) (by decide +kernel)⟩
theorem lw_p70 : lw_okq (⟨"MergeBeltsModel", "layAgain", "()V"⟩, 28) := ⟨⟨by decide +kernel, by decide +kernel⟩, List.mem_of_getElem? (i := 1368) (by decide +kernel), List.mem_of_getElem? (i := 1729) (by decide +kernel), List.mem_of_getElem? (i := 1730) (by decide +kernel)⟩
theorem lw_p71 : lw_okq (⟨"MergeBeltsModel", "asksLate", "()Z"⟩, 28) := ⟨⟨by decide +kernel, by decide +kernel⟩, List.mem_of_getElem? (i := 1368) (by decide +kernel), List.mem_of_getElem? (i := 1733) (by decide +kernel), List.mem_of_getElem? (i := 1734) (by decide +kernel)⟩
theorem lw_p72 : lw_okq (⟨"MergeBeltsModel", "writesMoment", "(IZ)V"⟩, 28) := ⟨⟨by decide +kernel, by decide +kernel⟩, List.mem_of_getElem? (i := 1368) (by decide +kernel), List.mem_of_getElem? (i := 1737) (by decide +kernel), List.mem_of_getElem? (i := 1738) (by decide +kernel)⟩
theorem lw_p73 : lw_okq (⟨"MergeBeltsModel", "writes", "(I)V"⟩, 28) := ⟨⟨by decide +kernel, by decide +kernel⟩, List.mem_of_getElem? (i := 1368) (by decide +kernel), List.mem_of_getElem? (i := 1741) (by decide +kernel), List.mem_of_getElem? (i := 1742) (by decide +kernel)⟩
theorem lw_p74 : lw_okq (⟨"MergeBeltsModel", "areAlike", "(II)Z"⟩, 28) := ⟨⟨by decide +kernel, by decide +kernel⟩, List.mem_of_getElem? (i := 1368) (by decide +kernel), List.mem_of_getElem? (i := 1745) (by decide +kernel), List.mem_of_getElem? (i := 1746) (by decide +kernel)⟩
theorem lw_p75 : lw_okq (⟨"MergeBeltsModel", "rated", "(II)I"⟩, 28) := ⟨⟨by decide +kernel, by decide +kernel⟩, List.mem_of_getElem? (i := 1368) (by decide +kernel), List.mem_of_getElem? (i := 1753) (by decide +kernel), List.mem_of_getElem? (i := 1754) (by decide +kernel)⟩
theorem lw_p76 : lw_okq (⟨"MergeBeltsModel", "loadOf", "(I)J"⟩, 28) := ⟨⟨by decide +kernel, by decide +kernel⟩, List.mem_of_getElem? (i := 1368) (by decide +kernel), List.mem_of_getElem? (i := 1761) (by decide +kernel), List.mem_of_getElem? (i := 1762) (by decide +kernel)⟩
theorem lw_p77 : lw_okq (⟨"MergeBeltsModel", "isOnWay", "(II)Z"⟩, 28) := ⟨⟨by decide +kernel, by decide +kernel⟩, List.mem_of_getElem? (i := 1368) (by decide +kernel), List.mem_of_getElem? (i := 1765) (by decide +kernel), List.mem_of_getElem? (i := 1766) (by decide +kernel)⟩
theorem lw_p78 : lw_okq (⟨"MergeBeltsModel", "inTrial", "(IIIII)I"⟩, 28) := ⟨⟨by decide +kernel, by decide +kernel⟩, List.mem_of_getElem? (i := 1368) (by decide +kernel), List.mem_of_getElem? (i := 1781) (by decide +kernel), List.mem_of_getElem? (i := 1782) (by decide +kernel)⟩
theorem lw_p79 : lw_okq (⟨"MergeBeltsModel", "takenOfOthers", "(IIZ)I"⟩, 28) := ⟨⟨by decide +kernel, by decide +kernel⟩, List.mem_of_getElem? (i := 1368) (by decide +kernel), List.mem_of_getElem? (i := 1793) (by decide +kernel), List.mem_of_getElem? (i := 1794) (by decide +kernel)⟩
def lw_privs_5 : List (MethodName × Nat) := [(⟨"MergeBeltsModel", "goes", "(II)V"⟩, 28), (⟨"MergeBeltsModel", "reserves", "()V"⟩, 28), (⟨"MergeBeltsModel", "isAsking", "(I)Z"⟩, 28), (⟨"MergeBeltsModel", "nearest", "(I)I"⟩, 28), (⟨"MergeBeltsModel", "gives", "(II)V"⟩, 28), (⟨"MergeBeltsModel", "longestJam", "()I"⟩, 28), (⟨"MergeBeltsModel", "layAgain", "()V"⟩, 28), (⟨"MergeBeltsModel", "asksLate", "()Z"⟩, 28), (⟨"MergeBeltsModel", "writesMoment", "(IZ)V"⟩, 28), (⟨"MergeBeltsModel", "writes", "(I)V"⟩, 28), (⟨"MergeBeltsModel", "areAlike", "(II)Z"⟩, 28), (⟨"MergeBeltsModel", "rated", "(II)I"⟩, 28), (⟨"MergeBeltsModel", "loadOf", "(I)J"⟩, 28), (⟨"MergeBeltsModel", "isOnWay", "(II)Z"⟩, 28), (⟨"MergeBeltsModel", "inTrial", "(IIIII)I"⟩, 28), (⟨"MergeBeltsModel", "takenOfOthers", "(IIZ)I"⟩, 28)]
theorem lw_r5 : ∀ q ∈ lw_privs_5, lw_okq q := List.forall_mem_cons.mpr ⟨lw_p64, List.forall_mem_cons.mpr ⟨lw_p65, List.forall_mem_cons.mpr ⟨lw_p66, List.forall_mem_cons.mpr ⟨lw_p67, List.forall_mem_cons.mpr ⟨lw_p68, List.forall_mem_cons.mpr ⟨lw_p69, List.forall_mem_cons.mpr ⟨lw_p70, List.forall_mem_cons.mpr ⟨lw_p71, List.forall_mem_cons.mpr ⟨lw_p72, List.forall_mem_cons.mpr ⟨lw_p73, List.forall_mem_cons.mpr ⟨lw_p74, List.forall_mem_cons.mpr ⟨lw_p75, List.forall_mem_cons.mpr ⟨lw_p76, List.forall_mem_cons.mpr ⟨lw_p77, List.forall_mem_cons.mpr ⟨lw_p78, List.forall_mem_cons.mpr ⟨lw_p79, fun _ h => absurd h List.not_mem_nil⟩⟩⟩⟩⟩⟩⟩⟩⟩⟩⟩⟩⟩⟩⟩⟩
theorem lw_p80 : lw_okq (⟨"MergeBeltsModel", "opens", "(I)V"⟩, 28) := ⟨⟨by decide +kernel, by decide +kernel⟩, List.mem_of_getElem? (i := 1368) (by decide +kernel), List.mem_of_getElem? (i := 1809) (by decide +kernel), List.mem_of_getElem? (i := 1810) (by decide +kernel)⟩
theorem lw_p81 : lw_okq (⟨"MergeBeltsModel", "next", "()V"⟩, 28) := ⟨⟨by decide +kernel, by decide +kernel⟩, List.mem_of_getElem? (i := 1368) (by decide +kernel), List.mem_of_getElem? (i := 1813) (by decide +kernel), List.mem_of_getElem? (i := 1814) (by decide +kernel)⟩
theorem lw_p82 : lw_okq (⟨"MergeBeltsModel", "byteAt", "(I)I"⟩, 28) := ⟨⟨by decide +kernel, by decide +kernel⟩, List.mem_of_getElem? (i := 1368) (by decide +kernel), List.mem_of_getElem? (i := 1817) (by decide +kernel), List.mem_of_getElem? (i := 1818) (by decide +kernel)⟩
theorem lw_p83 : lw_okq (⟨"MergeBeltsModel", "isWord", "(Ljava/lang/String;)Z"⟩, 28) := ⟨⟨by decide +kernel, by decide +kernel⟩, List.mem_of_getElem? (i := 1368) (by decide +kernel), List.mem_of_getElem? (i := 1822) (by decide +kernel), List.mem_of_getElem? (i := 1823) (by decide +kernel)⟩
theorem lw_p84 : lw_okq (⟨"MergeBeltsModel", "wrong", "(I)V"⟩, 28) := ⟨⟨by decide +kernel, by decide +kernel⟩, List.mem_of_getElem? (i := 1368) (by decide +kernel), List.mem_of_getElem? (i := 1828) (by decide +kernel), List.mem_of_getElem? (i := 1829) (by decide +kernel)⟩
theorem lw_p85 : lw_okq (⟨"MergeBeltsModel", "pass", "()V"⟩, 28) := ⟨⟨by decide +kernel, by decide +kernel⟩, List.mem_of_getElem? (i := 1368) (by decide +kernel), List.mem_of_getElem? (i := 1832) (by decide +kernel), List.mem_of_getElem? (i := 1833) (by decide +kernel)⟩
theorem lw_p86 : lw_okq (⟨"MergeBeltsModel", "number", "(II)I"⟩, 28) := ⟨⟨by decide +kernel, by decide +kernel⟩, List.mem_of_getElem? (i := 1368) (by decide +kernel), List.mem_of_getElem? (i := 1836) (by decide +kernel), List.mem_of_getElem? (i := 1837) (by decide +kernel)⟩
theorem lw_p87 : lw_okq (⟨"MergeBeltsModel", "numberHere", "(II)I"⟩, 28) := ⟨⟨by decide +kernel, by decide +kernel⟩, List.mem_of_getElem? (i := 1368) (by decide +kernel), List.mem_of_getElem? (i := 1840) (by decide +kernel), List.mem_of_getElem? (i := 1841) (by decide +kernel)⟩
theorem lw_p88 : lw_okq (⟨"MergeBeltsModel", "must", "(I)V"⟩, 28) := ⟨⟨by decide +kernel, by decide +kernel⟩, List.mem_of_getElem? (i := 1368) (by decide +kernel), List.mem_of_getElem? (i := 1845) (by decide +kernel), List.mem_of_getElem? (i := 1846) (by decide +kernel)⟩
theorem lw_p89 : lw_okq (⟨"MergeBeltsModel", "isSign", "(I)Z"⟩, 28) := ⟨⟨by decide +kernel, by decide +kernel⟩, List.mem_of_getElem? (i := 1368) (by decide +kernel), List.mem_of_getElem? (i := 1849) (by decide +kernel), List.mem_of_getElem? (i := 1850) (by decide +kernel)⟩
theorem lw_p90 : lw_okq (⟨"MergeBeltsModel", "readLine", "()V"⟩, 28) := ⟨⟨by decide +kernel, by decide +kernel⟩, List.mem_of_getElem? (i := 1368) (by decide +kernel), List.mem_of_getElem? (i := 1853) (by decide +kernel), List.mem_of_getElem? (i := 1854) (by decide +kernel)⟩
theorem lw_p91 : lw_okq (⟨"MergeBeltsModel", "readExit", "()V"⟩, 28) := ⟨⟨by decide +kernel, by decide +kernel⟩, List.mem_of_getElem? (i := 1368) (by decide +kernel), List.mem_of_getElem? (i := 1858) (by decide +kernel), List.mem_of_getElem? (i := 1859) (by decide +kernel)⟩
theorem lw_p92 : lw_okq (⟨"MergeBeltsModel", "ownPlace", "(III)I"⟩, 28) := ⟨⟨by decide +kernel, by decide +kernel⟩, List.mem_of_getElem? (i := 1368) (by decide +kernel), List.mem_of_getElem? (i := 1862) (by decide +kernel), List.mem_of_getElem? (i := 1863) (by decide +kernel)⟩
theorem lw_p93 : lw_okq (⟨"MergeBeltsModel", "readWare", "()V"⟩, 28) := ⟨⟨by decide +kernel, by decide +kernel⟩, List.mem_of_getElem? (i := 1368) (by decide +kernel), List.mem_of_getElem? (i := 1867) (by decide +kernel), List.mem_of_getElem? (i := 1868) (by decide +kernel)⟩
theorem lw_p94 : lw_okq (⟨"MergeBeltsModel", "readSide", "()V"⟩, 28) := ⟨⟨by decide +kernel, by decide +kernel⟩, List.mem_of_getElem? (i := 1368) (by decide +kernel), List.mem_of_getElem? (i := 1873) (by decide +kernel), List.mem_of_getElem? (i := 1874) (by decide +kernel)⟩
theorem lw_p95 : lw_okq (⟨"MergeBeltsModel", "readComing", "()V"⟩, 28) := ⟨⟨by decide +kernel, by decide +kernel⟩, List.mem_of_getElem? (i := 1368) (by decide +kernel), List.mem_of_getElem? (i := 1878) (by decide +kernel), List.mem_of_getElem? (i := 1879) (by decide +kernel)⟩
def lw_privs_6 : List (MethodName × Nat) := [(⟨"MergeBeltsModel", "opens", "(I)V"⟩, 28), (⟨"MergeBeltsModel", "next", "()V"⟩, 28), (⟨"MergeBeltsModel", "byteAt", "(I)I"⟩, 28), (⟨"MergeBeltsModel", "isWord", "(Ljava/lang/String;)Z"⟩, 28), (⟨"MergeBeltsModel", "wrong", "(I)V"⟩, 28), (⟨"MergeBeltsModel", "pass", "()V"⟩, 28), (⟨"MergeBeltsModel", "number", "(II)I"⟩, 28), (⟨"MergeBeltsModel", "numberHere", "(II)I"⟩, 28), (⟨"MergeBeltsModel", "must", "(I)V"⟩, 28), (⟨"MergeBeltsModel", "isSign", "(I)Z"⟩, 28), (⟨"MergeBeltsModel", "readLine", "()V"⟩, 28), (⟨"MergeBeltsModel", "readExit", "()V"⟩, 28), (⟨"MergeBeltsModel", "ownPlace", "(III)I"⟩, 28), (⟨"MergeBeltsModel", "readWare", "()V"⟩, 28), (⟨"MergeBeltsModel", "readSide", "()V"⟩, 28), (⟨"MergeBeltsModel", "readComing", "()V"⟩, 28)]
theorem lw_r6 : ∀ q ∈ lw_privs_6, lw_okq q := List.forall_mem_cons.mpr ⟨lw_p80, List.forall_mem_cons.mpr ⟨lw_p81, List.forall_mem_cons.mpr ⟨lw_p82, List.forall_mem_cons.mpr ⟨lw_p83, List.forall_mem_cons.mpr ⟨lw_p84, List.forall_mem_cons.mpr ⟨lw_p85, List.forall_mem_cons.mpr ⟨lw_p86, List.forall_mem_cons.mpr ⟨lw_p87, List.forall_mem_cons.mpr ⟨lw_p88, List.forall_mem_cons.mpr ⟨lw_p89, List.forall_mem_cons.mpr ⟨lw_p90, List.forall_mem_cons.mpr ⟨lw_p91, List.forall_mem_cons.mpr ⟨lw_p92, List.forall_mem_cons.mpr ⟨lw_p93, List.forall_mem_cons.mpr ⟨lw_p94, List.forall_mem_cons.mpr ⟨lw_p95, fun _ h => absurd h List.not_mem_nil⟩⟩⟩⟩⟩⟩⟩⟩⟩⟩⟩⟩⟩⟩⟩⟩
theorem lw_p96 : lw_okq (⟨"MergeBeltsModel", "readTurns", "()V"⟩, 28) := ⟨⟨by decide +kernel, by decide +kernel⟩, List.mem_of_getElem? (i := 1368) (by decide +kernel), List.mem_of_getElem? (i := 1883) (by decide +kernel), List.mem_of_getElem? (i := 1884) (by decide +kernel)⟩
theorem lw_p97 : lw_okq (⟨"MergeBeltsModel", "readSum", "()V"⟩, 28) := ⟨⟨by decide +kernel, by decide +kernel⟩, List.mem_of_getElem? (i := 1368) (by decide +kernel), List.mem_of_getElem? (i := 1887) (by decide +kernel), List.mem_of_getElem? (i := 1888) (by decide +kernel)⟩
theorem lw_p98 : lw_okq (⟨"MergeBeltsModel", "readTerm", "()V"⟩, 28) := ⟨⟨by decide +kernel, by decide +kernel⟩, List.mem_of_getElem? (i := 1368) (by decide +kernel), List.mem_of_getElem? (i := 1891) (by decide +kernel), List.mem_of_getElem? (i := 1892) (by decide +kernel)⟩
theorem lw_p99 : lw_okq (⟨"MergeBeltsModel", "readPart", "()V"⟩, 28) := ⟨⟨by decide +kernel, by decide +kernel⟩, List.mem_of_getElem? (i := 1368) (by decide +kernel), List.mem_of_getElem? (i := 1895) (by decide +kernel), List.mem_of_getElem? (i := 1896) (by decide +kernel)⟩
theorem lw_p100 : lw_okq (⟨"MergeBeltsModel", "ends", "()I"⟩, 28) := ⟨⟨by decide +kernel, by decide +kernel⟩, List.mem_of_getElem? (i := 1368) (by decide +kernel), List.mem_of_getElem? (i := 1905) (by decide +kernel), List.mem_of_getElem? (i := 1906) (by decide +kernel)⟩
theorem lw_p101 : lw_okq (⟨"MergeBeltsModel", "readQuestion", "(II)Z"⟩, 28) := ⟨⟨by decide +kernel, by decide +kernel⟩, List.mem_of_getElem? (i := 1368) (by decide +kernel), List.mem_of_getElem? (i := 1914) (by decide +kernel), List.mem_of_getElem? (i := 1915) (by decide +kernel)⟩
theorem lw_p102 : lw_okq (⟨"MergeBeltsModel", "readTest", "()Z"⟩, 28) := ⟨⟨by decide +kernel, by decide +kernel⟩, List.mem_of_getElem? (i := 1368) (by decide +kernel), List.mem_of_getElem? (i := 1919) (by decide +kernel), List.mem_of_getElem? (i := 1920) (by decide +kernel)⟩
theorem lw_p103 : lw_okq (⟨"MergeBeltsModel", "readBoth", "()Z"⟩, 28) := ⟨⟨by decide +kernel, by decide +kernel⟩, List.mem_of_getElem? (i := 1368) (by decide +kernel), List.mem_of_getElem? (i := 1923) (by decide +kernel), List.mem_of_getElem? (i := 1924) (by decide +kernel)⟩
theorem lw_p104 : lw_okq (⟨"MergeBeltsModel", "readFact", "()Z"⟩, 28) := ⟨⟨by decide +kernel, by decide +kernel⟩, List.mem_of_getElem? (i := 1368) (by decide +kernel), List.mem_of_getElem? (i := 1927) (by decide +kernel), List.mem_of_getElem? (i := 1928) (by decide +kernel)⟩
theorem lw_p105 : lw_okq (⟨"MergeBeltsModel", "goesIn", "()V"⟩, 28) := ⟨⟨by decide +kernel, by decide +kernel⟩, List.mem_of_getElem? (i := 1368) (by decide +kernel), List.mem_of_getElem? (i := 1932) (by decide +kernel), List.mem_of_getElem? (i := 1933) (by decide +kernel)⟩
theorem lw_p106 : lw_okq (⟨"MergeBeltsModel", "readValue", "()I"⟩, 28) := ⟨⟨by decide +kernel, by decide +kernel⟩, List.mem_of_getElem? (i := 1368) (by decide +kernel), List.mem_of_getElem? (i := 1936) (by decide +kernel), List.mem_of_getElem? (i := 1937) (by decide +kernel)⟩
theorem lw_p107 : lw_okq (⟨"MergeBeltsModel", "atOf", "(III)I"⟩, 28) := ⟨⟨by decide +kernel, by decide +kernel⟩, List.mem_of_getElem? (i := 1368) (by decide +kernel), List.mem_of_getElem? (i := 1944) (by decide +kernel), List.mem_of_getElem? (i := 1945) (by decide +kernel)⟩
def lw_privs_7 : List (MethodName × Nat) := [(⟨"MergeBeltsModel", "readTurns", "()V"⟩, 28), (⟨"MergeBeltsModel", "readSum", "()V"⟩, 28), (⟨"MergeBeltsModel", "readTerm", "()V"⟩, 28), (⟨"MergeBeltsModel", "readPart", "()V"⟩, 28), (⟨"MergeBeltsModel", "ends", "()I"⟩, 28), (⟨"MergeBeltsModel", "readQuestion", "(II)Z"⟩, 28), (⟨"MergeBeltsModel", "readTest", "()Z"⟩, 28), (⟨"MergeBeltsModel", "readBoth", "()Z"⟩, 28), (⟨"MergeBeltsModel", "readFact", "()Z"⟩, 28), (⟨"MergeBeltsModel", "goesIn", "()V"⟩, 28), (⟨"MergeBeltsModel", "readValue", "()I"⟩, 28), (⟨"MergeBeltsModel", "atOf", "(III)I"⟩, 28)]
theorem lw_r7 : ∀ q ∈ lw_privs_7, lw_okq q := List.forall_mem_cons.mpr ⟨lw_p96, List.forall_mem_cons.mpr ⟨lw_p97, List.forall_mem_cons.mpr ⟨lw_p98, List.forall_mem_cons.mpr ⟨lw_p99, List.forall_mem_cons.mpr ⟨lw_p100, List.forall_mem_cons.mpr ⟨lw_p101, List.forall_mem_cons.mpr ⟨lw_p102, List.forall_mem_cons.mpr ⟨lw_p103, List.forall_mem_cons.mpr ⟨lw_p104, List.forall_mem_cons.mpr ⟨lw_p105, List.forall_mem_cons.mpr ⟨lw_p106, List.forall_mem_cons.mpr ⟨lw_p107, fun _ h => absurd h List.not_mem_nil⟩⟩⟩⟩⟩⟩⟩⟩⟩⟩⟩⟩
def lw_privs : List (MethodName × Nat) := lw_privs_1 ++ (lw_privs_2 ++ (lw_privs_3 ++ (lw_privs_4 ++ (lw_privs_5 ++ (lw_privs_6 ++ (lw_privs_7))))))
def lw_tbl : List Cond := k2_sels lw_privs ++ tables_1
theorem lw_privs_ok : ∀ q ∈ lw_privs, lw_okq q := by
  show ∀ q ∈ lw_privs_1 ++ (lw_privs_2 ++ (lw_privs_3 ++ (lw_privs_4 ++ (lw_privs_5 ++ (lw_privs_6 ++ (lw_privs_7)))))), lw_okq q
  exact List.forall_mem_append.mpr ⟨lw_r1, List.forall_mem_append.mpr ⟨lw_r2, List.forall_mem_append.mpr ⟨lw_r3, List.forall_mem_append.mpr ⟨lw_r4, List.forall_mem_append.mpr ⟨lw_r5, List.forall_mem_append.mpr ⟨lw_r6, lw_r7⟩⟩⟩⟩⟩⟩
end
section
def RX0 : String := "MergeBelts$Acts"
def TX0 : u_T := fun k => match k with
  | 0 => ("MergeBelts$Acts", "before", "[LMergeBelts$State;", true)
  | 1 => ("MergeBelts$Acts", "next", "I", false)
  | _ => ("MergeBelts$Acts", "size", "I", false)
def tyX0 : Nat → FieldType := fun k => match k with
  | 0 => .array (.object "MergeBelts$State")
  | 1 => .int
  | _ => .int
theorem nmX0 : ∀ a, a < 3 → ∀ b, b < 3 → a ≠ b → (TX0 a).2.1 ≠ (TX0 b).2.1 := by decide +kernel
theorem tyX0_ok : ∀ k, k < 3 → parseFieldDescriptor (TX0 k).2.2.1 = some (tyX0 k) := by decide +kernel
def RX1 : String := "MergeBelts$BeltText"
def TX1 : u_T := fun k => match k with
  | _ => ("MergeBelts$BeltText", "plan", "LMergeBelts$Plan;", true)
def tyX1 : Nat → FieldType := fun k => match k with
  | _ => .object "MergeBelts$Plan"
theorem nmX1 : ∀ a, a < 1 → ∀ b, b < 1 → a ≠ b → (TX1 a).2.1 ≠ (TX1 b).2.1 := by decide +kernel
theorem tyX1_ok : ∀ k, k < 1 → parseFieldDescriptor (TX1 k).2.2.1 = some (tyX1 k) := by decide +kernel
def RX2 : String := "MergeBelts$Formula"
def TX2 : u_T := fun k => match k with
  | 0 => ("MergeBelts$Formula", "parts", "LMergeBelts$Row;", true)
  | 1 => ("MergeBelts$Formula", "code", "LMergeBelts$Row;", true)
  | 2 => ("MergeBelts$Formula", "size", "I", false)
  | 3 => ("MergeBelts$Formula", "waitingOperators", "LMergeBelts$Row;", true)
  | 4 => ("MergeBelts$Formula", "waitingSize", "I", false)
  | _ => ("MergeBelts$Formula", "stack", "LMergeBelts$Row;", true)
def tyX2 : Nat → FieldType := fun k => match k with
  | 0 => .object "MergeBelts$Row"
  | 1 => .object "MergeBelts$Row"
  | 2 => .int
  | 3 => .object "MergeBelts$Row"
  | 4 => .int
  | _ => .object "MergeBelts$Row"
theorem nmX2 : ∀ a, a < 6 → ∀ b, b < 6 → a ≠ b → (TX2 a).2.1 ≠ (TX2 b).2.1 := by decide +kernel
theorem tyX2_ok : ∀ k, k < 6 → parseFieldDescriptor (TX2 k).2.2.1 = some (tyX2 k) := by decide +kernel
def RX3 : String := "MergeBelts$Log"
def TX3 : u_T := fun k => match k with
  | 0 => ("MergeBelts$Log", "cells", "LMergeBelts$Row;", true)
  | 1 => ("MergeBelts$Log", "next", "I", false)
  | _ => ("MergeBelts$Log", "size", "I", false)
def tyX3 : Nat → FieldType := fun k => match k with
  | 0 => .object "MergeBelts$Row"
  | 1 => .int
  | _ => .int
theorem nmX3 : ∀ a, a < 3 → ∀ b, b < 3 → a ≠ b → (TX3 a).2.1 ≠ (TX3 b).2.1 := by decide +kernel
theorem tyX3_ok : ∀ k, k < 3 → parseFieldDescriptor (TX3 k).2.2.1 = some (tyX3 k) := by decide +kernel
def RX4 : String := "MergeBelts$Plan"
def TX4 : u_T := fun k => match k with
  | 0 => ("MergeBelts$Plan", "places", "I", false)
  | 1 => ("MergeBelts$Plan", "exits", "I", false)
  | 2 => ("MergeBelts$Plan", "exitPlace", "LMergeBelts$Row;", true)
  | 3 => ("MergeBelts$Plan", "exitPace", "LMergeBelts$Row;", true)
  | 4 => ("MergeBelts$Plan", "wares", "I", false)
  | 5 => ("MergeBelts$Plan", "wareExit", "LMergeBelts$Row;", true)
  | 6 => ("MergeBelts$Plan", "wareUrgent", "LMergeBelts$Row;", true)
  | 7 => ("MergeBelts$Plan", "sides", "I", false)
  | 8 => ("MergeBelts$Plan", "sidePlace", "LMergeBelts$Row;", true)
  | 9 => ("MergeBelts$Plan", "sideRoom", "LMergeBelts$Row;", true)
  | 10 => ("MergeBelts$Plan", "sideReach", "LMergeBelts$Row;", true)
  | 11 => ("MergeBelts$Plan", "sideShare", "LMergeBelts$Row;", true)
  | 12 => ("MergeBelts$Plan", "comings", "I", false)
  | 13 => ("MergeBelts$Plan", "comingSide", "LMergeBelts$Row;", true)
  | 14 => ("MergeBelts$Plan", "comingWare", "LMergeBelts$Row;", true)
  | 15 => ("MergeBelts$Plan", "comingEvery", "LMergeBelts$Row;", true)
  | 16 => ("MergeBelts$Plan", "comingFrom", "LMergeBelts$Row;", true)
  | 17 => ("MergeBelts$Plan", "hasTurns", "Z", false)
  | _ => ("MergeBelts$Plan", "law", "LMergeBelts$Formula;", true)
def tyX4 : Nat → FieldType := fun k => match k with
  | 0 => .int
  | 1 => .int
  | 2 => .object "MergeBelts$Row"
  | 3 => .object "MergeBelts$Row"
  | 4 => .int
  | 5 => .object "MergeBelts$Row"
  | 6 => .object "MergeBelts$Row"
  | 7 => .int
  | 8 => .object "MergeBelts$Row"
  | 9 => .object "MergeBelts$Row"
  | 10 => .object "MergeBelts$Row"
  | 11 => .object "MergeBelts$Row"
  | 12 => .int
  | 13 => .object "MergeBelts$Row"
  | 14 => .object "MergeBelts$Row"
  | 15 => .object "MergeBelts$Row"
  | 16 => .object "MergeBelts$Row"
  | 17 => .boolean
  | _ => .object "MergeBelts$Formula"
theorem nmX4 : ∀ a, a < 19 → ∀ b, b < 19 → a ≠ b → (TX4 a).2.1 ≠ (TX4 b).2.1 := by decide +kernel
theorem tyX4_ok : ∀ k, k < 19 → parseFieldDescriptor (TX4 k).2.2.1 = some (tyX4 k) := by decide +kernel
def RX5 : String := "MergeBelts$Question"
def TX5 : u_T := fun k => match k with
  | 0 => ("MergeBelts$Question", "test", "LMergeBelts$Formula;", true)
  | 1 => ("MergeBelts$Question", "many", "Z", false)
  | 2 => ("MergeBelts$Question", "braces", "I", false)
  | _ => ("MergeBelts$Question", "nots", "I", false)
def tyX5 : Nat → FieldType := fun k => match k with
  | 0 => .object "MergeBelts$Formula"
  | 1 => .boolean
  | 2 => .int
  | _ => .int
theorem nmX5 : ∀ a, a < 4 → ∀ b, b < 4 → a ≠ b → (TX5 a).2.1 ≠ (TX5 b).2.1 := by decide +kernel
theorem tyX5_ok : ∀ k, k < 4 → parseFieldDescriptor (TX5 k).2.2.1 = some (tyX5 k) := by decide +kernel
def RX6 : String := "MergeBelts$Queues"
def TX6 : u_T := fun k => match k with
  | 0 => ("MergeBelts$Queues", "ware", "LMergeBelts$Row;", true)
  | 1 => ("MergeBelts$Queues", "came", "LMergeBelts$Row;", true)
  | _ => ("MergeBelts$Queues", "size", "LMergeBelts$Row;", true)
def tyX6 : Nat → FieldType := fun k => match k with
  | 0 => .object "MergeBelts$Row"
  | 1 => .object "MergeBelts$Row"
  | _ => .object "MergeBelts$Row"
theorem nmX6 : ∀ a, a < 3 → ∀ b, b < 3 → a ≠ b → (TX6 a).2.1 ≠ (TX6 b).2.1 := by decide +kernel
theorem tyX6_ok : ∀ k, k < 3 → parseFieldDescriptor (TX6 k).2.2.1 = some (tyX6 k) := by decide +kernel
def RX7 : String := "MergeBelts$Ring"
def TX7 : u_T := fun k => match k with
  | 0 => ("MergeBelts$Ring", "ware", "LMergeBelts$Row;", true)
  | 1 => ("MergeBelts$Ring", "from", "LMergeBelts$Row;", true)
  | 2 => ("MergeBelts$Ring", "rounds", "LMergeBelts$Row;", true)
  | 3 => ("MergeBelts$Ring", "went", "LMergeBelts$Row;", true)
  | 4 => ("MergeBelts$Ring", "waited", "LMergeBelts$Row;", true)
  | 5 => ("MergeBelts$Ring", "heldFor", "LMergeBelts$Row;", true)
  | 6 => ("MergeBelts$Ring", "size", "I", false)
  | _ => ("MergeBelts$Ring", "turned", "I", false)
def tyX7 : Nat → FieldType := fun k => match k with
  | 0 => .object "MergeBelts$Row"
  | 1 => .object "MergeBelts$Row"
  | 2 => .object "MergeBelts$Row"
  | 3 => .object "MergeBelts$Row"
  | 4 => .object "MergeBelts$Row"
  | 5 => .object "MergeBelts$Row"
  | 6 => .int
  | _ => .int
theorem nmX7 : ∀ a, a < 8 → ∀ b, b < 8 → a ≠ b → (TX7 a).2.1 ≠ (TX7 b).2.1 := by decide +kernel
theorem tyX7_ok : ∀ k, k < 8 → parseFieldDescriptor (TX7 k).2.2.1 = some (tyX7 k) := by decide +kernel
def RX8 : String := "MergeBelts$Row"
def TX8 : u_T := fun k => match k with
  | _ => ("MergeBelts$Row", "cells", "[I", true)
def tyX8 : Nat → FieldType := fun k => match k with
  | _ => .array .int
theorem nmX8 : ∀ a, a < 1 → ∀ b, b < 1 → a ≠ b → (TX8 a).2.1 ≠ (TX8 b).2.1 := by decide +kernel
theorem tyX8_ok : ∀ k, k < 1 → parseFieldDescriptor (TX8 k).2.2.1 = some (tyX8 k) := by decide +kernel
def RX9 : String := "MergeBelts$State"
def TX9 : u_T := fun k => match k with
  | 0 => ("MergeBelts$State", "tick", "I", false)
  | 1 => ("MergeBelts$State", "ring", "LMergeBelts$Ring;", true)
  | 2 => ("MergeBelts$State", "queues", "LMergeBelts$Queues;", true)
  | 3 => ("MergeBelts$State", "room", "LMergeBelts$Row;", true)
  | 4 => ("MergeBelts$State", "reach", "LMergeBelts$Row;", true)
  | 5 => ("MergeBelts$State", "share", "LMergeBelts$Row;", true)
  | 6 => ("MergeBelts$State", "credit", "LMergeBelts$Row;", true)
  | 7 => ("MergeBelts$State", "held", "LMergeBelts$Row;", true)
  | 8 => ("MergeBelts$State", "gone", "LMergeBelts$Row;", true)
  | 9 => ("MergeBelts$State", "sideTaken", "LMergeBelts$Row;", true)
  | 10 => ("MergeBelts$State", "lost", "LMergeBelts$Row;", true)
  | 11 => ("MergeBelts$State", "longestWait", "LMergeBelts$Row;", true)
  | 12 => ("MergeBelts$State", "mayTake", "LMergeBelts$Row;", true)
  | 13 => ("MergeBelts$State", "shutFor", "LMergeBelts$Row;", true)
  | 14 => ("MergeBelts$State", "exitTaken", "LMergeBelts$Row;", true)
  | 15 => ("MergeBelts$State", "wareTaken", "LMergeBelts$Row;", true)
  | 16 => ("MergeBelts$State", "log", "LMergeBelts$Log;", true)
  | _ => ("MergeBelts$State", "silent", "I", false)
def tyX9 : Nat → FieldType := fun k => match k with
  | 0 => .int
  | 1 => .object "MergeBelts$Ring"
  | 2 => .object "MergeBelts$Queues"
  | 3 => .object "MergeBelts$Row"
  | 4 => .object "MergeBelts$Row"
  | 5 => .object "MergeBelts$Row"
  | 6 => .object "MergeBelts$Row"
  | 7 => .object "MergeBelts$Row"
  | 8 => .object "MergeBelts$Row"
  | 9 => .object "MergeBelts$Row"
  | 10 => .object "MergeBelts$Row"
  | 11 => .object "MergeBelts$Row"
  | 12 => .object "MergeBelts$Row"
  | 13 => .object "MergeBelts$Row"
  | 14 => .object "MergeBelts$Row"
  | 15 => .object "MergeBelts$Row"
  | 16 => .object "MergeBelts$Log"
  | _ => .int
theorem nmX9 : ∀ a, a < 18 → ∀ b, b < 18 → a ≠ b → (TX9 a).2.1 ≠ (TX9 b).2.1 := by decide +kernel
theorem tyX9_ok : ∀ k, k < 18 → parseFieldDescriptor (TX9 k).2.2.1 = some (tyX9 k) := by decide +kernel
def RX10 : String := "MergeBelts$Tape"
def TX10 : u_T := fun k => match k with
  | 0 => ("MergeBelts$Tape", "bytes", "LMergeBelts$Row;", true)
  | 1 => ("MergeBelts$Tape", "size", "I", false)
  | 2 => ("MergeBelts$Tape", "length", "I", false)
  | 3 => ("MergeBelts$Tape", "kind", "I", false)
  | 4 => ("MergeBelts$Tape", "start", "I", false)
  | 5 => ("MergeBelts$Tape", "end", "I", false)
  | 6 => ("MergeBelts$Tape", "faultKind", "I", false)
  | _ => ("MergeBelts$Tape", "faultPlace", "I", false)
def tyX10 : Nat → FieldType := fun k => match k with
  | 0 => .object "MergeBelts$Row"
  | 1 => .int
  | 2 => .int
  | 3 => .int
  | 4 => .int
  | 5 => .int
  | 6 => .int
  | _ => .int
theorem nmX10 : ∀ a, a < 8 → ∀ b, b < 8 → a ≠ b → (TX10 a).2.1 ≠ (TX10 b).2.1 := by decide +kernel
theorem tyX10_ok : ∀ k, k < 8 → parseFieldDescriptor (TX10 k).2.2.1 = some (tyX10 k) := by decide +kernel
def RX11 : String := "MergeBelts"
def TX11 : u_T := fun k => match k with
  | 0 => ("MergeBelts", "tape", "LMergeBelts$Tape;", true)
  | 1 => ("MergeBelts", "beltText", "LMergeBelts$BeltText;", true)
  | 2 => ("MergeBelts", "question", "LMergeBelts$Question;", true)
  | 3 => ("MergeBelts", "plan", "LMergeBelts$Plan;", true)
  | 4 => ("MergeBelts", "now", "LMergeBelts$State;", true)
  | 5 => ("MergeBelts", "acts", "LMergeBelts$Acts;", true)
  | 6 => ("MergeBelts", "earlier", "LMergeBelts$State;", true)
  | 7 => ("MergeBelts", "later", "LMergeBelts$State;", true)
  | 8 => ("MergeBelts", "keptPlan", "LMergeBelts$Plan;", true)
  | 9 => ("MergeBelts", "keptState", "LMergeBelts$State;", true)
  | 10 => ("MergeBelts", "kept", "Z", false)
  | _ => ("MergeBelts", "faultPlace", "I", false)
def tyX11 : Nat → FieldType := fun k => match k with
  | 0 => .object "MergeBelts$Tape"
  | 1 => .object "MergeBelts$BeltText"
  | 2 => .object "MergeBelts$Question"
  | 3 => .object "MergeBelts$Plan"
  | 4 => .object "MergeBelts$State"
  | 5 => .object "MergeBelts$Acts"
  | 6 => .object "MergeBelts$State"
  | 7 => .object "MergeBelts$State"
  | 8 => .object "MergeBelts$Plan"
  | 9 => .object "MergeBelts$State"
  | 10 => .boolean
  | _ => .int
theorem nmX11 : ∀ a, a < 12 → ∀ b, b < 12 → a ≠ b → (TX11 a).2.1 ≠ (TX11 b).2.1 := by decide +kernel
theorem tyX11_ok : ∀ k, k < 12 → parseFieldDescriptor (TX11 k).2.2.1 = some (tyX11 k) := by decide +kernel
def RX12 : String := "MergeBeltsModel"
def TX12 : u_T := fun k => match k with
  | 0 => ("MergeBeltsModel", "row", "[I", true)
  | 1 => ("MergeBeltsModel", "read", "[I", true)
  | 2 => ("MergeBeltsModel", "aside", "[I", true)
  | 3 => ("MergeBeltsModel", "image", "[I", true)
  | 4 => ("MergeBeltsModel", "past", "[I", true)
  | 5 => ("MergeBeltsModel", "hasImage", "Z", false)
  | 6 => ("MergeBeltsModel", "acts", "I", false)
  | 7 => ("MergeBeltsModel", "code", "I", false)
  | 8 => ("MergeBeltsModel", "off", "I", false)
  | 9 => ("MergeBeltsModel", "carried", "[I", true)
  | 10 => ("MergeBeltsModel", "turnAt", "I", false)
  | 11 => ("MergeBeltsModel", "turnSide", "I", false)
  | 12 => ("MergeBeltsModel", "moments", "[I", true)
  | 13 => ("MergeBeltsModel", "written", "I", false)
  | 14 => ("MergeBeltsModel", "againAt", "I", false)
  | 15 => ("MergeBeltsModel", "againBy", "I", false)
  | 16 => ("MergeBeltsModel", "tape", "[I", true)
  | 17 => ("MergeBeltsModel", "taped", "I", false)
  | 18 => ("MergeBeltsModel", "size", "I", false)
  | 19 => ("MergeBeltsModel", "at", "I", false)
  | 20 => ("MergeBeltsModel", "token", "I", false)
  | 21 => ("MergeBeltsModel", "begins", "I", false)
  | 22 => ("MergeBeltsModel", "stops", "I", false)
  | 23 => ("MergeBeltsModel", "bad", "I", false)
  | 24 => ("MergeBeltsModel", "badPlace", "I", false)
  | 25 => ("MergeBeltsModel", "faultPlace", "I", false)
  | 26 => ("MergeBeltsModel", "open", "I", false)
  | _ => ("MergeBeltsModel", "asked", "I", false)
def tyX12 : Nat → FieldType := fun k => match k with
  | 0 => .array .int
  | 1 => .array .int
  | 2 => .array .int
  | 3 => .array .int
  | 4 => .array .int
  | 5 => .boolean
  | 6 => .int
  | 7 => .int
  | 8 => .int
  | 9 => .array .int
  | 10 => .int
  | 11 => .int
  | 12 => .array .int
  | 13 => .int
  | 14 => .int
  | 15 => .int
  | 16 => .array .int
  | 17 => .int
  | 18 => .int
  | 19 => .int
  | 20 => .int
  | 21 => .int
  | 22 => .int
  | 23 => .int
  | 24 => .int
  | 25 => .int
  | 26 => .int
  | _ => .int
theorem nmX12 : ∀ a, a < 28 → ∀ b, b < 28 → a ≠ b → (TX12 a).2.1 ≠ (TX12 b).2.1 := by decide +kernel
theorem tyX12_ok : ∀ k, k < 28 → parseFieldDescriptor (TX12 k).2.2.1 = some (tyX12 k) := by decide +kernel
abbrev vwCl : List vw_C := [(RX0, TX0, 3), (RX1, TX1, 1), (RX2, TX2, 6), (RX3, TX3, 3), (RX4, TX4, 19), (RX5, TX5, 4), (RX6, TX6, 3), (RX7, TX7, 8), (RX8, TX8, 1), (RX9, TX9, 18), (RX10, TX10, 8), (RX11, TX11, 12), (RX12, TX12, 28)]
end
section
/-! A small machine over numbers: values, memory, one step, runs. -/
abbrev PV : Type := Int32 ⊕ (Int64 ⊕ (Nat × Nat))
abbrev pI (x : Int32) : PV := Sum.inl x
abbrev pL (x : Int64) : PV := Sum.inr (Sum.inl x)
abbrev pR (c a : Nat) : PV := Sum.inr (Sum.inr (c, a))
abbrev p0 : PV := pR 0 0
abbrev Mem : Type := Nat → Nat → Int32
/-- out, our cells, cells, cells and slots of this frame, the length of the script -/
abbrev PX : Type := Int64 × Nat × Nat × Nat × Nat × Nat
abbrev PO : Type := (Option PV) ⊕ Nat
abbrev PRs : Type := PO × Mem × PX
/-- pc, instruction, length, target, constant -/
abbrev PE : Type := Nat × Instr × Nat × Nat × Int32
def upM (M : Mem) (a k : Nat) (v : Int32) : Mem := fun a' k' => if a' = a ∧ k' = k then v else M a' k'
def nlM (M : Mem) (a : Nat) : Mem := fun a' k' => if a' = a then 0 else M a' k'
def cpM (M : Mem) (s sp d dp n : Nat) : Mem := fun a' k' => if a' = d ∧ dp ≤ k' ∧ k' < dp + n then M s (sp + (k' - dp)) else M a' k'
def nth : List PV → Nat → PV
  | [], _ => p0
  | v :: _, 0 => v
  | _ :: l, n + 1 => nth l n
def pset : List PV → Nat → PV → List PV
  | [], _, _ => []
  | _ :: l, 0, w => w :: l
  | v :: l, n + 1, w => v :: pset l n w
def plen : List PV → Nat
  | [] => 0
  | _ :: l => plen l + 1
def kll (ls : List PV) : Nat → List PV
  | 0 => ls
  | j + 1 => match nth ls j with
    | .inr (.inl _) => pset ls j p0
    | _ => ls
def st1 (ls : List PV) (i : Nat) (v : PV) : List PV := pset (kll ls i) i v
def st2 (ls : List PV) (i : Nat) (v : PV) : List PV := pset (pset (kll ls i) i v) (i + 1) p0
def inB (i : Int32) (n : Nat) : Bool := !(decide (i < 0) || decide (n ≤ i.toNatClampNeg))
/-- what an answer of a small kind may be: 1 boolean, 2 char, 3 byte, else int -/
def rOK (t : Nat) (x : Int32) : Bool := match t with
  | 1 => decide (x = 0) || decide (x = 1)
  | 2 => decide ((x.toUInt32 % 65536).toInt32 = x)
  | 3 => decide (x.toInt8.toInt32 = x)
  | _ => true
def lkp {α : Type} : List (Nat × α) → Nat → Option α
  | [], _ => none
  | e :: l, k => bif Nat.beq e.1 k then some e.2 else lkp l k
theorem lkp_mem {α : Type} : ∀ {l : List (Nat × α)} {k : Nat} {e : α}, lkp l k = some e → (k, e) ∈ l
  | [], _, _, h => by simp [lkp] at h
  | (a, b) :: l, k, e, h => by
    unfold lkp at h
    cases hb : Nat.beq a k with
    | true =>
      rw [hb] at h
      have : a = k := Nat.eq_of_beq_eq_true hb
      subst this
      simp only [cond_true, Option.some.injEq] at h
      subst h
      exact List.mem_cons_self
    | false =>
      rw [hb] at h
      exact List.mem_cons_of_mem _ (lkp_mem h)
/-- the arguments, the last on top, off the stack -/
def popn : Nat → List PV → List PV → Option (List PV × List PV)
  | 0, acc, st => some (acc, st)
  | _ + 1, _, [] => none
  | n + 1, acc, v :: st => popn n (v :: acc) st
def expd : List PV → List PV
  | [] => []
  | .inr (.inl x) :: l => .inr (.inl x) :: p0 :: expd l
  | .inl x :: l => .inl x :: expd l
  | .inr (.inr x) :: l => .inr (.inr x) :: expd l
def padl : Nat → List PV → List PV
  | 0, l => l
  | n + 1, [] => p0 :: padl n []
  | n + 1, v :: l => v :: padl n l
def sw {β : Type} (K : Nat → β) (x : Int32) (d : Nat) : List (Int32 × Nat) → β
  | [] => K d
  | (v, t) :: r => if x = v then K t else sw K x d r
def cnd {β : Type} (c : ClassFile.Cond) (x y : Int32) (A B : β) : β := match c with
  | .eq => if x = y then A else B
  | .ne => if x = y then B else A
  | .lt => if x < y then A else B
  | .ge => if x < y then B else A
  | .gt => if y < x then A else B
  | .le => if y < x then B else A
abbrev KT : Type := Nat → List PV → List PV → Mem → PX → Option PRs
def u1 {β : Type} (st : List PV) (f : Int32 → List PV → Option β) : Option β := match st with
  | .inl x :: r => f x r
  | _ => none
def u2 {β : Type} (st : List PV) (f : Int32 → Int32 → List PV → Option β) : Option β := match st with
  | .inl y :: .inl x :: r => f x y r
  | _ => none
def ul1 {β : Type} (st : List PV) (f : Int64 → List PV → Option β) : Option β := match st with
  | .inr (.inl x) :: r => f x r
  | _ => none
def ul2 {β : Type} (st : List PV) (f : Int64 → Int64 → List PV → Option β) : Option β := match st with
  | .inr (.inl y) :: .inr (.inl x) :: r => f x y r
  | _ => none
def ur1 {β : Type} (st : List PV) (f : Nat → Nat → List PV → Option β) : Option β := match st with
  | .inr (.inr (c, a)) :: r => f c a r
  | _ => none
/-- an int above a reference -/
def uir {β : Type} (st : List PV) (f : Nat → Nat → Int32 → List PV → Option β) : Option β := match st with
  | .inl x :: .inr (.inr (c, a)) :: r => f c a x r
  | _ => none
def uiir {β : Type} (st : List PV) (f : Nat → Nat → Int32 → Int32 → List PV → Option β) : Option β := match st with
  | .inl v :: .inl i :: .inr (.inr (c, a)) :: r => f c a i v r
  | _ => none
def ulir {β : Type} (st : List PV) (f : Nat → Nat → Int32 → Int64 → List PV → Option β) : Option β := match st with
  | .inr (.inl v) :: .inl i :: .inr (.inr (c, a)) :: r => f c a i v r
  | _ => none
def urir {β : Type} (st : List PV) (f : Nat → Nat → Int32 → Nat → Nat → List PV → Option β) : Option β := match st with
  | .inr (.inr (d, b)) :: .inl i :: .inr (.inr (c, a)) :: r => f c a i d b r
  | _ => none
def urr {β : Type} (st : List PV) (f : Nat → Nat → Nat → Nat → List PV → Option β) : Option β := match st with
  | .inr (.inr (d, b)) :: .inr (.inr (c, a)) :: r => f c a d b r
  | _ => none
def ucp {β : Type} (st : List PV) (f : Nat → Nat → Int32 → Nat → Nat → Int32 → Int32 → List PV → Option β) : Option β := match st with
  | .inl n :: .inl dp :: .inr (.inr (d, b)) :: .inl sp :: .inr (.inr (c, a)) :: r => f c a sp d b dp n r
  | _ => none
def utop {β : Type} (st : List PV) (f : PV → List PV → Option β) : Option β := match st with
  | .inl x :: r => f (.inl x) r
  | .inr (.inr q) :: r => f (.inr (.inr q)) r
  | _ => none
def ue {β : Type} (st : List PV) (b : Option β) : Option β := match st with
  | [] => b
  | _ => none
/-- words of a stack -/
def wg : List PV → Nat
  | [] => 0
  | .inl _ :: l => wg l + 1
  | .inr (.inl _) :: l => wg l + 2
  | .inr (.inr _) :: l => wg l + 1
end
section
/-! tables, by program out of the claim's class files: methods, pools, layout -/
def P_MB_fault : List PE := [(0, .aload_n 0, 1, 0, 0), (1, .getfield 63, 3, 0, 0), (4, .ireturn, 1, 0, 0)]
def P_MB_isIn : List PE := [(0, .iload_n 0, 1, 0, 0), (1, .ifCond .lt 12, 3, 13, 0), (4, .iload_n 0, 1, 0, 0), (5, .iload_n 1, 1, 0, 0), (6, .if_icmp .ge 7, 3, 13, 0), (9, .iconst 1, 1, 0, 1), (10, .goto 4, 3, 14, 0), (13, .iconst 0, 1, 0, 0), (14, .ireturn, 1, 0, 0)]
def P_MB_mayBecome : List PE := [(0, .iload_n 1, 1, 0, 0), (1, .lookupswitch 65 #[(0, 27), (1, 44)], 27, 66, 0), (28, .iload_n 2, 1, 0, 0), (29, .iconst 1, 1, 0, 1), (30, .if_icmp .lt 13, 3, 43, 0), (33, .iload_n 2, 1, 0, 0), (34, .bipush 20, 2, 0, 20), (36, .if_icmp .gt 7, 3, 43, 0), (39, .iconst 1, 1, 0, 1), (40, .goto 4, 3, 44, 0), (43, .iconst 0, 1, 0, 0), (44, .ireturn, 1, 0, 0), (45, .iload_n 2, 1, 0, 0), (46, .ifCond .lt 18, 3, 64, 0), (49, .iload_n 2, 1, 0, 0), (50, .aload_n 0, 1, 0, 0), (51, .getfield 33, 3, 0, 0), (54, .getfield 67, 3, 0, 0), (57, .if_icmp .ge 7, 3, 64, 0), (60, .iconst 1, 1, 0, 1), (61, .goto 4, 3, 65, 0), (64, .iconst 0, 1, 0, 0), (65, .ireturn, 1, 0, 0), (66, .iload_n 2, 1, 0, 0), (67, .iconst 1, 1, 0, 1), (68, .if_icmp .lt 13, 3, 81, 0), (71, .iload_n 2, 1, 0, 0), (72, .bipush 9, 2, 0, 9), (74, .if_icmp .gt 7, 3, 81, 0), (77, .iconst 1, 1, 0, 1), (78, .goto 4, 3, 82, 0), (81, .iconst 0, 1, 0, 0), (82, .ireturn, 1, 0, 0)]
def P_MB_commonDivisor : List PE := [(0, .lload_n 0, 1, 0, 0), (1, .lstore 4, 2, 0, 0), (3, .lload_n 2, 1, 0, 0), (4, .lstore 6, 2, 0, 0), (6, .iconst 0, 1, 0, 0), (7, .istore 8, 2, 0, 0), (9, .iload 8, 2, 0, 0), (11, .sipush 200, 3, 0, 200), (14, .if_icmp .ge 31, 3, 45, 0), (17, .lload 6, 2, 0, 0), (19, .lconst 0, 1, 0, 0), (20, .lcmp, 1, 0, 0), (21, .ifCond .eq 24, 3, 45, 0), (24, .lload 4, 2, 0, 0), (26, .lload 6, 2, 0, 0), (28, .lrem, 1, 0, 0), (29, .lstore 9, 2, 0, 0), (31, .lload 6, 2, 0, 0), (33, .lstore 4, 2, 0, 0), (35, .lload 9, 2, 0, 0), (37, .lstore 6, 2, 0, 0), (39, .iinc 8 1, 3, 0, 1), (42, .goto (-33), 3, 9, 0), (45, .lload 4, 2, 0, 0), (47, .lreturn, 1, 0, 0)]
def P_Tape_kindOf : List PE := [(0, .iload_n 0, 1, 0, 0), (1, .bipush 97, 2, 0, 97), (3, .if_icmp .lt 11, 3, 14, 0), (6, .iload_n 0, 1, 0, 0), (7, .bipush 122, 2, 0, 122), (9, .if_icmp .gt 5, 3, 14, 0), (12, .iconst 1, 1, 0, 1), (13, .ireturn, 1, 0, 0), (14, .iload_n 0, 1, 0, 0), (15, .bipush 48, 2, 0, 48), (17, .if_icmp .lt 13, 3, 30, 0), (20, .iload_n 0, 1, 0, 0), (21, .bipush 57, 2, 0, 57), (23, .if_icmp .gt 7, 3, 30, 0), (26, .iconst 2, 1, 0, 2), (27, .goto 4, 3, 31, 0), (30, .iconst 3, 1, 0, 3), (31, .ireturn, 1, 0, 0)]
def P_Tape_fail : List PE := [(0, .aload_n 0, 1, 0, 0), (1, .getfield 37, 3, 0, 0), (4, .ifCond .ne 16, 3, 20, 0), (7, .aload_n 0, 1, 0, 0), (8, .iload_n 1, 1, 0, 0), (9, .putfield 37, 3, 0, 0), (12, .aload_n 0, 1, 0, 0), (13, .aload_n 0, 1, 0, 0), (14, .getfield 43, 3, 0, 0), (17, .putfield 20, 3, 0, 0), (20, .iconst 0, 1, 0, 0), (21, .ireturn, 1, 0, 0)]
def P_Tape_isFine : List PE := [(0, .aload_n 0, 1, 0, 0), (1, .getfield 37, 3, 0, 0), (4, .ifCond .ne 7, 3, 11, 0), (7, .iconst 1, 1, 0, 1), (8, .goto 4, 3, 12, 0), (11, .iconst 0, 1, 0, 0), (12, .ireturn, 1, 0, 0)]
def P_Tape_isAtEnd : List PE := [(0, .aload_n 0, 1, 0, 0), (1, .getfield 50, 3, 0, 0), (4, .ifCond .ne 7, 3, 11, 0), (7, .iconst 1, 1, 0, 1), (8, .goto 4, 3, 12, 0), (11, .iconst 0, 1, 0, 0), (12, .ireturn, 1, 0, 0)]
def P_Tape_isNumber : List PE := [(0, .aload_n 0, 1, 0, 0), (1, .getfield 50, 3, 0, 0), (4, .iconst 2, 1, 0, 2), (5, .if_icmp .ne 7, 3, 12, 0), (8, .iconst 1, 1, 0, 1), (9, .goto 4, 3, 13, 0), (12, .iconst 0, 1, 0, 0), (13, .ireturn, 1, 0, 0)]
def P_Acts_clear : List PE := [(0, .aload_n 0, 1, 0, 0), (1, .iconst 0, 1, 0, 0), (2, .putfield 18, 3, 0, 0), (5, .return_, 1, 0, 0)]
def P_Row_init : List PE := [(0, .aload_n 0, 1, 0, 0), (1, .invokespecial 1, 3, 0, 0), (4, .aload_n 0, 1, 0, 0), (5, .iload_n 1, 1, 0, 0), (6, .ifCond .le 7, 3, 13, 0), (9, .iload_n 1, 1, 0, 0), (10, .goto 4, 3, 14, 0), (13, .iconst 0, 1, 0, 0), (14, .newarray .int, 2, 0, 0), (16, .putfield 7, 3, 0, 0), (19, .return_, 1, 0, 0)]
def P_Row_set : List PE := [(0, .iload_n 1, 1, 0, 0), (1, .ifCond .lt 19, 3, 20, 0), (4, .iload_n 1, 1, 0, 0), (5, .aload_n 0, 1, 0, 0), (6, .getfield 7, 3, 0, 0), (9, .arraylength, 1, 0, 0), (10, .if_icmp .ge 10, 3, 20, 0), (13, .aload_n 0, 1, 0, 0), (14, .getfield 7, 3, 0, 0), (17, .iload_n 1, 1, 0, 0), (18, .iload_n 2, 1, 0, 0), (19, .iastore, 1, 0, 0), (20, .return_, 1, 0, 0)]
def P_Row_get : List PE := [(0, .iload_n 1, 1, 0, 0), (1, .ifCond .lt 21, 3, 22, 0), (4, .iload_n 1, 1, 0, 0), (5, .aload_n 0, 1, 0, 0), (6, .getfield 7, 3, 0, 0), (9, .arraylength, 1, 0, 0), (10, .if_icmp .ge 12, 3, 22, 0), (13, .aload_n 0, 1, 0, 0), (14, .getfield 7, 3, 0, 0), (17, .iload_n 1, 1, 0, 0), (18, .iaload, 1, 0, 0), (19, .goto 4, 3, 23, 0), (22, .iconst 0, 1, 0, 0), (23, .ireturn, 1, 0, 0)]
def P_Row_has : List PE := [(0, .iconst 0, 1, 0, 0), (1, .istore_n 3, 1, 0, 0), (2, .iload_n 3, 1, 0, 0), (3, .iload_n 2, 1, 0, 0), (4, .if_icmp .ge 30, 3, 34, 0), (7, .iload_n 3, 1, 0, 0), (8, .aload_n 0, 1, 0, 0), (9, .getfield 7, 3, 0, 0), (12, .arraylength, 1, 0, 0), (13, .if_icmp .ge 21, 3, 34, 0), (16, .aload_n 0, 1, 0, 0), (17, .getfield 7, 3, 0, 0), (20, .iload_n 3, 1, 0, 0), (21, .iaload, 1, 0, 0), (22, .iload_n 1, 1, 0, 0), (23, .if_icmp .ne 5, 3, 28, 0), (26, .iconst 1, 1, 0, 1), (27, .ireturn, 1, 0, 0), (28, .iinc 3 1, 3, 0, 1), (31, .goto (-29), 3, 2, 0), (34, .iconst 0, 1, 0, 0), (35, .ireturn, 1, 0, 0)]
def P_Row_sum : List PE := [(0, .iconst 0, 1, 0, 0), (1, .istore_n 1, 1, 0, 0), (2, .aload_n 0, 1, 0, 0), (3, .getfield 7, 3, 0, 0), (6, .astore_n 2, 1, 0, 0), (7, .aload_n 2, 1, 0, 0), (8, .arraylength, 1, 0, 0), (9, .istore_n 3, 1, 0, 0), (10, .iconst 0, 1, 0, 0), (11, .istore 4, 2, 0, 0), (13, .iload 4, 2, 0, 0), (15, .iload_n 3, 1, 0, 0), (16, .if_icmp .ge 20, 3, 36, 0), (19, .aload_n 2, 1, 0, 0), (20, .iload 4, 2, 0, 0), (22, .iaload, 1, 0, 0), (23, .istore 5, 2, 0, 0), (25, .iload_n 1, 1, 0, 0), (26, .iload 5, 2, 0, 0), (28, .iadd, 1, 0, 0), (29, .istore_n 1, 1, 0, 0), (30, .iinc 4 1, 3, 0, 1), (33, .goto (-20), 3, 13, 0), (36, .iload_n 1, 1, 0, 0), (37, .ireturn, 1, 0, 0)]
def P_Row_add : List PE := [(0, .iload_n 1, 1, 0, 0), (1, .ifCond .lt 22, 3, 23, 0), (4, .iload_n 1, 1, 0, 0), (5, .aload_n 0, 1, 0, 0), (6, .getfield 7, 3, 0, 0), (9, .arraylength, 1, 0, 0), (10, .if_icmp .ge 13, 3, 23, 0), (13, .aload_n 0, 1, 0, 0), (14, .getfield 7, 3, 0, 0), (17, .iload_n 1, 1, 0, 0), (18, .dup2, 1, 0, 0), (19, .iaload, 1, 0, 0), (20, .iload_n 2, 1, 0, 0), (21, .iadd, 1, 0, 0), (22, .iastore, 1, 0, 0), (23, .return_, 1, 0, 0)]
def P_Ring_cell : List PE := [(0, .iload_n 1, 1, 0, 0), (1, .aload_n 0, 1, 0, 0), (2, .getfield 39, 3, 0, 0), (5, .isub, 1, 0, 0), (6, .istore_n 2, 1, 0, 0), (7, .iload_n 2, 1, 0, 0), (8, .ifCond .ge 12, 3, 20, 0), (11, .iload_n 2, 1, 0, 0), (12, .aload_n 0, 1, 0, 0), (13, .getfield 35, 3, 0, 0), (16, .iadd, 1, 0, 0), (17, .goto 4, 3, 21, 0), (20, .iload_n 2, 1, 0, 0), (21, .ireturn, 1, 0, 0)]
def P_Log_clear : List PE := [(0, .aload_n 0, 1, 0, 0), (1, .iconst 0, 1, 0, 0), (2, .putfield 20, 3, 0, 0), (5, .aload_n 0, 1, 0, 0), (6, .iconst 0, 1, 0, 0), (7, .putfield 24, 3, 0, 0), (10, .return_, 1, 0, 0)]
def P_Formula_clear : List PE := [(0, .aload_n 0, 1, 0, 0), (1, .iconst 0, 1, 0, 0), (2, .putfield 27, 3, 0, 0), (5, .aload_n 0, 1, 0, 0), (6, .iconst 0, 1, 0, 0), (7, .putfield 31, 3, 0, 0), (10, .return_, 1, 0, 0)]
def P_Formula_strength : List PE := [(0, .iload_n 0, 1, 0, 0), (1, .tableswitch 63 (-20) (-11) #[55, 61, 57, 59, 63, 63, 63, 59, 57, 57], 55, 64, 0), (56, .iconst 0, 1, 0, 0), (57, .ireturn, 1, 0, 0), (58, .iconst 1, 1, 0, 1), (59, .ireturn, 1, 0, 0), (60, .iconst 2, 1, 0, 2), (61, .ireturn, 1, 0, 0), (62, .iconst 3, 1, 0, 3), (63, .ireturn, 1, 0, 0), (64, .iconst 4, 1, 0, 4), (65, .ireturn, 1, 0, 0)]
def P_Formula_together : List PE := [(0, .iload_n 0, 1, 0, 0), (1, .tableswitch 92 (-17) (-11) #[88, 77, 66, 55, 51, 47, 43], 43, 93, 0), (44, .iload_n 1, 1, 0, 0), (45, .iload_n 2, 1, 0, 0), (46, .iadd, 1, 0, 0), (47, .ireturn, 1, 0, 0), (48, .iload_n 1, 1, 0, 0), (49, .iload_n 2, 1, 0, 0), (50, .isub, 1, 0, 0), (51, .ireturn, 1, 0, 0), (52, .iload_n 1, 1, 0, 0), (53, .iload_n 2, 1, 0, 0), (54, .imul, 1, 0, 0), (55, .ireturn, 1, 0, 0), (56, .iload_n 1, 1, 0, 0), (57, .iload_n 2, 1, 0, 0), (58, .if_icmp .ge 7, 3, 65, 0), (61, .iconst 1, 1, 0, 1), (62, .goto 4, 3, 66, 0), (65, .iconst 0, 1, 0, 0), (66, .ireturn, 1, 0, 0), (67, .iload_n 1, 1, 0, 0), (68, .iload_n 2, 1, 0, 0), (69, .if_icmp .ne 7, 3, 76, 0), (72, .iconst 1, 1, 0, 1), (73, .goto 4, 3, 77, 0), (76, .iconst 0, 1, 0, 0), (77, .ireturn, 1, 0, 0), (78, .iload_n 1, 1, 0, 0), (79, .iload_n 2, 1, 0, 0), (80, .if_icmp .le 7, 3, 87, 0), (83, .iconst 1, 1, 0, 1), (84, .goto 4, 3, 88, 0), (87, .iconst 0, 1, 0, 0), (88, .ireturn, 1, 0, 0), (89, .iload_n 1, 1, 0, 0), (90, .iload_n 2, 1, 0, 0), (91, .iand, 1, 0, 0), (92, .ireturn, 1, 0, 0), (93, .iload_n 1, 1, 0, 0), (94, .iload_n 2, 1, 0, 0), (95, .ior, 1, 0, 0), (96, .ireturn, 1, 0, 0)]
def P_Mo_bare : List PE := [(0, .iconst 0, 1, 0, 0), (1, .istore_n 2, 1, 0, 0), (2, .iload_n 2, 1, 0, 0), (3, .sipush 1434, 3, 0, 1434), (6, .if_icmp .ge 13, 3, 19, 0), (9, .aload_n 0, 1, 0, 0), (10, .iload_n 2, 1, 0, 0), (11, .iconst 0, 1, 0, 0), (12, .iastore, 1, 0, 0), (13, .iinc 2 1, 3, 0, 1), (16, .goto (-14), 3, 2, 0), (19, .aload_n 0, 1, 0, 0), (20, .iconst 0, 1, 0, 0), (21, .iload_n 1, 1, 0, 0), (22, .iastore, 1, 0, 0), (23, .iconst 0, 1, 0, 0), (24, .istore_n 2, 1, 0, 0), (25, .iload_n 2, 1, 0, 0), (26, .bipush 40, 2, 0, 40), (28, .if_icmp .ge 36, 3, 64, 0), (31, .iconst 0, 1, 0, 0), (32, .istore_n 3, 1, 0, 0), (33, .iload_n 3, 1, 0, 0), (34, .bipush 6, 2, 0, 6), (36, .if_icmp .ge 22, 3, 58, 0), (39, .aload_n 0, 1, 0, 0), (40, .sipush 174, 3, 0, 174), (43, .bipush 6, 2, 0, 6), (45, .iload_n 2, 1, 0, 0), (46, .imul, 1, 0, 0), (47, .iadd, 1, 0, 0), (48, .iload_n 3, 1, 0, 0), (49, .iadd, 1, 0, 0), (50, .iconst (-1), 1, 0, (-1)), (51, .iastore, 1, 0, 0), (52, .iinc 3 1, 3, 0, 1), (55, .goto (-22), 3, 33, 0), (58, .iinc 2 1, 3, 0, 1), (61, .goto (-36), 3, 25, 0), (64, .return_, 1, 0, 0)]
def P_Mo_thrown : List PE := [(0, .aload_n 0, 1, 0, 0), (1, .getfield 46, 3, 0, 0), (4, .ireturn, 1, 0, 0)]
def P_Mo_n : List PE := [(0, .aload_n 0, 1, 0, 0), (1, .getfield 9, 3, 0, 0), (4, .iconst 0, 1, 0, 0), (5, .iaload, 1, 0, 0), (6, .ireturn, 1, 0, 0)]
def P_Mo_placeOf : List PE := [(0, .aload_n 0, 1, 0, 0), (1, .getfield 9, 3, 0, 0), (4, .sipush 174, 3, 0, 174), (7, .bipush 6, 2, 0, 6), (9, .iload_n 1, 1, 0, 0), (10, .imul, 1, 0, 0), (11, .iadd, 1, 0, 0), (12, .iload_n 2, 1, 0, 0), (13, .iadd, 1, 0, 0), (14, .iaload, 1, 0, 0), (15, .ireturn, 1, 0, 0)]
def P_Mo_sideOf : List PE := [(0, .aload_n 0, 1, 0, 0), (1, .getfield 9, 3, 0, 0), (4, .bipush 66, 2, 0, 66), (6, .bipush 10, 2, 0, 10), (8, .iload_n 1, 1, 0, 0), (9, .imul, 1, 0, 0), (10, .iadd, 1, 0, 0), (11, .iload_n 2, 1, 0, 0), (12, .iadd, 1, 0, 0), (13, .iaload, 1, 0, 0), (14, .ireturn, 1, 0, 0)]
def P_Mo_queueAt : List PE := [(0, .sipush 414, 3, 0, 414), (3, .iconst 2, 1, 0, 2), (4, .bipush 20, 2, 0, 20), (6, .iload_n 1, 1, 0, 0), (7, .imul, 1, 0, 0), (8, .iload_n 2, 1, 0, 0), (9, .iadd, 1, 0, 0), (10, .imul, 1, 0, 0), (11, .iadd, 1, 0, 0), (12, .ireturn, 1, 0, 0)]
def P_Mo_fail : List PE := [(0, .aload_n 0, 1, 0, 0), (1, .iload_n 1, 1, 0, 0), (2, .putfield 46, 3, 0, 0), (5, .iconst 0, 1, 0, 0), (6, .ireturn, 1, 0, 0)]
def P_Mo_isIn : List PE := [(0, .iload_n 0, 1, 0, 0), (1, .iload_n 1, 1, 0, 0), (2, .if_icmp .lt 12, 3, 14, 0), (5, .iload_n 0, 1, 0, 0), (6, .iload_n 2, 1, 0, 0), (7, .if_icmp .gt 7, 3, 14, 0), (10, .iconst 1, 1, 0, 1), (11, .goto 4, 3, 15, 0), (14, .iconst 0, 1, 0, 0), (15, .ireturn, 1, 0, 0)]
def P_Mo_exitOf : List PE := [(0, .aload_n 0, 1, 0, 0), (1, .getfield 9, 3, 0, 0), (4, .bipush 12, 2, 0, 12), (6, .iconst 5, 1, 0, 5), (7, .iload_n 1, 1, 0, 0), (8, .imul, 1, 0, 0), (9, .iadd, 1, 0, 0), (10, .iload_n 2, 1, 0, 0), (11, .iadd, 1, 0, 0), (12, .iaload, 1, 0, 0), (13, .ireturn, 1, 0, 0)]
def P_Mo_wareOf : List PE := [(0, .aload_n 0, 1, 0, 0), (1, .getfield 9, 3, 0, 0), (4, .bipush 42, 2, 0, 42), (6, .iconst 3, 1, 0, 3), (7, .iload_n 1, 1, 0, 0), (8, .imul, 1, 0, 0), (9, .iadd, 1, 0, 0), (10, .iload_n 2, 1, 0, 0), (11, .iadd, 1, 0, 0), (12, .iaload, 1, 0, 0), (13, .ireturn, 1, 0, 0)]
def P_Mo_turnByte : List PE := [(0, .aload_n 0, 1, 0, 0), (1, .getfield 143, 3, 0, 0), (4, .aload_n 0, 1, 0, 0), (5, .getfield 9, 3, 0, 0), (8, .bipush 10, 2, 0, 10), (10, .iaload, 1, 0, 0), (11, .if_icmp .ge 52, 3, 63, 0), (14, .aload_n 0, 1, 0, 0), (15, .getfield 9, 3, 0, 0), (18, .sipush 934, 3, 0, 934), (21, .aload_n 0, 1, 0, 0), (22, .getfield 143, 3, 0, 0), (25, .iadd, 1, 0, 0), (26, .iaload, 1, 0, 0), (27, .bipush 32, 2, 0, 32), (29, .if_icmp .eq 21, 3, 50, 0), (32, .aload_n 0, 1, 0, 0), (33, .getfield 9, 3, 0, 0), (36, .sipush 934, 3, 0, 934), (39, .aload_n 0, 1, 0, 0), (40, .getfield 143, 3, 0, 0), (43, .iadd, 1, 0, 0), (44, .iaload, 1, 0, 0), (45, .bipush 10, 2, 0, 10), (47, .if_icmp .ne 16, 3, 63, 0), (50, .aload_n 0, 1, 0, 0), (51, .dup, 1, 0, 0), (52, .getfield 143, 3, 0, 0), (55, .iconst 1, 1, 0, 1), (56, .iadd, 1, 0, 0), (57, .putfield 143, 3, 0, 0), (60, .goto (-60), 3, 0, 0), (63, .aload_n 0, 1, 0, 0), (64, .getfield 143, 3, 0, 0), (67, .aload_n 0, 1, 0, 0), (68, .getfield 9, 3, 0, 0), (71, .bipush 10, 2, 0, 10), (73, .iaload, 1, 0, 0), (74, .if_icmp .ge 19, 3, 93, 0), (77, .aload_n 0, 1, 0, 0), (78, .getfield 9, 3, 0, 0), (81, .sipush 934, 3, 0, 934), (84, .aload_n 0, 1, 0, 0), (85, .getfield 143, 3, 0, 0), (88, .iadd, 1, 0, 0), (89, .iaload, 1, 0, 0), (90, .goto 4, 3, 94, 0), (93, .iconst (-1), 1, 0, (-1)), (94, .ireturn, 1, 0, 0)]
def P_Mo_isFigure : List PE := [(0, .iload_n 0, 1, 0, 0), (1, .bipush 48, 2, 0, 48), (3, .if_icmp .lt 13, 3, 16, 0), (6, .iload_n 0, 1, 0, 0), (7, .bipush 57, 2, 0, 57), (9, .if_icmp .gt 7, 3, 16, 0), (12, .iconst 1, 1, 0, 1), (13, .goto 4, 3, 17, 0), (16, .iconst 0, 1, 0, 0), (17, .ireturn, 1, 0, 0)]
def P_Mo_isSmall : List PE := [(0, .iload_n 0, 1, 0, 0), (1, .bipush 97, 2, 0, 97), (3, .if_icmp .lt 13, 3, 16, 0), (6, .iload_n 0, 1, 0, 0), (7, .bipush 122, 2, 0, 122), (9, .if_icmp .gt 7, 3, 16, 0), (12, .iconst 1, 1, 0, 1), (13, .goto 4, 3, 17, 0), (16, .iconst 0, 1, 0, 0), (17, .ireturn, 1, 0, 0)]
def P_Mo_comingOf : List PE := [(0, .aload_n 0, 1, 0, 0), (1, .getfield 9, 3, 0, 0), (4, .bipush 126, 2, 0, 126), (6, .iconst 4, 1, 0, 4), (7, .iload_n 1, 1, 0, 0), (8, .imul, 1, 0, 0), (9, .iadd, 1, 0, 0), (10, .iload_n 2, 1, 0, 0), (11, .iadd, 1, 0, 0), (12, .iaload, 1, 0, 0), (13, .ireturn, 1, 0, 0)]
def P_Mo_keep : List PE := [(0, .aload_n 0, 1, 0, 0), (1, .getfield 185, 3, 0, 0), (4, .bipush 10, 2, 0, 10), (6, .if_icmp .ne 46, 3, 52, 0), (9, .sipush 1434, 3, 0, 1434), (12, .istore_n 1, 1, 0, 0), (13, .iload_n 1, 1, 0, 0), (14, .sipush 14340, 3, 0, 14340), (17, .if_icmp .ge 25, 3, 42, 0), (20, .aload_n 0, 1, 0, 0), (21, .getfield 22, 3, 0, 0), (24, .iload_n 1, 1, 0, 0), (25, .sipush 1434, 3, 0, 1434), (28, .isub, 1, 0, 0), (29, .aload_n 0, 1, 0, 0), (30, .getfield 22, 3, 0, 0), (33, .iload_n 1, 1, 0, 0), (34, .iaload, 1, 0, 0), (35, .iastore, 1, 0, 0), (36, .iinc 1 1, 3, 0, 1), (39, .goto (-26), 3, 13, 0), (42, .aload_n 0, 1, 0, 0), (43, .dup, 1, 0, 0), (44, .getfield 185, 3, 0, 0), (47, .iconst 1, 1, 0, 1), (48, .isub, 1, 0, 0), (49, .putfield 185, 3, 0, 0), (52, .iconst 0, 1, 0, 0), (53, .istore_n 1, 1, 0, 0), (54, .iload_n 1, 1, 0, 0), (55, .sipush 1434, 3, 0, 1434), (58, .if_icmp .ge 30, 3, 88, 0), (61, .aload_n 0, 1, 0, 0), (62, .getfield 22, 3, 0, 0), (65, .sipush 1434, 3, 0, 1434), (68, .aload_n 0, 1, 0, 0), (69, .getfield 185, 3, 0, 0), (72, .imul, 1, 0, 0), (73, .iload_n 1, 1, 0, 0), (74, .iadd, 1, 0, 0), (75, .aload_n 0, 1, 0, 0), (76, .getfield 9, 3, 0, 0), (79, .iload_n 1, 1, 0, 0), (80, .iaload, 1, 0, 0), (81, .iastore, 1, 0, 0), (82, .iinc 1 1, 3, 0, 1), (85, .goto (-31), 3, 54, 0), (88, .aload_n 0, 1, 0, 0), (89, .dup, 1, 0, 0), (90, .getfield 185, 3, 0, 0), (93, .iconst 1, 1, 0, 1), (94, .iadd, 1, 0, 0), (95, .putfield 185, 3, 0, 0), (98, .return_, 1, 0, 0)]
def P_Mo_clear : List PE := [(0, .iconst 0, 1, 0, 0), (1, .istore_n 2, 1, 0, 0), (2, .iload_n 2, 1, 0, 0), (3, .bipush 6, 2, 0, 6), (5, .if_icmp .ge 25, 3, 30, 0), (8, .aload_n 0, 1, 0, 0), (9, .getfield 9, 3, 0, 0), (12, .sipush 174, 3, 0, 174), (15, .bipush 6, 2, 0, 6), (17, .iload_n 1, 1, 0, 0), (18, .imul, 1, 0, 0), (19, .iadd, 1, 0, 0), (20, .iload_n 2, 1, 0, 0), (21, .iadd, 1, 0, 0), (22, .iconst (-1), 1, 0, (-1)), (23, .iastore, 1, 0, 0), (24, .iinc 2 1, 3, 0, 1), (27, .goto (-25), 3, 2, 0), (30, .return_, 1, 0, 0)]
def P_Mo_undo : List PE := [(0, .aload_n 0, 1, 0, 0), (1, .iconst 0, 1, 0, 0), (2, .putfield 46, 3, 0, 0), (5, .aload_n 0, 1, 0, 0), (6, .getfield 185, 3, 0, 0), (9, .ifCond .ne 5, 3, 14, 0), (12, .iconst (-1), 1, 0, (-1)), (13, .ireturn, 1, 0, 0), (14, .aload_n 0, 1, 0, 0), (15, .dup, 1, 0, 0), (16, .getfield 185, 3, 0, 0), (19, .iconst 1, 1, 0, 1), (20, .isub, 1, 0, 0), (21, .putfield 185, 3, 0, 0), (24, .iconst 0, 1, 0, 0), (25, .istore_n 1, 1, 0, 0), (26, .iload_n 1, 1, 0, 0), (27, .sipush 1434, 3, 0, 1434), (30, .if_icmp .ge 30, 3, 60, 0), (33, .aload_n 0, 1, 0, 0), (34, .getfield 9, 3, 0, 0), (37, .iload_n 1, 1, 0, 0), (38, .aload_n 0, 1, 0, 0), (39, .getfield 22, 3, 0, 0), (42, .sipush 1434, 3, 0, 1434), (45, .aload_n 0, 1, 0, 0), (46, .getfield 185, 3, 0, 0), (49, .imul, 1, 0, 0), (50, .iload_n 1, 1, 0, 0), (51, .iadd, 1, 0, 0), (52, .iaload, 1, 0, 0), (53, .iastore, 1, 0, 0), (54, .iinc 1 1, 3, 0, 1), (57, .goto (-31), 3, 26, 0), (60, .aload_n 0, 1, 0, 0), (61, .getfield 185, 3, 0, 0), (64, .ireturn, 1, 0, 0)]
def P_Mo_copy : List PE := [(0, .iconst 0, 1, 0, 0), (1, .istore_n 2, 1, 0, 0), (2, .iload_n 2, 1, 0, 0), (3, .aload_n 0, 1, 0, 0), (4, .arraylength, 1, 0, 0), (5, .if_icmp .ge 15, 3, 20, 0), (8, .aload_n 0, 1, 0, 0), (9, .iload_n 2, 1, 0, 0), (10, .aload_n 1, 1, 0, 0), (11, .iload_n 2, 1, 0, 0), (12, .iaload, 1, 0, 0), (13, .iastore, 1, 0, 0), (14, .iinc 2 1, 3, 0, 1), (17, .goto (-15), 3, 2, 0), (20, .return_, 1, 0, 0)]
def P_Mo_asksLate : List PE := [(0, .iconst 0, 1, 0, 0), (1, .istore_n 1, 1, 0, 0), (2, .iload_n 1, 1, 0, 0), (3, .iconst 3, 1, 0, 3), (4, .iadd, 1, 0, 0), (5, .aload_n 0, 1, 0, 0), (6, .getfield 9, 3, 0, 0), (9, .bipush 10, 2, 0, 10), (11, .iaload, 1, 0, 0), (12, .if_icmp .ge 87, 3, 99, 0), (15, .aload_n 0, 1, 0, 0), (16, .getfield 9, 3, 0, 0), (19, .sipush 934, 3, 0, 934), (22, .iload_n 1, 1, 0, 0), (23, .iadd, 1, 0, 0), (24, .iaload, 1, 0, 0), (25, .bipush 108, 2, 0, 108), (27, .if_icmp .ne 58, 3, 85, 0), (30, .aload_n 0, 1, 0, 0), (31, .getfield 9, 3, 0, 0), (34, .sipush 934, 3, 0, 934), (37, .iload_n 1, 1, 0, 0), (38, .iadd, 1, 0, 0), (39, .iconst 1, 1, 0, 1), (40, .iadd, 1, 0, 0), (41, .iaload, 1, 0, 0), (42, .bipush 97, 2, 0, 97), (44, .if_icmp .ne 41, 3, 85, 0), (47, .aload_n 0, 1, 0, 0), (48, .getfield 9, 3, 0, 0), (51, .sipush 934, 3, 0, 934), (54, .iload_n 1, 1, 0, 0), (55, .iadd, 1, 0, 0), (56, .iconst 2, 1, 0, 2), (57, .iadd, 1, 0, 0), (58, .iaload, 1, 0, 0), (59, .bipush 116, 2, 0, 116), (61, .if_icmp .ne 24, 3, 85, 0), (64, .aload_n 0, 1, 0, 0), (65, .getfield 9, 3, 0, 0), (68, .sipush 934, 3, 0, 934), (71, .iload_n 1, 1, 0, 0), (72, .iadd, 1, 0, 0), (73, .iconst 3, 1, 0, 3), (74, .iadd, 1, 0, 0), (75, .iaload, 1, 0, 0), (76, .bipush 101, 2, 0, 101), (78, .if_icmp .ne 7, 3, 85, 0), (81, .iconst 1, 1, 0, 1), (82, .goto 4, 3, 86, 0), (85, .iconst 0, 1, 0, 0), (86, .istore_n 2, 1, 0, 0), (87, .iload_n 2, 1, 0, 0), (88, .ifCond .eq 5, 3, 93, 0), (91, .iconst 1, 1, 0, 1), (92, .ireturn, 1, 0, 0), (93, .iinc 1 1, 3, 0, 1), (96, .goto (-94), 3, 2, 0), (99, .iconst 0, 1, 0, 0), (100, .ireturn, 1, 0, 0)]
def P_Mo_writes : List PE := [(0, .aload_n 0, 1, 0, 0), (1, .getfield 33, 3, 0, 0), (4, .aload_n 0, 1, 0, 0), (5, .getfield 229, 3, 0, 0), (8, .iload_n 1, 1, 0, 0), (9, .iastore, 1, 0, 0), (10, .aload_n 0, 1, 0, 0), (11, .dup, 1, 0, 0), (12, .getfield 229, 3, 0, 0), (15, .iconst 1, 1, 0, 1), (16, .iadd, 1, 0, 0), (17, .putfield 229, 3, 0, 0), (20, .return_, 1, 0, 0)]
def P_Mo_areAlike : List PE := [(0, .iconst 0, 1, 0, 0), (1, .istore_n 3, 1, 0, 0), (2, .iload_n 3, 1, 0, 0), (3, .sipush 396, 3, 0, 396), (6, .if_icmp .ge 38, 3, 44, 0), (9, .aload_n 0, 1, 0, 0), (10, .getfield 33, 3, 0, 0), (13, .sipush 396, 3, 0, 396), (16, .iload_n 1, 1, 0, 0), (17, .imul, 1, 0, 0), (18, .iload_n 3, 1, 0, 0), (19, .iadd, 1, 0, 0), (20, .iaload, 1, 0, 0), (21, .aload_n 0, 1, 0, 0), (22, .getfield 33, 3, 0, 0), (25, .sipush 396, 3, 0, 396), (28, .iload_n 2, 1, 0, 0), (29, .imul, 1, 0, 0), (30, .iload_n 3, 1, 0, 0), (31, .iadd, 1, 0, 0), (32, .iaload, 1, 0, 0), (33, .if_icmp .eq 5, 3, 38, 0), (36, .iconst 0, 1, 0, 0), (37, .ireturn, 1, 0, 0), (38, .iinc 3 1, 3, 0, 1), (41, .goto (-39), 3, 2, 0), (44, .iconst 1, 1, 0, 1), (45, .ireturn, 1, 0, 0)]
def P_Mo_common : List PE := [(0, .lload_n 0, 1, 0, 0), (1, .lstore 4, 2, 0, 0), (3, .lload_n 2, 1, 0, 0), (4, .lstore 6, 2, 0, 0), (6, .lload 6, 2, 0, 0), (8, .lconst 0, 1, 0, 0), (9, .lcmp, 1, 0, 0), (10, .ifCond .eq 21, 3, 31, 0), (13, .lload 4, 2, 0, 0), (15, .lload 6, 2, 0, 0), (17, .lrem, 1, 0, 0), (18, .lstore 8, 2, 0, 0), (20, .lload 6, 2, 0, 0), (22, .lstore 4, 2, 0, 0), (24, .lload 8, 2, 0, 0), (26, .lstore 6, 2, 0, 0), (28, .goto (-22), 3, 6, 0), (31, .lload 4, 2, 0, 0), (33, .lreturn, 1, 0, 0)]
def P_Mo_feed : List PE := [(0, .aload_n 0, 1, 0, 0), (1, .iconst 0, 1, 0, 0), (2, .putfield 46, 3, 0, 0), (5, .aload_n 0, 1, 0, 0), (6, .getfield 188, 3, 0, 0), (9, .bipush 20, 2, 0, 20), (11, .iadd, 1, 0, 0), (12, .sipush 500, 3, 0, 500), (15, .if_icmp .le 5, 3, 20, 0), (18, .iconst (-1), 1, 0, (-1)), (19, .ireturn, 1, 0, 0), (20, .iconst 0, 1, 0, 0), (21, .istore 6, 2, 0, 0), (23, .iload 6, 2, 0, 0), (25, .bipush 20, 2, 0, 20), (27, .if_icmp .ge 93, 3, 120, 0), (30, .iload 6, 2, 0, 0), (32, .iconst 4, 1, 0, 4), (33, .if_icmp .ge 7, 3, 40, 0), (36, .iload_n 1, 1, 0, 0), (37, .goto 39, 3, 76, 0), (40, .iload 6, 2, 0, 0), (42, .bipush 8, 2, 0, 8), (44, .if_icmp .ge 7, 3, 51, 0), (47, .iload_n 2, 1, 0, 0), (48, .goto 28, 3, 76, 0), (51, .iload 6, 2, 0, 0), (53, .bipush 12, 2, 0, 12), (55, .if_icmp .ge 7, 3, 62, 0), (58, .iload_n 3, 1, 0, 0), (59, .goto 17, 3, 76, 0), (62, .iload 6, 2, 0, 0), (64, .bipush 16, 2, 0, 16), (66, .if_icmp .ge 8, 3, 74, 0), (69, .iload 4, 2, 0, 0), (71, .goto 5, 3, 76, 0), (74, .iload 5, 2, 0, 0), (76, .istore 7, 2, 0, 0), (78, .aload_n 0, 1, 0, 0), (79, .getfield 36, 3, 0, 0), (82, .aload_n 0, 1, 0, 0), (83, .getfield 188, 3, 0, 0), (86, .iload 7, 2, 0, 0), (88, .bipush 24, 2, 0, 24), (90, .bipush 8, 2, 0, 8), (92, .iload 6, 2, 0, 0), (94, .iconst 4, 1, 0, 4), (95, .irem, 1, 0, 0), (96, .imul, 1, 0, 0), (97, .isub, 1, 0, 0), (98, .ishr, 1, 0, 0), (99, .sipush 255, 3, 0, 255), (102, .iand, 1, 0, 0), (103, .iastore, 1, 0, 0), (104, .aload_n 0, 1, 0, 0), (105, .dup, 1, 0, 0), (106, .getfield 188, 3, 0, 0), (109, .iconst 1, 1, 0, 1), (110, .iadd, 1, 0, 0), (111, .putfield 188, 3, 0, 0), (114, .iinc 6 1, 3, 0, 1), (117, .goto (-94), 3, 23, 0), (120, .aload_n 0, 1, 0, 0), (121, .getfield 188, 3, 0, 0), (124, .ireturn, 1, 0, 0)]
def P_Mo_fault : List PE := [(0, .aload_n 0, 1, 0, 0), (1, .iconst 0, 1, 0, 0), (2, .putfield 46, 3, 0, 0), (5, .aload_n 0, 1, 0, 0), (6, .getfield 39, 3, 0, 0), (9, .ireturn, 1, 0, 0)]
def P_Mo_byteAt : List PE := [(0, .iload_n 1, 1, 0, 0), (1, .aload_n 0, 1, 0, 0), (2, .getfield 279, 3, 0, 0), (5, .if_icmp .ge 12, 3, 17, 0), (8, .aload_n 0, 1, 0, 0), (9, .getfield 36, 3, 0, 0), (12, .iload_n 1, 1, 0, 0), (13, .iaload, 1, 0, 0), (14, .goto 4, 3, 18, 0), (17, .iconst (-1), 1, 0, (-1)), (18, .ireturn, 1, 0, 0)]
def P_Mo_wrong : List PE := [(0, .aload_n 0, 1, 0, 0), (1, .getfield 297, 3, 0, 0), (4, .ifCond .eq 4, 3, 8, 0), (7, .return_, 1, 0, 0), (8, .aload_n 0, 1, 0, 0), (9, .iload_n 1, 1, 0, 0), (10, .putfield 297, 3, 0, 0), (13, .aload_n 0, 1, 0, 0), (14, .aload_n 0, 1, 0, 0), (15, .getfield 288, 3, 0, 0), (18, .putfield 306, 3, 0, 0), (21, .return_, 1, 0, 0)]
def P_Mo_isSign : List PE := [(0, .aload_n 0, 1, 0, 0), (1, .getfield 297, 3, 0, 0), (4, .ifCond .ne 28, 3, 32, 0), (7, .aload_n 0, 1, 0, 0), (8, .getfield 291, 3, 0, 0), (11, .iconst 3, 1, 0, 3), (12, .if_icmp .ne 20, 3, 32, 0), (15, .aload_n 0, 1, 0, 0), (16, .getfield 36, 3, 0, 0), (19, .aload_n 0, 1, 0, 0), (20, .getfield 288, 3, 0, 0), (23, .iaload, 1, 0, 0), (24, .iload_n 1, 1, 0, 0), (25, .if_icmp .ne 7, 3, 32, 0), (28, .iconst 1, 1, 0, 1), (29, .goto 4, 3, 33, 0), (32, .iconst 0, 1, 0, 0), (33, .ireturn, 1, 0, 0)]
def P_Mo_ends : List PE := [(0, .aload_n 0, 1, 0, 0), (1, .iconst 0, 1, 0, 0), (2, .putfield 188, 3, 0, 0), (5, .aload_n 0, 1, 0, 0), (6, .aload_n 0, 1, 0, 0), (7, .getfield 297, 3, 0, 0), (10, .ifCond .ne 7, 3, 17, 0), (13, .iconst (-1), 1, 0, (-1)), (14, .goto 7, 3, 21, 0), (17, .aload_n 0, 1, 0, 0), (18, .getfield 306, 3, 0, 0), (21, .putfield 39, 3, 0, 0), (24, .aload_n 0, 1, 0, 0), (25, .getfield 297, 3, 0, 0), (28, .ireturn, 1, 0, 0)]
def P_Mo_atOf : List PE := [(0, .iconst 0, 1, 0, 0), (1, .istore 4, 2, 0, 0), (3, .iload 4, 2, 0, 0), (5, .iload_n 3, 1, 0, 0), (6, .if_icmp .ge 30, 3, 36, 0), (9, .aload_n 0, 1, 0, 0), (10, .getfield 9, 3, 0, 0), (13, .iload_n 1, 1, 0, 0), (14, .iload_n 2, 1, 0, 0), (15, .iload 4, 2, 0, 0), (17, .imul, 1, 0, 0), (18, .iadd, 1, 0, 0), (19, .iaload, 1, 0, 0), (20, .aload_n 0, 1, 0, 0), (21, .getfield 402, 3, 0, 0), (24, .if_icmp .ne 6, 3, 30, 0), (27, .iload 4, 2, 0, 0), (29, .ireturn, 1, 0, 0), (30, .iinc 4 1, 3, 0, 1), (33, .goto (-30), 3, 3, 0), (36, .iconst (-1), 1, 0, (-1)), (37, .ireturn, 1, 0, 0)]
def P_Arrays_fill : List PE := [(0, .iconst 0, 1, 0, 0), (1, .istore_n 2, 1, 0, 0), (2, .aload_n 0, 1, 0, 0), (3, .arraylength, 1, 0, 0), (4, .istore_n 3, 1, 0, 0), (5, .iload_n 2, 1, 0, 0), (6, .iload_n 3, 1, 0, 0), (7, .if_icmp .ge 13, 3, 20, 0), (10, .aload_n 0, 1, 0, 0), (11, .iload_n 2, 1, 0, 0), (12, .iload_n 1, 1, 0, 0), (13, .iastore, 1, 0, 0), (14, .iinc 2 1, 3, 0, 1), (17, .goto (-12), 3, 5, 0), (20, .return_, 1, 0, 0)]
def P_Math_min : List PE := [(0, .iload_n 0, 1, 0, 0), (1, .iload_n 1, 1, 0, 0), (2, .if_icmp .gt 7, 3, 9, 0), (5, .iload_n 0, 1, 0, 0), (6, .goto 4, 3, 10, 0), (9, .iload_n 1, 1, 0, 0), (10, .ireturn, 1, 0, 0)]
def P_Math_max : List PE := [(0, .iload_n 0, 1, 0, 0), (1, .iload_n 1, 1, 0, 0), (2, .if_icmp .lt 7, 3, 9, 0), (5, .iload_n 0, 1, 0, 0), (6, .goto 4, 3, 10, 0), (9, .iload_n 1, 1, 0, 0), (10, .ireturn, 1, 0, 0)]
def P_Str_coder : List PE := [(0, .getstatic 38, 3, 0, 0), (3, .ifCond .eq 10, 3, 13, 0), (6, .aload_n 0, 1, 0, 0), (7, .getfield 15, 3, 0, 0), (10, .goto 4, 3, 14, 0), (13, .iconst 1, 1, 0, 1), (14, .ireturn, 1, 0, 0)]
def P_Str_isLatin1 : List PE := [(0, .getstatic 38, 3, 0, 0), (3, .ifCond .eq 14, 3, 17, 0), (6, .aload_n 0, 1, 0, 0), (7, .getfield 15, 3, 0, 0), (10, .ifCond .ne 7, 3, 17, 0), (13, .iconst 1, 1, 0, 1), (14, .goto 4, 3, 18, 0), (17, .iconst 0, 1, 0, 0), (18, .ireturn, 1, 0, 0)]
def P_Pre_checkIndex : List PE := [(0, .iload_n 0, 1, 0, 0), (1, .ifCond .lt 8, 3, 9, 0), (4, .iload_n 0, 1, 0, 0), (5, .iload_n 1, 1, 0, 0), (6, .if_icmp .lt 10, 3, 16, 0), (9, .aload_n 2, 1, 0, 0), (10, .iload_n 0, 1, 0, 0), (11, .iload_n 1, 1, 0, 0), (12, .invokestatic 95, 3, 0, 0), (15, .athrow, 1, 0, 0), (16, .iload_n 0, 1, 0, 0), (17, .ireturn, 1, 0, 0)]
def P_MB_ratedBy : List PE := [(0, .iload_n 1, 1, 0, 0), (1, .ifCond .ne 10, 3, 11, 0), (4, .aload_n 0, 1, 0, 0), (5, .getfield 141, 3, 0, 0), (8, .goto 19, 3, 27, 0), (11, .iload_n 1, 1, 0, 0), (12, .iconst 1, 1, 0, 1), (13, .if_icmp .ne 10, 3, 23, 0), (16, .aload_n 0, 1, 0, 0), (17, .getfield 246, 3, 0, 0), (20, .goto 7, 3, 27, 0), (23, .aload_n 0, 1, 0, 0), (24, .getfield 144, 3, 0, 0), (27, .astore_n 3, 1, 0, 0), (28, .iload_n 2, 1, 0, 0), (29, .iconst (-1), 1, 0, (-1)), (30, .if_icmp .ne 10, 3, 40, 0), (33, .aload_n 3, 1, 0, 0), (34, .invokevirtual 136, 3, 0, 0), (37, .goto 8, 3, 45, 0), (40, .aload_n 3, 1, 0, 0), (41, .iload_n 2, 1, 0, 0), (42, .invokevirtual 185, 3, 0, 0), (45, .ireturn, 1, 0, 0)]
def P_MB_takenOfOthers : List PE := [(0, .aload_n 0, 1, 0, 0), (1, .getfield 246, 3, 0, 0), (4, .invokevirtual 136, 3, 0, 0), (7, .aload_n 0, 1, 0, 0), (8, .getfield 246, 3, 0, 0), (11, .iload_n 1, 1, 0, 0), (12, .invokevirtual 185, 3, 0, 0), (15, .isub, 1, 0, 0), (16, .ireturn, 1, 0, 0)]
def P_Tape_init : List PE := [(0, .aload_n 0, 1, 0, 0), (1, .invokespecial 3, 3, 0, 0), (4, .aload_n 0, 1, 0, 0), (5, .new 9, 3, 0, 0), (8, .dup, 1, 0, 0), (9, .sipush 500, 3, 0, 500), (12, .invokespecial 11, 3, 0, 0), (15, .putfield 14, 3, 0, 0), (18, .aload_n 0, 1, 0, 0), (19, .iconst (-1), 1, 0, (-1)), (20, .putfield 20, 3, 0, 0), (23, .return_, 1, 0, 0)]
def P_Tape_putNumber : List PE := [(0, .bipush 24, 2, 0, 24), (2, .istore_n 2, 1, 0, 0), (3, .iload_n 2, 1, 0, 0), (4, .ifCond .lt 37, 3, 41, 0), (7, .aload_n 0, 1, 0, 0), (8, .getfield 14, 3, 0, 0), (11, .aload_n 0, 1, 0, 0), (12, .getfield 24, 3, 0, 0), (15, .iload_n 1, 1, 0, 0), (16, .iload_n 2, 1, 0, 0), (17, .ishr, 1, 0, 0), (18, .sipush 255, 3, 0, 255), (21, .iand, 1, 0, 0), (22, .invokevirtual 27, 3, 0, 0), (25, .aload_n 0, 1, 0, 0), (26, .dup, 1, 0, 0), (27, .getfield 24, 3, 0, 0), (30, .iconst 1, 1, 0, 1), (31, .iadd, 1, 0, 0), (32, .putfield 24, 3, 0, 0), (35, .iinc 2 (-8), 3, 0, (-8)), (38, .goto (-35), 3, 3, 0), (41, .return_, 1, 0, 0)]
def P_Tape_next : List PE := [(0, .aload_n 0, 1, 0, 0), (1, .aload_n 0, 1, 0, 0), (2, .getfield 34, 3, 0, 0), (5, .putfield 43, 3, 0, 0), (8, .aload_n 0, 1, 0, 0), (9, .getfield 43, 3, 0, 0), (12, .aload_n 0, 1, 0, 0), (13, .getfield 31, 3, 0, 0), (16, .if_icmp .ge 48, 3, 64, 0), (19, .aload_n 0, 1, 0, 0), (20, .getfield 14, 3, 0, 0), (23, .aload_n 0, 1, 0, 0), (24, .getfield 43, 3, 0, 0), (27, .invokevirtual 46, 3, 0, 0), (30, .bipush 32, 2, 0, 32), (32, .if_icmp .eq 19, 3, 51, 0), (35, .aload_n 0, 1, 0, 0), (36, .getfield 14, 3, 0, 0), (39, .aload_n 0, 1, 0, 0), (40, .getfield 43, 3, 0, 0), (43, .invokevirtual 46, 3, 0, 0), (46, .bipush 10, 2, 0, 10), (48, .if_icmp .ne 16, 3, 64, 0), (51, .aload_n 0, 1, 0, 0), (52, .dup, 1, 0, 0), (53, .getfield 43, 3, 0, 0), (56, .iconst 1, 1, 0, 1), (57, .iadd, 1, 0, 0), (58, .putfield 43, 3, 0, 0), (61, .goto (-53), 3, 8, 0), (64, .aload_n 0, 1, 0, 0), (65, .aload_n 0, 1, 0, 0), (66, .getfield 43, 3, 0, 0), (69, .putfield 34, 3, 0, 0), (72, .aload_n 0, 1, 0, 0), (73, .getfield 43, 3, 0, 0), (76, .aload_n 0, 1, 0, 0), (77, .getfield 31, 3, 0, 0), (80, .if_icmp .lt 9, 3, 89, 0), (83, .aload_n 0, 1, 0, 0), (84, .iconst 0, 1, 0, 0), (85, .putfield 50, 3, 0, 0), (88, .return_, 1, 0, 0), (89, .aload_n 0, 1, 0, 0), (90, .aload_n 0, 1, 0, 0), (91, .getfield 14, 3, 0, 0), (94, .aload_n 0, 1, 0, 0), (95, .getfield 43, 3, 0, 0), (98, .invokevirtual 46, 3, 0, 0), (101, .invokestatic 53, 3, 0, 0), (104, .putfield 50, 3, 0, 0), (107, .aload_n 0, 1, 0, 0), (108, .dup, 1, 0, 0), (109, .getfield 34, 3, 0, 0), (112, .iconst 1, 1, 0, 1), (113, .iadd, 1, 0, 0), (114, .putfield 34, 3, 0, 0), (117, .aload_n 0, 1, 0, 0), (118, .getfield 34, 3, 0, 0), (121, .aload_n 0, 1, 0, 0), (122, .getfield 31, 3, 0, 0), (125, .if_icmp .ge 45, 3, 170, 0), (128, .aload_n 0, 1, 0, 0), (129, .getfield 50, 3, 0, 0), (132, .iconst 3, 1, 0, 3), (133, .if_icmp .eq 37, 3, 170, 0), (136, .aload_n 0, 1, 0, 0), (137, .getfield 14, 3, 0, 0), (140, .aload_n 0, 1, 0, 0), (141, .getfield 34, 3, 0, 0), (144, .invokevirtual 46, 3, 0, 0), (147, .invokestatic 53, 3, 0, 0), (150, .aload_n 0, 1, 0, 0), (151, .getfield 50, 3, 0, 0), (154, .if_icmp .ne 16, 3, 170, 0), (157, .aload_n 0, 1, 0, 0), (158, .dup, 1, 0, 0), (159, .getfield 34, 3, 0, 0), (162, .iconst 1, 1, 0, 1), (163, .iadd, 1, 0, 0), (164, .putfield 34, 3, 0, 0), (167, .goto (-50), 3, 117, 0), (170, .return_, 1, 0, 0)]
def P_Tape_number : List PE := [(0, .iconst 0, 1, 0, 0), (1, .istore_n 1, 1, 0, 0), (2, .aload_n 0, 1, 0, 0), (3, .getfield 43, 3, 0, 0), (6, .istore_n 2, 1, 0, 0), (7, .iload_n 2, 1, 0, 0), (8, .aload_n 0, 1, 0, 0), (9, .getfield 34, 3, 0, 0), (12, .if_icmp .ge 31, 3, 43, 0), (15, .iload_n 1, 1, 0, 0), (16, .bipush 10, 2, 0, 10), (18, .imul, 1, 0, 0), (19, .aload_n 0, 1, 0, 0), (20, .getfield 14, 3, 0, 0), (23, .iload_n 2, 1, 0, 0), (24, .invokevirtual 46, 3, 0, 0), (27, .iadd, 1, 0, 0), (28, .bipush 48, 2, 0, 48), (30, .isub, 1, 0, 0), (31, .ldc 65, 2, 0, 0), (33, .invokestatic 66, 3, 0, 0), (36, .istore_n 1, 1, 0, 0), (37, .iinc 2 1, 3, 0, 1), (40, .goto (-33), 3, 7, 0), (43, .iload_n 1, 1, 0, 0), (44, .ireturn, 1, 0, 0)]
def P_Tape_isSign : List PE := [(0, .aload_n 0, 1, 0, 0), (1, .getfield 50, 3, 0, 0), (4, .iconst 3, 1, 0, 3), (5, .if_icmp .ne 22, 3, 27, 0), (8, .aload_n 0, 1, 0, 0), (9, .getfield 14, 3, 0, 0), (12, .aload_n 0, 1, 0, 0), (13, .getfield 43, 3, 0, 0), (16, .invokevirtual 46, 3, 0, 0), (19, .iload_n 1, 1, 0, 0), (20, .if_icmp .ne 7, 3, 27, 0), (23, .iconst 1, 1, 0, 1), (24, .goto 4, 3, 28, 0), (27, .iconst 0, 1, 0, 0), (28, .ireturn, 1, 0, 0)]
def P_Plan_wholeLoad : List PE := [(0, .lconst 0, 1, 0, 0), (1, .lstore_n 2, 1, 0, 0), (2, .iconst 0, 1, 0, 0), (3, .istore 4, 2, 0, 0), (5, .iload 4, 2, 0, 0), (7, .aload_n 0, 1, 0, 0), (8, .getfield 73, 3, 0, 0), (11, .if_icmp .ge 136, 3, 147, 0), (14, .aload_n 0, 1, 0, 0), (15, .getfield 29, 3, 0, 0), (18, .aload_n 0, 1, 0, 0), (19, .getfield 41, 3, 0, 0), (22, .iload 4, 2, 0, 0), (24, .invokevirtual 94, 3, 0, 0), (27, .invokevirtual 94, 3, 0, 0), (30, .istore 5, 2, 0, 0), (32, .aload_n 0, 1, 0, 0), (33, .getfield 14, 3, 0, 0), (36, .aload_n 0, 1, 0, 0), (37, .getfield 23, 3, 0, 0), (40, .aload_n 0, 1, 0, 0), (41, .getfield 44, 3, 0, 0), (44, .iload 4, 2, 0, 0), (46, .invokevirtual 94, 3, 0, 0), (49, .invokevirtual 94, 3, 0, 0), (52, .invokevirtual 94, 3, 0, 0), (55, .istore 6, 2, 0, 0), (57, .aload_n 0, 1, 0, 0), (58, .getfield 47, 3, 0, 0), (61, .iload 4, 2, 0, 0), (63, .invokevirtual 94, 3, 0, 0), (66, .istore 7, 2, 0, 0), (68, .iload 6, 2, 0, 0), (70, .iload 5, 2, 0, 0), (72, .if_icmp .le 11, 3, 83, 0), (75, .iload 6, 2, 0, 0), (77, .iload 5, 2, 0, 0), (79, .isub, 1, 0, 0), (80, .goto 13, 3, 93, 0), (83, .iload 6, 2, 0, 0), (85, .iload 5, 2, 0, 0), (87, .isub, 1, 0, 0), (88, .aload_n 0, 1, 0, 0), (89, .getfield 60, 3, 0, 0), (92, .iadd, 1, 0, 0), (93, .istore 8, 2, 0, 0), (95, .iload_n 1, 1, 0, 0), (96, .iload 5, 2, 0, 0), (98, .if_icmp .lt 10, 3, 108, 0), (101, .iload_n 1, 1, 0, 0), (102, .iload 5, 2, 0, 0), (104, .isub, 1, 0, 0), (105, .goto 12, 3, 117, 0), (108, .iload_n 1, 1, 0, 0), (109, .iload 5, 2, 0, 0), (111, .isub, 1, 0, 0), (112, .aload_n 0, 1, 0, 0), (113, .getfield 60, 3, 0, 0), (116, .iadd, 1, 0, 0), (117, .istore 9, 2, 0, 0), (119, .iload 9, 2, 0, 0), (121, .iload 8, 2, 0, 0), (123, .if_icmp .ge 18, 3, 141, 0), (126, .iload 7, 2, 0, 0), (128, .ifCond .le 13, 3, 141, 0), (131, .lload_n 2, 1, 0, 0), (132, .ldc2_w 98, 3, 0, 0), (135, .iload 7, 2, 0, 0), (137, .i2l, 1, 0, 0), (138, .ldiv, 1, 0, 0), (139, .ladd, 1, 0, 0), (140, .lstore_n 2, 1, 0, 0), (141, .iinc 4 1, 3, 0, 1), (144, .goto (-139), 3, 5, 0), (147, .lload_n 2, 1, 0, 0), (148, .lreturn, 1, 0, 0)]
def P_Plan_clear : List PE := [(0, .aload_n 0, 1, 0, 0), (1, .iconst 0, 1, 0, 0), (2, .putfield 60, 3, 0, 0), (5, .aload_n 0, 1, 0, 0), (6, .iconst 0, 1, 0, 0), (7, .putfield 64, 3, 0, 0), (10, .aload_n 0, 1, 0, 0), (11, .iconst 0, 1, 0, 0), (12, .putfield 67, 3, 0, 0), (15, .aload_n 0, 1, 0, 0), (16, .iconst 0, 1, 0, 0), (17, .putfield 70, 3, 0, 0), (20, .aload_n 0, 1, 0, 0), (21, .iconst 0, 1, 0, 0), (22, .putfield 73, 3, 0, 0), (25, .aload_n 0, 1, 0, 0), (26, .iconst 0, 1, 0, 0), (27, .putfield 76, 3, 0, 0), (30, .aload_n 0, 1, 0, 0), (31, .getfield 56, 3, 0, 0), (34, .invokevirtual 80, 3, 0, 0), (37, .return_, 1, 0, 0)]
def P_Plan_dueIn : List PE := [(0, .aload_n 0, 1, 0, 0), (1, .getfield 50, 3, 0, 0), (4, .iload_n 1, 1, 0, 0), (5, .invokevirtual 94, 3, 0, 0), (8, .istore_n 3, 1, 0, 0), (9, .aload_n 0, 1, 0, 0), (10, .getfield 47, 3, 0, 0), (13, .iload_n 1, 1, 0, 0), (14, .invokevirtual 94, 3, 0, 0), (17, .istore 4, 2, 0, 0), (19, .iload_n 2, 1, 0, 0), (20, .iload_n 3, 1, 0, 0), (21, .if_icmp .gt 7, 3, 28, 0), (24, .iload_n 3, 1, 0, 0), (25, .iload_n 2, 1, 0, 0), (26, .isub, 1, 0, 0), (27, .ireturn, 1, 0, 0), (28, .iload 4, 2, 0, 0), (30, .iconst 1, 1, 0, 1), (31, .if_icmp .ge 5, 3, 36, 0), (34, .iconst 0, 1, 0, 0), (35, .ireturn, 1, 0, 0), (36, .iload_n 2, 1, 0, 0), (37, .iload_n 3, 1, 0, 0), (38, .isub, 1, 0, 0), (39, .iload 4, 2, 0, 0), (41, .irem, 1, 0, 0), (42, .istore 5, 2, 0, 0), (44, .iload 5, 2, 0, 0), (46, .ifCond .ne 7, 3, 53, 0), (49, .iconst 0, 1, 0, 0), (50, .goto 8, 3, 58, 0), (53, .iload 4, 2, 0, 0), (55, .iload 5, 2, 0, 0), (57, .isub, 1, 0, 0), (58, .ireturn, 1, 0, 0)]
def P_Plan_indexOf : List PE := [(0, .iconst 0, 1, 0, 0), (1, .istore_n 3, 1, 0, 0), (2, .iload_n 3, 1, 0, 0), (3, .iload_n 2, 1, 0, 0), (4, .if_icmp .ge 20, 3, 24, 0), (7, .aload_n 1, 1, 0, 0), (8, .iload_n 3, 1, 0, 0), (9, .invokevirtual 94, 3, 0, 0), (12, .iload_n 0, 1, 0, 0), (13, .if_icmp .ne 5, 3, 18, 0), (16, .iload_n 3, 1, 0, 0), (17, .ireturn, 1, 0, 0), (18, .iinc 3 1, 3, 0, 1), (21, .goto (-19), 3, 2, 0), (24, .iconst (-1), 1, 0, (-1)), (25, .ireturn, 1, 0, 0)]
def P_State_isFull : List PE := [(0, .aload_n 0, 1, 0, 0), (1, .getfield 21, 3, 0, 0), (4, .getfield 120, 3, 0, 0), (7, .iload_n 1, 1, 0, 0), (8, .invokevirtual 131, 3, 0, 0), (11, .aload_n 0, 1, 0, 0), (12, .getfield 30, 3, 0, 0), (15, .iload_n 1, 1, 0, 0), (16, .invokevirtual 131, 3, 0, 0), (19, .if_icmp .lt 7, 3, 26, 0), (22, .iconst 1, 1, 0, 1), (23, .goto 4, 3, 27, 0), (26, .iconst 0, 1, 0, 0), (27, .ireturn, 1, 0, 0)]
def P_State_mayTakeIn : List PE := [(0, .iconst 0, 1, 0, 0), (1, .aload_n 0, 1, 0, 0), (2, .getfield 58, 3, 0, 0), (5, .iload_n 1, 1, 0, 0), (6, .invokevirtual 131, 3, 0, 0), (9, .aload_n 0, 1, 0, 0), (10, .getfield 81, 3, 0, 0), (13, .isub, 1, 0, 0), (14, .invokestatic 153, 3, 0, 0), (17, .ireturn, 1, 0, 0)]
def P_State_lateness : List PE := [(0, .aload_n 0, 1, 0, 0), (1, .getfield 21, 3, 0, 0), (4, .getfield 120, 3, 0, 0), (7, .iload_n 1, 1, 0, 0), (8, .invokevirtual 131, 3, 0, 0), (11, .ifCond .le 25, 3, 36, 0), (14, .aload_n 0, 1, 0, 0), (15, .getfield 81, 3, 0, 0), (18, .aload_n 0, 1, 0, 0), (19, .getfield 21, 3, 0, 0), (22, .getfield 272, 3, 0, 0), (25, .iload_n 1, 1, 0, 0), (26, .bipush 20, 2, 0, 20), (28, .imul, 1, 0, 0), (29, .invokevirtual 131, 3, 0, 0), (32, .isub, 1, 0, 0), (33, .goto 4, 3, 37, 0), (36, .iconst 0, 1, 0, 0), (37, .ireturn, 1, 0, 0)]
def P_State_urgentAt : List PE := [(0, .iconst 0, 1, 0, 0), (1, .istore_n 3, 1, 0, 0), (2, .iconst 0, 1, 0, 0), (3, .istore 4, 2, 0, 0), (5, .iload 4, 2, 0, 0), (7, .aload_n 0, 1, 0, 0), (8, .getfield 21, 3, 0, 0), (11, .getfield 120, 3, 0, 0), (14, .iload_n 2, 1, 0, 0), (15, .invokevirtual 131, 3, 0, 0), (18, .if_icmp .ge 36, 3, 54, 0), (21, .iload_n 3, 1, 0, 0), (22, .aload_n 1, 1, 0, 0), (23, .getfield 275, 3, 0, 0), (26, .aload_n 0, 1, 0, 0), (27, .getfield 21, 3, 0, 0), (30, .getfield 278, 3, 0, 0), (33, .iload_n 2, 1, 0, 0), (34, .bipush 20, 2, 0, 20), (36, .imul, 1, 0, 0), (37, .iload 4, 2, 0, 0), (39, .iadd, 1, 0, 0), (40, .invokevirtual 131, 3, 0, 0), (43, .invokevirtual 131, 3, 0, 0), (46, .iadd, 1, 0, 0), (47, .istore_n 3, 1, 0, 0), (48, .iinc 4 1, 3, 0, 1), (51, .goto (-46), 3, 5, 0), (54, .iload_n 3, 1, 0, 0), (55, .ireturn, 1, 0, 0)]
def P_State_payCredits : List PE := [(0, .iconst 0, 1, 0, 0), (1, .istore 5, 2, 0, 0), (3, .iload 5, 2, 0, 0), (5, .aload_n 1, 1, 0, 0), (6, .getfield 213, 3, 0, 0), (9, .if_icmp .ge 37, 3, 46, 0), (12, .iload_n 2, 1, 0, 0), (13, .iload 5, 2, 0, 0), (15, .ishr, 1, 0, 0), (16, .iconst 1, 1, 0, 1), (17, .iand, 1, 0, 0), (18, .iconst 1, 1, 0, 1), (19, .if_icmp .ne 21, 3, 40, 0), (22, .aload_n 0, 1, 0, 0), (23, .getfield 40, 3, 0, 0), (26, .iload 5, 2, 0, 0), (28, .aload_n 0, 1, 0, 0), (29, .getfield 37, 3, 0, 0), (32, .iload 5, 2, 0, 0), (34, .invokevirtual 131, 3, 0, 0), (37, .invokevirtual 172, 3, 0, 0), (40, .iinc 5 1, 3, 0, 1), (43, .goto (-40), 3, 3, 0), (46, .aload_n 0, 1, 0, 0), (47, .getfield 40, 3, 0, 0), (50, .iload_n 3, 1, 0, 0), (51, .iload 4, 2, 0, 0), (53, .ineg, 1, 0, 0), (54, .invokevirtual 172, 3, 0, 0), (57, .return_, 1, 0, 0)]
def P_State_silence : List PE := [(0, .aload_n 0, 1, 0, 0), (1, .iload_n 1, 1, 0, 0), (2, .putfield 77, 3, 0, 0), (5, .aload_n 0, 1, 0, 0), (6, .getfield 21, 3, 0, 0), (9, .getfield 120, 3, 0, 0), (12, .iload_n 1, 1, 0, 0), (13, .iconst 0, 1, 0, 0), (14, .invokevirtual 123, 3, 0, 0), (17, .return_, 1, 0, 0)]
def P_Row_fill : List PE := [(0, .aload_n 0, 1, 0, 0), (1, .getfield 7, 3, 0, 0), (4, .iload_n 1, 1, 0, 0), (5, .invokestatic 13, 3, 0, 0), (8, .return_, 1, 0, 0)]
def P_Row_copyFrom : List PE := [(0, .aload_n 1, 1, 0, 0), (1, .getfield 7, 3, 0, 0), (4, .iconst 0, 1, 0, 0), (5, .aload_n 0, 1, 0, 0), (6, .getfield 7, 3, 0, 0), (9, .iconst 0, 1, 0, 0), (10, .aload_n 0, 1, 0, 0), (11, .getfield 7, 3, 0, 0), (14, .arraylength, 1, 0, 0), (15, .aload_n 1, 1, 0, 0), (16, .getfield 7, 3, 0, 0), (19, .arraylength, 1, 0, 0), (20, .invokestatic 19, 3, 0, 0), (23, .invokestatic 25, 3, 0, 0), (26, .return_, 1, 0, 0)]
def P_Ring_init : List PE := [(0, .aload_n 0, 1, 0, 0), (1, .invokespecial 3, 3, 0, 0), (4, .aload_n 0, 1, 0, 0), (5, .new 9, 3, 0, 0), (8, .dup, 1, 0, 0), (9, .bipush 40, 2, 0, 40), (11, .invokespecial 11, 3, 0, 0), (14, .putfield 14, 3, 0, 0), (17, .aload_n 0, 1, 0, 0), (18, .new 9, 3, 0, 0), (21, .dup, 1, 0, 0), (22, .bipush 40, 2, 0, 40), (24, .invokespecial 11, 3, 0, 0), (27, .putfield 20, 3, 0, 0), (30, .aload_n 0, 1, 0, 0), (31, .new 9, 3, 0, 0), (34, .dup, 1, 0, 0), (35, .bipush 40, 2, 0, 40), (37, .invokespecial 11, 3, 0, 0), (40, .putfield 23, 3, 0, 0), (43, .aload_n 0, 1, 0, 0), (44, .new 9, 3, 0, 0), (47, .dup, 1, 0, 0), (48, .bipush 40, 2, 0, 40), (50, .invokespecial 11, 3, 0, 0), (53, .putfield 26, 3, 0, 0), (56, .aload_n 0, 1, 0, 0), (57, .new 9, 3, 0, 0), (60, .dup, 1, 0, 0), (61, .bipush 40, 2, 0, 40), (63, .invokespecial 11, 3, 0, 0), (66, .putfield 29, 3, 0, 0), (69, .aload_n 0, 1, 0, 0), (70, .new 9, 3, 0, 0), (73, .dup, 1, 0, 0), (74, .bipush 40, 2, 0, 40), (76, .invokespecial 11, 3, 0, 0), (79, .putfield 32, 3, 0, 0), (82, .return_, 1, 0, 0)]
def P_Ring_items : List PE := [(0, .iconst 0, 1, 0, 0), (1, .istore_n 1, 1, 0, 0), (2, .iconst 0, 1, 0, 0), (3, .istore_n 2, 1, 0, 0), (4, .iload_n 2, 1, 0, 0), (5, .aload_n 0, 1, 0, 0), (6, .getfield 35, 3, 0, 0), (9, .if_icmp .ge 29, 3, 38, 0), (12, .iload_n 1, 1, 0, 0), (13, .aload_n 0, 1, 0, 0), (14, .getfield 14, 3, 0, 0), (17, .iload_n 2, 1, 0, 0), (18, .invokevirtual 53, 3, 0, 0), (21, .iconst (-1), 1, 0, (-1)), (22, .if_icmp .eq 7, 3, 29, 0), (25, .iconst 1, 1, 0, 1), (26, .goto 4, 3, 30, 0), (29, .iconst 0, 1, 0, 0), (30, .iadd, 1, 0, 0), (31, .istore_n 1, 1, 0, 0), (32, .iinc 2 1, 3, 0, 1), (35, .goto (-31), 3, 4, 0), (38, .iload_n 1, 1, 0, 0), (39, .ireturn, 1, 0, 0)]
def P_Ring_reserved : List PE := [(0, .iconst 0, 1, 0, 0), (1, .istore_n 1, 1, 0, 0), (2, .iconst 0, 1, 0, 0), (3, .istore_n 2, 1, 0, 0), (4, .iload_n 2, 1, 0, 0), (5, .aload_n 0, 1, 0, 0), (6, .getfield 35, 3, 0, 0), (9, .if_icmp .ge 29, 3, 38, 0), (12, .iload_n 1, 1, 0, 0), (13, .aload_n 0, 1, 0, 0), (14, .getfield 32, 3, 0, 0), (17, .iload_n 2, 1, 0, 0), (18, .invokevirtual 53, 3, 0, 0), (21, .iconst (-1), 1, 0, (-1)), (22, .if_icmp .eq 7, 3, 29, 0), (25, .iconst 1, 1, 0, 1), (26, .goto 4, 3, 30, 0), (29, .iconst 0, 1, 0, 0), (30, .iadd, 1, 0, 0), (31, .istore_n 1, 1, 0, 0), (32, .iinc 2 1, 3, 0, 1), (35, .goto (-31), 3, 4, 0), (38, .iload_n 1, 1, 0, 0), (39, .ireturn, 1, 0, 0)]
def P_Ring_wareAt : List PE := [(0, .aload_n 0, 1, 0, 0), (1, .getfield 14, 3, 0, 0), (4, .aload_n 0, 1, 0, 0), (5, .iload_n 1, 1, 0, 0), (6, .invokevirtual 49, 3, 0, 0), (9, .invokevirtual 53, 3, 0, 0), (12, .ireturn, 1, 0, 0)]
def P_Ring_fromAt : List PE := [(0, .aload_n 0, 1, 0, 0), (1, .getfield 20, 3, 0, 0), (4, .aload_n 0, 1, 0, 0), (5, .iload_n 1, 1, 0, 0), (6, .invokevirtual 49, 3, 0, 0), (9, .invokevirtual 53, 3, 0, 0), (12, .ireturn, 1, 0, 0)]
def P_Ring_roundsAt : List PE := [(0, .aload_n 0, 1, 0, 0), (1, .getfield 23, 3, 0, 0), (4, .aload_n 0, 1, 0, 0), (5, .iload_n 1, 1, 0, 0), (6, .invokevirtual 49, 3, 0, 0), (9, .invokevirtual 53, 3, 0, 0), (12, .ireturn, 1, 0, 0)]
def P_Ring_wentAt : List PE := [(0, .aload_n 0, 1, 0, 0), (1, .getfield 26, 3, 0, 0), (4, .aload_n 0, 1, 0, 0), (5, .iload_n 1, 1, 0, 0), (6, .invokevirtual 49, 3, 0, 0), (9, .invokevirtual 53, 3, 0, 0), (12, .ireturn, 1, 0, 0)]
def P_Ring_heldForAt : List PE := [(0, .aload_n 0, 1, 0, 0), (1, .getfield 32, 3, 0, 0), (4, .aload_n 0, 1, 0, 0), (5, .iload_n 1, 1, 0, 0), (6, .invokevirtual 49, 3, 0, 0), (9, .invokevirtual 53, 3, 0, 0), (12, .ireturn, 1, 0, 0)]
def P_Ring_itemsOf : List PE := [(0, .iconst 0, 1, 0, 0), (1, .istore_n 2, 1, 0, 0), (2, .iconst 0, 1, 0, 0), (3, .istore_n 3, 1, 0, 0), (4, .iload_n 3, 1, 0, 0), (5, .aload_n 0, 1, 0, 0), (6, .getfield 35, 3, 0, 0), (9, .if_icmp .ge 29, 3, 38, 0), (12, .iload_n 2, 1, 0, 0), (13, .aload_n 0, 1, 0, 0), (14, .getfield 14, 3, 0, 0), (17, .iload_n 3, 1, 0, 0), (18, .invokevirtual 53, 3, 0, 0), (21, .iload_n 1, 1, 0, 0), (22, .if_icmp .ne 7, 3, 29, 0), (25, .iconst 1, 1, 0, 1), (26, .goto 4, 3, 30, 0), (29, .iconst 0, 1, 0, 0), (30, .iadd, 1, 0, 0), (31, .istore_n 2, 1, 0, 0), (32, .iinc 3 1, 3, 0, 1), (35, .goto (-31), 3, 4, 0), (38, .iload_n 2, 1, 0, 0), (39, .ireturn, 1, 0, 0)]
def P_Ring_advance : List PE := [(0, .aload_n 0, 1, 0, 0), (1, .aload_n 0, 1, 0, 0), (2, .getfield 39, 3, 0, 0), (5, .iconst 1, 1, 0, 1), (6, .iadd, 1, 0, 0), (7, .aload_n 0, 1, 0, 0), (8, .getfield 35, 3, 0, 0), (11, .if_icmp .ge 12, 3, 23, 0), (14, .aload_n 0, 1, 0, 0), (15, .getfield 39, 3, 0, 0), (18, .iconst 1, 1, 0, 1), (19, .iadd, 1, 0, 0), (20, .goto 4, 3, 24, 0), (23, .iconst 0, 1, 0, 0), (24, .putfield 39, 3, 0, 0), (27, .aload_n 0, 1, 0, 0), (28, .iconst 0, 1, 0, 0), (29, .invokevirtual 49, 3, 0, 0), (32, .istore_n 1, 1, 0, 0), (33, .aload_n 0, 1, 0, 0), (34, .getfield 14, 3, 0, 0), (37, .iload_n 1, 1, 0, 0), (38, .invokevirtual 53, 3, 0, 0), (41, .iconst (-1), 1, 0, (-1)), (42, .if_icmp .eq 12, 3, 54, 0), (45, .aload_n 0, 1, 0, 0), (46, .getfield 23, 3, 0, 0), (49, .iload_n 1, 1, 0, 0), (50, .iconst 1, 1, 0, 1), (51, .invokevirtual 56, 3, 0, 0), (54, .return_, 1, 0, 0)]
def P_Ring_waitedAt : List PE := [(0, .aload_n 0, 1, 0, 0), (1, .getfield 29, 3, 0, 0), (4, .aload_n 0, 1, 0, 0), (5, .iload_n 1, 1, 0, 0), (6, .invokevirtual 49, 3, 0, 0), (9, .invokevirtual 53, 3, 0, 0), (12, .ireturn, 1, 0, 0)]
def P_Ring_vacate : List PE := [(0, .aload_n 0, 1, 0, 0), (1, .iload_n 1, 1, 0, 0), (2, .invokevirtual 49, 3, 0, 0), (5, .istore_n 2, 1, 0, 0), (6, .aload_n 0, 1, 0, 0), (7, .getfield 14, 3, 0, 0), (10, .iload_n 2, 1, 0, 0), (11, .iconst (-1), 1, 0, (-1)), (12, .invokevirtual 60, 3, 0, 0), (15, .aload_n 0, 1, 0, 0), (16, .getfield 20, 3, 0, 0), (19, .iload_n 2, 1, 0, 0), (20, .iconst (-1), 1, 0, (-1)), (21, .invokevirtual 60, 3, 0, 0), (24, .aload_n 0, 1, 0, 0), (25, .getfield 23, 3, 0, 0), (28, .iload_n 2, 1, 0, 0), (29, .iconst (-1), 1, 0, (-1)), (30, .invokevirtual 60, 3, 0, 0), (33, .return_, 1, 0, 0)]
def P_Ring_isFree : List PE := [(0, .aload_n 0, 1, 0, 0), (1, .iload_n 1, 1, 0, 0), (2, .invokevirtual 49, 3, 0, 0), (5, .istore_n 2, 1, 0, 0), (6, .aload_n 0, 1, 0, 0), (7, .getfield 14, 3, 0, 0), (10, .iload_n 2, 1, 0, 0), (11, .invokevirtual 53, 3, 0, 0), (14, .iconst (-1), 1, 0, (-1)), (15, .if_icmp .ne 19, 3, 34, 0), (18, .aload_n 0, 1, 0, 0), (19, .getfield 32, 3, 0, 0), (22, .iload_n 2, 1, 0, 0), (23, .invokevirtual 53, 3, 0, 0), (26, .iconst (-1), 1, 0, (-1)), (27, .if_icmp .ne 7, 3, 34, 0), (30, .iconst 1, 1, 0, 1), (31, .goto 4, 3, 35, 0), (34, .iconst 0, 1, 0, 0), (35, .ireturn, 1, 0, 0)]
def P_Ring_hold : List PE := [(0, .aload_n 0, 1, 0, 0), (1, .getfield 32, 3, 0, 0), (4, .aload_n 0, 1, 0, 0), (5, .iload_n 1, 1, 0, 0), (6, .invokevirtual 49, 3, 0, 0), (9, .iload_n 2, 1, 0, 0), (10, .invokevirtual 60, 3, 0, 0), (13, .return_, 1, 0, 0)]
def P_Ring_seat : List PE := [(0, .aload_n 0, 1, 0, 0), (1, .iload_n 1, 1, 0, 0), (2, .invokevirtual 49, 3, 0, 0), (5, .istore 6, 2, 0, 0), (7, .aload_n 0, 1, 0, 0), (8, .getfield 14, 3, 0, 0), (11, .iload 6, 2, 0, 0), (13, .iload_n 2, 1, 0, 0), (14, .invokevirtual 60, 3, 0, 0), (17, .aload_n 0, 1, 0, 0), (18, .getfield 20, 3, 0, 0), (21, .iload 6, 2, 0, 0), (23, .iload_n 3, 1, 0, 0), (24, .invokevirtual 60, 3, 0, 0), (27, .aload_n 0, 1, 0, 0), (28, .getfield 23, 3, 0, 0), (31, .iload 6, 2, 0, 0), (33, .iconst 0, 1, 0, 0), (34, .invokevirtual 60, 3, 0, 0), (37, .aload_n 0, 1, 0, 0), (38, .getfield 26, 3, 0, 0), (41, .iload 6, 2, 0, 0), (43, .iload 4, 2, 0, 0), (45, .invokevirtual 60, 3, 0, 0), (48, .aload_n 0, 1, 0, 0), (49, .getfield 29, 3, 0, 0), (52, .iload 6, 2, 0, 0), (54, .iload 5, 2, 0, 0), (56, .invokevirtual 60, 3, 0, 0), (59, .return_, 1, 0, 0)]
def P_Ring_isAs : List PE := [(0, .iconst 0, 1, 0, 0), (1, .istore_n 2, 1, 0, 0), (2, .iload_n 2, 1, 0, 0), (3, .aload_n 0, 1, 0, 0), (4, .getfield 35, 3, 0, 0), (7, .if_icmp .ge 84, 3, 91, 0), (10, .aload_n 0, 1, 0, 0), (11, .iload_n 2, 1, 0, 0), (12, .invokevirtual 49, 3, 0, 0), (15, .istore_n 3, 1, 0, 0), (16, .aload_n 1, 1, 0, 0), (17, .iload_n 2, 1, 0, 0), (18, .invokevirtual 49, 3, 0, 0), (21, .istore 4, 2, 0, 0), (23, .aload_n 0, 1, 0, 0), (24, .getfield 14, 3, 0, 0), (27, .iload_n 3, 1, 0, 0), (28, .invokevirtual 53, 3, 0, 0), (31, .aload_n 1, 1, 0, 0), (32, .getfield 14, 3, 0, 0), (35, .iload 4, 2, 0, 0), (37, .invokevirtual 53, 3, 0, 0), (40, .if_icmp .ne 43, 3, 83, 0), (43, .aload_n 0, 1, 0, 0), (44, .getfield 20, 3, 0, 0), (47, .iload_n 3, 1, 0, 0), (48, .invokevirtual 53, 3, 0, 0), (51, .aload_n 1, 1, 0, 0), (52, .getfield 20, 3, 0, 0), (55, .iload 4, 2, 0, 0), (57, .invokevirtual 53, 3, 0, 0), (60, .if_icmp .ne 23, 3, 83, 0), (63, .aload_n 0, 1, 0, 0), (64, .getfield 32, 3, 0, 0), (67, .iload_n 3, 1, 0, 0), (68, .invokevirtual 53, 3, 0, 0), (71, .aload_n 1, 1, 0, 0), (72, .getfield 32, 3, 0, 0), (75, .iload 4, 2, 0, 0), (77, .invokevirtual 53, 3, 0, 0), (80, .if_icmp .eq 5, 3, 85, 0), (83, .iconst 0, 1, 0, 0), (84, .ireturn, 1, 0, 0), (85, .iinc 2 1, 3, 0, 1), (88, .goto (-86), 3, 2, 0), (91, .iconst 1, 1, 0, 1), (92, .ireturn, 1, 0, 0)]
def P_Queues_init : List PE := [(0, .aload_n 0, 1, 0, 0), (1, .invokespecial 3, 3, 0, 0), (4, .aload_n 0, 1, 0, 0), (5, .new 9, 3, 0, 0), (8, .dup, 1, 0, 0), (9, .bipush 120, 2, 0, 120), (11, .invokespecial 11, 3, 0, 0), (14, .putfield 14, 3, 0, 0), (17, .aload_n 0, 1, 0, 0), (18, .new 9, 3, 0, 0), (21, .dup, 1, 0, 0), (22, .bipush 120, 2, 0, 120), (24, .invokespecial 11, 3, 0, 0), (27, .putfield 20, 3, 0, 0), (30, .aload_n 0, 1, 0, 0), (31, .new 9, 3, 0, 0), (34, .dup, 1, 0, 0), (35, .bipush 6, 2, 0, 6), (37, .invokespecial 11, 3, 0, 0), (40, .putfield 23, 3, 0, 0), (43, .return_, 1, 0, 0)]
def P_Queues_join : List PE := [(0, .aload_n 0, 1, 0, 0), (1, .getfield 23, 3, 0, 0), (4, .iload_n 1, 1, 0, 0), (5, .invokevirtual 33, 3, 0, 0), (8, .istore 4, 2, 0, 0), (10, .iload 4, 2, 0, 0), (12, .bipush 20, 2, 0, 20), (14, .if_icmp .ge 45, 3, 59, 0), (17, .aload_n 0, 1, 0, 0), (18, .getfield 14, 3, 0, 0), (21, .iload_n 1, 1, 0, 0), (22, .bipush 20, 2, 0, 20), (24, .imul, 1, 0, 0), (25, .iload 4, 2, 0, 0), (27, .iadd, 1, 0, 0), (28, .iload_n 2, 1, 0, 0), (29, .invokevirtual 37, 3, 0, 0), (32, .aload_n 0, 1, 0, 0), (33, .getfield 20, 3, 0, 0), (36, .iload_n 1, 1, 0, 0), (37, .bipush 20, 2, 0, 20), (39, .imul, 1, 0, 0), (40, .iload 4, 2, 0, 0), (42, .iadd, 1, 0, 0), (43, .iload_n 3, 1, 0, 0), (44, .invokevirtual 37, 3, 0, 0), (47, .aload_n 0, 1, 0, 0), (48, .getfield 23, 3, 0, 0), (51, .iload_n 1, 1, 0, 0), (52, .iload 4, 2, 0, 0), (54, .iconst 1, 1, 0, 1), (55, .iadd, 1, 0, 0), (56, .invokevirtual 37, 3, 0, 0), (59, .return_, 1, 0, 0)]
def P_Queues_wareOf : List PE := [(0, .aload_n 0, 1, 0, 0), (1, .getfield 14, 3, 0, 0), (4, .iload_n 1, 1, 0, 0), (5, .bipush 20, 2, 0, 20), (7, .imul, 1, 0, 0), (8, .iload_n 2, 1, 0, 0), (9, .iadd, 1, 0, 0), (10, .invokevirtual 33, 3, 0, 0), (13, .ireturn, 1, 0, 0)]
def P_Queues_dropFirst : List PE := [(0, .aload_n 0, 1, 0, 0), (1, .getfield 23, 3, 0, 0), (4, .iload_n 1, 1, 0, 0), (5, .invokevirtual 33, 3, 0, 0), (8, .istore_n 2, 1, 0, 0), (9, .iload_n 1, 1, 0, 0), (10, .bipush 20, 2, 0, 20), (12, .imul, 1, 0, 0), (13, .istore_n 3, 1, 0, 0), (14, .iload_n 3, 1, 0, 0), (15, .iload_n 1, 1, 0, 0), (16, .bipush 20, 2, 0, 20), (18, .imul, 1, 0, 0), (19, .iload_n 2, 1, 0, 0), (20, .iadd, 1, 0, 0), (21, .iconst 1, 1, 0, 1), (22, .isub, 1, 0, 0), (23, .if_icmp .ge 45, 3, 68, 0), (26, .aload_n 0, 1, 0, 0), (27, .getfield 14, 3, 0, 0), (30, .iload_n 3, 1, 0, 0), (31, .aload_n 0, 1, 0, 0), (32, .getfield 14, 3, 0, 0), (35, .iload_n 3, 1, 0, 0), (36, .iconst 1, 1, 0, 1), (37, .iadd, 1, 0, 0), (38, .invokevirtual 33, 3, 0, 0), (41, .invokevirtual 37, 3, 0, 0), (44, .aload_n 0, 1, 0, 0), (45, .getfield 20, 3, 0, 0), (48, .iload_n 3, 1, 0, 0), (49, .aload_n 0, 1, 0, 0), (50, .getfield 20, 3, 0, 0), (53, .iload_n 3, 1, 0, 0), (54, .iconst 1, 1, 0, 1), (55, .iadd, 1, 0, 0), (56, .invokevirtual 33, 3, 0, 0), (59, .invokevirtual 37, 3, 0, 0), (62, .iinc 3 1, 3, 0, 1), (65, .goto (-51), 3, 14, 0), (68, .aload_n 0, 1, 0, 0), (69, .getfield 23, 3, 0, 0), (72, .iload_n 1, 1, 0, 0), (73, .iconst 0, 1, 0, 0), (74, .iload_n 2, 1, 0, 0), (75, .iconst 1, 1, 0, 1), (76, .isub, 1, 0, 0), (77, .invokestatic 41, 3, 0, 0), (80, .invokevirtual 37, 3, 0, 0), (83, .return_, 1, 0, 0)]
def P_Queues_cameOf : List PE := [(0, .aload_n 0, 1, 0, 0), (1, .getfield 20, 3, 0, 0), (4, .iload_n 1, 1, 0, 0), (5, .bipush 20, 2, 0, 20), (7, .imul, 1, 0, 0), (8, .iload_n 2, 1, 0, 0), (9, .iadd, 1, 0, 0), (10, .invokevirtual 33, 3, 0, 0), (13, .ireturn, 1, 0, 0)]
def P_Log_init : List PE := [(0, .aload_n 0, 1, 0, 0), (1, .invokespecial 3, 3, 0, 0), (4, .aload_n 0, 1, 0, 0), (5, .new 9, 3, 0, 0), (8, .dup, 1, 0, 0), (9, .sipush 280, 3, 0, 280), (12, .invokespecial 11, 3, 0, 0), (15, .putfield 14, 3, 0, 0), (18, .return_, 1, 0, 0)]
def P_Log_get : List PE := [(0, .aload_n 0, 1, 0, 0), (1, .getfield 20, 3, 0, 0), (4, .iconst 1, 1, 0, 1), (5, .isub, 1, 0, 0), (6, .iload_n 1, 1, 0, 0), (7, .isub, 1, 0, 0), (8, .istore_n 3, 1, 0, 0), (9, .aload_n 0, 1, 0, 0), (10, .getfield 14, 3, 0, 0), (13, .iload_n 3, 1, 0, 0), (14, .ifCond .ge 10, 3, 24, 0), (17, .iload_n 3, 1, 0, 0), (18, .bipush 40, 2, 0, 40), (20, .iadd, 1, 0, 0), (21, .goto 4, 3, 25, 0), (24, .iload_n 3, 1, 0, 0), (25, .bipush 7, 2, 0, 7), (27, .imul, 1, 0, 0), (28, .iload_n 2, 1, 0, 0), (29, .iadd, 1, 0, 0), (30, .invokevirtual 31, 3, 0, 0), (33, .ireturn, 1, 0, 0)]
def P_Log_add : List PE := [(0, .aload_n 0, 1, 0, 0), (1, .getfield 20, 3, 0, 0), (4, .bipush 7, 2, 0, 7), (6, .imul, 1, 0, 0), (7, .istore 8, 2, 0, 0), (9, .aload_n 0, 1, 0, 0), (10, .getfield 14, 3, 0, 0), (13, .iload 8, 2, 0, 0), (15, .iload_n 1, 1, 0, 0), (16, .invokevirtual 35, 3, 0, 0), (19, .aload_n 0, 1, 0, 0), (20, .getfield 14, 3, 0, 0), (23, .iload 8, 2, 0, 0), (25, .iconst 1, 1, 0, 1), (26, .iadd, 1, 0, 0), (27, .iload_n 2, 1, 0, 0), (28, .invokevirtual 35, 3, 0, 0), (31, .aload_n 0, 1, 0, 0), (32, .getfield 14, 3, 0, 0), (35, .iload 8, 2, 0, 0), (37, .iconst 2, 1, 0, 2), (38, .iadd, 1, 0, 0), (39, .iload_n 3, 1, 0, 0), (40, .invokevirtual 35, 3, 0, 0), (43, .aload_n 0, 1, 0, 0), (44, .getfield 14, 3, 0, 0), (47, .iload 8, 2, 0, 0), (49, .iconst 3, 1, 0, 3), (50, .iadd, 1, 0, 0), (51, .iload 4, 2, 0, 0), (53, .invokevirtual 35, 3, 0, 0), (56, .aload_n 0, 1, 0, 0), (57, .getfield 14, 3, 0, 0), (60, .iload 8, 2, 0, 0), (62, .iconst 4, 1, 0, 4), (63, .iadd, 1, 0, 0), (64, .iload 5, 2, 0, 0), (66, .invokevirtual 35, 3, 0, 0), (69, .aload_n 0, 1, 0, 0), (70, .getfield 14, 3, 0, 0), (73, .iload 8, 2, 0, 0), (75, .iconst 5, 1, 0, 5), (76, .iadd, 1, 0, 0), (77, .iload 6, 2, 0, 0), (79, .invokevirtual 35, 3, 0, 0), (82, .aload_n 0, 1, 0, 0), (83, .getfield 14, 3, 0, 0), (86, .iload 8, 2, 0, 0), (88, .bipush 6, 2, 0, 6), (90, .iadd, 1, 0, 0), (91, .iload 7, 2, 0, 0), (93, .invokevirtual 35, 3, 0, 0), (96, .aload_n 0, 1, 0, 0), (97, .aload_n 0, 1, 0, 0), (98, .getfield 20, 3, 0, 0), (101, .iconst 1, 1, 0, 1), (102, .iadd, 1, 0, 0), (103, .bipush 40, 2, 0, 40), (105, .if_icmp .ge 12, 3, 117, 0), (108, .aload_n 0, 1, 0, 0), (109, .getfield 20, 3, 0, 0), (112, .iconst 1, 1, 0, 1), (113, .iadd, 1, 0, 0), (114, .goto 4, 3, 118, 0), (117, .iconst 0, 1, 0, 0), (118, .putfield 20, 3, 0, 0), (121, .aload_n 0, 1, 0, 0), (122, .aload_n 0, 1, 0, 0), (123, .getfield 24, 3, 0, 0), (126, .iconst 1, 1, 0, 1), (127, .iadd, 1, 0, 0), (128, .bipush 40, 2, 0, 40), (130, .invokestatic 39, 3, 0, 0), (133, .putfield 24, 3, 0, 0), (136, .return_, 1, 0, 0)]
def P_Formula_init : List PE := [(0, .aload_n 0, 1, 0, 0), (1, .invokespecial 1, 3, 0, 0), (4, .aload_n 0, 1, 0, 0), (5, .new 7, 3, 0, 0), (8, .dup, 1, 0, 0), (9, .bipush 8, 2, 0, 8), (11, .invokespecial 11, 3, 0, 0), (14, .putfield 14, 3, 0, 0), (17, .aload_n 0, 1, 0, 0), (18, .new 7, 3, 0, 0), (21, .dup, 1, 0, 0), (22, .bipush 64, 2, 0, 64), (24, .invokespecial 11, 3, 0, 0), (27, .putfield 18, 3, 0, 0), (30, .aload_n 0, 1, 0, 0), (31, .new 7, 3, 0, 0), (34, .dup, 1, 0, 0), (35, .bipush 64, 2, 0, 64), (37, .invokespecial 11, 3, 0, 0), (40, .putfield 21, 3, 0, 0), (43, .aload_n 0, 1, 0, 0), (44, .new 7, 3, 0, 0), (47, .dup, 1, 0, 0), (48, .iload_n 1, 1, 0, 0), (49, .invokespecial 11, 3, 0, 0), (52, .putfield 24, 3, 0, 0), (55, .return_, 1, 0, 0)]
def P_Formula_open : List PE := [(0, .aload_n 0, 1, 0, 0), (1, .getfield 18, 3, 0, 0), (4, .aload_n 0, 1, 0, 0), (5, .getfield 31, 3, 0, 0), (8, .iload_n 1, 1, 0, 0), (9, .invokevirtual 42, 3, 0, 0), (12, .aload_n 0, 1, 0, 0), (13, .dup, 1, 0, 0), (14, .getfield 31, 3, 0, 0), (17, .iconst 1, 1, 0, 1), (18, .iadd, 1, 0, 0), (19, .putfield 31, 3, 0, 0), (22, .return_, 1, 0, 0)]
def P_Formula_addNumber : List PE := [(0, .aload_n 0, 1, 0, 0), (1, .getfield 24, 3, 0, 0), (4, .aload_n 0, 1, 0, 0), (5, .getfield 27, 3, 0, 0), (8, .iload_n 1, 1, 0, 0), (9, .invokevirtual 42, 3, 0, 0), (12, .aload_n 0, 1, 0, 0), (13, .dup, 1, 0, 0), (14, .getfield 27, 3, 0, 0), (17, .iconst 1, 1, 0, 1), (18, .iadd, 1, 0, 0), (19, .putfield 27, 3, 0, 0), (22, .return_, 1, 0, 0)]
def P_Formula_addPart : List PE := [(0, .aload_n 0, 1, 0, 0), (1, .getfield 24, 3, 0, 0), (4, .aload_n 0, 1, 0, 0), (5, .getfield 27, 3, 0, 0), (8, .iconst (-1), 1, 0, (-1)), (9, .iload_n 1, 1, 0, 0), (10, .isub, 1, 0, 0), (11, .invokevirtual 42, 3, 0, 0), (14, .aload_n 0, 1, 0, 0), (15, .dup, 1, 0, 0), (16, .getfield 27, 3, 0, 0), (19, .iconst 1, 1, 0, 1), (20, .iadd, 1, 0, 0), (21, .putfield 27, 3, 0, 0), (24, .return_, 1, 0, 0)]
def P_Formula_settle : List PE := [(0, .aload_n 0, 1, 0, 0), (1, .getfield 31, 3, 0, 0), (4, .ifCond .le 68, 3, 72, 0), (7, .aload_n 0, 1, 0, 0), (8, .getfield 18, 3, 0, 0), (11, .aload_n 0, 1, 0, 0), (12, .getfield 31, 3, 0, 0), (15, .iconst 1, 1, 0, 1), (16, .isub, 1, 0, 0), (17, .invokevirtual 62, 3, 0, 0), (20, .invokestatic 46, 3, 0, 0), (23, .iload_n 1, 1, 0, 0), (24, .if_icmp .lt 48, 3, 72, 0), (27, .aload_n 0, 1, 0, 0), (28, .dup, 1, 0, 0), (29, .getfield 31, 3, 0, 0), (32, .iconst 1, 1, 0, 1), (33, .isub, 1, 0, 0), (34, .putfield 31, 3, 0, 0), (37, .aload_n 0, 1, 0, 0), (38, .getfield 24, 3, 0, 0), (41, .aload_n 0, 1, 0, 0), (42, .getfield 27, 3, 0, 0), (45, .aload_n 0, 1, 0, 0), (46, .getfield 18, 3, 0, 0), (49, .aload_n 0, 1, 0, 0), (50, .getfield 31, 3, 0, 0), (53, .invokevirtual 62, 3, 0, 0), (56, .invokevirtual 42, 3, 0, 0), (59, .aload_n 0, 1, 0, 0), (60, .dup, 1, 0, 0), (61, .getfield 27, 3, 0, 0), (64, .iconst 1, 1, 0, 1), (65, .iadd, 1, 0, 0), (66, .putfield 27, 3, 0, 0), (69, .goto (-69), 3, 0, 0), (72, .return_, 1, 0, 0)]
def P_Formula_value : List PE := [(0, .iconst 0, 1, 0, 0), (1, .istore_n 1, 1, 0, 0), (2, .iconst 0, 1, 0, 0), (3, .istore_n 2, 1, 0, 0), (4, .iload_n 2, 1, 0, 0), (5, .aload_n 0, 1, 0, 0), (6, .getfield 27, 3, 0, 0), (9, .if_icmp .ge 133, 3, 142, 0), (12, .aload_n 0, 1, 0, 0), (13, .getfield 24, 3, 0, 0), (16, .iload_n 2, 1, 0, 0), (17, .invokevirtual 62, 3, 0, 0), (20, .istore_n 3, 1, 0, 0), (21, .iload_n 3, 1, 0, 0), (22, .ifCond .lt 18, 3, 40, 0), (25, .aload_n 0, 1, 0, 0), (26, .getfield 21, 3, 0, 0), (29, .iload_n 1, 1, 0, 0), (30, .iload_n 3, 1, 0, 0), (31, .invokevirtual 42, 3, 0, 0), (34, .iinc 1 1, 3, 0, 1), (37, .goto 99, 3, 136, 0), (40, .iload_n 3, 1, 0, 0), (41, .bipush (-8), 2, 0, (-8)), (43, .if_icmp .lt 27, 3, 70, 0), (46, .aload_n 0, 1, 0, 0), (47, .getfield 21, 3, 0, 0), (50, .iload_n 1, 1, 0, 0), (51, .aload_n 0, 1, 0, 0), (52, .getfield 14, 3, 0, 0), (55, .iconst (-1), 1, 0, (-1)), (56, .iload_n 3, 1, 0, 0), (57, .isub, 1, 0, 0), (58, .invokevirtual 62, 3, 0, 0), (61, .invokevirtual 42, 3, 0, 0), (64, .iinc 1 1, 3, 0, 1), (67, .goto 69, 3, 136, 0), (70, .iload_n 3, 1, 0, 0), (71, .bipush (-19), 2, 0, (-19)), (73, .if_icmp .ne 28, 3, 101, 0), (76, .aload_n 0, 1, 0, 0), (77, .getfield 21, 3, 0, 0), (80, .iload_n 1, 1, 0, 0), (81, .iconst 1, 1, 0, 1), (82, .isub, 1, 0, 0), (83, .iconst 1, 1, 0, 1), (84, .aload_n 0, 1, 0, 0), (85, .getfield 21, 3, 0, 0), (88, .iload_n 1, 1, 0, 0), (89, .iconst 1, 1, 0, 1), (90, .isub, 1, 0, 0), (91, .invokevirtual 62, 3, 0, 0), (94, .isub, 1, 0, 0), (95, .invokevirtual 42, 3, 0, 0), (98, .goto 38, 3, 136, 0), (101, .iinc 1 (-1), 3, 0, (-1)), (104, .aload_n 0, 1, 0, 0), (105, .getfield 21, 3, 0, 0), (108, .iload_n 1, 1, 0, 0), (109, .iconst 1, 1, 0, 1), (110, .isub, 1, 0, 0), (111, .iload_n 3, 1, 0, 0), (112, .aload_n 0, 1, 0, 0), (113, .getfield 21, 3, 0, 0), (116, .iload_n 1, 1, 0, 0), (117, .iconst 1, 1, 0, 1), (118, .isub, 1, 0, 0), (119, .invokevirtual 62, 3, 0, 0), (122, .aload_n 0, 1, 0, 0), (123, .getfield 21, 3, 0, 0), (126, .iload_n 1, 1, 0, 0), (127, .invokevirtual 62, 3, 0, 0), (130, .invokestatic 65, 3, 0, 0), (133, .invokevirtual 42, 3, 0, 0), (136, .iinc 2 1, 3, 0, 1), (139, .goto (-135), 3, 4, 0), (142, .iload_n 1, 1, 0, 0), (143, .ifCond .le 16, 3, 159, 0), (146, .aload_n 0, 1, 0, 0), (147, .getfield 21, 3, 0, 0), (150, .iload_n 1, 1, 0, 0), (151, .iconst 1, 1, 0, 1), (152, .isub, 1, 0, 0), (153, .invokevirtual 62, 3, 0, 0), (156, .goto 4, 3, 160, 0), (159, .iconst 0, 1, 0, 0), (160, .ireturn, 1, 0, 0)]
def P_Formula_uses : List PE := [(0, .aload_n 0, 1, 0, 0), (1, .getfield 24, 3, 0, 0), (4, .iconst (-1), 1, 0, (-1)), (5, .iload_n 1, 1, 0, 0), (6, .isub, 1, 0, 0), (7, .aload_n 0, 1, 0, 0), (8, .getfield 27, 3, 0, 0), (11, .invokevirtual 38, 3, 0, 0), (14, .ireturn, 1, 0, 0)]
def P_Mo_init : List PE := [(0, .aload_n 0, 1, 0, 0), (1, .invokespecial 3, 3, 0, 0), (4, .aload_n 0, 1, 0, 0), (5, .sipush 1434, 3, 0, 1434), (8, .newarray .int, 2, 0, 0), (10, .putfield 9, 3, 0, 0), (13, .aload_n 0, 1, 0, 0), (14, .sipush 1434, 3, 0, 1434), (17, .newarray .int, 2, 0, 0), (19, .putfield 13, 3, 0, 0), (22, .aload_n 0, 1, 0, 0), (23, .sipush 1434, 3, 0, 1434), (26, .newarray .int, 2, 0, 0), (28, .putfield 16, 3, 0, 0), (31, .aload_n 0, 1, 0, 0), (32, .sipush 1434, 3, 0, 1434), (35, .newarray .int, 2, 0, 0), (37, .putfield 19, 3, 0, 0), (40, .aload_n 0, 1, 0, 0), (41, .sipush 14340, 3, 0, 14340), (44, .newarray .int, 2, 0, 0), (46, .putfield 22, 3, 0, 0), (49, .aload_n 0, 1, 0, 0), (50, .iconst (-1), 1, 0, (-1)), (51, .putfield 25, 3, 0, 0), (54, .aload_n 0, 1, 0, 0), (55, .bipush 6, 2, 0, 6), (57, .newarray .int, 2, 0, 0), (59, .putfield 29, 3, 0, 0), (62, .aload_n 0, 1, 0, 0), (63, .ldc 32, 2, 0, 0), (65, .newarray .int, 2, 0, 0), (67, .putfield 33, 3, 0, 0), (70, .aload_n 0, 1, 0, 0), (71, .sipush 500, 3, 0, 500), (74, .newarray .int, 2, 0, 0), (76, .putfield 36, 3, 0, 0), (79, .aload_n 0, 1, 0, 0), (80, .iconst (-1), 1, 0, (-1)), (81, .putfield 39, 3, 0, 0), (84, .aload_n 0, 1, 0, 0), (85, .getfield 9, 3, 0, 0), (88, .iconst 4, 1, 0, 4), (89, .invokestatic 42, 3, 0, 0), (92, .return_, 1, 0, 0)]
def P_Mo_itemsAt : List PE := [(0, .iconst 0, 1, 0, 0), (1, .istore_n 2, 1, 0, 0), (2, .iconst 0, 1, 0, 0), (3, .istore_n 3, 1, 0, 0), (4, .iload_n 3, 1, 0, 0), (5, .aload_n 0, 1, 0, 0), (6, .invokevirtual 49, 3, 0, 0), (9, .if_icmp .ge 42, 3, 51, 0), (12, .iload_n 2, 1, 0, 0), (13, .aload_n 0, 1, 0, 0), (14, .iload_n 3, 1, 0, 0), (15, .iconst 0, 1, 0, 0), (16, .invokevirtual 57, 3, 0, 0), (19, .iconst (-1), 1, 0, (-1)), (20, .if_icmp .eq 22, 3, 42, 0), (23, .iload_n 1, 1, 0, 0), (24, .iconst (-1), 1, 0, (-1)), (25, .if_icmp .eq 13, 3, 38, 0), (28, .aload_n 0, 1, 0, 0), (29, .iload_n 3, 1, 0, 0), (30, .iconst 0, 1, 0, 0), (31, .invokevirtual 57, 3, 0, 0), (34, .iload_n 1, 1, 0, 0), (35, .if_icmp .ne 7, 3, 42, 0), (38, .iconst 1, 1, 0, 1), (39, .goto 4, 3, 43, 0), (42, .iconst 0, 1, 0, 0), (43, .iadd, 1, 0, 0), (44, .istore_n 2, 1, 0, 0), (45, .iinc 3 1, 3, 0, 1), (48, .goto (-44), 3, 4, 0), (51, .iload_n 2, 1, 0, 0), (52, .ireturn, 1, 0, 0)]
def P_Mo_reservedOnes : List PE := [(0, .iconst 0, 1, 0, 0), (1, .istore_n 1, 1, 0, 0), (2, .iconst 0, 1, 0, 0), (3, .istore_n 2, 1, 0, 0), (4, .iload_n 2, 1, 0, 0), (5, .aload_n 0, 1, 0, 0), (6, .invokevirtual 49, 3, 0, 0), (9, .if_icmp .ge 27, 3, 36, 0), (12, .iload_n 1, 1, 0, 0), (13, .aload_n 0, 1, 0, 0), (14, .iload_n 2, 1, 0, 0), (15, .iconst 5, 1, 0, 5), (16, .invokevirtual 57, 3, 0, 0), (19, .iconst (-1), 1, 0, (-1)), (20, .if_icmp .ne 7, 3, 27, 0), (23, .iconst 0, 1, 0, 0), (24, .goto 4, 3, 28, 0), (27, .iconst 1, 1, 0, 1), (28, .iadd, 1, 0, 0), (29, .istore_n 1, 1, 0, 0), (30, .iinc 2 1, 3, 0, 1), (33, .goto (-29), 3, 4, 0), (36, .iload_n 1, 1, 0, 0), (37, .ireturn, 1, 0, 0)]
def P_Mo_waitingOf : List PE := [(0, .iconst 0, 1, 0, 0), (1, .istore_n 2, 1, 0, 0), (2, .iconst 0, 1, 0, 0), (3, .istore_n 3, 1, 0, 0), (4, .iload_n 3, 1, 0, 0), (5, .aload_n 0, 1, 0, 0), (6, .getfield 9, 3, 0, 0), (9, .iconst 3, 1, 0, 3), (10, .iaload, 1, 0, 0), (11, .if_icmp .ge 58, 3, 69, 0), (14, .iconst 0, 1, 0, 0), (15, .istore 4, 2, 0, 0), (17, .iload 4, 2, 0, 0), (19, .aload_n 0, 1, 0, 0), (20, .iload_n 3, 1, 0, 0), (21, .iconst 4, 1, 0, 4), (22, .invokevirtual 61, 3, 0, 0), (25, .if_icmp .ge 38, 3, 63, 0), (28, .iload_n 2, 1, 0, 0), (29, .iload_n 1, 1, 0, 0), (30, .iconst (-1), 1, 0, (-1)), (31, .if_icmp .eq 19, 3, 50, 0), (34, .aload_n 0, 1, 0, 0), (35, .getfield 9, 3, 0, 0), (38, .aload_n 0, 1, 0, 0), (39, .iload_n 3, 1, 0, 0), (40, .iload 4, 2, 0, 0), (42, .invokevirtual 64, 3, 0, 0), (45, .iaload, 1, 0, 0), (46, .iload_n 1, 1, 0, 0), (47, .if_icmp .ne 7, 3, 54, 0), (50, .iconst 1, 1, 0, 1), (51, .goto 4, 3, 55, 0), (54, .iconst 0, 1, 0, 0), (55, .iadd, 1, 0, 0), (56, .istore_n 2, 1, 0, 0), (57, .iinc 4 1, 3, 0, 1), (60, .goto (-43), 3, 17, 0), (63, .iinc 3 1, 3, 0, 1), (66, .goto (-62), 3, 4, 0), (69, .iload_n 2, 1, 0, 0), (70, .ireturn, 1, 0, 0)]
def P_Mo_isPlace : List PE := [(0, .iload_n 1, 1, 0, 0), (1, .iconst 0, 1, 0, 0), (2, .aload_n 0, 1, 0, 0), (3, .invokevirtual 49, 3, 0, 0), (6, .iconst 1, 1, 0, 1), (7, .isub, 1, 0, 0), (8, .invokestatic 53, 3, 0, 0), (11, .ireturn, 1, 0, 0)]
def P_Mo_ridesOf : List PE := [(0, .aload_n 0, 1, 0, 0), (1, .iload_n 1, 1, 0, 0), (2, .iconst 0, 1, 0, 0), (3, .invokevirtual 57, 3, 0, 0), (6, .iconst (-1), 1, 0, (-1)), (7, .if_icmp .ne 7, 3, 14, 0), (10, .iconst (-1), 1, 0, (-1)), (11, .goto 16, 3, 27, 0), (14, .aload_n 0, 1, 0, 0), (15, .getfield 9, 3, 0, 0), (18, .iconst 5, 1, 0, 5), (19, .iaload, 1, 0, 0), (20, .aload_n 0, 1, 0, 0), (21, .iload_n 1, 1, 0, 0), (22, .iconst 3, 1, 0, 3), (23, .invokevirtual 57, 3, 0, 0), (26, .isub, 1, 0, 0), (27, .ireturn, 1, 0, 0)]
def P_Mo_isExit : List PE := [(0, .iload_n 1, 1, 0, 0), (1, .iconst 0, 1, 0, 0), (2, .aload_n 0, 1, 0, 0), (3, .getfield 9, 3, 0, 0), (6, .iconst 1, 1, 0, 1), (7, .iaload, 1, 0, 0), (8, .iconst 1, 1, 0, 1), (9, .isub, 1, 0, 0), (10, .invokestatic 53, 3, 0, 0), (13, .ireturn, 1, 0, 0)]
def P_Mo_jamAt : List PE := [(0, .iconst 0, 1, 0, 0), (1, .istore_n 2, 1, 0, 0), (2, .aload_n 0, 1, 0, 0), (3, .iload_n 1, 1, 0, 0), (4, .iconst 0, 1, 0, 0), (5, .invokevirtual 81, 3, 0, 0), (8, .istore_n 3, 1, 0, 0), (9, .iload_n 2, 1, 0, 0), (10, .aload_n 0, 1, 0, 0), (11, .invokevirtual 49, 3, 0, 0), (14, .if_icmp .ge 48, 3, 62, 0), (17, .aload_n 0, 1, 0, 0), (18, .iload_n 3, 1, 0, 0), (19, .iconst 0, 1, 0, 0), (20, .invokevirtual 57, 3, 0, 0), (23, .iconst (-1), 1, 0, (-1)), (24, .if_icmp .eq 38, 3, 62, 0), (27, .aload_n 0, 1, 0, 0), (28, .aload_n 0, 1, 0, 0), (29, .iload_n 3, 1, 0, 0), (30, .iconst 0, 1, 0, 0), (31, .invokevirtual 57, 3, 0, 0), (34, .iconst 0, 1, 0, 0), (35, .invokevirtual 67, 3, 0, 0), (38, .iload_n 1, 1, 0, 0), (39, .if_icmp .ne 23, 3, 62, 0), (42, .iinc 2 1, 3, 0, 1), (45, .iload_n 3, 1, 0, 0), (46, .aload_n 0, 1, 0, 0), (47, .invokevirtual 49, 3, 0, 0), (50, .iadd, 1, 0, 0), (51, .iconst 1, 1, 0, 1), (52, .isub, 1, 0, 0), (53, .aload_n 0, 1, 0, 0), (54, .invokevirtual 49, 3, 0, 0), (57, .irem, 1, 0, 0), (58, .istore_n 3, 1, 0, 0), (59, .goto (-50), 3, 9, 0), (62, .iload_n 2, 1, 0, 0), (63, .ireturn, 1, 0, 0)]
def P_Mo_mayIn : List PE := [(0, .aload_n 0, 1, 0, 0), (1, .iload_n 1, 1, 0, 0), (2, .iconst 3, 1, 0, 3), (3, .invokevirtual 81, 3, 0, 0), (6, .ifCond .ge 7, 3, 13, 0), (9, .iconst 0, 1, 0, 0), (10, .goto 27, 3, 37, 0), (13, .iconst 0, 1, 0, 0), (14, .aload_n 0, 1, 0, 0), (15, .iload_n 1, 1, 0, 0), (16, .iconst 3, 1, 0, 3), (17, .invokevirtual 81, 3, 0, 0), (20, .aload_n 0, 1, 0, 0), (21, .iload_n 1, 1, 0, 0), (22, .iconst 1, 1, 0, 1), (23, .invokevirtual 81, 3, 0, 0), (26, .iadd, 1, 0, 0), (27, .aload_n 0, 1, 0, 0), (28, .getfield 9, 3, 0, 0), (31, .iconst 5, 1, 0, 5), (32, .iaload, 1, 0, 0), (33, .isub, 1, 0, 0), (34, .invokestatic 84, 3, 0, 0), (37, .ireturn, 1, 0, 0)]
def P_Mo_isWare : List PE := [(0, .iload_n 1, 1, 0, 0), (1, .iconst 0, 1, 0, 0), (2, .aload_n 0, 1, 0, 0), (3, .getfield 9, 3, 0, 0), (6, .iconst 2, 1, 0, 2), (7, .iaload, 1, 0, 0), (8, .iconst 1, 1, 0, 1), (9, .isub, 1, 0, 0), (10, .invokestatic 53, 3, 0, 0), (13, .ireturn, 1, 0, 0)]
def P_Mo_isSide : List PE := [(0, .iload_n 1, 1, 0, 0), (1, .iconst 0, 1, 0, 0), (2, .aload_n 0, 1, 0, 0), (3, .getfield 9, 3, 0, 0), (6, .iconst 3, 1, 0, 3), (7, .iaload, 1, 0, 0), (8, .iconst 1, 1, 0, 1), (9, .isub, 1, 0, 0), (10, .invokestatic 53, 3, 0, 0), (13, .ireturn, 1, 0, 0)]
def P_Mo_heldFor : List PE := [(0, .iconst 0, 1, 0, 0), (1, .istore_n 2, 1, 0, 0), (2, .iconst 0, 1, 0, 0), (3, .istore_n 3, 1, 0, 0), (4, .iload_n 3, 1, 0, 0), (5, .aload_n 0, 1, 0, 0), (6, .invokevirtual 49, 3, 0, 0), (9, .if_icmp .ge 27, 3, 36, 0), (12, .iload_n 2, 1, 0, 0), (13, .aload_n 0, 1, 0, 0), (14, .iload_n 3, 1, 0, 0), (15, .iconst 5, 1, 0, 5), (16, .invokevirtual 57, 3, 0, 0), (19, .iload_n 1, 1, 0, 0), (20, .if_icmp .ne 7, 3, 27, 0), (23, .iconst 1, 1, 0, 1), (24, .goto 4, 3, 28, 0), (27, .iconst 0, 1, 0, 0), (28, .iadd, 1, 0, 0), (29, .istore_n 2, 1, 0, 0), (30, .iinc 3 1, 3, 0, 1), (33, .goto (-29), 3, 4, 0), (36, .iload_n 2, 1, 0, 0), (37, .ireturn, 1, 0, 0)]
def P_Mo_lateOf : List PE := [(0, .aload_n 0, 1, 0, 0), (1, .iload_n 1, 1, 0, 0), (2, .iconst 4, 1, 0, 4), (3, .invokevirtual 61, 3, 0, 0), (6, .ifCond .ne 7, 3, 13, 0), (9, .iconst 0, 1, 0, 0), (10, .goto 23, 3, 33, 0), (13, .aload_n 0, 1, 0, 0), (14, .getfield 9, 3, 0, 0), (17, .iconst 5, 1, 0, 5), (18, .iaload, 1, 0, 0), (19, .aload_n 0, 1, 0, 0), (20, .getfield 9, 3, 0, 0), (23, .aload_n 0, 1, 0, 0), (24, .iload_n 1, 1, 0, 0), (25, .iconst 0, 1, 0, 0), (26, .invokevirtual 64, 3, 0, 0), (29, .iconst 1, 1, 0, 1), (30, .iadd, 1, 0, 0), (31, .iaload, 1, 0, 0), (32, .isub, 1, 0, 0), (33, .ireturn, 1, 0, 0)]
def P_Mo_urgentAt : List PE := [(0, .iconst 0, 1, 0, 0), (1, .istore_n 2, 1, 0, 0), (2, .iconst 0, 1, 0, 0), (3, .istore_n 3, 1, 0, 0), (4, .iload_n 3, 1, 0, 0), (5, .aload_n 0, 1, 0, 0), (6, .iload_n 1, 1, 0, 0), (7, .iconst 4, 1, 0, 4), (8, .invokevirtual 61, 3, 0, 0), (11, .if_icmp .ge 28, 3, 39, 0), (14, .iload_n 2, 1, 0, 0), (15, .aload_n 0, 1, 0, 0), (16, .aload_n 0, 1, 0, 0), (17, .getfield 9, 3, 0, 0), (20, .aload_n 0, 1, 0, 0), (21, .iload_n 1, 1, 0, 0), (22, .iload_n 3, 1, 0, 0), (23, .invokevirtual 64, 3, 0, 0), (26, .iaload, 1, 0, 0), (27, .iconst 1, 1, 0, 1), (28, .invokevirtual 67, 3, 0, 0), (31, .iadd, 1, 0, 0), (32, .istore_n 2, 1, 0, 0), (33, .iinc 3 1, 3, 0, 1), (36, .goto (-32), 3, 4, 0), (39, .iload_n 2, 1, 0, 0), (40, .ireturn, 1, 0, 0)]
def P_Mo_dueIn : List PE := [(0, .aload_n 0, 1, 0, 0), (1, .iload_n 1, 1, 0, 0), (2, .iconst 3, 1, 0, 3), (3, .invokevirtual 70, 3, 0, 0), (6, .istore_n 2, 1, 0, 0), (7, .aload_n 0, 1, 0, 0), (8, .iload_n 1, 1, 0, 0), (9, .iconst 2, 1, 0, 2), (10, .invokevirtual 70, 3, 0, 0), (13, .istore_n 3, 1, 0, 0), (14, .aload_n 0, 1, 0, 0), (15, .getfield 9, 3, 0, 0), (18, .iconst 5, 1, 0, 5), (19, .iaload, 1, 0, 0), (20, .iload_n 2, 1, 0, 0), (21, .if_icmp .gt 12, 3, 33, 0), (24, .iload_n 2, 1, 0, 0), (25, .aload_n 0, 1, 0, 0), (26, .getfield 9, 3, 0, 0), (29, .iconst 5, 1, 0, 5), (30, .iaload, 1, 0, 0), (31, .isub, 1, 0, 0), (32, .ireturn, 1, 0, 0), (33, .aload_n 0, 1, 0, 0), (34, .getfield 9, 3, 0, 0), (37, .iconst 5, 1, 0, 5), (38, .iaload, 1, 0, 0), (39, .iload_n 2, 1, 0, 0), (40, .isub, 1, 0, 0), (41, .iload_n 3, 1, 0, 0), (42, .irem, 1, 0, 0), (43, .istore 4, 2, 0, 0), (45, .iload 4, 2, 0, 0), (47, .ifCond .ne 7, 3, 54, 0), (50, .iconst 0, 1, 0, 0), (51, .goto 7, 3, 58, 0), (54, .iload_n 3, 1, 0, 0), (55, .iload 4, 2, 0, 0), (57, .isub, 1, 0, 0), (58, .ireturn, 1, 0, 0)]
def P_Mo_log : List PE := [(0, .aload_n 0, 1, 0, 0), (1, .iconst 0, 1, 0, 0), (2, .putfield 46, 3, 0, 0), (5, .iload_n 1, 1, 0, 0), (6, .iconst 0, 1, 0, 0), (7, .aload_n 0, 1, 0, 0), (8, .getfield 9, 3, 0, 0), (11, .bipush 8, 2, 0, 8), (13, .iaload, 1, 0, 0), (14, .iconst 1, 1, 0, 1), (15, .isub, 1, 0, 0), (16, .invokestatic 53, 3, 0, 0), (19, .ifCond .eq 13, 3, 32, 0), (22, .iload_n 2, 1, 0, 0), (23, .iconst 0, 1, 0, 0), (24, .bipush 6, 2, 0, 6), (26, .invokestatic 53, 3, 0, 0), (29, .ifCond .ne 9, 3, 38, 0), (32, .aload_n 0, 1, 0, 0), (33, .iconst 1, 1, 0, 1), (34, .invokevirtual 191, 3, 0, 0), (37, .ireturn, 1, 0, 0), (38, .aload_n 0, 1, 0, 0), (39, .getfield 9, 3, 0, 0), (42, .sipush 654, 3, 0, 654), (45, .bipush 7, 2, 0, 7), (47, .iload_n 1, 1, 0, 0), (48, .imul, 1, 0, 0), (49, .iadd, 1, 0, 0), (50, .iload_n 2, 1, 0, 0), (51, .iadd, 1, 0, 0), (52, .iaload, 1, 0, 0), (53, .ireturn, 1, 0, 0)]
def P_Mo_comes : List PE := [(0, .aload_n 0, 1, 0, 0), (1, .iload_n 1, 1, 0, 0), (2, .iconst 4, 1, 0, 4), (3, .invokevirtual 61, 3, 0, 0), (6, .istore_n 3, 1, 0, 0), (7, .iload_n 3, 1, 0, 0), (8, .aload_n 0, 1, 0, 0), (9, .iload_n 1, 1, 0, 0), (10, .iconst 1, 1, 0, 1), (11, .invokevirtual 61, 3, 0, 0), (14, .if_icmp .lt 5, 3, 19, 0), (17, .iconst 0, 1, 0, 0), (18, .ireturn, 1, 0, 0), (19, .aload_n 0, 1, 0, 0), (20, .getfield 9, 3, 0, 0), (23, .aload_n 0, 1, 0, 0), (24, .iload_n 1, 1, 0, 0), (25, .iload_n 3, 1, 0, 0), (26, .invokevirtual 64, 3, 0, 0), (29, .iload_n 2, 1, 0, 0), (30, .iastore, 1, 0, 0), (31, .aload_n 0, 1, 0, 0), (32, .getfield 9, 3, 0, 0), (35, .aload_n 0, 1, 0, 0), (36, .iload_n 1, 1, 0, 0), (37, .iload_n 3, 1, 0, 0), (38, .invokevirtual 64, 3, 0, 0), (41, .iconst 1, 1, 0, 1), (42, .iadd, 1, 0, 0), (43, .aload_n 0, 1, 0, 0), (44, .getfield 9, 3, 0, 0), (47, .iconst 5, 1, 0, 5), (48, .iaload, 1, 0, 0), (49, .iastore, 1, 0, 0), (50, .aload_n 0, 1, 0, 0), (51, .getfield 9, 3, 0, 0), (54, .bipush 66, 2, 0, 66), (56, .bipush 10, 2, 0, 10), (58, .iload_n 1, 1, 0, 0), (59, .imul, 1, 0, 0), (60, .iadd, 1, 0, 0), (61, .iconst 4, 1, 0, 4), (62, .iadd, 1, 0, 0), (63, .dup2, 1, 0, 0), (64, .iaload, 1, 0, 0), (65, .iconst 1, 1, 0, 1), (66, .iadd, 1, 0, 0), (67, .iastore, 1, 0, 0), (68, .iconst 1, 1, 0, 1), (69, .ireturn, 1, 0, 0)]
def P_Mo_turns : List PE := [(0, .sipush 174, 3, 0, 174), (3, .bipush 6, 2, 0, 6), (5, .aload_n 0, 1, 0, 0), (6, .invokevirtual 49, 3, 0, 0), (9, .iconst 1, 1, 0, 1), (10, .isub, 1, 0, 0), (11, .imul, 1, 0, 0), (12, .iadd, 1, 0, 0), (13, .istore_n 1, 1, 0, 0), (14, .iconst 0, 1, 0, 0), (15, .istore_n 2, 1, 0, 0), (16, .iload_n 2, 1, 0, 0), (17, .bipush 6, 2, 0, 6), (19, .if_icmp .ge 23, 3, 42, 0), (22, .aload_n 0, 1, 0, 0), (23, .getfield 29, 3, 0, 0), (26, .iload_n 2, 1, 0, 0), (27, .aload_n 0, 1, 0, 0), (28, .getfield 9, 3, 0, 0), (31, .iload_n 1, 1, 0, 0), (32, .iload_n 2, 1, 0, 0), (33, .iadd, 1, 0, 0), (34, .iaload, 1, 0, 0), (35, .iastore, 1, 0, 0), (36, .iinc 2 1, 3, 0, 1), (39, .goto (-23), 3, 16, 0), (42, .iload_n 1, 1, 0, 0), (43, .bipush 6, 2, 0, 6), (45, .iadd, 1, 0, 0), (46, .iconst 1, 1, 0, 1), (47, .isub, 1, 0, 0), (48, .istore_n 2, 1, 0, 0), (49, .iload_n 2, 1, 0, 0), (50, .sipush 180, 3, 0, 180), (53, .if_icmp .lt 24, 3, 77, 0), (56, .aload_n 0, 1, 0, 0), (57, .getfield 9, 3, 0, 0), (60, .iload_n 2, 1, 0, 0), (61, .aload_n 0, 1, 0, 0), (62, .getfield 9, 3, 0, 0), (65, .iload_n 2, 1, 0, 0), (66, .bipush 6, 2, 0, 6), (68, .isub, 1, 0, 0), (69, .iaload, 1, 0, 0), (70, .iastore, 1, 0, 0), (71, .iinc 2 (-1), 3, 0, (-1)), (74, .goto (-25), 3, 49, 0), (77, .iconst 0, 1, 0, 0), (78, .istore_n 2, 1, 0, 0), (79, .iload_n 2, 1, 0, 0), (80, .bipush 6, 2, 0, 6), (82, .if_icmp .ge 25, 3, 107, 0), (85, .aload_n 0, 1, 0, 0), (86, .getfield 9, 3, 0, 0), (89, .sipush 174, 3, 0, 174), (92, .iload_n 2, 1, 0, 0), (93, .iadd, 1, 0, 0), (94, .aload_n 0, 1, 0, 0), (95, .getfield 29, 3, 0, 0), (98, .iload_n 2, 1, 0, 0), (99, .iaload, 1, 0, 0), (100, .iastore, 1, 0, 0), (101, .iinc 2 1, 3, 0, 1), (104, .goto (-25), 3, 79, 0), (107, .aload_n 0, 1, 0, 0), (108, .getfield 9, 3, 0, 0), (111, .sipush 174, 3, 0, 174), (114, .iaload, 1, 0, 0), (115, .iconst (-1), 1, 0, (-1)), (116, .if_icmp .eq 15, 3, 131, 0), (119, .aload_n 0, 1, 0, 0), (120, .getfield 9, 3, 0, 0), (123, .sipush 176, 3, 0, 176), (126, .dup2, 1, 0, 0), (127, .iaload, 1, 0, 0), (128, .iconst 1, 1, 0, 1), (129, .iadd, 1, 0, 0), (130, .iastore, 1, 0, 0), (131, .return_, 1, 0, 0)]
def P_Mo_logs : List PE := [(0, .sipush 933, 3, 0, 933), (3, .istore_n 3, 1, 0, 0), (4, .iload_n 3, 1, 0, 0), (5, .sipush 661, 3, 0, 661), (8, .if_icmp .lt 24, 3, 32, 0), (11, .aload_n 0, 1, 0, 0), (12, .getfield 9, 3, 0, 0), (15, .iload_n 3, 1, 0, 0), (16, .aload_n 0, 1, 0, 0), (17, .getfield 9, 3, 0, 0), (20, .iload_n 3, 1, 0, 0), (21, .bipush 7, 2, 0, 7), (23, .isub, 1, 0, 0), (24, .iaload, 1, 0, 0), (25, .iastore, 1, 0, 0), (26, .iinc 3 (-1), 3, 0, (-1)), (29, .goto (-25), 3, 4, 0), (32, .aload_n 0, 1, 0, 0), (33, .getfield 9, 3, 0, 0), (36, .sipush 654, 3, 0, 654), (39, .aload_n 0, 1, 0, 0), (40, .getfield 9, 3, 0, 0), (43, .iconst 5, 1, 0, 5), (44, .iaload, 1, 0, 0), (45, .iastore, 1, 0, 0), (46, .aload_n 0, 1, 0, 0), (47, .getfield 9, 3, 0, 0), (50, .sipush 655, 3, 0, 655), (53, .iload_n 1, 1, 0, 0), (54, .iastore, 1, 0, 0), (55, .aload_n 0, 1, 0, 0), (56, .getfield 9, 3, 0, 0), (59, .sipush 656, 3, 0, 656), (62, .aload_n 0, 1, 0, 0), (63, .iload_n 2, 1, 0, 0), (64, .iconst 0, 1, 0, 0), (65, .invokevirtual 57, 3, 0, 0), (68, .iastore, 1, 0, 0), (69, .aload_n 0, 1, 0, 0), (70, .getfield 9, 3, 0, 0), (73, .sipush 657, 3, 0, 657), (76, .aload_n 0, 1, 0, 0), (77, .iload_n 2, 1, 0, 0), (78, .iconst 1, 1, 0, 1), (79, .invokevirtual 57, 3, 0, 0), (82, .iastore, 1, 0, 0), (83, .aload_n 0, 1, 0, 0), (84, .getfield 9, 3, 0, 0), (87, .sipush 658, 3, 0, 658), (90, .aload_n 0, 1, 0, 0), (91, .iload_n 2, 1, 0, 0), (92, .iconst 4, 1, 0, 4), (93, .invokevirtual 57, 3, 0, 0), (96, .iastore, 1, 0, 0), (97, .aload_n 0, 1, 0, 0), (98, .getfield 9, 3, 0, 0), (101, .sipush 659, 3, 0, 659), (104, .aload_n 0, 1, 0, 0), (105, .getfield 9, 3, 0, 0), (108, .iconst 5, 1, 0, 5), (109, .iaload, 1, 0, 0), (110, .aload_n 0, 1, 0, 0), (111, .iload_n 2, 1, 0, 0), (112, .iconst 3, 1, 0, 3), (113, .invokevirtual 57, 3, 0, 0), (116, .isub, 1, 0, 0), (117, .iastore, 1, 0, 0), (118, .aload_n 0, 1, 0, 0), (119, .getfield 9, 3, 0, 0), (122, .sipush 660, 3, 0, 660), (125, .aload_n 0, 1, 0, 0), (126, .iload_n 2, 1, 0, 0), (127, .iconst 2, 1, 0, 2), (128, .invokevirtual 57, 3, 0, 0), (131, .iastore, 1, 0, 0), (132, .aload_n 0, 1, 0, 0), (133, .getfield 9, 3, 0, 0), (136, .bipush 8, 2, 0, 8), (138, .bipush 40, 2, 0, 40), (140, .aload_n 0, 1, 0, 0), (141, .getfield 9, 3, 0, 0), (144, .bipush 8, 2, 0, 8), (146, .iaload, 1, 0, 0), (147, .iconst 1, 1, 0, 1), (148, .iadd, 1, 0, 0), (149, .invokestatic 89, 3, 0, 0), (152, .iastore, 1, 0, 0), (153, .return_, 1, 0, 0)]
def P_Mo_isFree : List PE := [(0, .aload_n 0, 1, 0, 0), (1, .iload_n 1, 1, 0, 0), (2, .iconst 0, 1, 0, 0), (3, .invokevirtual 57, 3, 0, 0), (6, .iconst (-1), 1, 0, (-1)), (7, .if_icmp .ne 17, 3, 24, 0), (10, .aload_n 0, 1, 0, 0), (11, .iload_n 1, 1, 0, 0), (12, .iconst 5, 1, 0, 5), (13, .invokevirtual 57, 3, 0, 0), (16, .iconst (-1), 1, 0, (-1)), (17, .if_icmp .ne 7, 3, 24, 0), (20, .iconst 1, 1, 0, 1), (21, .goto 4, 3, 25, 0), (24, .iconst 0, 1, 0, 0), (25, .ireturn, 1, 0, 0)]
def P_Mo_goes : List PE := [(0, .sipush 174, 3, 0, 174), (3, .bipush 6, 2, 0, 6), (5, .iload_n 2, 1, 0, 0), (6, .imul, 1, 0, 0), (7, .iadd, 1, 0, 0), (8, .istore_n 3, 1, 0, 0), (9, .aload_n 0, 1, 0, 0), (10, .getfield 9, 3, 0, 0), (13, .iconst 5, 1, 0, 5), (14, .iaload, 1, 0, 0), (15, .aload_n 0, 1, 0, 0), (16, .getfield 9, 3, 0, 0), (19, .aload_n 0, 1, 0, 0), (20, .iload_n 1, 1, 0, 0), (21, .iconst 0, 1, 0, 0), (22, .invokevirtual 64, 3, 0, 0), (25, .iconst 1, 1, 0, 1), (26, .iadd, 1, 0, 0), (27, .iaload, 1, 0, 0), (28, .isub, 1, 0, 0), (29, .istore 4, 2, 0, 0), (31, .aload_n 0, 1, 0, 0), (32, .getfield 9, 3, 0, 0), (35, .iload_n 3, 1, 0, 0), (36, .iconst 0, 1, 0, 0), (37, .iadd, 1, 0, 0), (38, .aload_n 0, 1, 0, 0), (39, .getfield 9, 3, 0, 0), (42, .aload_n 0, 1, 0, 0), (43, .iload_n 1, 1, 0, 0), (44, .iconst 0, 1, 0, 0), (45, .invokevirtual 64, 3, 0, 0), (48, .iaload, 1, 0, 0), (49, .iastore, 1, 0, 0), (50, .aload_n 0, 1, 0, 0), (51, .getfield 9, 3, 0, 0), (54, .iload_n 3, 1, 0, 0), (55, .iconst 1, 1, 0, 1), (56, .iadd, 1, 0, 0), (57, .iload_n 1, 1, 0, 0), (58, .iastore, 1, 0, 0), (59, .aload_n 0, 1, 0, 0), (60, .getfield 9, 3, 0, 0), (63, .iload_n 3, 1, 0, 0), (64, .iconst 2, 1, 0, 2), (65, .iadd, 1, 0, 0), (66, .iconst 0, 1, 0, 0), (67, .iastore, 1, 0, 0), (68, .aload_n 0, 1, 0, 0), (69, .getfield 9, 3, 0, 0), (72, .iload_n 3, 1, 0, 0), (73, .iconst 3, 1, 0, 3), (74, .iadd, 1, 0, 0), (75, .aload_n 0, 1, 0, 0), (76, .getfield 9, 3, 0, 0), (79, .iconst 5, 1, 0, 5), (80, .iaload, 1, 0, 0), (81, .iastore, 1, 0, 0), (82, .aload_n 0, 1, 0, 0), (83, .getfield 9, 3, 0, 0), (86, .iload_n 3, 1, 0, 0), (87, .iconst 4, 1, 0, 4), (88, .iadd, 1, 0, 0), (89, .iload 4, 2, 0, 0), (91, .iastore, 1, 0, 0), (92, .aload_n 0, 1, 0, 0), (93, .getfield 9, 3, 0, 0), (96, .iload_n 3, 1, 0, 0), (97, .iconst 5, 1, 0, 5), (98, .iadd, 1, 0, 0), (99, .iconst (-1), 1, 0, (-1)), (100, .iastore, 1, 0, 0), (101, .aload_n 0, 1, 0, 0), (102, .iload_n 1, 1, 0, 0), (103, .iconst 0, 1, 0, 0), (104, .invokevirtual 64, 3, 0, 0), (107, .istore 5, 2, 0, 0), (109, .iload 5, 2, 0, 0), (111, .aload_n 0, 1, 0, 0), (112, .iload_n 1, 1, 0, 0), (113, .iconst 0, 1, 0, 0), (114, .invokevirtual 64, 3, 0, 0), (117, .iconst 2, 1, 0, 2), (118, .aload_n 0, 1, 0, 0), (119, .iload_n 1, 1, 0, 0), (120, .iconst 4, 1, 0, 4), (121, .invokevirtual 61, 3, 0, 0), (124, .imul, 1, 0, 0), (125, .iadd, 1, 0, 0), (126, .iconst 2, 1, 0, 2), (127, .isub, 1, 0, 0), (128, .if_icmp .ge 25, 3, 153, 0), (131, .aload_n 0, 1, 0, 0), (132, .getfield 9, 3, 0, 0), (135, .iload 5, 2, 0, 0), (137, .aload_n 0, 1, 0, 0), (138, .getfield 9, 3, 0, 0), (141, .iload 5, 2, 0, 0), (143, .iconst 2, 1, 0, 2), (144, .iadd, 1, 0, 0), (145, .iaload, 1, 0, 0), (146, .iastore, 1, 0, 0), (147, .iinc 5 1, 3, 0, 1), (150, .goto (-41), 3, 109, 0), (153, .bipush 66, 2, 0, 66), (155, .bipush 10, 2, 0, 10), (157, .iload_n 1, 1, 0, 0), (158, .imul, 1, 0, 0), (159, .iadd, 1, 0, 0), (160, .istore 5, 2, 0, 0), (162, .aload_n 0, 1, 0, 0), (163, .getfield 9, 3, 0, 0), (166, .iload 5, 2, 0, 0), (168, .iconst 4, 1, 0, 4), (169, .iadd, 1, 0, 0), (170, .dup2, 1, 0, 0), (171, .iaload, 1, 0, 0), (172, .iconst 1, 1, 0, 1), (173, .isub, 1, 0, 0), (174, .iastore, 1, 0, 0), (175, .aload_n 0, 1, 0, 0), (176, .getfield 9, 3, 0, 0), (179, .iload 5, 2, 0, 0), (181, .bipush 6, 2, 0, 6), (183, .iadd, 1, 0, 0), (184, .dup2, 1, 0, 0), (185, .iaload, 1, 0, 0), (186, .iconst 1, 1, 0, 1), (187, .iadd, 1, 0, 0), (188, .iastore, 1, 0, 0), (189, .aload_n 0, 1, 0, 0), (190, .getfield 9, 3, 0, 0), (193, .iload 5, 2, 0, 0), (195, .bipush 9, 2, 0, 9), (197, .iadd, 1, 0, 0), (198, .aload_n 0, 1, 0, 0), (199, .getfield 9, 3, 0, 0), (202, .iload 5, 2, 0, 0), (204, .bipush 9, 2, 0, 9), (206, .iadd, 1, 0, 0), (207, .iaload, 1, 0, 0), (208, .iload 4, 2, 0, 0), (210, .invokestatic 84, 3, 0, 0), (213, .iastore, 1, 0, 0), (214, .return_, 1, 0, 0)]
def P_Mo_image : List PE := [(0, .aload_n 0, 1, 0, 0), (1, .iconst 0, 1, 0, 0), (2, .putfield 46, 3, 0, 0), (5, .aload_n 0, 1, 0, 0), (6, .getfield 19, 3, 0, 0), (9, .aload_n 0, 1, 0, 0), (10, .getfield 9, 3, 0, 0), (13, .invokestatic 218, 3, 0, 0), (16, .aload_n 0, 1, 0, 0), (17, .iconst 1, 1, 0, 1), (18, .putfield 222, 3, 0, 0), (21, .return_, 1, 0, 0)]
def P_Mo_back : List PE := [(0, .aload_n 0, 1, 0, 0), (1, .iconst 0, 1, 0, 0), (2, .putfield 46, 3, 0, 0), (5, .aload_n 0, 1, 0, 0), (6, .getfield 222, 3, 0, 0), (9, .ifCond .ne 5, 3, 14, 0), (12, .iconst 0, 1, 0, 0), (13, .ireturn, 1, 0, 0), (14, .aload_n 0, 1, 0, 0), (15, .getfield 9, 3, 0, 0), (18, .aload_n 0, 1, 0, 0), (19, .getfield 19, 3, 0, 0), (22, .invokestatic 218, 3, 0, 0), (25, .aload_n 0, 1, 0, 0), (26, .iconst 0, 1, 0, 0), (27, .putfield 185, 3, 0, 0), (30, .iconst 1, 1, 0, 1), (31, .ireturn, 1, 0, 0)]
def P_Mo_rated : List PE := [(0, .iload_n 2, 1, 0, 0), (1, .iconst (-1), 1, 0, (-1)), (2, .if_icmp .ne 26, 3, 28, 0), (5, .iload_n 1, 1, 0, 0), (6, .iconst 2, 1, 0, 2), (7, .if_icmp .ne 13, 3, 20, 0), (10, .aload_n 0, 1, 0, 0), (11, .getfield 9, 3, 0, 0), (14, .bipush 7, 2, 0, 7), (16, .iaload, 1, 0, 0), (17, .goto 10, 3, 27, 0), (20, .aload_n 0, 1, 0, 0), (21, .getfield 9, 3, 0, 0), (24, .bipush 6, 2, 0, 6), (26, .iaload, 1, 0, 0), (27, .ireturn, 1, 0, 0), (28, .iload_n 1, 1, 0, 0), (29, .ifCond .ne 12, 3, 41, 0), (32, .aload_n 0, 1, 0, 0), (33, .iload_n 2, 1, 0, 0), (34, .iconst 4, 1, 0, 4), (35, .invokevirtual 81, 3, 0, 0), (38, .goto 25, 3, 63, 0), (41, .iload_n 1, 1, 0, 0), (42, .iconst 1, 1, 0, 1), (43, .if_icmp .ne 13, 3, 56, 0), (46, .aload_n 0, 1, 0, 0), (47, .iload_n 2, 1, 0, 0), (48, .bipush 7, 2, 0, 7), (50, .invokevirtual 61, 3, 0, 0), (53, .goto 10, 3, 63, 0), (56, .aload_n 0, 1, 0, 0), (57, .iload_n 2, 1, 0, 0), (58, .bipush 8, 2, 0, 8), (60, .invokevirtual 61, 3, 0, 0), (63, .ireturn, 1, 0, 0)]
def P_Mo_isOnWay : List PE := [(0, .aload_n 0, 1, 0, 0), (1, .aload_n 0, 1, 0, 0), (2, .iload_n 2, 1, 0, 0), (3, .iconst 0, 1, 0, 0), (4, .invokevirtual 70, 3, 0, 0), (7, .iconst 0, 1, 0, 0), (8, .invokevirtual 61, 3, 0, 0), (11, .istore_n 3, 1, 0, 0), (12, .aload_n 0, 1, 0, 0), (13, .aload_n 0, 1, 0, 0), (14, .aload_n 0, 1, 0, 0), (15, .iload_n 2, 1, 0, 0), (16, .iconst 1, 1, 0, 1), (17, .invokevirtual 70, 3, 0, 0), (20, .iconst 0, 1, 0, 0), (21, .invokevirtual 67, 3, 0, 0), (24, .iconst 0, 1, 0, 0), (25, .invokevirtual 81, 3, 0, 0), (28, .istore 4, 2, 0, 0), (30, .iload 4, 2, 0, 0), (32, .iload_n 3, 1, 0, 0), (33, .isub, 1, 0, 0), (34, .aload_n 0, 1, 0, 0), (35, .invokevirtual 49, 3, 0, 0), (38, .iadd, 1, 0, 0), (39, .aload_n 0, 1, 0, 0), (40, .invokevirtual 49, 3, 0, 0), (43, .irem, 1, 0, 0), (44, .istore 5, 2, 0, 0), (46, .iload 5, 2, 0, 0), (48, .ifCond .eq 21, 3, 69, 0), (51, .iload_n 1, 1, 0, 0), (52, .iload_n 3, 1, 0, 0), (53, .isub, 1, 0, 0), (54, .aload_n 0, 1, 0, 0), (55, .invokevirtual 49, 3, 0, 0), (58, .iadd, 1, 0, 0), (59, .aload_n 0, 1, 0, 0), (60, .invokevirtual 49, 3, 0, 0), (63, .irem, 1, 0, 0), (64, .iload 5, 2, 0, 0), (66, .if_icmp .ge 7, 3, 73, 0), (69, .iconst 1, 1, 0, 1), (70, .goto 4, 3, 74, 0), (73, .iconst 0, 1, 0, 0), (74, .ireturn, 1, 0, 0)]
def P_Mo_next : List PE := [(0, .aload_n 0, 1, 0, 0), (1, .aload_n 0, 1, 0, 0), (2, .getfield 282, 3, 0, 0), (5, .invokevirtual 285, 3, 0, 0), (8, .bipush 32, 2, 0, 32), (10, .if_icmp .eq 16, 3, 26, 0), (13, .aload_n 0, 1, 0, 0), (14, .aload_n 0, 1, 0, 0), (15, .getfield 282, 3, 0, 0), (18, .invokevirtual 285, 3, 0, 0), (21, .bipush 10, 2, 0, 10), (23, .if_icmp .ne 16, 3, 39, 0), (26, .aload_n 0, 1, 0, 0), (27, .dup, 1, 0, 0), (28, .getfield 282, 3, 0, 0), (31, .iconst 1, 1, 0, 1), (32, .iadd, 1, 0, 0), (33, .putfield 282, 3, 0, 0), (36, .goto (-36), 3, 0, 0), (39, .aload_n 0, 1, 0, 0), (40, .aload_n 0, 1, 0, 0), (41, .getfield 282, 3, 0, 0), (44, .putfield 288, 3, 0, 0), (47, .aload_n 0, 1, 0, 0), (48, .aload_n 0, 1, 0, 0), (49, .getfield 282, 3, 0, 0), (52, .invokevirtual 285, 3, 0, 0), (55, .istore_n 1, 1, 0, 0), (56, .iload_n 1, 1, 0, 0), (57, .iconst (-1), 1, 0, (-1)), (58, .if_icmp .ne 11, 3, 69, 0), (61, .aload_n 0, 1, 0, 0), (62, .iconst 0, 1, 0, 0), (63, .putfield 291, 3, 0, 0), (66, .goto 102, 3, 168, 0), (69, .iload_n 1, 1, 0, 0), (70, .invokestatic 155, 3, 0, 0), (73, .ifCond .eq 38, 3, 111, 0), (76, .aload_n 0, 1, 0, 0), (77, .aload_n 0, 1, 0, 0), (78, .getfield 282, 3, 0, 0), (81, .invokevirtual 285, 3, 0, 0), (84, .invokestatic 155, 3, 0, 0), (87, .ifCond .eq 16, 3, 103, 0), (90, .aload_n 0, 1, 0, 0), (91, .dup, 1, 0, 0), (92, .getfield 282, 3, 0, 0), (95, .iconst 1, 1, 0, 1), (96, .iadd, 1, 0, 0), (97, .putfield 282, 3, 0, 0), (100, .goto (-24), 3, 76, 0), (103, .aload_n 0, 1, 0, 0), (104, .iconst 1, 1, 0, 1), (105, .putfield 291, 3, 0, 0), (108, .goto 60, 3, 168, 0), (111, .iload_n 1, 1, 0, 0), (112, .invokestatic 152, 3, 0, 0), (115, .ifCond .eq 38, 3, 153, 0), (118, .aload_n 0, 1, 0, 0), (119, .aload_n 0, 1, 0, 0), (120, .getfield 282, 3, 0, 0), (123, .invokevirtual 285, 3, 0, 0), (126, .invokestatic 152, 3, 0, 0), (129, .ifCond .eq 16, 3, 145, 0), (132, .aload_n 0, 1, 0, 0), (133, .dup, 1, 0, 0), (134, .getfield 282, 3, 0, 0), (137, .iconst 1, 1, 0, 1), (138, .iadd, 1, 0, 0), (139, .putfield 282, 3, 0, 0), (142, .goto (-24), 3, 118, 0), (145, .aload_n 0, 1, 0, 0), (146, .iconst 2, 1, 0, 2), (147, .putfield 291, 3, 0, 0), (150, .goto 18, 3, 168, 0), (153, .aload_n 0, 1, 0, 0), (154, .dup, 1, 0, 0), (155, .getfield 282, 3, 0, 0), (158, .iconst 1, 1, 0, 1), (159, .iadd, 1, 0, 0), (160, .putfield 282, 3, 0, 0), (163, .aload_n 0, 1, 0, 0), (164, .iconst 3, 1, 0, 3), (165, .putfield 291, 3, 0, 0), (168, .aload_n 0, 1, 0, 0), (169, .aload_n 0, 1, 0, 0), (170, .getfield 282, 3, 0, 0), (173, .putfield 294, 3, 0, 0), (176, .return_, 1, 0, 0)]
def P_Mo_numberHere : List PE := [(0, .aload_n 0, 1, 0, 0), (1, .getfield 297, 3, 0, 0), (4, .ifCond .ne 16, 3, 20, 0), (7, .aload_n 0, 1, 0, 0), (8, .getfield 291, 3, 0, 0), (11, .iconst 2, 1, 0, 2), (12, .if_icmp .eq 8, 3, 20, 0), (15, .aload_n 0, 1, 0, 0), (16, .iconst 1, 1, 0, 1), (17, .invokevirtual 321, 3, 0, 0), (20, .iconst 0, 1, 0, 0), (21, .istore_n 3, 1, 0, 0), (22, .aload_n 0, 1, 0, 0), (23, .getfield 288, 3, 0, 0), (26, .istore 4, 2, 0, 0), (28, .aload_n 0, 1, 0, 0), (29, .getfield 297, 3, 0, 0), (32, .ifCond .ne 40, 3, 72, 0), (35, .iload 4, 2, 0, 0), (37, .aload_n 0, 1, 0, 0), (38, .getfield 294, 3, 0, 0), (41, .if_icmp .ge 31, 3, 72, 0), (44, .ldc_w 327, 3, 0, 0), (47, .bipush 10, 2, 0, 10), (49, .iload_n 3, 1, 0, 0), (50, .imul, 1, 0, 0), (51, .aload_n 0, 1, 0, 0), (52, .getfield 36, 3, 0, 0), (55, .iload 4, 2, 0, 0), (57, .iaload, 1, 0, 0), (58, .iadd, 1, 0, 0), (59, .bipush 48, 2, 0, 48), (61, .isub, 1, 0, 0), (62, .invokestatic 89, 3, 0, 0), (65, .istore_n 3, 1, 0, 0), (66, .iinc 4 1, 3, 0, 1), (69, .goto (-41), 3, 28, 0), (72, .aload_n 0, 1, 0, 0), (73, .getfield 297, 3, 0, 0), (76, .ifCond .ne 17, 3, 93, 0), (79, .iload_n 3, 1, 0, 0), (80, .iload_n 1, 1, 0, 0), (81, .iload_n 2, 1, 0, 0), (82, .invokestatic 53, 3, 0, 0), (85, .ifCond .ne 8, 3, 93, 0), (88, .aload_n 0, 1, 0, 0), (89, .iconst 2, 1, 0, 2), (90, .invokevirtual 321, 3, 0, 0), (93, .iload_n 3, 1, 0, 0), (94, .ireturn, 1, 0, 0)]
def P_Str_length : List PE := [(0, .aload_n 0, 1, 0, 0), (1, .getfield 9, 3, 0, 0), (4, .arraylength, 1, 0, 0), (5, .aload_n 0, 1, 0, 0), (6, .invokevirtual 335, 3, 0, 0), (9, .ishr, 1, 0, 0), (10, .ireturn, 1, 0, 0)]
def P_Str_checkIndex : List PE := [(0, .iload_n 0, 1, 0, 0), (1, .iload_n 1, 1, 0, 0), (2, .getstatic 1053, 3, 0, 0), (5, .invokestatic 1059, 3, 0, 0), (8, .pop, 1, 0, 0), (9, .return_, 1, 0, 0)]
def P_MB_feed : List PE := [(0, .aload_n 0, 1, 0, 0), (1, .getfield 10, 3, 0, 0), (4, .getfield 74, 3, 0, 0), (7, .bipush 20, 2, 0, 20), (9, .iadd, 1, 0, 0), (10, .sipush 500, 3, 0, 500), (13, .if_icmp .le 5, 3, 18, 0), (16, .iconst (-1), 1, 0, (-1)), (17, .ireturn, 1, 0, 0), (18, .aload_n 0, 1, 0, 0), (19, .getfield 10, 3, 0, 0), (22, .iload_n 1, 1, 0, 0), (23, .invokevirtual 77, 3, 0, 0), (26, .aload_n 0, 1, 0, 0), (27, .getfield 10, 3, 0, 0), (30, .iload_n 2, 1, 0, 0), (31, .invokevirtual 77, 3, 0, 0), (34, .aload_n 0, 1, 0, 0), (35, .getfield 10, 3, 0, 0), (38, .iload_n 3, 1, 0, 0), (39, .invokevirtual 77, 3, 0, 0), (42, .aload_n 0, 1, 0, 0), (43, .getfield 10, 3, 0, 0), (46, .iload 4, 2, 0, 0), (48, .invokevirtual 77, 3, 0, 0), (51, .aload_n 0, 1, 0, 0), (52, .getfield 10, 3, 0, 0), (55, .iload 5, 2, 0, 0), (57, .invokevirtual 77, 3, 0, 0), (60, .aload_n 0, 1, 0, 0), (61, .getfield 10, 3, 0, 0), (64, .getfield 74, 3, 0, 0), (67, .ireturn, 1, 0, 0)]
def P_MB_heaviest : List PE := [(0, .iconst 0, 1, 0, 0), (1, .istore_n 1, 1, 0, 0), (2, .iconst 1, 1, 0, 1), (3, .istore_n 2, 1, 0, 0), (4, .iload_n 2, 1, 0, 0), (5, .aload_n 0, 1, 0, 0), (6, .getfield 33, 3, 0, 0), (9, .getfield 67, 3, 0, 0), (12, .if_icmp .ge 31, 3, 43, 0), (15, .aload_n 0, 1, 0, 0), (16, .getfield 33, 3, 0, 0), (19, .iload_n 2, 1, 0, 0), (20, .invokevirtual 313, 3, 0, 0), (23, .aload_n 0, 1, 0, 0), (24, .getfield 33, 3, 0, 0), (27, .iload_n 1, 1, 0, 0), (28, .invokevirtual 313, 3, 0, 0), (31, .lcmp, 1, 0, 0), (32, .ifCond .le 5, 3, 37, 0), (35, .iload_n 2, 1, 0, 0), (36, .istore_n 1, 1, 0, 0), (37, .iinc 2 1, 3, 0, 1), (40, .goto (-36), 3, 4, 0), (43, .iload_n 1, 1, 0, 0), (44, .ireturn, 1, 0, 0)]
def P_MB_count : List PE := [(0, .iload_n 1, 1, 0, 0), (1, .tableswitch 258 0 15 #[79, 87, 95, 103, 111, 119, 127, 138, 149, 179, 193, 204, 215, 226, 234, 242], 79, 259, 0), (80, .aload_n 0, 1, 0, 0), (81, .getfield 33, 3, 0, 0), (84, .getfield 67, 3, 0, 0), (87, .ireturn, 1, 0, 0), (88, .aload_n 0, 1, 0, 0), (89, .getfield 33, 3, 0, 0), (92, .getfield 99, 3, 0, 0), (95, .ireturn, 1, 0, 0), (96, .aload_n 0, 1, 0, 0), (97, .getfield 33, 3, 0, 0), (100, .getfield 102, 3, 0, 0), (103, .ireturn, 1, 0, 0), (104, .aload_n 0, 1, 0, 0), (105, .getfield 33, 3, 0, 0), (108, .getfield 105, 3, 0, 0), (111, .ireturn, 1, 0, 0), (112, .aload_n 0, 1, 0, 0), (113, .getfield 33, 3, 0, 0), (116, .getfield 108, 3, 0, 0), (119, .ireturn, 1, 0, 0), (120, .aload_n 0, 1, 0, 0), (121, .getfield 40, 3, 0, 0), (124, .getfield 111, 3, 0, 0), (127, .ireturn, 1, 0, 0), (128, .aload_n 0, 1, 0, 0), (129, .getfield 40, 3, 0, 0), (132, .getfield 114, 3, 0, 0), (135, .invokevirtual 118, 3, 0, 0), (138, .ireturn, 1, 0, 0), (139, .aload_n 0, 1, 0, 0), (140, .getfield 40, 3, 0, 0), (143, .getfield 114, 3, 0, 0), (146, .invokevirtual 124, 3, 0, 0), (149, .ireturn, 1, 0, 0), (150, .aload_n 0, 1, 0, 0), (151, .getfield 33, 3, 0, 0), (154, .getfield 67, 3, 0, 0), (157, .aload_n 0, 1, 0, 0), (158, .getfield 40, 3, 0, 0), (161, .getfield 114, 3, 0, 0), (164, .invokevirtual 118, 3, 0, 0), (167, .isub, 1, 0, 0), (168, .aload_n 0, 1, 0, 0), (169, .getfield 40, 3, 0, 0), (172, .getfield 114, 3, 0, 0), (175, .invokevirtual 124, 3, 0, 0), (178, .isub, 1, 0, 0), (179, .ireturn, 1, 0, 0), (180, .aload_n 0, 1, 0, 0), (181, .getfield 40, 3, 0, 0), (184, .getfield 127, 3, 0, 0), (187, .getfield 131, 3, 0, 0), (190, .invokevirtual 136, 3, 0, 0), (193, .ireturn, 1, 0, 0), (194, .aload_n 0, 1, 0, 0), (195, .getfield 40, 3, 0, 0), (198, .getfield 141, 3, 0, 0), (201, .invokevirtual 136, 3, 0, 0), (204, .ireturn, 1, 0, 0), (205, .aload_n 0, 1, 0, 0), (206, .getfield 40, 3, 0, 0), (209, .getfield 144, 3, 0, 0), (212, .invokevirtual 136, 3, 0, 0), (215, .ireturn, 1, 0, 0), (216, .aload_n 0, 1, 0, 0), (217, .getfield 40, 3, 0, 0), (220, .getfield 147, 3, 0, 0), (223, .getfield 151, 3, 0, 0), (226, .ireturn, 1, 0, 0), (227, .aload_n 0, 1, 0, 0), (228, .getfield 47, 3, 0, 0), (231, .getfield 154, 3, 0, 0), (234, .ireturn, 1, 0, 0), (235, .aload_n 0, 1, 0, 0), (236, .getfield 10, 3, 0, 0), (239, .getfield 74, 3, 0, 0), (242, .ireturn, 1, 0, 0), (243, .aload_n 0, 1, 0, 0), (244, .getfield 33, 3, 0, 0), (247, .getfield 155, 3, 0, 0), (250, .ifCond .eq 7, 3, 257, 0), (253, .iconst 1, 1, 0, 1), (254, .goto 4, 3, 258, 0), (257, .iconst 0, 1, 0, 0), (258, .ireturn, 1, 0, 0), (259, .new 159, 3, 0, 0), (262, .dup, 1, 0, 0), (263, .invokespecial 161, 3, 0, 0), (266, .athrow, 1, 0, 0)]
def P_MB_waiting : List PE := [(0, .iload_n 1, 1, 0, 0), (1, .aload_n 0, 1, 0, 0), (2, .getfield 33, 3, 0, 0), (5, .getfield 105, 3, 0, 0), (8, .invokestatic 162, 3, 0, 0), (11, .ifCond .eq 24, 3, 35, 0), (14, .iload_n 2, 1, 0, 0), (15, .aload_n 0, 1, 0, 0), (16, .getfield 40, 3, 0, 0), (19, .getfield 127, 3, 0, 0), (22, .getfield 131, 3, 0, 0), (25, .iload_n 1, 1, 0, 0), (26, .invokevirtual 185, 3, 0, 0), (29, .invokestatic 162, 3, 0, 0), (32, .ifCond .ne 11, 3, 43, 0), (35, .new 159, 3, 0, 0), (38, .dup, 1, 0, 0), (39, .invokespecial 161, 3, 0, 0), (42, .athrow, 1, 0, 0), (43, .aload_n 0, 1, 0, 0), (44, .getfield 40, 3, 0, 0), (47, .getfield 127, 3, 0, 0), (50, .iload_n 1, 1, 0, 0), (51, .iload_n 2, 1, 0, 0), (52, .invokevirtual 252, 3, 0, 0), (55, .ireturn, 1, 0, 0)]
def P_MB_coming : List PE := [(0, .iload_n 1, 1, 0, 0), (1, .aload_n 0, 1, 0, 0), (2, .getfield 33, 3, 0, 0), (5, .getfield 108, 3, 0, 0), (8, .invokestatic 162, 3, 0, 0), (11, .ifCond .ne 11, 3, 22, 0), (14, .new 159, 3, 0, 0), (17, .dup, 1, 0, 0), (18, .invokespecial 161, 3, 0, 0), (21, .athrow, 1, 0, 0), (22, .iload_n 2, 1, 0, 0), (23, .tableswitch 97 0 4 #[33, 45, 57, 69, 81], 33, 120, 0), (56, .aload_n 0, 1, 0, 0), (57, .getfield 33, 3, 0, 0), (60, .getfield 256, 3, 0, 0), (63, .iload_n 1, 1, 0, 0), (64, .invokevirtual 185, 3, 0, 0), (67, .ireturn, 1, 0, 0), (68, .aload_n 0, 1, 0, 0), (69, .getfield 33, 3, 0, 0), (72, .getfield 259, 3, 0, 0), (75, .iload_n 1, 1, 0, 0), (76, .invokevirtual 185, 3, 0, 0), (79, .ireturn, 1, 0, 0), (80, .aload_n 0, 1, 0, 0), (81, .getfield 33, 3, 0, 0), (84, .getfield 262, 3, 0, 0), (87, .iload_n 1, 1, 0, 0), (88, .invokevirtual 185, 3, 0, 0), (91, .ireturn, 1, 0, 0), (92, .aload_n 0, 1, 0, 0), (93, .getfield 33, 3, 0, 0), (96, .getfield 265, 3, 0, 0), (99, .iload_n 1, 1, 0, 0), (100, .invokevirtual 185, 3, 0, 0), (103, .ireturn, 1, 0, 0), (104, .aload_n 0, 1, 0, 0), (105, .getfield 33, 3, 0, 0), (108, .iload_n 1, 1, 0, 0), (109, .aload_n 0, 1, 0, 0), (110, .getfield 40, 3, 0, 0), (113, .getfield 111, 3, 0, 0), (116, .invokevirtual 268, 3, 0, 0), (119, .ireturn, 1, 0, 0), (120, .new 159, 3, 0, 0), (123, .dup, 1, 0, 0), (124, .invokespecial 161, 3, 0, 0), (127, .athrow, 1, 0, 0)]
def P_MB_log : List PE := [(0, .iload_n 1, 1, 0, 0), (1, .aload_n 0, 1, 0, 0), (2, .getfield 40, 3, 0, 0), (5, .getfield 147, 3, 0, 0), (8, .getfield 151, 3, 0, 0), (11, .invokestatic 162, 3, 0, 0), (14, .ifCond .eq 12, 3, 26, 0), (17, .iload_n 2, 1, 0, 0), (18, .bipush 7, 2, 0, 7), (20, .invokestatic 162, 3, 0, 0), (23, .ifCond .ne 11, 3, 34, 0), (26, .new 159, 3, 0, 0), (29, .dup, 1, 0, 0), (30, .invokespecial 161, 3, 0, 0), (33, .athrow, 1, 0, 0), (34, .aload_n 0, 1, 0, 0), (35, .getfield 40, 3, 0, 0), (38, .getfield 147, 3, 0, 0), (41, .iload_n 1, 1, 0, 0), (42, .iload_n 2, 1, 0, 0), (43, .invokevirtual 271, 3, 0, 0), (46, .ireturn, 1, 0, 0)]
def P_MB_load : List PE := [(0, .iload_n 1, 1, 0, 0), (1, .aload_n 0, 1, 0, 0), (2, .getfield 33, 3, 0, 0), (5, .getfield 67, 3, 0, 0), (8, .invokestatic 162, 3, 0, 0), (11, .ifCond .ne 11, 3, 22, 0), (14, .new 159, 3, 0, 0), (17, .dup, 1, 0, 0), (18, .invokespecial 161, 3, 0, 0), (21, .athrow, 1, 0, 0), (22, .aload_n 0, 1, 0, 0), (23, .getfield 33, 3, 0, 0), (26, .iload_n 1, 1, 0, 0), (27, .invokevirtual 313, 3, 0, 0), (30, .lstore_n 3, 1, 0, 0), (31, .ldc2_w 317, 3, 0, 0), (34, .lload_n 3, 1, 0, 0), (35, .invokestatic 319, 3, 0, 0), (38, .lstore 5, 2, 0, 0), (40, .lload 5, 2, 0, 0), (42, .lconst 0, 1, 0, 0), (43, .lcmp, 1, 0, 0), (44, .ifCond .ne 5, 3, 49, 0), (47, .lconst 0, 1, 0, 0), (48, .lreturn, 1, 0, 0), (49, .iload_n 2, 1, 0, 0), (50, .ifCond .eq 12, 3, 62, 0), (53, .ldc2_w 317, 3, 0, 0), (56, .lload 5, 2, 0, 0), (58, .ldiv, 1, 0, 0), (59, .goto 7, 3, 66, 0), (62, .lload_n 3, 1, 0, 0), (63, .lload 5, 2, 0, 0), (65, .ldiv, 1, 0, 0), (66, .lreturn, 1, 0, 0)]
def P_Tape_beginText : List PE := [(0, .aload_n 0, 1, 0, 0), (1, .iconst 0, 1, 0, 0), (2, .putfield 24, 3, 0, 0), (5, .aload_n 0, 1, 0, 0), (6, .iload_n 1, 1, 0, 0), (7, .putfield 31, 3, 0, 0), (10, .aload_n 0, 1, 0, 0), (11, .iconst 0, 1, 0, 0), (12, .putfield 34, 3, 0, 0), (15, .aload_n 0, 1, 0, 0), (16, .iconst 0, 1, 0, 0), (17, .putfield 37, 3, 0, 0), (20, .aload_n 0, 1, 0, 0), (21, .iconst (-1), 1, 0, (-1)), (22, .putfield 20, 3, 0, 0), (25, .aload_n 0, 1, 0, 0), (26, .invokevirtual 40, 3, 0, 0), (29, .return_, 1, 0, 0)]
def P_Tape_takeIf : List PE := [(0, .iload_n 1, 1, 0, 0), (1, .ifCond .ne 12, 3, 13, 0), (4, .aload_n 0, 1, 0, 0), (5, .iconst 1, 1, 0, 1), (6, .invokevirtual 84, 3, 0, 0), (9, .pop, 1, 0, 0), (10, .goto 14, 3, 24, 0), (13, .aload_n 0, 1, 0, 0), (14, .getfield 37, 3, 0, 0), (17, .ifCond .ne 7, 3, 24, 0), (20, .aload_n 0, 1, 0, 0), (21, .invokevirtual 40, 3, 0, 0), (24, .return_, 1, 0, 0)]
def P_Tape_takeNumber : List PE := [(0, .aload_n 0, 1, 0, 0), (1, .getfield 50, 3, 0, 0), (4, .iconst 2, 1, 0, 2), (5, .if_icmp .eq 9, 3, 14, 0), (8, .aload_n 0, 1, 0, 0), (9, .iconst 1, 1, 0, 1), (10, .invokevirtual 84, 3, 0, 0), (13, .ireturn, 1, 0, 0), (14, .aload_n 0, 1, 0, 0), (15, .invokevirtual 87, 3, 0, 0), (18, .istore_n 3, 1, 0, 0), (19, .iload_n 3, 1, 0, 0), (20, .iload_n 1, 1, 0, 0), (21, .if_icmp .lt 8, 3, 29, 0), (24, .iload_n 3, 1, 0, 0), (25, .iload_n 2, 1, 0, 0), (26, .if_icmp .le 9, 3, 35, 0), (29, .aload_n 0, 1, 0, 0), (30, .iconst 2, 1, 0, 2), (31, .invokevirtual 84, 3, 0, 0), (34, .ireturn, 1, 0, 0), (35, .aload_n 0, 1, 0, 0), (36, .getfield 37, 3, 0, 0), (39, .ifCond .ne 7, 3, 46, 0), (42, .aload_n 0, 1, 0, 0), (43, .invokevirtual 40, 3, 0, 0), (46, .iload_n 3, 1, 0, 0), (47, .ireturn, 1, 0, 0)]
def P_BeltText_takeOneMore : List PE := [(0, .iload_n 1, 1, 0, 0), (1, .iload_n 2, 1, 0, 0), (2, .if_icmp .lt 12, 3, 14, 0), (5, .aload_n 0, 1, 0, 0), (6, .iconst 4, 1, 0, 4), (7, .invokevirtual 82, 3, 0, 0), (10, .pop, 1, 0, 0), (11, .goto 7, 3, 18, 0), (14, .aload_n 0, 1, 0, 0), (15, .invokevirtual 86, 3, 0, 0), (18, .return_, 1, 0, 0)]
def P_BeltText_takeOpening : List PE := [(0, .iload_n 2, 1, 0, 0), (1, .bipush 6, 2, 0, 6), (3, .if_icmp .lt 9, 3, 12, 0), (6, .aload_n 1, 1, 0, 0), (7, .iconst 4, 1, 0, 4), (8, .invokevirtual 82, 3, 0, 0), (11, .ireturn, 1, 0, 0), (12, .aload_n 0, 1, 0, 0), (13, .getfield 12, 3, 0, 0), (16, .getfield 184, 3, 0, 0), (19, .bipush (-20), 2, 0, (-20)), (21, .invokevirtual 199, 3, 0, 0), (24, .aload_n 1, 1, 0, 0), (25, .invokevirtual 86, 3, 0, 0), (28, .iconst 1, 1, 0, 1), (29, .ireturn, 1, 0, 0)]
def P_BeltText_operatorThere : List PE := [(0, .aload_n 0, 1, 0, 0), (1, .bipush 43, 2, 0, 43), (3, .invokevirtual 169, 3, 0, 0), (6, .ifCond .eq 6, 3, 12, 0), (9, .bipush (-11), 2, 0, (-11)), (11, .ireturn, 1, 0, 0), (12, .aload_n 0, 1, 0, 0), (13, .bipush 45, 2, 0, 45), (15, .invokevirtual 169, 3, 0, 0), (18, .ifCond .eq 6, 3, 24, 0), (21, .bipush (-12), 2, 0, (-12)), (23, .ireturn, 1, 0, 0), (24, .aload_n 0, 1, 0, 0), (25, .bipush 42, 2, 0, 42), (27, .invokevirtual 169, 3, 0, 0), (30, .ifCond .eq 8, 3, 38, 0), (33, .bipush (-13), 2, 0, (-13)), (35, .goto 4, 3, 39, 0), (38, .iconst 0, 1, 0, 0), (39, .ireturn, 1, 0, 0)]
def P_Question_init : List PE := [(0, .aload_n 0, 1, 0, 0), (1, .invokespecial 3, 3, 0, 0), (4, .aload_n 0, 1, 0, 0), (5, .new 9, 3, 0, 0), (8, .dup, 1, 0, 0), (9, .sipush 200, 3, 0, 200), (12, .invokespecial 11, 3, 0, 0), (15, .putfield 14, 3, 0, 0), (18, .return_, 1, 0, 0)]
def P_Question_openOneMore : List PE := [(0, .aload_n 0, 1, 0, 0), (1, .getfield 27, 3, 0, 0), (4, .aload_n 0, 1, 0, 0), (5, .getfield 23, 3, 0, 0), (8, .iadd, 1, 0, 0), (9, .bipush 6, 2, 0, 6), (11, .if_icmp .lt 10, 3, 21, 0), (14, .aload_n 1, 1, 0, 0), (15, .iconst 3, 1, 0, 3), (16, .invokevirtual 82, 3, 0, 0), (19, .pop, 1, 0, 0), (20, .return_, 1, 0, 0), (21, .aload_n 0, 1, 0, 0), (22, .dup, 1, 0, 0), (23, .getfield 27, 3, 0, 0), (26, .iload_n 2, 1, 0, 0), (27, .ifCond .eq 7, 3, 34, 0), (30, .iconst 1, 1, 0, 1), (31, .goto 4, 3, 35, 0), (34, .iconst 0, 1, 0, 0), (35, .iadd, 1, 0, 0), (36, .putfield 27, 3, 0, 0), (39, .aload_n 0, 1, 0, 0), (40, .dup, 1, 0, 0), (41, .getfield 23, 3, 0, 0), (44, .iload_n 2, 1, 0, 0), (45, .ifCond .eq 7, 3, 52, 0), (48, .iconst 0, 1, 0, 0), (49, .goto 4, 3, 53, 0), (52, .iconst 1, 1, 0, 1), (53, .iadd, 1, 0, 0), (54, .putfield 23, 3, 0, 0), (57, .aload_n 0, 1, 0, 0), (58, .getfield 14, 3, 0, 0), (61, .iload_n 2, 1, 0, 0), (62, .ifCond .eq 8, 3, 70, 0), (65, .bipush (-19), 2, 0, (-19)), (67, .goto 5, 3, 72, 0), (70, .bipush (-20), 2, 0, (-20)), (72, .invokevirtual 107, 3, 0, 0), (75, .aload_n 1, 1, 0, 0), (76, .invokevirtual 65, 3, 0, 0), (79, .return_, 1, 0, 0)]
def P_Question_comparisonThere : List PE := [(0, .aload_n 0, 1, 0, 0), (1, .bipush 60, 2, 0, 60), (3, .invokevirtual 91, 3, 0, 0), (6, .ifCond .eq 6, 3, 12, 0), (9, .bipush (-14), 2, 0, (-14)), (11, .ireturn, 1, 0, 0), (12, .aload_n 0, 1, 0, 0), (13, .bipush 61, 2, 0, 61), (15, .invokevirtual 91, 3, 0, 0), (18, .ifCond .eq 6, 3, 24, 0), (21, .bipush (-15), 2, 0, (-15)), (23, .ireturn, 1, 0, 0), (24, .aload_n 0, 1, 0, 0), (25, .bipush 62, 2, 0, 62), (27, .invokevirtual 91, 3, 0, 0), (30, .ifCond .eq 8, 3, 38, 0), (33, .bipush (-16), 2, 0, (-16)), (35, .goto 4, 3, 39, 0), (38, .iconst 0, 1, 0, 0), (39, .ireturn, 1, 0, 0)]
def P_Plan_init : List PE := [(0, .aload_n 0, 1, 0, 0), (1, .invokespecial 3, 3, 0, 0), (4, .aload_n 0, 1, 0, 0), (5, .new 9, 3, 0, 0), (8, .dup, 1, 0, 0), (9, .bipush 6, 2, 0, 6), (11, .invokespecial 11, 3, 0, 0), (14, .putfield 14, 3, 0, 0), (17, .aload_n 0, 1, 0, 0), (18, .new 9, 3, 0, 0), (21, .dup, 1, 0, 0), (22, .bipush 6, 2, 0, 6), (24, .invokespecial 11, 3, 0, 0), (27, .putfield 20, 3, 0, 0), (30, .aload_n 0, 1, 0, 0), (31, .new 9, 3, 0, 0), (34, .dup, 1, 0, 0), (35, .bipush 8, 2, 0, 8), (37, .invokespecial 11, 3, 0, 0), (40, .putfield 23, 3, 0, 0), (43, .aload_n 0, 1, 0, 0), (44, .new 9, 3, 0, 0), (47, .dup, 1, 0, 0), (48, .bipush 8, 2, 0, 8), (50, .invokespecial 11, 3, 0, 0), (53, .putfield 26, 3, 0, 0), (56, .aload_n 0, 1, 0, 0), (57, .new 9, 3, 0, 0), (60, .dup, 1, 0, 0), (61, .bipush 6, 2, 0, 6), (63, .invokespecial 11, 3, 0, 0), (66, .putfield 29, 3, 0, 0), (69, .aload_n 0, 1, 0, 0), (70, .new 9, 3, 0, 0), (73, .dup, 1, 0, 0), (74, .bipush 6, 2, 0, 6), (76, .invokespecial 11, 3, 0, 0), (79, .putfield 32, 3, 0, 0), (82, .aload_n 0, 1, 0, 0), (83, .new 9, 3, 0, 0), (86, .dup, 1, 0, 0), (87, .bipush 6, 2, 0, 6), (89, .invokespecial 11, 3, 0, 0), (92, .putfield 35, 3, 0, 0), (95, .aload_n 0, 1, 0, 0), (96, .new 9, 3, 0, 0), (99, .dup, 1, 0, 0), (100, .bipush 6, 2, 0, 6), (102, .invokespecial 11, 3, 0, 0), (105, .putfield 38, 3, 0, 0), (108, .aload_n 0, 1, 0, 0), (109, .new 9, 3, 0, 0), (112, .dup, 1, 0, 0), (113, .bipush 12, 2, 0, 12), (115, .invokespecial 11, 3, 0, 0), (118, .putfield 41, 3, 0, 0), (121, .aload_n 0, 1, 0, 0), (122, .new 9, 3, 0, 0), (125, .dup, 1, 0, 0), (126, .bipush 12, 2, 0, 12), (128, .invokespecial 11, 3, 0, 0), (131, .putfield 44, 3, 0, 0), (134, .aload_n 0, 1, 0, 0), (135, .new 9, 3, 0, 0), (138, .dup, 1, 0, 0), (139, .bipush 12, 2, 0, 12), (141, .invokespecial 11, 3, 0, 0), (144, .putfield 47, 3, 0, 0), (147, .aload_n 0, 1, 0, 0), (148, .new 9, 3, 0, 0), (151, .dup, 1, 0, 0), (152, .bipush 12, 2, 0, 12), (154, .invokespecial 11, 3, 0, 0), (157, .putfield 50, 3, 0, 0), (160, .aload_n 0, 1, 0, 0), (161, .new 53, 3, 0, 0), (164, .dup, 1, 0, 0), (165, .sipush 500, 3, 0, 500), (168, .invokespecial 55, 3, 0, 0), (171, .putfield 56, 3, 0, 0), (174, .return_, 1, 0, 0)]
def P_Plan_exitAt : List PE := [(0, .iload_n 1, 1, 0, 0), (1, .aload_n 0, 1, 0, 0), (2, .getfield 14, 3, 0, 0), (5, .aload_n 0, 1, 0, 0), (6, .getfield 64, 3, 0, 0), (9, .invokestatic 90, 3, 0, 0), (12, .ireturn, 1, 0, 0)]
def P_Plan_sideAt : List PE := [(0, .iload_n 1, 1, 0, 0), (1, .aload_n 0, 1, 0, 0), (2, .getfield 29, 3, 0, 0), (5, .aload_n 0, 1, 0, 0), (6, .getfield 70, 3, 0, 0), (9, .invokestatic 90, 3, 0, 0), (12, .ireturn, 1, 0, 0)]
def P_State_init : List PE := [(0, .aload_n 0, 1, 0, 0), (1, .invokespecial 3, 3, 0, 0), (4, .aload_n 0, 1, 0, 0), (5, .new 9, 3, 0, 0), (8, .dup, 1, 0, 0), (9, .invokespecial 11, 3, 0, 0), (12, .putfield 12, 3, 0, 0), (15, .aload_n 0, 1, 0, 0), (16, .new 18, 3, 0, 0), (19, .dup, 1, 0, 0), (20, .invokespecial 20, 3, 0, 0), (23, .putfield 21, 3, 0, 0), (26, .aload_n 0, 1, 0, 0), (27, .new 25, 3, 0, 0), (30, .dup, 1, 0, 0), (31, .bipush 6, 2, 0, 6), (33, .invokespecial 27, 3, 0, 0), (36, .putfield 30, 3, 0, 0), (39, .aload_n 0, 1, 0, 0), (40, .new 25, 3, 0, 0), (43, .dup, 1, 0, 0), (44, .bipush 6, 2, 0, 6), (46, .invokespecial 27, 3, 0, 0), (49, .putfield 34, 3, 0, 0), (52, .aload_n 0, 1, 0, 0), (53, .new 25, 3, 0, 0), (56, .dup, 1, 0, 0), (57, .bipush 6, 2, 0, 6), (59, .invokespecial 27, 3, 0, 0), (62, .putfield 37, 3, 0, 0), (65, .aload_n 0, 1, 0, 0), (66, .new 25, 3, 0, 0), (69, .dup, 1, 0, 0), (70, .bipush 6, 2, 0, 6), (72, .invokespecial 27, 3, 0, 0), (75, .putfield 40, 3, 0, 0), (78, .aload_n 0, 1, 0, 0), (79, .new 25, 3, 0, 0), (82, .dup, 1, 0, 0), (83, .bipush 6, 2, 0, 6), (85, .invokespecial 27, 3, 0, 0), (88, .putfield 43, 3, 0, 0), (91, .aload_n 0, 1, 0, 0), (92, .new 25, 3, 0, 0), (95, .dup, 1, 0, 0), (96, .bipush 6, 2, 0, 6), (98, .invokespecial 27, 3, 0, 0), (101, .putfield 46, 3, 0, 0), (104, .aload_n 0, 1, 0, 0), (105, .new 25, 3, 0, 0), (108, .dup, 1, 0, 0), (109, .bipush 6, 2, 0, 6), (111, .invokespecial 27, 3, 0, 0), (114, .putfield 49, 3, 0, 0), (117, .aload_n 0, 1, 0, 0), (118, .new 25, 3, 0, 0), (121, .dup, 1, 0, 0), (122, .bipush 6, 2, 0, 6), (124, .invokespecial 27, 3, 0, 0), (127, .putfield 52, 3, 0, 0), (130, .aload_n 0, 1, 0, 0), (131, .new 25, 3, 0, 0), (134, .dup, 1, 0, 0), (135, .bipush 6, 2, 0, 6), (137, .invokespecial 27, 3, 0, 0), (140, .putfield 55, 3, 0, 0), (143, .aload_n 0, 1, 0, 0), (144, .new 25, 3, 0, 0), (147, .dup, 1, 0, 0), (148, .bipush 6, 2, 0, 6), (150, .invokespecial 27, 3, 0, 0), (153, .putfield 58, 3, 0, 0), (156, .aload_n 0, 1, 0, 0), (157, .new 25, 3, 0, 0), (160, .dup, 1, 0, 0), (161, .bipush 6, 2, 0, 6), (163, .invokespecial 27, 3, 0, 0), (166, .putfield 61, 3, 0, 0), (169, .aload_n 0, 1, 0, 0), (170, .new 25, 3, 0, 0), (173, .dup, 1, 0, 0), (174, .bipush 6, 2, 0, 6), (176, .invokespecial 27, 3, 0, 0), (179, .putfield 64, 3, 0, 0), (182, .aload_n 0, 1, 0, 0), (183, .new 25, 3, 0, 0), (186, .dup, 1, 0, 0), (187, .bipush 8, 2, 0, 8), (189, .invokespecial 27, 3, 0, 0), (192, .putfield 67, 3, 0, 0), (195, .aload_n 0, 1, 0, 0), (196, .new 70, 3, 0, 0), (199, .dup, 1, 0, 0), (200, .invokespecial 72, 3, 0, 0), (203, .putfield 73, 3, 0, 0), (206, .aload_n 0, 1, 0, 0), (207, .iconst (-1), 1, 0, (-1)), (208, .putfield 77, 3, 0, 0), (211, .return_, 1, 0, 0)]
def P_State_ridesAt : List PE := [(0, .aload_n 0, 1, 0, 0), (1, .getfield 12, 3, 0, 0), (4, .iload_n 1, 1, 0, 0), (5, .invokevirtual 189, 3, 0, 0), (8, .iconst (-1), 1, 0, (-1)), (9, .if_icmp .ne 7, 3, 16, 0), (12, .iconst (-1), 1, 0, (-1)), (13, .goto 16, 3, 29, 0), (16, .aload_n 0, 1, 0, 0), (17, .getfield 81, 3, 0, 0), (20, .aload_n 0, 1, 0, 0), (21, .getfield 12, 3, 0, 0), (24, .iload_n 1, 1, 0, 0), (25, .invokevirtual 281, 3, 0, 0), (28, .isub, 1, 0, 0), (29, .ireturn, 1, 0, 0)]
def P_State_goesTo : List PE := [(0, .aload_n 0, 1, 0, 0), (1, .getfield 12, 3, 0, 0), (4, .iload_n 2, 1, 0, 0), (5, .invokevirtual 189, 3, 0, 0), (8, .istore 4, 2, 0, 0), (10, .iload 4, 2, 0, 0), (12, .iconst (-1), 1, 0, (-1)), (13, .if_icmp .eq 20, 3, 33, 0), (16, .aload_n 1, 1, 0, 0), (17, .getfield 284, 3, 0, 0), (20, .iload 4, 2, 0, 0), (22, .invokevirtual 131, 3, 0, 0), (25, .iload_n 3, 1, 0, 0), (26, .if_icmp .ne 7, 3, 33, 0), (29, .iconst 1, 1, 0, 1), (30, .goto 4, 3, 34, 0), (33, .iconst 0, 1, 0, 0), (34, .ireturn, 1, 0, 0)]
def P_State_rank : List PE := [(0, .aload_n 1, 1, 0, 0), (1, .getfield 252, 3, 0, 0), (4, .ifCond .ne 12, 3, 16, 0), (7, .aload_n 0, 1, 0, 0), (8, .getfield 40, 3, 0, 0), (11, .iload_n 2, 1, 0, 0), (12, .invokevirtual 131, 3, 0, 0), (15, .ireturn, 1, 0, 0), (16, .aload_n 1, 1, 0, 0), (17, .getfield 256, 3, 0, 0), (20, .getfield 260, 3, 0, 0), (23, .astore_n 3, 1, 0, 0), (24, .aload_n 3, 1, 0, 0), (25, .iconst 0, 1, 0, 0), (26, .aload_n 0, 1, 0, 0), (27, .getfield 40, 3, 0, 0), (30, .iload_n 2, 1, 0, 0), (31, .invokevirtual 131, 3, 0, 0), (34, .invokevirtual 123, 3, 0, 0), (37, .aload_n 3, 1, 0, 0), (38, .iconst 1, 1, 0, 1), (39, .aload_n 0, 1, 0, 0), (40, .getfield 37, 3, 0, 0), (43, .iload_n 2, 1, 0, 0), (44, .invokevirtual 131, 3, 0, 0), (47, .invokevirtual 123, 3, 0, 0), (50, .aload_n 3, 1, 0, 0), (51, .iconst 2, 1, 0, 2), (52, .aload_n 0, 1, 0, 0), (53, .getfield 21, 3, 0, 0), (56, .getfield 120, 3, 0, 0), (59, .iload_n 2, 1, 0, 0), (60, .invokevirtual 131, 3, 0, 0), (63, .invokevirtual 123, 3, 0, 0), (66, .aload_n 3, 1, 0, 0), (67, .iconst 3, 1, 0, 3), (68, .aload_n 0, 1, 0, 0), (69, .getfield 30, 3, 0, 0), (72, .iload_n 2, 1, 0, 0), (73, .invokevirtual 131, 3, 0, 0), (76, .invokevirtual 123, 3, 0, 0), (79, .aload_n 3, 1, 0, 0), (80, .iconst 4, 1, 0, 4), (81, .aload_n 0, 1, 0, 0), (82, .getfield 43, 3, 0, 0), (85, .iload_n 2, 1, 0, 0), (86, .invokevirtual 131, 3, 0, 0), (89, .invokevirtual 123, 3, 0, 0), (92, .aload_n 3, 1, 0, 0), (93, .iconst 5, 1, 0, 5), (94, .aload_n 0, 1, 0, 0), (95, .iload_n 2, 1, 0, 0), (96, .invokevirtual 228, 3, 0, 0), (99, .invokevirtual 123, 3, 0, 0), (102, .aload_n 3, 1, 0, 0), (103, .bipush 6, 2, 0, 6), (105, .aload_n 0, 1, 0, 0), (106, .aload_n 1, 1, 0, 0), (107, .iload_n 2, 1, 0, 0), (108, .invokevirtual 265, 3, 0, 0), (111, .invokevirtual 123, 3, 0, 0), (114, .aload_n 3, 1, 0, 0), (115, .bipush 7, 2, 0, 7), (117, .iload_n 2, 1, 0, 0), (118, .invokevirtual 123, 3, 0, 0), (121, .aload_n 1, 1, 0, 0), (122, .getfield 256, 3, 0, 0), (125, .invokevirtual 268, 3, 0, 0), (128, .ireturn, 1, 0, 0)]
def P_State_comeIn : List PE := [(0, .iconst 0, 1, 0, 0), (1, .istore_n 2, 1, 0, 0), (2, .iload_n 2, 1, 0, 0), (3, .aload_n 1, 1, 0, 0), (4, .getfield 159, 3, 0, 0), (7, .if_icmp .ge 81, 3, 88, 0), (10, .aload_n 1, 1, 0, 0), (11, .getfield 162, 3, 0, 0), (14, .iload_n 2, 1, 0, 0), (15, .invokevirtual 131, 3, 0, 0), (18, .istore_n 3, 1, 0, 0), (19, .iload_n 3, 1, 0, 0), (20, .aload_n 0, 1, 0, 0), (21, .getfield 77, 3, 0, 0), (24, .if_icmp .eq 58, 3, 82, 0), (27, .aload_n 1, 1, 0, 0), (28, .iload_n 2, 1, 0, 0), (29, .aload_n 0, 1, 0, 0), (30, .getfield 81, 3, 0, 0), (33, .invokevirtual 165, 3, 0, 0), (36, .ifCond .eq 6, 3, 42, 0), (39, .goto 43, 3, 82, 0), (42, .aload_n 0, 1, 0, 0), (43, .iload_n 3, 1, 0, 0), (44, .invokevirtual 168, 3, 0, 0), (47, .ifCond .eq 15, 3, 62, 0), (50, .aload_n 0, 1, 0, 0), (51, .getfield 52, 3, 0, 0), (54, .iload_n 3, 1, 0, 0), (55, .iconst 1, 1, 0, 1), (56, .invokevirtual 172, 3, 0, 0), (59, .goto 23, 3, 82, 0), (62, .aload_n 0, 1, 0, 0), (63, .getfield 21, 3, 0, 0), (66, .iload_n 3, 1, 0, 0), (67, .aload_n 1, 1, 0, 0), (68, .getfield 175, 3, 0, 0), (71, .iload_n 2, 1, 0, 0), (72, .invokevirtual 131, 3, 0, 0), (75, .aload_n 0, 1, 0, 0), (76, .getfield 81, 3, 0, 0), (79, .invokevirtual 178, 3, 0, 0), (82, .iinc 2 1, 3, 0, 1), (85, .goto (-83), 3, 2, 0), (88, .return_, 1, 0, 0)]
def P_State_goOn : List PE := [(0, .iconst 0, 1, 0, 0), (1, .istore_n 2, 1, 0, 0), (2, .iload_n 2, 1, 0, 0), (3, .aload_n 1, 1, 0, 0), (4, .getfield 213, 3, 0, 0), (7, .if_icmp .ge 162, 3, 169, 0), (10, .aload_n 1, 1, 0, 0), (11, .getfield 216, 3, 0, 0), (14, .iload_n 2, 1, 0, 0), (15, .invokevirtual 131, 3, 0, 0), (18, .istore_n 3, 1, 0, 0), (19, .aload_n 0, 1, 0, 0), (20, .getfield 12, 3, 0, 0), (23, .iload_n 3, 1, 0, 0), (24, .invokevirtual 219, 3, 0, 0), (27, .iload_n 2, 1, 0, 0), (28, .if_icmp .ne 7, 3, 35, 0), (31, .iconst 1, 1, 0, 1), (32, .goto 4, 3, 36, 0), (35, .iconst 0, 1, 0, 0), (36, .istore 4, 2, 0, 0), (38, .iload 4, 2, 0, 0), (40, .ifCond .ne 17, 3, 57, 0), (43, .aload_n 0, 1, 0, 0), (44, .getfield 12, 3, 0, 0), (47, .iload_n 3, 1, 0, 0), (48, .invokevirtual 222, 3, 0, 0), (51, .ifCond .ne 6, 3, 57, 0), (54, .goto 109, 3, 163, 0), (57, .iload 4, 2, 0, 0), (59, .ifCond .eq 21, 3, 80, 0), (62, .aload_n 0, 1, 0, 0), (63, .getfield 12, 3, 0, 0), (66, .iload_n 3, 1, 0, 0), (67, .iconst (-1), 1, 0, (-1)), (68, .invokevirtual 225, 3, 0, 0), (71, .aload_n 0, 1, 0, 0), (72, .getfield 43, 3, 0, 0), (75, .iload_n 2, 1, 0, 0), (76, .iconst (-1), 1, 0, (-1)), (77, .invokevirtual 172, 3, 0, 0), (80, .aload_n 0, 1, 0, 0), (81, .getfield 21, 3, 0, 0), (84, .getfield 120, 3, 0, 0), (87, .iload_n 2, 1, 0, 0), (88, .invokevirtual 131, 3, 0, 0), (91, .ifCond .le 72, 3, 163, 0), (94, .aload_n 0, 1, 0, 0), (95, .iload_n 2, 1, 0, 0), (96, .invokevirtual 228, 3, 0, 0), (99, .istore 5, 2, 0, 0), (101, .aload_n 0, 1, 0, 0), (102, .getfield 12, 3, 0, 0), (105, .iload_n 3, 1, 0, 0), (106, .aload_n 0, 1, 0, 0), (107, .getfield 21, 3, 0, 0), (110, .iload_n 2, 1, 0, 0), (111, .iconst 0, 1, 0, 0), (112, .invokevirtual 231, 3, 0, 0), (115, .iload_n 2, 1, 0, 0), (116, .aload_n 0, 1, 0, 0), (117, .getfield 81, 3, 0, 0), (120, .iload 5, 2, 0, 0), (122, .invokevirtual 234, 3, 0, 0), (125, .aload_n 0, 1, 0, 0), (126, .getfield 21, 3, 0, 0), (129, .iload_n 2, 1, 0, 0), (130, .invokevirtual 238, 3, 0, 0), (133, .aload_n 0, 1, 0, 0), (134, .getfield 46, 3, 0, 0), (137, .iload_n 2, 1, 0, 0), (138, .iconst 1, 1, 0, 1), (139, .invokevirtual 172, 3, 0, 0), (142, .aload_n 0, 1, 0, 0), (143, .getfield 55, 3, 0, 0), (146, .iload_n 2, 1, 0, 0), (147, .iload 5, 2, 0, 0), (149, .aload_n 0, 1, 0, 0), (150, .getfield 55, 3, 0, 0), (153, .iload_n 2, 1, 0, 0), (154, .invokevirtual 131, 3, 0, 0), (157, .invokestatic 153, 3, 0, 0), (160, .invokevirtual 123, 3, 0, 0), (163, .iinc 2 1, 3, 0, 1), (166, .goto (-164), 3, 2, 0), (169, .return_, 1, 0, 0)]
def P_State_nearestGap : List PE := [(0, .aload_n 0, 1, 0, 0), (1, .getfield 21, 3, 0, 0), (4, .getfield 120, 3, 0, 0), (7, .iload_n 2, 1, 0, 0), (8, .invokevirtual 131, 3, 0, 0), (11, .aload_n 0, 1, 0, 0), (12, .getfield 43, 3, 0, 0), (15, .iload_n 2, 1, 0, 0), (16, .invokevirtual 131, 3, 0, 0), (19, .if_icmp .gt 5, 3, 24, 0), (22, .iconst (-1), 1, 0, (-1)), (23, .ireturn, 1, 0, 0), (24, .aload_n 1, 1, 0, 0), (25, .getfield 216, 3, 0, 0), (28, .iload_n 2, 1, 0, 0), (29, .invokevirtual 131, 3, 0, 0), (32, .istore_n 3, 1, 0, 0), (33, .iconst 0, 1, 0, 0), (34, .istore 4, 2, 0, 0), (36, .iload 4, 2, 0, 0), (38, .aload_n 0, 1, 0, 0), (39, .getfield 34, 3, 0, 0), (42, .iload_n 2, 1, 0, 0), (43, .invokevirtual 131, 3, 0, 0), (46, .if_icmp .ge 39, 3, 85, 0), (49, .iload_n 3, 1, 0, 0), (50, .ifCond .le 9, 3, 59, 0), (53, .iload_n 3, 1, 0, 0), (54, .iconst 1, 1, 0, 1), (55, .isub, 1, 0, 0), (56, .goto 9, 3, 65, 0), (59, .aload_n 1, 1, 0, 0), (60, .getfield 84, 3, 0, 0), (63, .iconst 1, 1, 0, 1), (64, .isub, 1, 0, 0), (65, .istore_n 3, 1, 0, 0), (66, .aload_n 0, 1, 0, 0), (67, .getfield 12, 3, 0, 0), (70, .iload_n 3, 1, 0, 0), (71, .invokevirtual 222, 3, 0, 0), (74, .ifCond .eq 5, 3, 79, 0), (77, .iload_n 3, 1, 0, 0), (78, .ireturn, 1, 0, 0), (79, .iinc 4 1, 3, 0, 1), (82, .goto (-46), 3, 36, 0), (85, .iconst (-1), 1, 0, (-1)), (86, .ireturn, 1, 0, 0)]
def P_State_waitsAsLong : List PE := [(0, .iconst 0, 1, 0, 0), (1, .istore_n 3, 1, 0, 0), (2, .iload_n 3, 1, 0, 0), (3, .aload_n 2, 1, 0, 0), (4, .getfield 213, 3, 0, 0), (7, .if_icmp .ge 69, 3, 76, 0), (10, .iconst 0, 1, 0, 0), (11, .istore 4, 2, 0, 0), (13, .iload 4, 2, 0, 0), (15, .aload_n 0, 1, 0, 0), (16, .getfield 21, 3, 0, 0), (19, .getfield 120, 3, 0, 0), (22, .iload_n 3, 1, 0, 0), (23, .invokevirtual 131, 3, 0, 0), (26, .if_icmp .ge 44, 3, 70, 0), (29, .aload_n 0, 1, 0, 0), (30, .getfield 81, 3, 0, 0), (33, .aload_n 0, 1, 0, 0), (34, .getfield 21, 3, 0, 0), (37, .iload_n 3, 1, 0, 0), (38, .iload 4, 2, 0, 0), (40, .invokevirtual 308, 3, 0, 0), (43, .isub, 1, 0, 0), (44, .aload_n 1, 1, 0, 0), (45, .getfield 81, 3, 0, 0), (48, .aload_n 1, 1, 0, 0), (49, .getfield 21, 3, 0, 0), (52, .iload_n 3, 1, 0, 0), (53, .iload 4, 2, 0, 0), (55, .invokevirtual 308, 3, 0, 0), (58, .isub, 1, 0, 0), (59, .if_icmp .eq 5, 3, 64, 0), (62, .iconst 0, 1, 0, 0), (63, .ireturn, 1, 0, 0), (64, .iinc 4 1, 3, 0, 1), (67, .goto (-54), 3, 13, 0), (70, .iinc 3 1, 3, 0, 1), (73, .goto (-71), 3, 2, 0), (76, .iconst 1, 1, 0, 1), (77, .ireturn, 1, 0, 0)]
def P_Ring_clear : List PE := [(0, .aload_n 0, 1, 0, 0), (1, .iload_n 1, 1, 0, 0), (2, .putfield 35, 3, 0, 0), (5, .aload_n 0, 1, 0, 0), (6, .iconst 0, 1, 0, 0), (7, .putfield 39, 3, 0, 0), (10, .aload_n 0, 1, 0, 0), (11, .getfield 14, 3, 0, 0), (14, .iconst (-1), 1, 0, (-1)), (15, .invokevirtual 42, 3, 0, 0), (18, .aload_n 0, 1, 0, 0), (19, .getfield 20, 3, 0, 0), (22, .iconst (-1), 1, 0, (-1)), (23, .invokevirtual 42, 3, 0, 0), (26, .aload_n 0, 1, 0, 0), (27, .getfield 23, 3, 0, 0), (30, .iconst (-1), 1, 0, (-1)), (31, .invokevirtual 42, 3, 0, 0), (34, .aload_n 0, 1, 0, 0), (35, .getfield 26, 3, 0, 0), (38, .iconst 0, 1, 0, 0), (39, .invokevirtual 42, 3, 0, 0), (42, .aload_n 0, 1, 0, 0), (43, .getfield 29, 3, 0, 0), (46, .iconst 0, 1, 0, 0), (47, .invokevirtual 42, 3, 0, 0), (50, .aload_n 0, 1, 0, 0), (51, .getfield 32, 3, 0, 0), (54, .iconst (-1), 1, 0, (-1)), (55, .invokevirtual 42, 3, 0, 0), (58, .return_, 1, 0, 0)]
def P_Ring_copyFrom : List PE := [(0, .aload_n 0, 1, 0, 0), (1, .getfield 14, 3, 0, 0), (4, .aload_n 1, 1, 0, 0), (5, .getfield 14, 3, 0, 0), (8, .invokevirtual 45, 3, 0, 0), (11, .aload_n 0, 1, 0, 0), (12, .getfield 20, 3, 0, 0), (15, .aload_n 1, 1, 0, 0), (16, .getfield 20, 3, 0, 0), (19, .invokevirtual 45, 3, 0, 0), (22, .aload_n 0, 1, 0, 0), (23, .getfield 23, 3, 0, 0), (26, .aload_n 1, 1, 0, 0), (27, .getfield 23, 3, 0, 0), (30, .invokevirtual 45, 3, 0, 0), (33, .aload_n 0, 1, 0, 0), (34, .getfield 26, 3, 0, 0), (37, .aload_n 1, 1, 0, 0), (38, .getfield 26, 3, 0, 0), (41, .invokevirtual 45, 3, 0, 0), (44, .aload_n 0, 1, 0, 0), (45, .getfield 29, 3, 0, 0), (48, .aload_n 1, 1, 0, 0), (49, .getfield 29, 3, 0, 0), (52, .invokevirtual 45, 3, 0, 0), (55, .aload_n 0, 1, 0, 0), (56, .getfield 32, 3, 0, 0), (59, .aload_n 1, 1, 0, 0), (60, .getfield 32, 3, 0, 0), (63, .invokevirtual 45, 3, 0, 0), (66, .aload_n 0, 1, 0, 0), (67, .aload_n 1, 1, 0, 0), (68, .getfield 35, 3, 0, 0), (71, .putfield 35, 3, 0, 0), (74, .aload_n 0, 1, 0, 0), (75, .aload_n 1, 1, 0, 0), (76, .getfield 39, 3, 0, 0), (79, .putfield 39, 3, 0, 0), (82, .return_, 1, 0, 0)]
def P_Queues_clear : List PE := [(0, .aload_n 0, 1, 0, 0), (1, .getfield 23, 3, 0, 0), (4, .iconst 0, 1, 0, 0), (5, .invokevirtual 26, 3, 0, 0), (8, .return_, 1, 0, 0)]
def P_Queues_copyFrom : List PE := [(0, .aload_n 0, 1, 0, 0), (1, .getfield 14, 3, 0, 0), (4, .aload_n 1, 1, 0, 0), (5, .getfield 14, 3, 0, 0), (8, .invokevirtual 29, 3, 0, 0), (11, .aload_n 0, 1, 0, 0), (12, .getfield 20, 3, 0, 0), (15, .aload_n 1, 1, 0, 0), (16, .getfield 20, 3, 0, 0), (19, .invokevirtual 29, 3, 0, 0), (22, .aload_n 0, 1, 0, 0), (23, .getfield 23, 3, 0, 0), (26, .aload_n 1, 1, 0, 0), (27, .getfield 23, 3, 0, 0), (30, .invokevirtual 29, 3, 0, 0), (33, .return_, 1, 0, 0)]
def P_Queues_waitingOf : List PE := [(0, .iconst 0, 1, 0, 0), (1, .istore_n 2, 1, 0, 0), (2, .iconst 0, 1, 0, 0), (3, .istore_n 3, 1, 0, 0), (4, .iload_n 3, 1, 0, 0), (5, .bipush 6, 2, 0, 6), (7, .if_icmp .ge 50, 3, 57, 0), (10, .iconst 0, 1, 0, 0), (11, .istore 4, 2, 0, 0), (13, .iload 4, 2, 0, 0), (15, .aload_n 0, 1, 0, 0), (16, .getfield 23, 3, 0, 0), (19, .iload_n 3, 1, 0, 0), (20, .invokevirtual 33, 3, 0, 0), (23, .if_icmp .ge 28, 3, 51, 0), (26, .iload_n 2, 1, 0, 0), (27, .aload_n 0, 1, 0, 0), (28, .iload_n 3, 1, 0, 0), (29, .iload 4, 2, 0, 0), (31, .invokevirtual 47, 3, 0, 0), (34, .iload_n 1, 1, 0, 0), (35, .if_icmp .ne 7, 3, 42, 0), (38, .iconst 1, 1, 0, 1), (39, .goto 4, 3, 43, 0), (42, .iconst 0, 1, 0, 0), (43, .iadd, 1, 0, 0), (44, .istore_n 2, 1, 0, 0), (45, .iinc 4 1, 3, 0, 1), (48, .goto (-35), 3, 13, 0), (51, .iinc 3 1, 3, 0, 1), (54, .goto (-50), 3, 4, 0), (57, .iload_n 2, 1, 0, 0), (58, .ireturn, 1, 0, 0)]
def P_Queues_hasSameWares : List PE := [(0, .aload_n 0, 1, 0, 0), (1, .getfield 23, 3, 0, 0), (4, .iload_n 2, 1, 0, 0), (5, .invokevirtual 33, 3, 0, 0), (8, .aload_n 1, 1, 0, 0), (9, .getfield 23, 3, 0, 0), (12, .iload_n 2, 1, 0, 0), (13, .invokevirtual 33, 3, 0, 0), (16, .if_icmp .eq 5, 3, 21, 0), (19, .iconst 0, 1, 0, 0), (20, .ireturn, 1, 0, 0), (21, .iconst 0, 1, 0, 0), (22, .istore_n 3, 1, 0, 0), (23, .iload_n 3, 1, 0, 0), (24, .aload_n 0, 1, 0, 0), (25, .getfield 23, 3, 0, 0), (28, .iload_n 2, 1, 0, 0), (29, .invokevirtual 33, 3, 0, 0), (32, .if_icmp .ge 26, 3, 58, 0), (35, .aload_n 0, 1, 0, 0), (36, .iload_n 2, 1, 0, 0), (37, .iload_n 3, 1, 0, 0), (38, .invokevirtual 47, 3, 0, 0), (41, .aload_n 1, 1, 0, 0), (42, .iload_n 2, 1, 0, 0), (43, .iload_n 3, 1, 0, 0), (44, .invokevirtual 47, 3, 0, 0), (47, .if_icmp .eq 5, 3, 52, 0), (50, .iconst 0, 1, 0, 0), (51, .ireturn, 1, 0, 0), (52, .iinc 3 1, 3, 0, 1), (55, .goto (-32), 3, 23, 0), (58, .iconst 1, 1, 0, 1), (59, .ireturn, 1, 0, 0)]
def P_Log_copyFrom : List PE := [(0, .aload_n 0, 1, 0, 0), (1, .getfield 14, 3, 0, 0), (4, .aload_n 1, 1, 0, 0), (5, .getfield 14, 3, 0, 0), (8, .invokevirtual 27, 3, 0, 0), (11, .aload_n 0, 1, 0, 0), (12, .aload_n 1, 1, 0, 0), (13, .getfield 20, 3, 0, 0), (16, .putfield 20, 3, 0, 0), (19, .aload_n 0, 1, 0, 0), (20, .aload_n 1, 1, 0, 0), (21, .getfield 24, 3, 0, 0), (24, .putfield 24, 3, 0, 0), (27, .return_, 1, 0, 0)]
def P_Formula_copyFrom : List PE := [(0, .aload_n 0, 1, 0, 0), (1, .getfield 24, 3, 0, 0), (4, .aload_n 1, 1, 0, 0), (5, .getfield 24, 3, 0, 0), (8, .invokevirtual 34, 3, 0, 0), (11, .aload_n 0, 1, 0, 0), (12, .aload_n 1, 1, 0, 0), (13, .getfield 27, 3, 0, 0), (16, .putfield 27, 3, 0, 0), (19, .return_, 1, 0, 0)]
def P_Formula_addOperator : List PE := [(0, .aload_n 0, 1, 0, 0), (1, .iload_n 1, 1, 0, 0), (2, .invokestatic 46, 3, 0, 0), (5, .invokevirtual 50, 3, 0, 0), (8, .aload_n 0, 1, 0, 0), (9, .iload_n 1, 1, 0, 0), (10, .invokevirtual 53, 3, 0, 0), (13, .return_, 1, 0, 0)]
def P_Formula_close : List PE := [(0, .aload_n 0, 1, 0, 0), (1, .iconst 1, 1, 0, 1), (2, .invokevirtual 50, 3, 0, 0), (5, .aload_n 0, 1, 0, 0), (6, .iconst 0, 1, 0, 0), (7, .aload_n 0, 1, 0, 0), (8, .getfield 31, 3, 0, 0), (11, .iconst 1, 1, 0, 1), (12, .isub, 1, 0, 0), (13, .invokestatic 56, 3, 0, 0), (16, .putfield 31, 3, 0, 0), (19, .return_, 1, 0, 0)]
def P_Formula_end : List PE := [(0, .aload_n 0, 1, 0, 0), (1, .iconst 1, 1, 0, 1), (2, .invokevirtual 50, 3, 0, 0), (5, .return_, 1, 0, 0)]
def P_Formula_endFact : List PE := [(0, .iconst 0, 1, 0, 0), (1, .istore_n 1, 1, 0, 0), (2, .aload_n 0, 1, 0, 0), (3, .getfield 31, 3, 0, 0), (6, .iconst 1, 1, 0, 1), (7, .isub, 1, 0, 0), (8, .istore_n 2, 1, 0, 0), (9, .iload_n 2, 1, 0, 0), (10, .ifCond .lt 49, 3, 59, 0), (13, .aload_n 0, 1, 0, 0), (14, .getfield 18, 3, 0, 0), (17, .iload_n 2, 1, 0, 0), (18, .invokevirtual 62, 3, 0, 0), (21, .invokestatic 46, 3, 0, 0), (24, .bipush (-19), 2, 0, (-19)), (26, .invokestatic 46, 3, 0, 0), (29, .if_icmp .lt 30, 3, 59, 0), (32, .iload_n 1, 1, 0, 0), (33, .aload_n 0, 1, 0, 0), (34, .getfield 18, 3, 0, 0), (37, .iload_n 2, 1, 0, 0), (38, .invokevirtual 62, 3, 0, 0), (41, .bipush (-19), 2, 0, (-19)), (43, .if_icmp .ne 7, 3, 50, 0), (46, .iconst 1, 1, 0, 1), (47, .goto 4, 3, 51, 0), (50, .iconst 0, 1, 0, 0), (51, .iadd, 1, 0, 0), (52, .istore_n 1, 1, 0, 0), (53, .iinc 2 (-1), 3, 0, (-1)), (56, .goto (-47), 3, 9, 0), (59, .aload_n 0, 1, 0, 0), (60, .bipush (-19), 2, 0, (-19)), (62, .invokestatic 46, 3, 0, 0), (65, .invokevirtual 50, 3, 0, 0), (68, .iload_n 1, 1, 0, 0), (69, .ireturn, 1, 0, 0)]
def P_Mo_count : List PE := [(0, .aload_n 0, 1, 0, 0), (1, .iconst 0, 1, 0, 0), (2, .putfield 46, 3, 0, 0), (5, .iload_n 1, 1, 0, 0), (6, .tableswitch 160 0 15 #[78, 78, 78, 78, 78, 78, 85, 91, 96, 112, 118, 126, 134, 142, 147, 152], 78, 166, 0), (84, .aload_n 0, 1, 0, 0), (85, .getfield 9, 3, 0, 0), (88, .iload_n 1, 1, 0, 0), (89, .iaload, 1, 0, 0), (90, .ireturn, 1, 0, 0), (91, .aload_n 0, 1, 0, 0), (92, .iconst (-1), 1, 0, (-1)), (93, .invokevirtual 176, 3, 0, 0), (96, .ireturn, 1, 0, 0), (97, .aload_n 0, 1, 0, 0), (98, .invokevirtual 179, 3, 0, 0), (101, .ireturn, 1, 0, 0), (102, .aload_n 0, 1, 0, 0), (103, .invokevirtual 49, 3, 0, 0), (106, .aload_n 0, 1, 0, 0), (107, .iconst (-1), 1, 0, (-1)), (108, .invokevirtual 176, 3, 0, 0), (111, .isub, 1, 0, 0), (112, .aload_n 0, 1, 0, 0), (113, .invokevirtual 179, 3, 0, 0), (116, .isub, 1, 0, 0), (117, .ireturn, 1, 0, 0), (118, .aload_n 0, 1, 0, 0), (119, .iconst (-1), 1, 0, (-1)), (120, .invokevirtual 182, 3, 0, 0), (123, .ireturn, 1, 0, 0), (124, .aload_n 0, 1, 0, 0), (125, .getfield 9, 3, 0, 0), (128, .bipush 6, 2, 0, 6), (130, .iaload, 1, 0, 0), (131, .ireturn, 1, 0, 0), (132, .aload_n 0, 1, 0, 0), (133, .getfield 9, 3, 0, 0), (136, .bipush 7, 2, 0, 7), (138, .iaload, 1, 0, 0), (139, .ireturn, 1, 0, 0), (140, .aload_n 0, 1, 0, 0), (141, .getfield 9, 3, 0, 0), (144, .bipush 8, 2, 0, 8), (146, .iaload, 1, 0, 0), (147, .ireturn, 1, 0, 0), (148, .aload_n 0, 1, 0, 0), (149, .getfield 185, 3, 0, 0), (152, .ireturn, 1, 0, 0), (153, .aload_n 0, 1, 0, 0), (154, .getfield 188, 3, 0, 0), (157, .ireturn, 1, 0, 0), (158, .aload_n 0, 1, 0, 0), (159, .getfield 9, 3, 0, 0), (162, .bipush 9, 2, 0, 9), (164, .iaload, 1, 0, 0), (165, .ireturn, 1, 0, 0), (166, .aload_n 0, 1, 0, 0), (167, .iconst 1, 1, 0, 1), (168, .invokevirtual 191, 3, 0, 0), (171, .ireturn, 1, 0, 0)]
def P_Mo_place : List PE := [(0, .aload_n 0, 1, 0, 0), (1, .iconst 0, 1, 0, 0), (2, .putfield 46, 3, 0, 0), (5, .aload_n 0, 1, 0, 0), (6, .iload_n 1, 1, 0, 0), (7, .invokevirtual 194, 3, 0, 0), (10, .ifCond .eq 12, 3, 22, 0), (13, .iload_n 2, 1, 0, 0), (14, .iconst 0, 1, 0, 0), (15, .iconst 4, 1, 0, 4), (16, .invokestatic 53, 3, 0, 0), (19, .ifCond .ne 9, 3, 28, 0), (22, .aload_n 0, 1, 0, 0), (23, .iconst 1, 1, 0, 1), (24, .invokevirtual 191, 3, 0, 0), (27, .ireturn, 1, 0, 0), (28, .iload_n 2, 1, 0, 0), (29, .iconst 3, 1, 0, 3), (30, .if_icmp .ge 12, 3, 42, 0), (33, .aload_n 0, 1, 0, 0), (34, .iload_n 1, 1, 0, 0), (35, .iload_n 2, 1, 0, 0), (36, .invokevirtual 57, 3, 0, 0), (39, .goto 22, 3, 61, 0), (42, .iload_n 2, 1, 0, 0), (43, .iconst 3, 1, 0, 3), (44, .if_icmp .ne 11, 3, 55, 0), (47, .aload_n 0, 1, 0, 0), (48, .iload_n 1, 1, 0, 0), (49, .invokevirtual 197, 3, 0, 0), (52, .goto 9, 3, 61, 0), (55, .aload_n 0, 1, 0, 0), (56, .iload_n 1, 1, 0, 0), (57, .iconst 5, 1, 0, 5), (58, .invokevirtual 57, 3, 0, 0), (61, .ireturn, 1, 0, 0)]
def P_Mo_exit : List PE := [(0, .aload_n 0, 1, 0, 0), (1, .iconst 0, 1, 0, 0), (2, .putfield 46, 3, 0, 0), (5, .aload_n 0, 1, 0, 0), (6, .iload_n 1, 1, 0, 0), (7, .invokevirtual 200, 3, 0, 0), (10, .ifCond .eq 12, 3, 22, 0), (13, .iload_n 2, 1, 0, 0), (14, .iconst 0, 1, 0, 0), (15, .iconst 5, 1, 0, 5), (16, .invokestatic 53, 3, 0, 0), (19, .ifCond .ne 9, 3, 28, 0), (22, .aload_n 0, 1, 0, 0), (23, .iconst 1, 1, 0, 1), (24, .invokevirtual 191, 3, 0, 0), (27, .ireturn, 1, 0, 0), (28, .iload_n 2, 1, 0, 0), (29, .tableswitch 69 0 4 #[35, 42, 49, 56, 63], 35, 98, 0), (64, .aload_n 0, 1, 0, 0), (65, .iload_n 1, 1, 0, 0), (66, .iconst 0, 1, 0, 0), (67, .invokevirtual 81, 3, 0, 0), (70, .ireturn, 1, 0, 0), (71, .aload_n 0, 1, 0, 0), (72, .iload_n 1, 1, 0, 0), (73, .iconst 1, 1, 0, 1), (74, .invokevirtual 81, 3, 0, 0), (77, .ireturn, 1, 0, 0), (78, .aload_n 0, 1, 0, 0), (79, .iload_n 1, 1, 0, 0), (80, .iconst 2, 1, 0, 2), (81, .invokevirtual 81, 3, 0, 0), (84, .ireturn, 1, 0, 0), (85, .aload_n 0, 1, 0, 0), (86, .iload_n 1, 1, 0, 0), (87, .iconst 4, 1, 0, 4), (88, .invokevirtual 81, 3, 0, 0), (91, .ireturn, 1, 0, 0), (92, .aload_n 0, 1, 0, 0), (93, .iload_n 1, 1, 0, 0), (94, .invokevirtual 203, 3, 0, 0), (97, .ireturn, 1, 0, 0), (98, .aload_n 0, 1, 0, 0), (99, .iload_n 1, 1, 0, 0), (100, .invokevirtual 92, 3, 0, 0), (103, .ireturn, 1, 0, 0)]
def P_Mo_ware : List PE := [(0, .aload_n 0, 1, 0, 0), (1, .iconst 0, 1, 0, 0), (2, .putfield 46, 3, 0, 0), (5, .aload_n 0, 1, 0, 0), (6, .iload_n 1, 1, 0, 0), (7, .invokevirtual 206, 3, 0, 0), (10, .ifCond .eq 12, 3, 22, 0), (13, .iload_n 2, 1, 0, 0), (14, .iconst 0, 1, 0, 0), (15, .iconst 4, 1, 0, 4), (16, .invokestatic 53, 3, 0, 0), (19, .ifCond .ne 9, 3, 28, 0), (22, .aload_n 0, 1, 0, 0), (23, .iconst 1, 1, 0, 1), (24, .invokevirtual 191, 3, 0, 0), (27, .ireturn, 1, 0, 0), (28, .iload_n 2, 1, 0, 0), (29, .tableswitch 57 0 3 #[31, 38, 45, 51], 31, 86, 0), (60, .aload_n 0, 1, 0, 0), (61, .iload_n 1, 1, 0, 0), (62, .iconst 0, 1, 0, 0), (63, .invokevirtual 67, 3, 0, 0), (66, .ireturn, 1, 0, 0), (67, .aload_n 0, 1, 0, 0), (68, .iload_n 1, 1, 0, 0), (69, .iconst 1, 1, 0, 1), (70, .invokevirtual 67, 3, 0, 0), (73, .ireturn, 1, 0, 0), (74, .aload_n 0, 1, 0, 0), (75, .iload_n 1, 1, 0, 0), (76, .invokevirtual 176, 3, 0, 0), (79, .ireturn, 1, 0, 0), (80, .aload_n 0, 1, 0, 0), (81, .iload_n 1, 1, 0, 0), (82, .invokevirtual 182, 3, 0, 0), (85, .ireturn, 1, 0, 0), (86, .aload_n 0, 1, 0, 0), (87, .iload_n 1, 1, 0, 0), (88, .iconst 2, 1, 0, 2), (89, .invokevirtual 67, 3, 0, 0), (92, .ireturn, 1, 0, 0)]
def P_Mo_turnWord : List PE := [(0, .iload_n 1, 1, 0, 0), (1, .lookupswitch 130 #[(99, 59), (104, 112), (108, 121), (114, 102), (115, 69), (119, 92)], 59, 131, 0), (60, .aload_n 0, 1, 0, 0), (61, .aload_n 0, 1, 0, 0), (62, .getfield 161, 3, 0, 0), (65, .iconst 5, 1, 0, 5), (66, .invokevirtual 61, 3, 0, 0), (69, .ireturn, 1, 0, 0), (70, .iload_n 2, 1, 0, 0), (71, .bipush 104, 2, 0, 104), (73, .if_icmp .ne 15, 3, 88, 0), (76, .aload_n 0, 1, 0, 0), (77, .aload_n 0, 1, 0, 0), (78, .getfield 161, 3, 0, 0), (81, .iconst 3, 1, 0, 3), (82, .invokevirtual 61, 3, 0, 0), (85, .goto 7, 3, 92, 0), (88, .aload_n 0, 1, 0, 0), (89, .getfield 161, 3, 0, 0), (92, .ireturn, 1, 0, 0), (93, .aload_n 0, 1, 0, 0), (94, .aload_n 0, 1, 0, 0), (95, .getfield 161, 3, 0, 0), (98, .iconst 4, 1, 0, 4), (99, .invokevirtual 61, 3, 0, 0), (102, .ireturn, 1, 0, 0), (103, .aload_n 0, 1, 0, 0), (104, .aload_n 0, 1, 0, 0), (105, .getfield 161, 3, 0, 0), (108, .iconst 1, 1, 0, 1), (109, .invokevirtual 61, 3, 0, 0), (112, .ireturn, 1, 0, 0), (113, .aload_n 0, 1, 0, 0), (114, .aload_n 0, 1, 0, 0), (115, .getfield 161, 3, 0, 0), (118, .invokevirtual 110, 3, 0, 0), (121, .ireturn, 1, 0, 0), (122, .aload_n 0, 1, 0, 0), (123, .aload_n 0, 1, 0, 0), (124, .getfield 161, 3, 0, 0), (127, .invokevirtual 164, 3, 0, 0), (130, .ireturn, 1, 0, 0), (131, .aload_n 0, 1, 0, 0), (132, .aload_n 0, 1, 0, 0), (133, .getfield 161, 3, 0, 0), (136, .invokevirtual 167, 3, 0, 0), (139, .ireturn, 1, 0, 0)]
def P_Mo_waiting : List PE := [(0, .aload_n 0, 1, 0, 0), (1, .iconst 0, 1, 0, 0), (2, .putfield 46, 3, 0, 0), (5, .aload_n 0, 1, 0, 0), (6, .iload_n 1, 1, 0, 0), (7, .invokevirtual 209, 3, 0, 0), (10, .ifCond .eq 19, 3, 29, 0), (13, .iload_n 2, 1, 0, 0), (14, .iconst 0, 1, 0, 0), (15, .aload_n 0, 1, 0, 0), (16, .iload_n 1, 1, 0, 0), (17, .iconst 4, 1, 0, 4), (18, .invokevirtual 61, 3, 0, 0), (21, .iconst 1, 1, 0, 1), (22, .isub, 1, 0, 0), (23, .invokestatic 53, 3, 0, 0), (26, .ifCond .ne 9, 3, 35, 0), (29, .aload_n 0, 1, 0, 0), (30, .iconst 1, 1, 0, 1), (31, .invokevirtual 191, 3, 0, 0), (34, .ireturn, 1, 0, 0), (35, .aload_n 0, 1, 0, 0), (36, .getfield 9, 3, 0, 0), (39, .aload_n 0, 1, 0, 0), (40, .iload_n 1, 1, 0, 0), (41, .iload_n 2, 1, 0, 0), (42, .invokevirtual 64, 3, 0, 0), (45, .iaload, 1, 0, 0), (46, .ireturn, 1, 0, 0)]
def P_Mo_coming : List PE := [(0, .aload_n 0, 1, 0, 0), (1, .iconst 0, 1, 0, 0), (2, .putfield 46, 3, 0, 0), (5, .iload_n 1, 1, 0, 0), (6, .iconst 0, 1, 0, 0), (7, .aload_n 0, 1, 0, 0), (8, .getfield 9, 3, 0, 0), (11, .iconst 4, 1, 0, 4), (12, .iaload, 1, 0, 0), (13, .iconst 1, 1, 0, 1), (14, .isub, 1, 0, 0), (15, .invokestatic 53, 3, 0, 0), (18, .ifCond .eq 12, 3, 30, 0), (21, .iload_n 2, 1, 0, 0), (22, .iconst 0, 1, 0, 0), (23, .iconst 4, 1, 0, 4), (24, .invokestatic 53, 3, 0, 0), (27, .ifCond .ne 9, 3, 36, 0), (30, .aload_n 0, 1, 0, 0), (31, .iconst 1, 1, 0, 1), (32, .invokevirtual 191, 3, 0, 0), (35, .ireturn, 1, 0, 0), (36, .iload_n 2, 1, 0, 0), (37, .iconst 4, 1, 0, 4), (38, .if_icmp .ne 11, 3, 49, 0), (41, .aload_n 0, 1, 0, 0), (42, .iload_n 1, 1, 0, 0), (43, .invokevirtual 73, 3, 0, 0), (46, .goto 9, 3, 55, 0), (49, .aload_n 0, 1, 0, 0), (50, .iload_n 1, 1, 0, 0), (51, .iload_n 2, 1, 0, 0), (52, .invokevirtual 70, 3, 0, 0), (55, .ireturn, 1, 0, 0)]
def P_Mo_allCome : List PE := [(0, .iconst 0, 1, 0, 0), (1, .istore_n 1, 1, 0, 0), (2, .iload_n 1, 1, 0, 0), (3, .aload_n 0, 1, 0, 0), (4, .getfield 9, 3, 0, 0), (7, .iconst 4, 1, 0, 4), (8, .iaload, 1, 0, 0), (9, .if_icmp .ge 79, 3, 88, 0), (12, .aload_n 0, 1, 0, 0), (13, .iload_n 1, 1, 0, 0), (14, .iconst 0, 1, 0, 0), (15, .invokevirtual 70, 3, 0, 0), (18, .istore_n 2, 1, 0, 0), (19, .aload_n 0, 1, 0, 0), (20, .iload_n 1, 1, 0, 0), (21, .invokevirtual 73, 3, 0, 0), (24, .ifCond .gt 58, 3, 82, 0), (27, .iload_n 2, 1, 0, 0), (28, .aload_n 0, 1, 0, 0), (29, .getfield 25, 3, 0, 0), (32, .if_icmp .eq 50, 3, 82, 0), (35, .aload_n 0, 1, 0, 0), (36, .iload_n 2, 1, 0, 0), (37, .aload_n 0, 1, 0, 0), (38, .iload_n 1, 1, 0, 0), (39, .iconst 1, 1, 0, 1), (40, .invokevirtual 70, 3, 0, 0), (43, .invokevirtual 77, 3, 0, 0), (46, .ifCond .eq 6, 3, 52, 0), (49, .goto 33, 3, 82, 0), (52, .aload_n 0, 1, 0, 0), (53, .getfield 9, 3, 0, 0), (56, .bipush 7, 2, 0, 7), (58, .dup2, 1, 0, 0), (59, .iaload, 1, 0, 0), (60, .iconst 1, 1, 0, 1), (61, .iadd, 1, 0, 0), (62, .iastore, 1, 0, 0), (63, .aload_n 0, 1, 0, 0), (64, .getfield 9, 3, 0, 0), (67, .bipush 66, 2, 0, 66), (69, .bipush 10, 2, 0, 10), (71, .iload_n 2, 1, 0, 0), (72, .imul, 1, 0, 0), (73, .iadd, 1, 0, 0), (74, .bipush 8, 2, 0, 8), (76, .iadd, 1, 0, 0), (77, .dup2, 1, 0, 0), (78, .iaload, 1, 0, 0), (79, .iconst 1, 1, 0, 1), (80, .iadd, 1, 0, 0), (81, .iastore, 1, 0, 0), (82, .iinc 1 1, 3, 0, 1), (85, .goto (-83), 3, 2, 0), (88, .return_, 1, 0, 0)]
def P_Mo_exitsTake : List PE := [(0, .iconst 0, 1, 0, 0), (1, .istore_n 1, 1, 0, 0), (2, .iload_n 1, 1, 0, 0), (3, .aload_n 0, 1, 0, 0), (4, .getfield 9, 3, 0, 0), (7, .iconst 1, 1, 0, 1), (8, .iaload, 1, 0, 0), (9, .if_icmp .ge 157, 3, 166, 0), (12, .aload_n 0, 1, 0, 0), (13, .iload_n 1, 1, 0, 0), (14, .iconst 0, 1, 0, 0), (15, .invokevirtual 81, 3, 0, 0), (18, .istore_n 2, 1, 0, 0), (19, .aload_n 0, 1, 0, 0), (20, .iload_n 2, 1, 0, 0), (21, .iconst 0, 1, 0, 0), (22, .invokevirtual 57, 3, 0, 0), (25, .istore_n 3, 1, 0, 0), (26, .iload_n 3, 1, 0, 0), (27, .iconst (-1), 1, 0, (-1)), (28, .if_icmp .eq 132, 3, 160, 0), (31, .aload_n 0, 1, 0, 0), (32, .iload_n 3, 1, 0, 0), (33, .iconst 0, 1, 0, 0), (34, .invokevirtual 67, 3, 0, 0), (37, .iload_n 1, 1, 0, 0), (38, .if_icmp .ne 122, 3, 160, 0), (41, .aload_n 0, 1, 0, 0), (42, .iload_n 1, 1, 0, 0), (43, .iconst 2, 1, 0, 2), (44, .invokevirtual 81, 3, 0, 0), (47, .ifCond .gt 113, 3, 160, 0), (50, .aload_n 0, 1, 0, 0), (51, .iload_n 1, 1, 0, 0), (52, .invokevirtual 92, 3, 0, 0), (55, .ifCond .le 6, 3, 61, 0), (58, .goto 102, 3, 160, 0), (61, .aload_n 0, 1, 0, 0), (62, .iload_n 1, 1, 0, 0), (63, .iload_n 2, 1, 0, 0), (64, .invokevirtual 95, 3, 0, 0), (67, .aload_n 0, 1, 0, 0), (68, .getfield 9, 3, 0, 0), (71, .bipush 6, 2, 0, 6), (73, .dup2, 1, 0, 0), (74, .iaload, 1, 0, 0), (75, .iconst 1, 1, 0, 1), (76, .iadd, 1, 0, 0), (77, .iastore, 1, 0, 0), (78, .aload_n 0, 1, 0, 0), (79, .getfield 9, 3, 0, 0), (82, .bipush 12, 2, 0, 12), (84, .iconst 5, 1, 0, 5), (85, .iload_n 1, 1, 0, 0), (86, .imul, 1, 0, 0), (87, .iadd, 1, 0, 0), (88, .iconst 4, 1, 0, 4), (89, .iadd, 1, 0, 0), (90, .dup2, 1, 0, 0), (91, .iaload, 1, 0, 0), (92, .iconst 1, 1, 0, 1), (93, .iadd, 1, 0, 0), (94, .iastore, 1, 0, 0), (95, .aload_n 0, 1, 0, 0), (96, .getfield 9, 3, 0, 0), (99, .bipush 12, 2, 0, 12), (101, .iconst 5, 1, 0, 5), (102, .iload_n 1, 1, 0, 0), (103, .imul, 1, 0, 0), (104, .iadd, 1, 0, 0), (105, .iconst 3, 1, 0, 3), (106, .iadd, 1, 0, 0), (107, .aload_n 0, 1, 0, 0), (108, .getfield 9, 3, 0, 0), (111, .iconst 5, 1, 0, 5), (112, .iaload, 1, 0, 0), (113, .iastore, 1, 0, 0), (114, .aload_n 0, 1, 0, 0), (115, .getfield 9, 3, 0, 0), (118, .bipush 42, 2, 0, 42), (120, .iconst 3, 1, 0, 3), (121, .iload_n 3, 1, 0, 0), (122, .imul, 1, 0, 0), (123, .iadd, 1, 0, 0), (124, .iconst 2, 1, 0, 2), (125, .iadd, 1, 0, 0), (126, .dup2, 1, 0, 0), (127, .iaload, 1, 0, 0), (128, .iconst 1, 1, 0, 1), (129, .iadd, 1, 0, 0), (130, .iastore, 1, 0, 0), (131, .aload_n 0, 1, 0, 0), (132, .getfield 9, 3, 0, 0), (135, .bipush 66, 2, 0, 66), (137, .bipush 10, 2, 0, 10), (139, .aload_n 0, 1, 0, 0), (140, .iload_n 2, 1, 0, 0), (141, .iconst 1, 1, 0, 1), (142, .invokevirtual 57, 3, 0, 0), (145, .imul, 1, 0, 0), (146, .iadd, 1, 0, 0), (147, .bipush 7, 2, 0, 7), (149, .iadd, 1, 0, 0), (150, .dup2, 1, 0, 0), (151, .iaload, 1, 0, 0), (152, .iconst 1, 1, 0, 1), (153, .iadd, 1, 0, 0), (154, .iastore, 1, 0, 0), (155, .aload_n 0, 1, 0, 0), (156, .iload_n 2, 1, 0, 0), (157, .invokevirtual 99, 3, 0, 0), (160, .iinc 1 1, 3, 0, 1), (163, .goto (-161), 3, 2, 0), (166, .return_, 1, 0, 0)]
def P_Mo_sidesGive : List PE := [(0, .iconst 0, 1, 0, 0), (1, .istore_n 1, 1, 0, 0), (2, .iload_n 1, 1, 0, 0), (3, .aload_n 0, 1, 0, 0), (4, .getfield 9, 3, 0, 0), (7, .iconst 3, 1, 0, 3), (8, .iaload, 1, 0, 0), (9, .if_icmp .ge 74, 3, 83, 0), (12, .aload_n 0, 1, 0, 0), (13, .iload_n 1, 1, 0, 0), (14, .iconst 0, 1, 0, 0), (15, .invokevirtual 61, 3, 0, 0), (18, .istore_n 2, 1, 0, 0), (19, .aload_n 0, 1, 0, 0), (20, .iload_n 2, 1, 0, 0), (21, .iconst 5, 1, 0, 5), (22, .invokevirtual 57, 3, 0, 0), (25, .iload_n 1, 1, 0, 0), (26, .if_icmp .ne 7, 3, 33, 0), (29, .iconst 1, 1, 0, 1), (30, .goto 4, 3, 34, 0), (33, .iconst 0, 1, 0, 0), (34, .istore_n 3, 1, 0, 0), (35, .iload_n 3, 1, 0, 0), (36, .ifCond .ne 14, 3, 50, 0), (39, .aload_n 0, 1, 0, 0), (40, .iload_n 2, 1, 0, 0), (41, .invokevirtual 103, 3, 0, 0), (44, .ifCond .ne 6, 3, 50, 0), (47, .goto 30, 3, 77, 0), (50, .aload_n 0, 1, 0, 0), (51, .iload_n 1, 1, 0, 0), (52, .iconst 4, 1, 0, 4), (53, .invokevirtual 61, 3, 0, 0), (56, .ifCond .le 12, 3, 68, 0), (59, .aload_n 0, 1, 0, 0), (60, .iload_n 1, 1, 0, 0), (61, .iload_n 2, 1, 0, 0), (62, .invokevirtual 107, 3, 0, 0), (65, .goto 12, 3, 77, 0), (68, .iload_n 3, 1, 0, 0), (69, .ifCond .eq 8, 3, 77, 0), (72, .aload_n 0, 1, 0, 0), (73, .iload_n 2, 1, 0, 0), (74, .invokevirtual 99, 3, 0, 0), (77, .iinc 1 1, 3, 0, 1), (80, .goto (-78), 3, 2, 0), (83, .return_, 1, 0, 0)]
def P_Mo_nearest : List PE := [(0, .iconst 1, 1, 0, 1), (1, .istore_n 2, 1, 0, 0), (2, .iload_n 2, 1, 0, 0), (3, .aload_n 0, 1, 0, 0), (4, .iload_n 1, 1, 0, 0), (5, .iconst 2, 1, 0, 2), (6, .invokevirtual 61, 3, 0, 0), (9, .if_icmp .gt 38, 3, 47, 0), (12, .aload_n 0, 1, 0, 0), (13, .iload_n 1, 1, 0, 0), (14, .iconst 0, 1, 0, 0), (15, .invokevirtual 61, 3, 0, 0), (18, .iload_n 2, 1, 0, 0), (19, .isub, 1, 0, 0), (20, .aload_n 0, 1, 0, 0), (21, .invokevirtual 49, 3, 0, 0), (24, .iadd, 1, 0, 0), (25, .aload_n 0, 1, 0, 0), (26, .invokevirtual 49, 3, 0, 0), (29, .irem, 1, 0, 0), (30, .istore_n 3, 1, 0, 0), (31, .aload_n 0, 1, 0, 0), (32, .iload_n 3, 1, 0, 0), (33, .invokevirtual 103, 3, 0, 0), (36, .ifCond .eq 5, 3, 41, 0), (39, .iload_n 3, 1, 0, 0), (40, .ireturn, 1, 0, 0), (41, .iinc 2 1, 3, 0, 1), (44, .goto (-42), 3, 2, 0), (47, .iconst (-1), 1, 0, (-1)), (48, .ireturn, 1, 0, 0)]
def P_Mo_push : List PE := [(0, .aload_n 0, 1, 0, 0), (1, .iconst 0, 1, 0, 0), (2, .putfield 46, 3, 0, 0), (5, .aload_n 0, 1, 0, 0), (6, .iload_n 1, 1, 0, 0), (7, .invokevirtual 209, 3, 0, 0), (10, .ifCond .eq 26, 3, 36, 0), (13, .aload_n 0, 1, 0, 0), (14, .iload_n 2, 1, 0, 0), (15, .invokevirtual 206, 3, 0, 0), (18, .ifCond .eq 18, 3, 36, 0), (21, .aload_n 0, 1, 0, 0), (22, .iload_n 1, 1, 0, 0), (23, .iconst 4, 1, 0, 4), (24, .invokevirtual 61, 3, 0, 0), (27, .aload_n 0, 1, 0, 0), (28, .iload_n 1, 1, 0, 0), (29, .iconst 1, 1, 0, 1), (30, .invokevirtual 61, 3, 0, 0), (33, .if_icmp .lt 5, 3, 38, 0), (36, .iconst (-1), 1, 0, (-1)), (37, .ireturn, 1, 0, 0), (38, .aload_n 0, 1, 0, 0), (39, .invokevirtual 212, 3, 0, 0), (42, .aload_n 0, 1, 0, 0), (43, .iload_n 1, 1, 0, 0), (44, .iload_n 2, 1, 0, 0), (45, .invokevirtual 77, 3, 0, 0), (48, .istore_n 3, 1, 0, 0), (49, .aload_n 0, 1, 0, 0), (50, .iload_n 1, 1, 0, 0), (51, .iconst 4, 1, 0, 4), (52, .invokevirtual 61, 3, 0, 0), (55, .ireturn, 1, 0, 0)]
def P_Mo_shut : List PE := [(0, .aload_n 0, 1, 0, 0), (1, .aload_n 0, 1, 0, 0), (2, .iload_n 1, 1, 0, 0), (3, .invokevirtual 200, 3, 0, 0), (6, .ifCond .ne 7, 3, 13, 0), (9, .iconst 1, 1, 0, 1), (10, .goto 19, 3, 29, 0), (13, .iload_n 2, 1, 0, 0), (14, .iconst 0, 1, 0, 0), (15, .sipush 999, 3, 0, 999), (18, .invokestatic 53, 3, 0, 0), (21, .ifCond .ne 7, 3, 28, 0), (24, .iconst 2, 1, 0, 2), (25, .goto 4, 3, 29, 0), (28, .iconst 0, 1, 0, 0), (29, .putfield 46, 3, 0, 0), (32, .aload_n 0, 1, 0, 0), (33, .getfield 46, 3, 0, 0), (36, .ifCond .le 5, 3, 41, 0), (39, .iconst 0, 1, 0, 0), (40, .ireturn, 1, 0, 0), (41, .aload_n 0, 1, 0, 0), (42, .invokevirtual 212, 3, 0, 0), (45, .aload_n 0, 1, 0, 0), (46, .iload_n 1, 1, 0, 0), (47, .iconst 2, 1, 0, 2), (48, .invokevirtual 81, 3, 0, 0), (51, .istore_n 3, 1, 0, 0), (52, .aload_n 0, 1, 0, 0), (53, .getfield 9, 3, 0, 0), (56, .bipush 12, 2, 0, 12), (58, .iconst 5, 1, 0, 5), (59, .iload_n 1, 1, 0, 0), (60, .imul, 1, 0, 0), (61, .iadd, 1, 0, 0), (62, .iconst 2, 1, 0, 2), (63, .iadd, 1, 0, 0), (64, .iload_n 2, 1, 0, 0), (65, .iastore, 1, 0, 0), (66, .iload_n 3, 1, 0, 0), (67, .ireturn, 1, 0, 0)]
def P_Mo_change : List PE := [(0, .iload_n 2, 1, 0, 0), (1, .iconst 1, 1, 0, 1), (2, .if_icmp .ne 7, 3, 9, 0), (5, .iconst 0, 1, 0, 0), (6, .goto 4, 3, 10, 0), (9, .iconst 1, 1, 0, 1), (10, .istore 4, 2, 0, 0), (12, .iload_n 2, 1, 0, 0), (13, .ifCond .ne 8, 3, 21, 0), (16, .bipush 20, 2, 0, 20), (18, .goto 19, 3, 37, 0), (21, .iload_n 2, 1, 0, 0), (22, .iconst 1, 1, 0, 1), (23, .if_icmp .ne 12, 3, 35, 0), (26, .aload_n 0, 1, 0, 0), (27, .invokevirtual 49, 3, 0, 0), (30, .iconst 1, 1, 0, 1), (31, .isub, 1, 0, 0), (32, .goto 5, 3, 37, 0), (35, .bipush 9, 2, 0, 9), (37, .istore 5, 2, 0, 0), (39, .aload_n 0, 1, 0, 0), (40, .aload_n 0, 1, 0, 0), (41, .iload_n 1, 1, 0, 0), (42, .invokevirtual 209, 3, 0, 0), (45, .ifCond .eq 12, 3, 57, 0), (48, .iload_n 2, 1, 0, 0), (49, .iconst 0, 1, 0, 0), (50, .iconst 2, 1, 0, 2), (51, .invokestatic 53, 3, 0, 0), (54, .ifCond .ne 7, 3, 61, 0), (57, .iconst 1, 1, 0, 1), (58, .goto 19, 3, 77, 0), (61, .iload_n 3, 1, 0, 0), (62, .iload 4, 2, 0, 0), (64, .iload 5, 2, 0, 0), (66, .invokestatic 53, 3, 0, 0), (69, .ifCond .ne 7, 3, 76, 0), (72, .iconst 2, 1, 0, 2), (73, .goto 4, 3, 77, 0), (76, .iconst 0, 1, 0, 0), (77, .putfield 46, 3, 0, 0), (80, .aload_n 0, 1, 0, 0), (81, .getfield 46, 3, 0, 0), (84, .ifCond .le 5, 3, 89, 0), (87, .iconst 0, 1, 0, 0), (88, .ireturn, 1, 0, 0), (89, .aload_n 0, 1, 0, 0), (90, .invokevirtual 212, 3, 0, 0), (93, .bipush 66, 2, 0, 66), (95, .bipush 10, 2, 0, 10), (97, .iload_n 1, 1, 0, 0), (98, .imul, 1, 0, 0), (99, .iadd, 1, 0, 0), (100, .iconst 1, 1, 0, 1), (101, .iadd, 1, 0, 0), (102, .iload_n 2, 1, 0, 0), (103, .iadd, 1, 0, 0), (104, .istore 6, 2, 0, 0), (106, .aload_n 0, 1, 0, 0), (107, .getfield 9, 3, 0, 0), (110, .iload 6, 2, 0, 0), (112, .iaload, 1, 0, 0), (113, .istore 7, 2, 0, 0), (115, .aload_n 0, 1, 0, 0), (116, .getfield 9, 3, 0, 0), (119, .iload 6, 2, 0, 0), (121, .iload_n 3, 1, 0, 0), (122, .iastore, 1, 0, 0), (123, .iload 7, 2, 0, 0), (125, .ireturn, 1, 0, 0)]
def P_Mo_longestJam : List PE := [(0, .iconst 0, 1, 0, 0), (1, .istore_n 1, 1, 0, 0), (2, .iconst 0, 1, 0, 0), (3, .istore_n 2, 1, 0, 0), (4, .iload_n 2, 1, 0, 0), (5, .aload_n 0, 1, 0, 0), (6, .getfield 9, 3, 0, 0), (9, .iconst 1, 1, 0, 1), (10, .iaload, 1, 0, 0), (11, .if_icmp .ge 19, 3, 30, 0), (14, .iload_n 1, 1, 0, 0), (15, .aload_n 0, 1, 0, 0), (16, .iload_n 2, 1, 0, 0), (17, .invokevirtual 203, 3, 0, 0), (20, .invokestatic 84, 3, 0, 0), (23, .istore_n 1, 1, 0, 0), (24, .iinc 2 1, 3, 0, 1), (27, .goto (-23), 3, 4, 0), (30, .iload_n 1, 1, 0, 0), (31, .ireturn, 1, 0, 0)]
def P_Mo_writesMoment : List PE := [(0, .aload_n 0, 1, 0, 0), (1, .sipush 396, 3, 0, 396), (4, .iload_n 1, 1, 0, 0), (5, .imul, 1, 0, 0), (6, .putfield 229, 3, 0, 0), (9, .iconst 0, 1, 0, 0), (10, .istore_n 3, 1, 0, 0), (11, .iload_n 3, 1, 0, 0), (12, .bipush 40, 2, 0, 40), (14, .if_icmp .ge 39, 3, 53, 0), (17, .aload_n 0, 1, 0, 0), (18, .aload_n 0, 1, 0, 0), (19, .iload_n 3, 1, 0, 0), (20, .iconst 0, 1, 0, 0), (21, .invokevirtual 57, 3, 0, 0), (24, .invokevirtual 232, 3, 0, 0), (27, .aload_n 0, 1, 0, 0), (28, .aload_n 0, 1, 0, 0), (29, .iload_n 3, 1, 0, 0), (30, .iconst 1, 1, 0, 1), (31, .invokevirtual 57, 3, 0, 0), (34, .invokevirtual 232, 3, 0, 0), (37, .aload_n 0, 1, 0, 0), (38, .aload_n 0, 1, 0, 0), (39, .iload_n 3, 1, 0, 0), (40, .iconst 5, 1, 0, 5), (41, .invokevirtual 57, 3, 0, 0), (44, .invokevirtual 232, 3, 0, 0), (47, .iinc 3 1, 3, 0, 1), (50, .goto (-39), 3, 11, 0), (53, .iconst 0, 1, 0, 0), (54, .istore_n 3, 1, 0, 0), (55, .iload_n 3, 1, 0, 0), (56, .bipush 6, 2, 0, 6), (58, .if_icmp .ge 116, 3, 174, 0), (61, .aload_n 0, 1, 0, 0), (62, .iload_n 3, 1, 0, 0), (63, .iconst 4, 1, 0, 4), (64, .invokevirtual 61, 3, 0, 0), (67, .istore 4, 2, 0, 0), (69, .aload_n 0, 1, 0, 0), (70, .iload 4, 2, 0, 0), (72, .invokevirtual 232, 3, 0, 0), (75, .aload_n 0, 1, 0, 0), (76, .aload_n 0, 1, 0, 0), (77, .iload_n 3, 1, 0, 0), (78, .iconst 5, 1, 0, 5), (79, .invokevirtual 61, 3, 0, 0), (82, .invokevirtual 232, 3, 0, 0), (85, .iconst 0, 1, 0, 0), (86, .istore 5, 2, 0, 0), (88, .iload 5, 2, 0, 0), (90, .bipush 20, 2, 0, 20), (92, .if_icmp .ge 76, 3, 168, 0), (95, .aload_n 0, 1, 0, 0), (96, .iload 5, 2, 0, 0), (98, .iload 4, 2, 0, 0), (100, .if_icmp .ge 18, 3, 118, 0), (103, .aload_n 0, 1, 0, 0), (104, .getfield 9, 3, 0, 0), (107, .aload_n 0, 1, 0, 0), (108, .iload_n 3, 1, 0, 0), (109, .iload 5, 2, 0, 0), (111, .invokevirtual 64, 3, 0, 0), (114, .iaload, 1, 0, 0), (115, .goto 4, 3, 119, 0), (118, .iconst (-1), 1, 0, (-1)), (119, .invokevirtual 232, 3, 0, 0), (122, .aload_n 0, 1, 0, 0), (123, .iload 5, 2, 0, 0), (125, .iload 4, 2, 0, 0), (127, .if_icmp .ge 31, 3, 158, 0), (130, .iload_n 2, 1, 0, 0), (131, .ifCond .eq 27, 3, 158, 0), (134, .aload_n 0, 1, 0, 0), (135, .getfield 9, 3, 0, 0), (138, .iconst 5, 1, 0, 5), (139, .iaload, 1, 0, 0), (140, .aload_n 0, 1, 0, 0), (141, .getfield 9, 3, 0, 0), (144, .aload_n 0, 1, 0, 0), (145, .iload_n 3, 1, 0, 0), (146, .iload 5, 2, 0, 0), (148, .invokevirtual 64, 3, 0, 0), (151, .iconst 1, 1, 0, 1), (152, .iadd, 1, 0, 0), (153, .iaload, 1, 0, 0), (154, .isub, 1, 0, 0), (155, .goto 4, 3, 159, 0), (158, .iconst (-1), 1, 0, (-1)), (159, .invokevirtual 232, 3, 0, 0), (162, .iinc 5 1, 3, 0, 1), (165, .goto (-77), 3, 88, 0), (168, .iinc 3 1, 3, 0, 1), (171, .goto (-116), 3, 55, 0), (174, .iconst 0, 1, 0, 0), (175, .istore_n 3, 1, 0, 0), (176, .iload_n 3, 1, 0, 0), (177, .bipush 6, 2, 0, 6), (179, .if_icmp .ge 56, 3, 235, 0), (182, .aload_n 0, 1, 0, 0), (183, .iload_n 3, 1, 0, 0), (184, .aload_n 0, 1, 0, 0), (185, .getfield 9, 3, 0, 0), (188, .iconst 1, 1, 0, 1), (189, .iaload, 1, 0, 0), (190, .if_icmp .ge 12, 3, 202, 0), (193, .aload_n 0, 1, 0, 0), (194, .iload_n 3, 1, 0, 0), (195, .iconst 2, 1, 0, 2), (196, .invokevirtual 81, 3, 0, 0), (199, .goto 4, 3, 203, 0), (202, .iconst 0, 1, 0, 0), (203, .invokevirtual 232, 3, 0, 0), (206, .aload_n 0, 1, 0, 0), (207, .iload_n 3, 1, 0, 0), (208, .aload_n 0, 1, 0, 0), (209, .getfield 9, 3, 0, 0), (212, .iconst 1, 1, 0, 1), (213, .iaload, 1, 0, 0), (214, .if_icmp .ge 11, 3, 225, 0), (217, .aload_n 0, 1, 0, 0), (218, .iload_n 3, 1, 0, 0), (219, .invokevirtual 92, 3, 0, 0), (222, .goto 4, 3, 226, 0), (225, .iconst 0, 1, 0, 0), (226, .invokevirtual 232, 3, 0, 0), (229, .iinc 3 1, 3, 0, 1), (232, .goto (-56), 3, 176, 0), (235, .iconst 0, 1, 0, 0), (236, .istore_n 3, 1, 0, 0), (237, .iload_n 3, 1, 0, 0), (238, .bipush 12, 2, 0, 12), (240, .if_icmp .ge 32, 3, 272, 0), (243, .aload_n 0, 1, 0, 0), (244, .iload_n 3, 1, 0, 0), (245, .aload_n 0, 1, 0, 0), (246, .getfield 9, 3, 0, 0), (249, .iconst 4, 1, 0, 4), (250, .iaload, 1, 0, 0), (251, .if_icmp .ge 11, 3, 262, 0), (254, .aload_n 0, 1, 0, 0), (255, .iload_n 3, 1, 0, 0), (256, .invokevirtual 73, 3, 0, 0), (259, .goto 4, 3, 263, 0), (262, .iconst 0, 1, 0, 0), (263, .invokevirtual 232, 3, 0, 0), (266, .iinc 3 1, 3, 0, 1), (269, .goto (-32), 3, 237, 0), (272, .return_, 1, 0, 0)]
def P_Mo_loadOf : List PE := [(0, .lconst 0, 1, 0, 0), (1, .lstore_n 2, 1, 0, 0), (2, .iconst 0, 1, 0, 0), (3, .istore 4, 2, 0, 0), (5, .iload 4, 2, 0, 0), (7, .aload_n 0, 1, 0, 0), (8, .getfield 9, 3, 0, 0), (11, .iconst 4, 1, 0, 4), (12, .iaload, 1, 0, 0), (13, .if_icmp .ge 38, 3, 51, 0), (16, .lload_n 2, 1, 0, 0), (17, .aload_n 0, 1, 0, 0), (18, .iload_n 1, 1, 0, 0), (19, .iload 4, 2, 0, 0), (21, .invokevirtual 258, 3, 0, 0), (24, .ifCond .eq 18, 3, 42, 0), (27, .ldc2_w 261, 3, 0, 0), (30, .aload_n 0, 1, 0, 0), (31, .iload 4, 2, 0, 0), (33, .iconst 2, 1, 0, 2), (34, .invokevirtual 70, 3, 0, 0), (37, .i2l, 1, 0, 0), (38, .ldiv, 1, 0, 0), (39, .goto 4, 3, 43, 0), (42, .lconst 0, 1, 0, 0), (43, .ladd, 1, 0, 0), (44, .lstore_n 2, 1, 0, 0), (45, .iinc 4 1, 3, 0, 1), (48, .goto (-43), 3, 5, 0), (51, .lload_n 2, 1, 0, 0), (52, .lreturn, 1, 0, 0)]
def P_Mo_opens : List PE := [(0, .aload_n 0, 1, 0, 0), (1, .iload_n 1, 1, 0, 0), (2, .putfield 279, 3, 0, 0), (5, .aload_n 0, 1, 0, 0), (6, .iconst 0, 1, 0, 0), (7, .putfield 282, 3, 0, 0), (10, .aload_n 0, 1, 0, 0), (11, .iconst 0, 1, 0, 0), (12, .putfield 297, 3, 0, 0), (15, .aload_n 0, 1, 0, 0), (16, .iconst 0, 1, 0, 0), (17, .putfield 300, 3, 0, 0), (20, .aload_n 0, 1, 0, 0), (21, .invokevirtual 303, 3, 0, 0), (24, .return_, 1, 0, 0)]
def P_Mo_pass : List PE := [(0, .aload_n 0, 1, 0, 0), (1, .getfield 297, 3, 0, 0), (4, .ifCond .ne 7, 3, 11, 0), (7, .aload_n 0, 1, 0, 0), (8, .invokevirtual 303, 3, 0, 0), (11, .return_, 1, 0, 0)]
def P_Lat_charAt : List PE := [(0, .iload_n 1, 1, 0, 0), (1, .aload_n 0, 1, 0, 0), (2, .arraylength, 1, 0, 0), (3, .invokestatic 9, 3, 0, 0), (6, .aload_n 0, 1, 0, 0), (7, .iload_n 1, 1, 0, 0), (8, .baload, 1, 0, 0), (9, .sipush 255, 3, 0, 255), (12, .iand, 1, 0, 0), (13, .i2c, 1, 0, 0), (14, .ireturn, 1, 0, 0)]
def P_Law_count : List PE := [(0, .aload_n 2, 1, 0, 0), (1, .iconst 0, 1, 0, 0), (2, .aload_n 0, 1, 0, 0), (3, .iload_n 1, 1, 0, 0), (4, .invokevirtual 15, 3, 0, 0), (7, .i2l, 1, 0, 0), (8, .lastore, 1, 0, 0), (9, .goto 6, 3, 15, 0), (12, .astore_n 3, 1, 0, 0), (13, .iconst 1, 1, 0, 1), (14, .ireturn, 1, 0, 0), (15, .iconst 0, 1, 0, 0), (16, .ireturn, 1, 0, 0)]
def P_Law_waiting : List PE := [(0, .aload_n 3, 1, 0, 0), (1, .iconst 0, 1, 0, 0), (2, .aload_n 0, 1, 0, 0), (3, .iload_n 1, 1, 0, 0), (4, .iload_n 2, 1, 0, 0), (5, .invokevirtual 33, 3, 0, 0), (8, .i2l, 1, 0, 0), (9, .lastore, 1, 0, 0), (10, .goto 7, 3, 17, 0), (13, .astore 4, 2, 0, 0), (15, .iconst 1, 1, 0, 1), (16, .ireturn, 1, 0, 0), (17, .iconst 0, 1, 0, 0), (18, .ireturn, 1, 0, 0)]
def P_Law_coming : List PE := [(0, .aload_n 3, 1, 0, 0), (1, .iconst 0, 1, 0, 0), (2, .aload_n 0, 1, 0, 0), (3, .iload_n 1, 1, 0, 0), (4, .iload_n 2, 1, 0, 0), (5, .invokevirtual 36, 3, 0, 0), (8, .i2l, 1, 0, 0), (9, .lastore, 1, 0, 0), (10, .goto 7, 3, 17, 0), (13, .astore 4, 2, 0, 0), (15, .iconst 1, 1, 0, 1), (16, .ireturn, 1, 0, 0), (17, .iconst 0, 1, 0, 0), (18, .ireturn, 1, 0, 0)]
def P_Law_log : List PE := [(0, .aload_n 3, 1, 0, 0), (1, .iconst 0, 1, 0, 0), (2, .aload_n 0, 1, 0, 0), (3, .iload_n 1, 1, 0, 0), (4, .iload_n 2, 1, 0, 0), (5, .invokevirtual 39, 3, 0, 0), (8, .i2l, 1, 0, 0), (9, .lastore, 1, 0, 0), (10, .goto 7, 3, 17, 0), (13, .astore 4, 2, 0, 0), (15, .iconst 1, 1, 0, 1), (16, .ireturn, 1, 0, 0), (17, .iconst 0, 1, 0, 0), (18, .ireturn, 1, 0, 0)]
def P_Law_load : List PE := [(0, .aload_n 3, 1, 0, 0), (1, .iconst 0, 1, 0, 0), (2, .aload_n 0, 1, 0, 0), (3, .iload_n 1, 1, 0, 0), (4, .iload_n 2, 1, 0, 0), (5, .invokevirtual 61, 3, 0, 0), (8, .lastore, 1, 0, 0), (9, .goto 7, 3, 16, 0), (12, .astore 4, 2, 0, 0), (14, .iconst 1, 1, 0, 1), (15, .ireturn, 1, 0, 0), (16, .iconst 0, 1, 0, 0), (17, .ireturn, 1, 0, 0)]
def P_MB_place : List PE := [(0, .iload_n 1, 1, 0, 0), (1, .aload_n 0, 1, 0, 0), (2, .getfield 33, 3, 0, 0), (5, .getfield 67, 3, 0, 0), (8, .invokestatic 162, 3, 0, 0), (11, .ifCond .ne 11, 3, 22, 0), (14, .new 159, 3, 0, 0), (17, .dup, 1, 0, 0), (18, .invokespecial 161, 3, 0, 0), (21, .athrow, 1, 0, 0), (22, .iload_n 2, 1, 0, 0), (23, .tableswitch 90 0 4 #[33, 45, 57, 69, 78], 33, 113, 0), (56, .aload_n 0, 1, 0, 0), (57, .getfield 40, 3, 0, 0), (60, .getfield 114, 3, 0, 0), (63, .iload_n 1, 1, 0, 0), (64, .invokevirtual 166, 3, 0, 0), (67, .ireturn, 1, 0, 0), (68, .aload_n 0, 1, 0, 0), (69, .getfield 40, 3, 0, 0), (72, .getfield 114, 3, 0, 0), (75, .iload_n 1, 1, 0, 0), (76, .invokevirtual 170, 3, 0, 0), (79, .ireturn, 1, 0, 0), (80, .aload_n 0, 1, 0, 0), (81, .getfield 40, 3, 0, 0), (84, .getfield 114, 3, 0, 0), (87, .iload_n 1, 1, 0, 0), (88, .invokevirtual 173, 3, 0, 0), (91, .ireturn, 1, 0, 0), (92, .aload_n 0, 1, 0, 0), (93, .getfield 40, 3, 0, 0), (96, .iload_n 1, 1, 0, 0), (97, .invokevirtual 176, 3, 0, 0), (100, .ireturn, 1, 0, 0), (101, .aload_n 0, 1, 0, 0), (102, .getfield 40, 3, 0, 0), (105, .getfield 114, 3, 0, 0), (108, .iload_n 1, 1, 0, 0), (109, .invokevirtual 179, 3, 0, 0), (112, .ireturn, 1, 0, 0), (113, .new 159, 3, 0, 0), (116, .dup, 1, 0, 0), (117, .invokespecial 161, 3, 0, 0), (120, .athrow, 1, 0, 0)]
def P_MB_ware : List PE := [(0, .iload_n 1, 1, 0, 0), (1, .aload_n 0, 1, 0, 0), (2, .getfield 33, 3, 0, 0), (5, .getfield 102, 3, 0, 0), (8, .invokestatic 162, 3, 0, 0), (11, .ifCond .ne 11, 3, 22, 0), (14, .new 159, 3, 0, 0), (17, .dup, 1, 0, 0), (18, .invokespecial 161, 3, 0, 0), (21, .athrow, 1, 0, 0), (22, .iload_n 2, 1, 0, 0), (23, .tableswitch 93 0 4 #[33, 45, 57, 69, 81], 33, 116, 0), (56, .aload_n 0, 1, 0, 0), (57, .getfield 33, 3, 0, 0), (60, .getfield 201, 3, 0, 0), (63, .iload_n 1, 1, 0, 0), (64, .invokevirtual 185, 3, 0, 0), (67, .ireturn, 1, 0, 0), (68, .aload_n 0, 1, 0, 0), (69, .getfield 33, 3, 0, 0), (72, .getfield 204, 3, 0, 0), (75, .iload_n 1, 1, 0, 0), (76, .invokevirtual 185, 3, 0, 0), (79, .ireturn, 1, 0, 0), (80, .aload_n 0, 1, 0, 0), (81, .getfield 40, 3, 0, 0), (84, .getfield 114, 3, 0, 0), (87, .iload_n 1, 1, 0, 0), (88, .invokevirtual 207, 3, 0, 0), (91, .ireturn, 1, 0, 0), (92, .aload_n 0, 1, 0, 0), (93, .getfield 40, 3, 0, 0), (96, .getfield 127, 3, 0, 0), (99, .iload_n 1, 1, 0, 0), (100, .invokevirtual 210, 3, 0, 0), (103, .ireturn, 1, 0, 0), (104, .aload_n 0, 1, 0, 0), (105, .getfield 40, 3, 0, 0), (108, .getfield 213, 3, 0, 0), (111, .iload_n 1, 1, 0, 0), (112, .invokevirtual 185, 3, 0, 0), (115, .ireturn, 1, 0, 0), (116, .new 159, 3, 0, 0), (119, .dup, 1, 0, 0), (120, .invokespecial 161, 3, 0, 0), (123, .athrow, 1, 0, 0)]
def P_MB_side : List PE := [(0, .iload_n 1, 1, 0, 0), (1, .aload_n 0, 1, 0, 0), (2, .getfield 33, 3, 0, 0), (5, .getfield 105, 3, 0, 0), (8, .invokestatic 162, 3, 0, 0), (11, .ifCond .ne 11, 3, 22, 0), (14, .new 159, 3, 0, 0), (17, .dup, 1, 0, 0), (18, .invokespecial 161, 3, 0, 0), (21, .athrow, 1, 0, 0), (22, .iload_n 2, 1, 0, 0), (23, .tableswitch 239 0 13 #[69, 81, 93, 105, 117, 132, 144, 156, 165, 178, 191, 203, 215, 227], 69, 262, 0), (92, .aload_n 0, 1, 0, 0), (93, .getfield 33, 3, 0, 0), (96, .getfield 216, 3, 0, 0), (99, .iload_n 1, 1, 0, 0), (100, .invokevirtual 185, 3, 0, 0), (103, .ireturn, 1, 0, 0), (104, .aload_n 0, 1, 0, 0), (105, .getfield 40, 3, 0, 0), (108, .getfield 219, 3, 0, 0), (111, .iload_n 1, 1, 0, 0), (112, .invokevirtual 185, 3, 0, 0), (115, .ireturn, 1, 0, 0), (116, .aload_n 0, 1, 0, 0), (117, .getfield 40, 3, 0, 0), (120, .getfield 222, 3, 0, 0), (123, .iload_n 1, 1, 0, 0), (124, .invokevirtual 185, 3, 0, 0), (127, .ireturn, 1, 0, 0), (128, .aload_n 0, 1, 0, 0), (129, .getfield 40, 3, 0, 0), (132, .getfield 225, 3, 0, 0), (135, .iload_n 1, 1, 0, 0), (136, .invokevirtual 185, 3, 0, 0), (139, .ireturn, 1, 0, 0), (140, .aload_n 0, 1, 0, 0), (141, .getfield 40, 3, 0, 0), (144, .getfield 127, 3, 0, 0), (147, .getfield 131, 3, 0, 0), (150, .iload_n 1, 1, 0, 0), (151, .invokevirtual 185, 3, 0, 0), (154, .ireturn, 1, 0, 0), (155, .aload_n 0, 1, 0, 0), (156, .getfield 40, 3, 0, 0), (159, .getfield 228, 3, 0, 0), (162, .iload_n 1, 1, 0, 0), (163, .invokevirtual 185, 3, 0, 0), (166, .ireturn, 1, 0, 0), (167, .aload_n 0, 1, 0, 0), (168, .getfield 40, 3, 0, 0), (171, .getfield 231, 3, 0, 0), (174, .iload_n 1, 1, 0, 0), (175, .invokevirtual 185, 3, 0, 0), (178, .ireturn, 1, 0, 0), (179, .aload_n 0, 1, 0, 0), (180, .getfield 40, 3, 0, 0), (183, .iload_n 1, 1, 0, 0), (184, .invokevirtual 234, 3, 0, 0), (187, .ireturn, 1, 0, 0), (188, .aload_n 0, 1, 0, 0), (189, .getfield 40, 3, 0, 0), (192, .aload_n 0, 1, 0, 0), (193, .getfield 33, 3, 0, 0), (196, .iload_n 1, 1, 0, 0), (197, .invokevirtual 237, 3, 0, 0), (200, .ireturn, 1, 0, 0), (201, .aload_n 0, 1, 0, 0), (202, .getfield 40, 3, 0, 0), (205, .aload_n 0, 1, 0, 0), (206, .getfield 33, 3, 0, 0), (209, .iload_n 1, 1, 0, 0), (210, .invokevirtual 240, 3, 0, 0), (213, .ireturn, 1, 0, 0), (214, .aload_n 0, 1, 0, 0), (215, .getfield 40, 3, 0, 0), (218, .getfield 243, 3, 0, 0), (221, .iload_n 1, 1, 0, 0), (222, .invokevirtual 185, 3, 0, 0), (225, .ireturn, 1, 0, 0), (226, .aload_n 0, 1, 0, 0), (227, .getfield 40, 3, 0, 0), (230, .getfield 246, 3, 0, 0), (233, .iload_n 1, 1, 0, 0), (234, .invokevirtual 185, 3, 0, 0), (237, .ireturn, 1, 0, 0), (238, .aload_n 0, 1, 0, 0), (239, .getfield 40, 3, 0, 0), (242, .getfield 144, 3, 0, 0), (245, .iload_n 1, 1, 0, 0), (246, .invokevirtual 185, 3, 0, 0), (249, .ireturn, 1, 0, 0), (250, .aload_n 0, 1, 0, 0), (251, .getfield 40, 3, 0, 0), (254, .getfield 249, 3, 0, 0), (257, .iload_n 1, 1, 0, 0), (258, .invokevirtual 185, 3, 0, 0), (261, .ireturn, 1, 0, 0), (262, .new 159, 3, 0, 0), (265, .dup, 1, 0, 0), (266, .invokespecial 161, 3, 0, 0), (269, .athrow, 1, 0, 0)]
def P_Tape_takeSign : List PE := [(0, .aload_n 0, 1, 0, 0), (1, .aload_n 0, 1, 0, 0), (2, .iload_n 1, 1, 0, 0), (3, .invokevirtual 80, 3, 0, 0), (6, .invokevirtual 76, 3, 0, 0), (9, .return_, 1, 0, 0)]
def P_BeltText_init : List PE := [(0, .aload_n 0, 1, 0, 0), (1, .invokespecial 3, 3, 0, 0), (4, .aload_n 0, 1, 0, 0), (5, .new 9, 3, 0, 0), (8, .dup, 1, 0, 0), (9, .invokespecial 11, 3, 0, 0), (12, .putfield 12, 3, 0, 0), (15, .return_, 1, 0, 0)]
def P_BeltText_takeOwnPlace : List PE := [(0, .aload_n 1, 1, 0, 0), (1, .invokevirtual 89, 3, 0, 0), (4, .ifCond .eq 21, 3, 25, 0), (7, .aload_n 2, 1, 0, 0), (8, .aload_n 1, 1, 0, 0), (9, .invokevirtual 92, 3, 0, 0), (12, .iload_n 3, 1, 0, 0), (13, .invokevirtual 96, 3, 0, 0), (16, .ifCond .eq 9, 3, 25, 0), (19, .aload_n 1, 1, 0, 0), (20, .iconst 3, 1, 0, 3), (21, .invokevirtual 82, 3, 0, 0), (24, .ireturn, 1, 0, 0), (25, .aload_n 1, 1, 0, 0), (26, .iconst 0, 1, 0, 0), (27, .aload_n 0, 1, 0, 0), (28, .getfield 12, 3, 0, 0), (31, .getfield 37, 3, 0, 0), (34, .iconst 1, 1, 0, 1), (35, .isub, 1, 0, 0), (36, .invokevirtual 33, 3, 0, 0), (39, .ireturn, 1, 0, 0)]
def P_BeltText_readComing : List PE := [(0, .aload_n 0, 1, 0, 0), (1, .getfield 12, 3, 0, 0), (4, .getfield 150, 3, 0, 0), (7, .istore_n 2, 1, 0, 0), (8, .aload_n 1, 1, 0, 0), (9, .iload_n 2, 1, 0, 0), (10, .bipush 12, 2, 0, 12), (12, .invokestatic 105, 3, 0, 0), (15, .aload_n 0, 1, 0, 0), (16, .getfield 12, 3, 0, 0), (19, .getfield 153, 3, 0, 0), (22, .iload_n 2, 1, 0, 0), (23, .aload_n 1, 1, 0, 0), (24, .iconst 0, 1, 0, 0), (25, .aload_n 0, 1, 0, 0), (26, .getfield 12, 3, 0, 0), (29, .getfield 135, 3, 0, 0), (32, .iconst 1, 1, 0, 1), (33, .isub, 1, 0, 0), (34, .invokevirtual 33, 3, 0, 0), (37, .invokevirtual 117, 3, 0, 0), (40, .aload_n 0, 1, 0, 0), (41, .getfield 12, 3, 0, 0), (44, .getfield 156, 3, 0, 0), (47, .iload_n 2, 1, 0, 0), (48, .aload_n 1, 1, 0, 0), (49, .iconst 0, 1, 0, 0), (50, .aload_n 0, 1, 0, 0), (51, .getfield 12, 3, 0, 0), (54, .getfield 124, 3, 0, 0), (57, .iconst 1, 1, 0, 1), (58, .isub, 1, 0, 0), (59, .invokevirtual 33, 3, 0, 0), (62, .invokevirtual 117, 3, 0, 0), (65, .aload_n 0, 1, 0, 0), (66, .getfield 12, 3, 0, 0), (69, .getfield 159, 3, 0, 0), (72, .iload_n 2, 1, 0, 0), (73, .aload_n 1, 1, 0, 0), (74, .iconst 1, 1, 0, 1), (75, .bipush 30, 2, 0, 30), (77, .invokevirtual 33, 3, 0, 0), (80, .invokevirtual 117, 3, 0, 0), (83, .aload_n 0, 1, 0, 0), (84, .getfield 12, 3, 0, 0), (87, .getfield 162, 3, 0, 0), (90, .iload_n 2, 1, 0, 0), (91, .aload_n 1, 1, 0, 0), (92, .iconst 0, 1, 0, 0), (93, .sipush 999, 3, 0, 999), (96, .invokevirtual 33, 3, 0, 0), (99, .invokevirtual 117, 3, 0, 0), (102, .aload_n 0, 1, 0, 0), (103, .getfield 12, 3, 0, 0), (106, .dup, 1, 0, 0), (107, .getfield 150, 3, 0, 0), (110, .iconst 1, 1, 0, 1), (111, .iadd, 1, 0, 0), (112, .putfield 150, 3, 0, 0), (115, .return_, 1, 0, 0)]
def P_Question_holdsAt : List PE := [(0, .aload_n 0, 1, 0, 0), (1, .getfield 14, 3, 0, 0), (4, .getfield 139, 3, 0, 0), (7, .astore 4, 2, 0, 0), (9, .aload 4, 2, 0, 0), (11, .iconst 0, 1, 0, 0), (12, .iload_n 1, 1, 0, 0), (13, .invokevirtual 143, 3, 0, 0), (16, .aload 4, 2, 0, 0), (18, .iconst 1, 1, 0, 1), (19, .aload_n 3, 1, 0, 0), (20, .getfield 149, 3, 0, 0), (23, .iload_n 1, 1, 0, 0), (24, .invokevirtual 155, 3, 0, 0), (27, .invokevirtual 143, 3, 0, 0), (30, .aload 4, 2, 0, 0), (32, .iconst 2, 1, 0, 2), (33, .aload_n 3, 1, 0, 0), (34, .getfield 149, 3, 0, 0), (37, .iload_n 1, 1, 0, 0), (38, .invokevirtual 160, 3, 0, 0), (41, .invokevirtual 143, 3, 0, 0), (44, .aload 4, 2, 0, 0), (46, .iconst 3, 1, 0, 3), (47, .aload_n 3, 1, 0, 0), (48, .getfield 149, 3, 0, 0), (51, .iload_n 1, 1, 0, 0), (52, .invokevirtual 163, 3, 0, 0), (55, .invokevirtual 143, 3, 0, 0), (58, .aload 4, 2, 0, 0), (60, .iconst 4, 1, 0, 4), (61, .aload_n 3, 1, 0, 0), (62, .iload_n 1, 1, 0, 0), (63, .invokevirtual 166, 3, 0, 0), (66, .invokevirtual 143, 3, 0, 0), (69, .aload 4, 2, 0, 0), (71, .iconst 5, 1, 0, 5), (72, .aload_n 3, 1, 0, 0), (73, .getfield 149, 3, 0, 0), (76, .iload_n 1, 1, 0, 0), (77, .invokevirtual 169, 3, 0, 0), (80, .invokevirtual 143, 3, 0, 0), (83, .aload 4, 2, 0, 0), (85, .bipush 6, 2, 0, 6), (87, .aload_n 2, 1, 0, 0), (88, .iload_n 1, 1, 0, 0), (89, .invokevirtual 172, 3, 0, 0), (92, .invokevirtual 143, 3, 0, 0), (95, .aload 4, 2, 0, 0), (97, .bipush 7, 2, 0, 7), (99, .aload_n 2, 1, 0, 0), (100, .iload_n 1, 1, 0, 0), (101, .invokevirtual 177, 3, 0, 0), (104, .invokevirtual 143, 3, 0, 0), (107, .aload_n 0, 1, 0, 0), (108, .getfield 14, 3, 0, 0), (111, .invokevirtual 180, 3, 0, 0), (114, .ifCond .eq 7, 3, 121, 0), (117, .iconst 1, 1, 0, 1), (118, .goto 4, 3, 122, 0), (121, .iconst 0, 1, 0, 0), (122, .ireturn, 1, 0, 0)]
def P_Plan_copyFrom : List PE := [(0, .aload_n 0, 1, 0, 0), (1, .aload_n 1, 1, 0, 0), (2, .getfield 60, 3, 0, 0), (5, .putfield 60, 3, 0, 0), (8, .aload_n 0, 1, 0, 0), (9, .aload_n 1, 1, 0, 0), (10, .getfield 64, 3, 0, 0), (13, .putfield 64, 3, 0, 0), (16, .aload_n 0, 1, 0, 0), (17, .getfield 14, 3, 0, 0), (20, .aload_n 1, 1, 0, 0), (21, .getfield 14, 3, 0, 0), (24, .invokevirtual 83, 3, 0, 0), (27, .aload_n 0, 1, 0, 0), (28, .getfield 20, 3, 0, 0), (31, .aload_n 1, 1, 0, 0), (32, .getfield 20, 3, 0, 0), (35, .invokevirtual 83, 3, 0, 0), (38, .aload_n 0, 1, 0, 0), (39, .aload_n 1, 1, 0, 0), (40, .getfield 67, 3, 0, 0), (43, .putfield 67, 3, 0, 0), (46, .aload_n 0, 1, 0, 0), (47, .getfield 23, 3, 0, 0), (50, .aload_n 1, 1, 0, 0), (51, .getfield 23, 3, 0, 0), (54, .invokevirtual 83, 3, 0, 0), (57, .aload_n 0, 1, 0, 0), (58, .getfield 26, 3, 0, 0), (61, .aload_n 1, 1, 0, 0), (62, .getfield 26, 3, 0, 0), (65, .invokevirtual 83, 3, 0, 0), (68, .aload_n 0, 1, 0, 0), (69, .aload_n 1, 1, 0, 0), (70, .getfield 70, 3, 0, 0), (73, .putfield 70, 3, 0, 0), (76, .aload_n 0, 1, 0, 0), (77, .getfield 29, 3, 0, 0), (80, .aload_n 1, 1, 0, 0), (81, .getfield 29, 3, 0, 0), (84, .invokevirtual 83, 3, 0, 0), (87, .aload_n 0, 1, 0, 0), (88, .getfield 32, 3, 0, 0), (91, .aload_n 1, 1, 0, 0), (92, .getfield 32, 3, 0, 0), (95, .invokevirtual 83, 3, 0, 0), (98, .aload_n 0, 1, 0, 0), (99, .getfield 35, 3, 0, 0), (102, .aload_n 1, 1, 0, 0), (103, .getfield 35, 3, 0, 0), (106, .invokevirtual 83, 3, 0, 0), (109, .aload_n 0, 1, 0, 0), (110, .getfield 38, 3, 0, 0), (113, .aload_n 1, 1, 0, 0), (114, .getfield 38, 3, 0, 0), (117, .invokevirtual 83, 3, 0, 0), (120, .aload_n 0, 1, 0, 0), (121, .aload_n 1, 1, 0, 0), (122, .getfield 73, 3, 0, 0), (125, .putfield 73, 3, 0, 0), (128, .aload_n 0, 1, 0, 0), (129, .getfield 41, 3, 0, 0), (132, .aload_n 1, 1, 0, 0), (133, .getfield 41, 3, 0, 0), (136, .invokevirtual 83, 3, 0, 0), (139, .aload_n 0, 1, 0, 0), (140, .getfield 44, 3, 0, 0), (143, .aload_n 1, 1, 0, 0), (144, .getfield 44, 3, 0, 0), (147, .invokevirtual 83, 3, 0, 0), (150, .aload_n 0, 1, 0, 0), (151, .getfield 47, 3, 0, 0), (154, .aload_n 1, 1, 0, 0), (155, .getfield 47, 3, 0, 0), (158, .invokevirtual 83, 3, 0, 0), (161, .aload_n 0, 1, 0, 0), (162, .getfield 50, 3, 0, 0), (165, .aload_n 1, 1, 0, 0), (166, .getfield 50, 3, 0, 0), (169, .invokevirtual 83, 3, 0, 0), (172, .aload_n 0, 1, 0, 0), (173, .aload_n 1, 1, 0, 0), (174, .getfield 76, 3, 0, 0), (177, .putfield 76, 3, 0, 0), (180, .aload_n 0, 1, 0, 0), (181, .getfield 56, 3, 0, 0), (184, .aload_n 1, 1, 0, 0), (185, .getfield 56, 3, 0, 0), (188, .invokevirtual 87, 3, 0, 0), (191, .return_, 1, 0, 0)]
def P_State_begin : List PE := [(0, .aload_n 0, 1, 0, 0), (1, .iconst 0, 1, 0, 0), (2, .putfield 81, 3, 0, 0), (5, .aload_n 0, 1, 0, 0), (6, .getfield 12, 3, 0, 0), (9, .aload_n 1, 1, 0, 0), (10, .getfield 84, 3, 0, 0), (13, .invokevirtual 89, 3, 0, 0), (16, .aload_n 0, 1, 0, 0), (17, .getfield 21, 3, 0, 0), (20, .invokevirtual 92, 3, 0, 0), (23, .aload_n 0, 1, 0, 0), (24, .getfield 30, 3, 0, 0), (27, .aload_n 1, 1, 0, 0), (28, .getfield 94, 3, 0, 0), (31, .invokevirtual 97, 3, 0, 0), (34, .aload_n 0, 1, 0, 0), (35, .getfield 34, 3, 0, 0), (38, .aload_n 1, 1, 0, 0), (39, .getfield 101, 3, 0, 0), (42, .invokevirtual 97, 3, 0, 0), (45, .aload_n 0, 1, 0, 0), (46, .getfield 37, 3, 0, 0), (49, .aload_n 1, 1, 0, 0), (50, .getfield 104, 3, 0, 0), (53, .invokevirtual 97, 3, 0, 0), (56, .aload_n 0, 1, 0, 0), (57, .getfield 40, 3, 0, 0), (60, .iconst 0, 1, 0, 0), (61, .invokevirtual 107, 3, 0, 0), (64, .aload_n 0, 1, 0, 0), (65, .getfield 43, 3, 0, 0), (68, .iconst 0, 1, 0, 0), (69, .invokevirtual 107, 3, 0, 0), (72, .aload_n 0, 1, 0, 0), (73, .getfield 46, 3, 0, 0), (76, .iconst 0, 1, 0, 0), (77, .invokevirtual 107, 3, 0, 0), (80, .aload_n 0, 1, 0, 0), (81, .getfield 49, 3, 0, 0), (84, .iconst 0, 1, 0, 0), (85, .invokevirtual 107, 3, 0, 0), (88, .aload_n 0, 1, 0, 0), (89, .getfield 52, 3, 0, 0), (92, .iconst 0, 1, 0, 0), (93, .invokevirtual 107, 3, 0, 0), (96, .aload_n 0, 1, 0, 0), (97, .getfield 55, 3, 0, 0), (100, .iconst 0, 1, 0, 0), (101, .invokevirtual 107, 3, 0, 0), (104, .aload_n 0, 1, 0, 0), (105, .getfield 58, 3, 0, 0), (108, .iconst 0, 1, 0, 0), (109, .invokevirtual 107, 3, 0, 0), (112, .aload_n 0, 1, 0, 0), (113, .getfield 61, 3, 0, 0), (116, .iconst 0, 1, 0, 0), (117, .invokevirtual 107, 3, 0, 0), (120, .aload_n 0, 1, 0, 0), (121, .getfield 64, 3, 0, 0), (124, .iconst 0, 1, 0, 0), (125, .invokevirtual 107, 3, 0, 0), (128, .aload_n 0, 1, 0, 0), (129, .getfield 67, 3, 0, 0), (132, .iconst 0, 1, 0, 0), (133, .invokevirtual 107, 3, 0, 0), (136, .aload_n 0, 1, 0, 0), (137, .getfield 73, 3, 0, 0), (140, .invokevirtual 110, 3, 0, 0), (143, .aload_n 0, 1, 0, 0), (144, .iconst (-1), 1, 0, (-1)), (145, .putfield 77, 3, 0, 0), (148, .return_, 1, 0, 0)]
def P_State_copyFrom : List PE := [(0, .aload_n 0, 1, 0, 0), (1, .aload_n 1, 1, 0, 0), (2, .getfield 81, 3, 0, 0), (5, .putfield 81, 3, 0, 0), (8, .aload_n 0, 1, 0, 0), (9, .getfield 12, 3, 0, 0), (12, .aload_n 1, 1, 0, 0), (13, .getfield 12, 3, 0, 0), (16, .invokevirtual 111, 3, 0, 0), (19, .aload_n 0, 1, 0, 0), (20, .getfield 21, 3, 0, 0), (23, .aload_n 1, 1, 0, 0), (24, .getfield 21, 3, 0, 0), (27, .invokevirtual 114, 3, 0, 0), (30, .aload_n 0, 1, 0, 0), (31, .getfield 30, 3, 0, 0), (34, .aload_n 1, 1, 0, 0), (35, .getfield 30, 3, 0, 0), (38, .invokevirtual 97, 3, 0, 0), (41, .aload_n 0, 1, 0, 0), (42, .getfield 34, 3, 0, 0), (45, .aload_n 1, 1, 0, 0), (46, .getfield 34, 3, 0, 0), (49, .invokevirtual 97, 3, 0, 0), (52, .aload_n 0, 1, 0, 0), (53, .getfield 37, 3, 0, 0), (56, .aload_n 1, 1, 0, 0), (57, .getfield 37, 3, 0, 0), (60, .invokevirtual 97, 3, 0, 0), (63, .aload_n 0, 1, 0, 0), (64, .getfield 40, 3, 0, 0), (67, .aload_n 1, 1, 0, 0), (68, .getfield 40, 3, 0, 0), (71, .invokevirtual 97, 3, 0, 0), (74, .aload_n 0, 1, 0, 0), (75, .getfield 43, 3, 0, 0), (78, .aload_n 1, 1, 0, 0), (79, .getfield 43, 3, 0, 0), (82, .invokevirtual 97, 3, 0, 0), (85, .aload_n 0, 1, 0, 0), (86, .getfield 46, 3, 0, 0), (89, .aload_n 1, 1, 0, 0), (90, .getfield 46, 3, 0, 0), (93, .invokevirtual 97, 3, 0, 0), (96, .aload_n 0, 1, 0, 0), (97, .getfield 49, 3, 0, 0), (100, .aload_n 1, 1, 0, 0), (101, .getfield 49, 3, 0, 0), (104, .invokevirtual 97, 3, 0, 0), (107, .aload_n 0, 1, 0, 0), (108, .getfield 52, 3, 0, 0), (111, .aload_n 1, 1, 0, 0), (112, .getfield 52, 3, 0, 0), (115, .invokevirtual 97, 3, 0, 0), (118, .aload_n 0, 1, 0, 0), (119, .getfield 55, 3, 0, 0), (122, .aload_n 1, 1, 0, 0), (123, .getfield 55, 3, 0, 0), (126, .invokevirtual 97, 3, 0, 0), (129, .aload_n 0, 1, 0, 0), (130, .getfield 58, 3, 0, 0), (133, .aload_n 1, 1, 0, 0), (134, .getfield 58, 3, 0, 0), (137, .invokevirtual 97, 3, 0, 0), (140, .aload_n 0, 1, 0, 0), (141, .getfield 61, 3, 0, 0), (144, .aload_n 1, 1, 0, 0), (145, .getfield 61, 3, 0, 0), (148, .invokevirtual 97, 3, 0, 0), (151, .aload_n 0, 1, 0, 0), (152, .getfield 64, 3, 0, 0), (155, .aload_n 1, 1, 0, 0), (156, .getfield 64, 3, 0, 0), (159, .invokevirtual 97, 3, 0, 0), (162, .aload_n 0, 1, 0, 0), (163, .getfield 67, 3, 0, 0), (166, .aload_n 1, 1, 0, 0), (167, .getfield 67, 3, 0, 0), (170, .invokevirtual 97, 3, 0, 0), (173, .aload_n 0, 1, 0, 0), (174, .getfield 73, 3, 0, 0), (177, .aload_n 1, 1, 0, 0), (178, .getfield 73, 3, 0, 0), (181, .invokevirtual 117, 3, 0, 0), (184, .aload_n 0, 1, 0, 0), (185, .aload_n 1, 1, 0, 0), (186, .getfield 77, 3, 0, 0), (189, .putfield 77, 3, 0, 0), (192, .return_, 1, 0, 0)]
def P_State_jam : List PE := [(0, .aload_n 1, 1, 0, 0), (1, .getfield 182, 3, 0, 0), (4, .iload_n 2, 1, 0, 0), (5, .invokevirtual 131, 3, 0, 0), (8, .istore_n 3, 1, 0, 0), (9, .iconst 0, 1, 0, 0), (10, .istore 4, 2, 0, 0), (12, .iload 4, 2, 0, 0), (14, .aload_n 1, 1, 0, 0), (15, .getfield 84, 3, 0, 0), (18, .if_icmp .ge 36, 3, 54, 0), (21, .aload_n 0, 1, 0, 0), (22, .aload_n 1, 1, 0, 0), (23, .iload_n 3, 1, 0, 0), (24, .iload_n 2, 1, 0, 0), (25, .invokevirtual 185, 3, 0, 0), (28, .ifCond .eq 26, 3, 54, 0), (31, .iinc 4 1, 3, 0, 1), (34, .iload_n 3, 1, 0, 0), (35, .ifCond .le 9, 3, 44, 0), (38, .iload_n 3, 1, 0, 0), (39, .iconst 1, 1, 0, 1), (40, .isub, 1, 0, 0), (41, .goto 9, 3, 50, 0), (44, .aload_n 1, 1, 0, 0), (45, .getfield 84, 3, 0, 0), (48, .iconst 1, 1, 0, 1), (49, .isub, 1, 0, 0), (50, .istore_n 3, 1, 0, 0), (51, .goto (-39), 3, 12, 0), (54, .iload 4, 2, 0, 0), (56, .ireturn, 1, 0, 0)]
def P_State_takeOut : List PE := [(0, .iconst 0, 1, 0, 0), (1, .istore_n 2, 1, 0, 0), (2, .iload_n 2, 1, 0, 0), (3, .aload_n 1, 1, 0, 0), (4, .getfield 150, 3, 0, 0), (7, .if_icmp .ge 172, 3, 179, 0), (10, .aload_n 1, 1, 0, 0), (11, .getfield 182, 3, 0, 0), (14, .iload_n 2, 1, 0, 0), (15, .invokevirtual 131, 3, 0, 0), (18, .istore_n 3, 1, 0, 0), (19, .aload_n 0, 1, 0, 0), (20, .getfield 61, 3, 0, 0), (23, .iload_n 2, 1, 0, 0), (24, .invokevirtual 131, 3, 0, 0), (27, .ifCond .gt 146, 3, 173, 0), (30, .aload_n 0, 1, 0, 0), (31, .getfield 81, 3, 0, 0), (34, .aload_n 0, 1, 0, 0), (35, .getfield 58, 3, 0, 0), (38, .iload_n 2, 1, 0, 0), (39, .invokevirtual 131, 3, 0, 0), (42, .if_icmp .lt 131, 3, 173, 0), (45, .aload_n 0, 1, 0, 0), (46, .aload_n 1, 1, 0, 0), (47, .iload_n 3, 1, 0, 0), (48, .iload_n 2, 1, 0, 0), (49, .invokevirtual 185, 3, 0, 0), (52, .ifCond .ne 6, 3, 58, 0), (55, .goto 118, 3, 173, 0), (58, .aload_n 0, 1, 0, 0), (59, .getfield 12, 3, 0, 0), (62, .iload_n 3, 1, 0, 0), (63, .invokevirtual 189, 3, 0, 0), (66, .istore 4, 2, 0, 0), (68, .aload_n 0, 1, 0, 0), (69, .getfield 12, 3, 0, 0), (72, .iload_n 3, 1, 0, 0), (73, .invokevirtual 192, 3, 0, 0), (76, .istore 5, 2, 0, 0), (78, .aload_n 0, 1, 0, 0), (79, .getfield 73, 3, 0, 0), (82, .aload_n 0, 1, 0, 0), (83, .getfield 81, 3, 0, 0), (86, .iload_n 2, 1, 0, 0), (87, .iload 4, 2, 0, 0), (89, .iload 5, 2, 0, 0), (91, .aload_n 0, 1, 0, 0), (92, .getfield 12, 3, 0, 0), (95, .iload_n 3, 1, 0, 0), (96, .invokevirtual 195, 3, 0, 0), (99, .aload_n 0, 1, 0, 0), (100, .iload_n 3, 1, 0, 0), (101, .invokevirtual 198, 3, 0, 0), (104, .aload_n 0, 1, 0, 0), (105, .getfield 12, 3, 0, 0), (108, .iload_n 3, 1, 0, 0), (109, .invokevirtual 201, 3, 0, 0), (112, .invokevirtual 204, 3, 0, 0), (115, .aload_n 0, 1, 0, 0), (116, .getfield 64, 3, 0, 0), (119, .iload_n 2, 1, 0, 0), (120, .iconst 1, 1, 0, 1), (121, .invokevirtual 172, 3, 0, 0), (124, .aload_n 0, 1, 0, 0), (125, .getfield 49, 3, 0, 0), (128, .iload 5, 2, 0, 0), (130, .iconst 1, 1, 0, 1), (131, .invokevirtual 172, 3, 0, 0), (134, .aload_n 0, 1, 0, 0), (135, .getfield 67, 3, 0, 0), (138, .iload 4, 2, 0, 0), (140, .iconst 1, 1, 0, 1), (141, .invokevirtual 172, 3, 0, 0), (144, .aload_n 0, 1, 0, 0), (145, .getfield 58, 3, 0, 0), (148, .iload_n 2, 1, 0, 0), (149, .aload_n 0, 1, 0, 0), (150, .getfield 81, 3, 0, 0), (153, .aload_n 1, 1, 0, 0), (154, .getfield 207, 3, 0, 0), (157, .iload_n 2, 1, 0, 0), (158, .invokevirtual 131, 3, 0, 0), (161, .iadd, 1, 0, 0), (162, .invokevirtual 123, 3, 0, 0), (165, .aload_n 0, 1, 0, 0), (166, .getfield 12, 3, 0, 0), (169, .iload_n 3, 1, 0, 0), (170, .invokevirtual 210, 3, 0, 0), (173, .iinc 2 1, 3, 0, 1), (176, .goto (-174), 3, 2, 0), (179, .return_, 1, 0, 0)]
def P_State_takeTurns : List PE := [(0, .iconst 0, 1, 0, 0), (1, .istore_n 2, 1, 0, 0), (2, .iload_n 2, 1, 0, 0), (3, .aload_n 1, 1, 0, 0), (4, .getfield 84, 3, 0, 0), (7, .if_icmp .ge 149, 3, 156, 0), (10, .iconst (-1), 1, 0, (-1)), (11, .istore_n 3, 1, 0, 0), (12, .iconst (-1), 1, 0, (-1)), (13, .istore 4, 2, 0, 0), (15, .iconst 0, 1, 0, 0), (16, .istore 5, 2, 0, 0), (18, .iconst 0, 1, 0, 0), (19, .istore 6, 2, 0, 0), (21, .iconst 0, 1, 0, 0), (22, .istore 7, 2, 0, 0), (24, .iconst 0, 1, 0, 0), (25, .istore 8, 2, 0, 0), (27, .iload 8, 2, 0, 0), (29, .aload_n 1, 1, 0, 0), (30, .getfield 213, 3, 0, 0), (33, .if_icmp .ge 82, 3, 115, 0), (36, .aload_n 0, 1, 0, 0), (37, .aload_n 1, 1, 0, 0), (38, .iload 8, 2, 0, 0), (40, .invokevirtual 241, 3, 0, 0), (43, .istore 9, 2, 0, 0), (45, .iload 9, 2, 0, 0), (47, .iconst (-1), 1, 0, (-1)), (48, .if_icmp .ne 6, 3, 54, 0), (51, .goto 58, 3, 109, 0), (54, .iload 7, 2, 0, 0), (56, .iconst 1, 1, 0, 1), (57, .iload 8, 2, 0, 0), (59, .ishl, 1, 0, 0), (60, .ior, 1, 0, 0), (61, .istore 7, 2, 0, 0), (63, .iload 6, 2, 0, 0), (65, .aload_n 0, 1, 0, 0), (66, .getfield 37, 3, 0, 0), (69, .iload 8, 2, 0, 0), (71, .invokevirtual 131, 3, 0, 0), (74, .iadd, 1, 0, 0), (75, .istore 6, 2, 0, 0), (77, .aload_n 0, 1, 0, 0), (78, .aload_n 1, 1, 0, 0), (79, .iload 8, 2, 0, 0), (81, .invokevirtual 245, 3, 0, 0), (84, .istore 10, 2, 0, 0), (86, .iload_n 3, 1, 0, 0), (87, .iconst (-1), 1, 0, (-1)), (88, .if_icmp .eq 10, 3, 98, 0), (91, .iload 10, 2, 0, 0), (93, .iload 5, 2, 0, 0), (95, .if_icmp .le 14, 3, 109, 0), (98, .iload 8, 2, 0, 0), (100, .istore_n 3, 1, 0, 0), (101, .iload 9, 2, 0, 0), (103, .istore 4, 2, 0, 0), (105, .iload 10, 2, 0, 0), (107, .istore 5, 2, 0, 0), (109, .iinc 8 1, 3, 0, 1), (112, .goto (-85), 3, 27, 0), (115, .iload_n 3, 1, 0, 0), (116, .iconst (-1), 1, 0, (-1)), (117, .if_icmp .ne 4, 3, 121, 0), (120, .return_, 1, 0, 0), (121, .aload_n 0, 1, 0, 0), (122, .getfield 12, 3, 0, 0), (125, .iload 4, 2, 0, 0), (127, .iload_n 3, 1, 0, 0), (128, .invokevirtual 225, 3, 0, 0), (131, .aload_n 0, 1, 0, 0), (132, .getfield 43, 3, 0, 0), (135, .iload_n 3, 1, 0, 0), (136, .iconst 1, 1, 0, 1), (137, .invokevirtual 172, 3, 0, 0), (140, .aload_n 0, 1, 0, 0), (141, .aload_n 1, 1, 0, 0), (142, .iload 7, 2, 0, 0), (144, .iload_n 3, 1, 0, 0), (145, .iload 6, 2, 0, 0), (147, .invokevirtual 248, 3, 0, 0), (150, .iinc 2 1, 3, 0, 1), (153, .goto (-151), 3, 2, 0), (156, .return_, 1, 0, 0)]
def P_State_isAs : List PE := [(0, .aload_n 0, 1, 0, 0), (1, .getfield 12, 3, 0, 0), (4, .aload_n 1, 1, 0, 0), (5, .getfield 12, 3, 0, 0), (8, .invokevirtual 290, 3, 0, 0), (11, .ifCond .ne 5, 3, 16, 0), (14, .iconst 0, 1, 0, 0), (15, .ireturn, 1, 0, 0), (16, .iconst 0, 1, 0, 0), (17, .istore_n 3, 1, 0, 0), (18, .iload_n 3, 1, 0, 0), (19, .aload_n 2, 1, 0, 0), (20, .getfield 150, 3, 0, 0), (23, .if_icmp .ge 43, 3, 66, 0), (26, .aload_n 0, 1, 0, 0), (27, .getfield 61, 3, 0, 0), (30, .iload_n 3, 1, 0, 0), (31, .invokevirtual 131, 3, 0, 0), (34, .aload_n 1, 1, 0, 0), (35, .getfield 61, 3, 0, 0), (38, .iload_n 3, 1, 0, 0), (39, .invokevirtual 131, 3, 0, 0), (42, .if_icmp .ne 16, 3, 58, 0), (45, .aload_n 0, 1, 0, 0), (46, .iload_n 3, 1, 0, 0), (47, .invokevirtual 294, 3, 0, 0), (50, .aload_n 1, 1, 0, 0), (51, .iload_n 3, 1, 0, 0), (52, .invokevirtual 294, 3, 0, 0), (55, .if_icmp .eq 5, 3, 60, 0), (58, .iconst 0, 1, 0, 0), (59, .ireturn, 1, 0, 0), (60, .iinc 3 1, 3, 0, 1), (63, .goto (-45), 3, 18, 0), (66, .iconst 0, 1, 0, 0), (67, .istore_n 3, 1, 0, 0), (68, .iload_n 3, 1, 0, 0), (69, .aload_n 2, 1, 0, 0), (70, .getfield 159, 3, 0, 0), (73, .if_icmp .ge 32, 3, 105, 0), (76, .aload_n 2, 1, 0, 0), (77, .iload_n 3, 1, 0, 0), (78, .aload_n 0, 1, 0, 0), (79, .getfield 81, 3, 0, 0), (82, .invokevirtual 165, 3, 0, 0), (85, .aload_n 2, 1, 0, 0), (86, .iload_n 3, 1, 0, 0), (87, .aload_n 1, 1, 0, 0), (88, .getfield 81, 3, 0, 0), (91, .invokevirtual 165, 3, 0, 0), (94, .if_icmp .eq 5, 3, 99, 0), (97, .iconst 0, 1, 0, 0), (98, .ireturn, 1, 0, 0), (99, .iinc 3 1, 3, 0, 1), (102, .goto (-34), 3, 68, 0), (105, .iconst 0, 1, 0, 0), (106, .istore_n 3, 1, 0, 0), (107, .iload_n 3, 1, 0, 0), (108, .aload_n 2, 1, 0, 0), (109, .getfield 213, 3, 0, 0), (112, .if_icmp .ge 45, 3, 157, 0), (115, .aload_n 0, 1, 0, 0), (116, .getfield 40, 3, 0, 0), (119, .iload_n 3, 1, 0, 0), (120, .invokevirtual 131, 3, 0, 0), (123, .aload_n 1, 1, 0, 0), (124, .getfield 40, 3, 0, 0), (127, .iload_n 3, 1, 0, 0), (128, .invokevirtual 131, 3, 0, 0), (131, .if_icmp .ne 18, 3, 149, 0), (134, .aload_n 0, 1, 0, 0), (135, .getfield 21, 3, 0, 0), (138, .aload_n 1, 1, 0, 0), (139, .getfield 21, 3, 0, 0), (142, .iload_n 3, 1, 0, 0), (143, .invokevirtual 297, 3, 0, 0), (146, .ifCond .ne 5, 3, 151, 0), (149, .iconst 0, 1, 0, 0), (150, .ireturn, 1, 0, 0), (151, .iinc 3 1, 3, 0, 1), (154, .goto (-47), 3, 107, 0), (157, .aload_n 2, 1, 0, 0), (158, .getfield 256, 3, 0, 0), (161, .iconst 5, 1, 0, 5), (162, .invokevirtual 301, 3, 0, 0), (165, .ifCond .eq 12, 3, 177, 0), (168, .aload_n 0, 1, 0, 0), (169, .aload_n 1, 1, 0, 0), (170, .aload_n 2, 1, 0, 0), (171, .invokevirtual 304, 3, 0, 0), (174, .ifCond .eq 7, 3, 181, 0), (177, .iconst 1, 1, 0, 1), (178, .goto 4, 3, 182, 0), (181, .iconst 0, 1, 0, 0), (182, .ireturn, 1, 0, 0)]
def P_Acts_init : List PE := [(0, .aload_n 0, 1, 0, 0), (1, .invokespecial 3, 3, 0, 0), (4, .aload_n 0, 1, 0, 0), (5, .bipush 10, 2, 0, 10), (7, .anewarray 9, 3, 0, 0), (10, .putfield 11, 3, 0, 0), (13, .iconst 0, 1, 0, 0), (14, .istore_n 1, 1, 0, 0), (15, .iload_n 1, 1, 0, 0), (16, .aload_n 0, 1, 0, 0), (17, .getfield 11, 3, 0, 0), (20, .arraylength, 1, 0, 0), (21, .if_icmp .ge 22, 3, 43, 0), (24, .aload_n 0, 1, 0, 0), (25, .getfield 11, 3, 0, 0), (28, .iload_n 1, 1, 0, 0), (29, .new 9, 3, 0, 0), (32, .dup, 1, 0, 0), (33, .invokespecial 17, 3, 0, 0), (36, .aastore, 1, 0, 0), (37, .iinc 1 1, 3, 0, 1), (40, .goto (-25), 3, 15, 0), (43, .return_, 1, 0, 0)]
def P_Mo_isAsking : List PE := [(0, .aload_n 0, 1, 0, 0), (1, .iload_n 1, 1, 0, 0), (2, .iconst 4, 1, 0, 4), (3, .invokevirtual 61, 3, 0, 0), (6, .aload_n 0, 1, 0, 0), (7, .iload_n 1, 1, 0, 0), (8, .invokevirtual 110, 3, 0, 0), (11, .if_icmp .le 16, 3, 27, 0), (14, .aload_n 0, 1, 0, 0), (15, .iload_n 1, 1, 0, 0), (16, .invokevirtual 113, 3, 0, 0), (19, .iconst (-1), 1, 0, (-1)), (20, .if_icmp .eq 7, 3, 27, 0), (23, .iconst 1, 1, 0, 1), (24, .goto 4, 3, 28, 0), (27, .iconst 0, 1, 0, 0), (28, .ireturn, 1, 0, 0)]
def P_Mo_load : List PE := [(0, .aload_n 0, 1, 0, 0), (1, .iconst 0, 1, 0, 0), (2, .putfield 46, 3, 0, 0), (5, .aload_n 0, 1, 0, 0), (6, .iload_n 1, 1, 0, 0), (7, .invokevirtual 194, 3, 0, 0), (10, .ifCond .ne 10, 3, 20, 0), (13, .aload_n 0, 1, 0, 0), (14, .iconst 1, 1, 0, 1), (15, .invokevirtual 191, 3, 0, 0), (18, .i2l, 1, 0, 0), (19, .lreturn, 1, 0, 0), (20, .aload_n 0, 1, 0, 0), (21, .iload_n 1, 1, 0, 0), (22, .invokevirtual 263, 3, 0, 0), (25, .lstore_n 3, 1, 0, 0), (26, .ldc2_w 261, 3, 0, 0), (29, .lload_n 3, 1, 0, 0), (30, .invokestatic 267, 3, 0, 0), (33, .lstore 5, 2, 0, 0), (35, .iload_n 2, 1, 0, 0), (36, .ifCond .eq 12, 3, 48, 0), (39, .ldc2_w 261, 3, 0, 0), (42, .lload 5, 2, 0, 0), (44, .ldiv, 1, 0, 0), (45, .goto 7, 3, 52, 0), (48, .lload_n 3, 1, 0, 0), (49, .lload 5, 2, 0, 0), (51, .ldiv, 1, 0, 0), (52, .lreturn, 1, 0, 0)]
def P_Mo_heaviest : List PE := [(0, .aload_n 0, 1, 0, 0), (1, .iconst 0, 1, 0, 0), (2, .putfield 46, 3, 0, 0), (5, .iconst 0, 1, 0, 0), (6, .istore_n 1, 1, 0, 0), (7, .iconst 1, 1, 0, 1), (8, .istore_n 2, 1, 0, 0), (9, .iload_n 2, 1, 0, 0), (10, .aload_n 0, 1, 0, 0), (11, .invokevirtual 49, 3, 0, 0), (14, .if_icmp .ge 25, 3, 39, 0), (17, .aload_n 0, 1, 0, 0), (18, .iload_n 2, 1, 0, 0), (19, .invokevirtual 263, 3, 0, 0), (22, .aload_n 0, 1, 0, 0), (23, .iload_n 1, 1, 0, 0), (24, .invokevirtual 263, 3, 0, 0), (27, .lcmp, 1, 0, 0), (28, .ifCond .le 5, 3, 33, 0), (31, .iload_n 2, 1, 0, 0), (32, .istore_n 1, 1, 0, 0), (33, .iinc 2 1, 3, 0, 1), (36, .goto (-27), 3, 9, 0), (39, .iload_n 1, 1, 0, 0), (40, .ireturn, 1, 0, 0)]
def P_Mo_number : List PE := [(0, .aload_n 0, 1, 0, 0), (1, .iload_n 1, 1, 0, 0), (2, .iload_n 2, 1, 0, 0), (3, .invokevirtual 328, 3, 0, 0), (6, .istore_n 3, 1, 0, 0), (7, .aload_n 0, 1, 0, 0), (8, .invokevirtual 324, 3, 0, 0), (11, .iload_n 3, 1, 0, 0), (12, .ireturn, 1, 0, 0)]
def P_Mo_must : List PE := [(0, .aload_n 0, 1, 0, 0), (1, .iload_n 1, 1, 0, 0), (2, .invokevirtual 318, 3, 0, 0), (5, .ifCond .ne 8, 3, 13, 0), (8, .aload_n 0, 1, 0, 0), (9, .iconst 1, 1, 0, 1), (10, .invokevirtual 321, 3, 0, 0), (13, .aload_n 0, 1, 0, 0), (14, .invokevirtual 324, 3, 0, 0), (17, .return_, 1, 0, 0)]
def P_Mo_ownPlace : List PE := [(0, .aload_n 0, 1, 0, 0), (1, .iconst 0, 1, 0, 0), (2, .aload_n 0, 1, 0, 0), (3, .getfield 13, 3, 0, 0), (6, .iconst 0, 1, 0, 0), (7, .iaload, 1, 0, 0), (8, .iconst 1, 1, 0, 1), (9, .isub, 1, 0, 0), (10, .invokevirtual 328, 3, 0, 0), (13, .istore 4, 2, 0, 0), (15, .iconst 0, 1, 0, 0), (16, .istore 5, 2, 0, 0), (18, .iload 5, 2, 0, 0), (20, .iload_n 3, 1, 0, 0), (21, .if_icmp .ge 37, 3, 58, 0), (24, .aload_n 0, 1, 0, 0), (25, .getfield 297, 3, 0, 0), (28, .ifCond .ne 30, 3, 58, 0), (31, .aload_n 0, 1, 0, 0), (32, .getfield 13, 3, 0, 0), (35, .iload_n 1, 1, 0, 0), (36, .iload_n 2, 1, 0, 0), (37, .iload 5, 2, 0, 0), (39, .imul, 1, 0, 0), (40, .iadd, 1, 0, 0), (41, .iaload, 1, 0, 0), (42, .iload 4, 2, 0, 0), (44, .if_icmp .ne 8, 3, 52, 0), (47, .aload_n 0, 1, 0, 0), (48, .iconst 3, 1, 0, 3), (49, .invokevirtual 321, 3, 0, 0), (52, .iinc 5 1, 3, 0, 1), (55, .goto (-37), 3, 18, 0), (58, .aload_n 0, 1, 0, 0), (59, .invokevirtual 324, 3, 0, 0), (62, .iload 4, 2, 0, 0), (64, .ireturn, 1, 0, 0)]
def P_Mo_goesIn : List PE := [(0, .aload_n 0, 1, 0, 0), (1, .getfield 297, 3, 0, 0), (4, .ifCond .ne 17, 3, 21, 0), (7, .aload_n 0, 1, 0, 0), (8, .getfield 300, 3, 0, 0), (11, .bipush 6, 2, 0, 6), (13, .if_icmp .ne 8, 3, 21, 0), (16, .aload_n 0, 1, 0, 0), (17, .iconst 3, 1, 0, 3), (18, .invokevirtual 321, 3, 0, 0), (21, .aload_n 0, 1, 0, 0), (22, .dup, 1, 0, 0), (23, .getfield 300, 3, 0, 0), (26, .iconst 1, 1, 0, 1), (27, .iadd, 1, 0, 0), (28, .putfield 300, 3, 0, 0), (31, .aload_n 0, 1, 0, 0), (32, .invokevirtual 324, 3, 0, 0), (35, .return_, 1, 0, 0)]
def P_Str_charAt : List PE := [(0, .aload_n 0, 1, 0, 0), (1, .invokevirtual 492, 3, 0, 0), (4, .ifCond .eq 12, 3, 16, 0), (7, .aload_n 0, 1, 0, 0), (8, .getfield 9, 3, 0, 0), (11, .iload_n 1, 1, 0, 0), (12, .invokestatic 495, 3, 0, 0), (15, .ireturn, 1, 0, 0), (16, .aload_n 0, 1, 0, 0), (17, .getfield 9, 3, 0, 0), (20, .iload_n 1, 1, 0, 0), (21, .invokestatic 498, 3, 0, 0), (24, .ireturn, 1, 0, 0)]
def P_Law_place : List PE := [(0, .aload_n 3, 1, 0, 0), (1, .iconst 0, 1, 0, 0), (2, .aload_n 0, 1, 0, 0), (3, .iload_n 1, 1, 0, 0), (4, .iload_n 2, 1, 0, 0), (5, .invokevirtual 20, 3, 0, 0), (8, .i2l, 1, 0, 0), (9, .lastore, 1, 0, 0), (10, .goto 7, 3, 17, 0), (13, .astore 4, 2, 0, 0), (15, .iconst 1, 1, 0, 1), (16, .ireturn, 1, 0, 0), (17, .iconst 0, 1, 0, 0), (18, .ireturn, 1, 0, 0)]
def P_Law_ware : List PE := [(0, .aload_n 3, 1, 0, 0), (1, .iconst 0, 1, 0, 0), (2, .aload_n 0, 1, 0, 0), (3, .iload_n 1, 1, 0, 0), (4, .iload_n 2, 1, 0, 0), (5, .invokevirtual 27, 3, 0, 0), (8, .i2l, 1, 0, 0), (9, .lastore, 1, 0, 0), (10, .goto 7, 3, 17, 0), (13, .astore 4, 2, 0, 0), (15, .iconst 1, 1, 0, 1), (16, .ireturn, 1, 0, 0), (17, .iconst 0, 1, 0, 0), (18, .ireturn, 1, 0, 0)]
def P_Law_side : List PE := [(0, .aload_n 3, 1, 0, 0), (1, .iconst 0, 1, 0, 0), (2, .aload_n 0, 1, 0, 0), (3, .iload_n 1, 1, 0, 0), (4, .iload_n 2, 1, 0, 0), (5, .invokevirtual 30, 3, 0, 0), (8, .i2l, 1, 0, 0), (9, .lastore, 1, 0, 0), (10, .goto 7, 3, 17, 0), (13, .astore 4, 2, 0, 0), (15, .iconst 1, 1, 0, 1), (16, .ireturn, 1, 0, 0), (17, .iconst 0, 1, 0, 0), (18, .ireturn, 1, 0, 0)]
def P_MB_init : List PE := [(0, .aload_n 0, 1, 0, 0), (1, .invokespecial 1, 3, 0, 0), (4, .aload_n 0, 1, 0, 0), (5, .new 7, 3, 0, 0), (8, .dup, 1, 0, 0), (9, .invokespecial 9, 3, 0, 0), (12, .putfield 10, 3, 0, 0), (15, .aload_n 0, 1, 0, 0), (16, .new 16, 3, 0, 0), (19, .dup, 1, 0, 0), (20, .invokespecial 18, 3, 0, 0), (23, .putfield 19, 3, 0, 0), (26, .aload_n 0, 1, 0, 0), (27, .new 23, 3, 0, 0), (30, .dup, 1, 0, 0), (31, .invokespecial 25, 3, 0, 0), (34, .putfield 26, 3, 0, 0), (37, .aload_n 0, 1, 0, 0), (38, .new 30, 3, 0, 0), (41, .dup, 1, 0, 0), (42, .invokespecial 32, 3, 0, 0), (45, .putfield 33, 3, 0, 0), (48, .aload_n 0, 1, 0, 0), (49, .new 37, 3, 0, 0), (52, .dup, 1, 0, 0), (53, .invokespecial 39, 3, 0, 0), (56, .putfield 40, 3, 0, 0), (59, .aload_n 0, 1, 0, 0), (60, .new 44, 3, 0, 0), (63, .dup, 1, 0, 0), (64, .invokespecial 46, 3, 0, 0), (67, .putfield 47, 3, 0, 0), (70, .aload_n 0, 1, 0, 0), (71, .new 37, 3, 0, 0), (74, .dup, 1, 0, 0), (75, .invokespecial 39, 3, 0, 0), (78, .putfield 51, 3, 0, 0), (81, .aload_n 0, 1, 0, 0), (82, .new 37, 3, 0, 0), (85, .dup, 1, 0, 0), (86, .invokespecial 39, 3, 0, 0), (89, .putfield 54, 3, 0, 0), (92, .aload_n 0, 1, 0, 0), (93, .new 30, 3, 0, 0), (96, .dup, 1, 0, 0), (97, .invokespecial 32, 3, 0, 0), (100, .putfield 57, 3, 0, 0), (103, .aload_n 0, 1, 0, 0), (104, .new 37, 3, 0, 0), (107, .dup, 1, 0, 0), (108, .invokespecial 39, 3, 0, 0), (111, .putfield 60, 3, 0, 0), (114, .aload_n 0, 1, 0, 0), (115, .iconst (-1), 1, 0, (-1)), (116, .putfield 63, 3, 0, 0), (119, .aload_n 0, 1, 0, 0), (120, .getfield 33, 3, 0, 0), (123, .iconst 4, 1, 0, 4), (124, .putfield 67, 3, 0, 0), (127, .aload_n 0, 1, 0, 0), (128, .getfield 40, 3, 0, 0), (131, .aload_n 0, 1, 0, 0), (132, .getfield 33, 3, 0, 0), (135, .invokevirtual 70, 3, 0, 0), (138, .return_, 1, 0, 0)]
def P_MB_image : List PE := [(0, .aload_n 0, 1, 0, 0), (1, .getfield 57, 3, 0, 0), (4, .aload_n 0, 1, 0, 0), (5, .getfield 33, 3, 0, 0), (8, .invokevirtual 93, 3, 0, 0), (11, .aload_n 0, 1, 0, 0), (12, .getfield 60, 3, 0, 0), (15, .aload_n 0, 1, 0, 0), (16, .getfield 40, 3, 0, 0), (19, .invokevirtual 300, 3, 0, 0), (22, .aload_n 0, 1, 0, 0), (23, .iconst 1, 1, 0, 1), (24, .putfield 348, 3, 0, 0), (27, .return_, 1, 0, 0)]
def P_MB_back : List PE := [(0, .aload_n 0, 1, 0, 0), (1, .getfield 348, 3, 0, 0), (4, .ifCond .ne 5, 3, 9, 0), (7, .iconst 0, 1, 0, 0), (8, .ireturn, 1, 0, 0), (9, .aload_n 0, 1, 0, 0), (10, .getfield 33, 3, 0, 0), (13, .aload_n 0, 1, 0, 0), (14, .getfield 57, 3, 0, 0), (17, .invokevirtual 93, 3, 0, 0), (20, .aload_n 0, 1, 0, 0), (21, .getfield 40, 3, 0, 0), (24, .aload_n 0, 1, 0, 0), (25, .getfield 60, 3, 0, 0), (28, .invokevirtual 300, 3, 0, 0), (31, .aload_n 0, 1, 0, 0), (32, .getfield 47, 3, 0, 0), (35, .invokevirtual 96, 3, 0, 0), (38, .iconst 1, 1, 0, 1), (39, .ireturn, 1, 0, 0)]
def P_MB_exit : List PE := [(0, .iload_n 1, 1, 0, 0), (1, .aload_n 0, 1, 0, 0), (2, .getfield 33, 3, 0, 0), (5, .getfield 99, 3, 0, 0), (8, .invokestatic 162, 3, 0, 0), (11, .ifCond .ne 11, 3, 22, 0), (14, .new 159, 3, 0, 0), (17, .dup, 1, 0, 0), (18, .invokespecial 161, 3, 0, 0), (21, .athrow, 1, 0, 0), (22, .iload_n 2, 1, 0, 0), (23, .tableswitch 107 0 5 #[37, 49, 61, 73, 85, 98], 37, 130, 0), (60, .aload_n 0, 1, 0, 0), (61, .getfield 33, 3, 0, 0), (64, .getfield 182, 3, 0, 0), (67, .iload_n 1, 1, 0, 0), (68, .invokevirtual 185, 3, 0, 0), (71, .ireturn, 1, 0, 0), (72, .aload_n 0, 1, 0, 0), (73, .getfield 33, 3, 0, 0), (76, .getfield 188, 3, 0, 0), (79, .iload_n 1, 1, 0, 0), (80, .invokevirtual 185, 3, 0, 0), (83, .ireturn, 1, 0, 0), (84, .aload_n 0, 1, 0, 0), (85, .getfield 40, 3, 0, 0), (88, .getfield 191, 3, 0, 0), (91, .iload_n 1, 1, 0, 0), (92, .invokevirtual 185, 3, 0, 0), (95, .ireturn, 1, 0, 0), (96, .aload_n 0, 1, 0, 0), (97, .getfield 40, 3, 0, 0), (100, .getfield 141, 3, 0, 0), (103, .iload_n 1, 1, 0, 0), (104, .invokevirtual 185, 3, 0, 0), (107, .ireturn, 1, 0, 0), (108, .aload_n 0, 1, 0, 0), (109, .getfield 40, 3, 0, 0), (112, .aload_n 0, 1, 0, 0), (113, .getfield 33, 3, 0, 0), (116, .iload_n 1, 1, 0, 0), (117, .invokevirtual 194, 3, 0, 0), (120, .ireturn, 1, 0, 0), (121, .aload_n 0, 1, 0, 0), (122, .getfield 40, 3, 0, 0), (125, .iload_n 1, 1, 0, 0), (126, .invokevirtual 198, 3, 0, 0), (129, .ireturn, 1, 0, 0), (130, .new 159, 3, 0, 0), (133, .dup, 1, 0, 0), (134, .invokespecial 161, 3, 0, 0), (137, .athrow, 1, 0, 0)]
def P_Tape_isWord : List PE := [(0, .aload_n 0, 1, 0, 0), (1, .getfield 50, 3, 0, 0), (4, .iconst 1, 1, 0, 1), (5, .if_icmp .ne 19, 3, 24, 0), (8, .aload_n 0, 1, 0, 0), (9, .getfield 34, 3, 0, 0), (12, .aload_n 0, 1, 0, 0), (13, .getfield 43, 3, 0, 0), (16, .isub, 1, 0, 0), (17, .aload_n 1, 1, 0, 0), (18, .invokevirtual 56, 3, 0, 0), (21, .if_icmp .eq 5, 3, 26, 0), (24, .iconst 0, 1, 0, 0), (25, .ireturn, 1, 0, 0), (26, .iconst 0, 1, 0, 0), (27, .istore_n 2, 1, 0, 0), (28, .iload_n 2, 1, 0, 0), (29, .aload_n 1, 1, 0, 0), (30, .invokevirtual 56, 3, 0, 0), (33, .if_icmp .ge 32, 3, 65, 0), (36, .aload_n 0, 1, 0, 0), (37, .getfield 14, 3, 0, 0), (40, .aload_n 0, 1, 0, 0), (41, .getfield 43, 3, 0, 0), (44, .iload_n 2, 1, 0, 0), (45, .iadd, 1, 0, 0), (46, .invokevirtual 46, 3, 0, 0), (49, .aload_n 1, 1, 0, 0), (50, .iload_n 2, 1, 0, 0), (51, .invokevirtual 61, 3, 0, 0), (54, .if_icmp .eq 5, 3, 59, 0), (57, .iconst 0, 1, 0, 0), (58, .ireturn, 1, 0, 0), (59, .iinc 2 1, 3, 0, 1), (62, .goto (-34), 3, 28, 0), (65, .iconst 1, 1, 0, 1), (66, .ireturn, 1, 0, 0)]
def P_BeltText_readExit : List PE := [(0, .aload_n 0, 1, 0, 0), (1, .getfield 12, 3, 0, 0), (4, .getfield 102, 3, 0, 0), (7, .istore_n 2, 1, 0, 0), (8, .aload_n 1, 1, 0, 0), (9, .iload_n 2, 1, 0, 0), (10, .bipush 6, 2, 0, 6), (12, .invokestatic 105, 3, 0, 0), (15, .aload_n 0, 1, 0, 0), (16, .getfield 12, 3, 0, 0), (19, .getfield 109, 3, 0, 0), (22, .iload_n 2, 1, 0, 0), (23, .aload_n 0, 1, 0, 0), (24, .aload_n 1, 1, 0, 0), (25, .aload_n 0, 1, 0, 0), (26, .getfield 12, 3, 0, 0), (29, .getfield 109, 3, 0, 0), (32, .iload_n 2, 1, 0, 0), (33, .invokevirtual 113, 3, 0, 0), (36, .invokevirtual 117, 3, 0, 0), (39, .aload_n 0, 1, 0, 0), (40, .getfield 12, 3, 0, 0), (43, .getfield 121, 3, 0, 0), (46, .iload_n 2, 1, 0, 0), (47, .aload_n 1, 1, 0, 0), (48, .iconst 1, 1, 0, 1), (49, .bipush 9, 2, 0, 9), (51, .invokevirtual 33, 3, 0, 0), (54, .invokevirtual 117, 3, 0, 0), (57, .aload_n 0, 1, 0, 0), (58, .getfield 12, 3, 0, 0), (61, .dup, 1, 0, 0), (62, .getfield 102, 3, 0, 0), (65, .iconst 1, 1, 0, 1), (66, .iadd, 1, 0, 0), (67, .putfield 102, 3, 0, 0), (70, .return_, 1, 0, 0)]
def P_BeltText_readSide : List PE := [(0, .aload_n 0, 1, 0, 0), (1, .getfield 12, 3, 0, 0), (4, .getfield 135, 3, 0, 0), (7, .istore_n 2, 1, 0, 0), (8, .aload_n 1, 1, 0, 0), (9, .iload_n 2, 1, 0, 0), (10, .bipush 6, 2, 0, 6), (12, .invokestatic 105, 3, 0, 0), (15, .aload_n 0, 1, 0, 0), (16, .getfield 12, 3, 0, 0), (19, .getfield 138, 3, 0, 0), (22, .iload_n 2, 1, 0, 0), (23, .aload_n 0, 1, 0, 0), (24, .aload_n 1, 1, 0, 0), (25, .aload_n 0, 1, 0, 0), (26, .getfield 12, 3, 0, 0), (29, .getfield 138, 3, 0, 0), (32, .iload_n 2, 1, 0, 0), (33, .invokevirtual 113, 3, 0, 0), (36, .invokevirtual 117, 3, 0, 0), (39, .aload_n 0, 1, 0, 0), (40, .getfield 12, 3, 0, 0), (43, .getfield 141, 3, 0, 0), (46, .iload_n 2, 1, 0, 0), (47, .aload_n 1, 1, 0, 0), (48, .iconst 1, 1, 0, 1), (49, .bipush 20, 2, 0, 20), (51, .invokevirtual 33, 3, 0, 0), (54, .invokevirtual 117, 3, 0, 0), (57, .aload_n 0, 1, 0, 0), (58, .getfield 12, 3, 0, 0), (61, .getfield 144, 3, 0, 0), (64, .iload_n 2, 1, 0, 0), (65, .aload_n 1, 1, 0, 0), (66, .iconst 0, 1, 0, 0), (67, .aload_n 0, 1, 0, 0), (68, .getfield 12, 3, 0, 0), (71, .getfield 37, 3, 0, 0), (74, .iconst 1, 1, 0, 1), (75, .isub, 1, 0, 0), (76, .invokevirtual 33, 3, 0, 0), (79, .invokevirtual 117, 3, 0, 0), (82, .aload_n 0, 1, 0, 0), (83, .getfield 12, 3, 0, 0), (86, .getfield 147, 3, 0, 0), (89, .iload_n 2, 1, 0, 0), (90, .aload_n 1, 1, 0, 0), (91, .iconst 1, 1, 0, 1), (92, .bipush 9, 2, 0, 9), (94, .invokevirtual 33, 3, 0, 0), (97, .invokevirtual 117, 3, 0, 0), (100, .aload_n 0, 1, 0, 0), (101, .getfield 12, 3, 0, 0), (104, .dup, 1, 0, 0), (105, .getfield 135, 3, 0, 0), (108, .iconst 1, 1, 0, 1), (109, .iadd, 1, 0, 0), (110, .putfield 135, 3, 0, 0), (113, .return_, 1, 0, 0)]
def P_State_step : List PE := [(0, .aload_n 0, 1, 0, 0), (1, .aload_n 1, 1, 0, 0), (2, .invokevirtual 135, 3, 0, 0), (5, .aload_n 0, 1, 0, 0), (6, .getfield 12, 3, 0, 0), (9, .invokevirtual 138, 3, 0, 0), (12, .aload_n 0, 1, 0, 0), (13, .aload_n 1, 1, 0, 0), (14, .invokevirtual 141, 3, 0, 0), (17, .aload_n 0, 1, 0, 0), (18, .aload_n 1, 1, 0, 0), (19, .invokevirtual 144, 3, 0, 0), (22, .aload_n 0, 1, 0, 0), (23, .aload_n 1, 1, 0, 0), (24, .invokevirtual 147, 3, 0, 0), (27, .aload_n 0, 1, 0, 0), (28, .dup, 1, 0, 0), (29, .getfield 81, 3, 0, 0), (32, .iconst 1, 1, 0, 1), (33, .iadd, 1, 0, 0), (34, .putfield 81, 3, 0, 0), (37, .iconst 0, 1, 0, 0), (38, .istore_n 2, 1, 0, 0), (39, .iload_n 2, 1, 0, 0), (40, .aload_n 1, 1, 0, 0), (41, .getfield 150, 3, 0, 0), (44, .if_icmp .ge 31, 3, 75, 0), (47, .aload_n 0, 1, 0, 0), (48, .getfield 61, 3, 0, 0), (51, .iload_n 2, 1, 0, 0), (52, .iconst 0, 1, 0, 0), (53, .aload_n 0, 1, 0, 0), (54, .getfield 61, 3, 0, 0), (57, .iload_n 2, 1, 0, 0), (58, .invokevirtual 131, 3, 0, 0), (61, .iconst 1, 1, 0, 1), (62, .isub, 1, 0, 0), (63, .invokestatic 153, 3, 0, 0), (66, .invokevirtual 123, 3, 0, 0), (69, .iinc 2 1, 3, 0, 1), (72, .goto (-33), 3, 39, 0), (75, .return_, 1, 0, 0)]
def P_State_longestJam : List PE := [(0, .iconst 0, 1, 0, 0), (1, .istore_n 2, 1, 0, 0), (2, .iconst 0, 1, 0, 0), (3, .istore_n 3, 1, 0, 0), (4, .iload_n 3, 1, 0, 0), (5, .aload_n 1, 1, 0, 0), (6, .getfield 150, 3, 0, 0), (9, .if_icmp .ge 20, 3, 29, 0), (12, .iload_n 2, 1, 0, 0), (13, .aload_n 0, 1, 0, 0), (14, .aload_n 1, 1, 0, 0), (15, .iload_n 3, 1, 0, 0), (16, .invokevirtual 287, 3, 0, 0), (19, .invokestatic 153, 3, 0, 0), (22, .istore_n 2, 1, 0, 0), (23, .iinc 3 1, 3, 0, 1), (26, .goto (-22), 3, 4, 0), (29, .iload_n 2, 1, 0, 0), (30, .ireturn, 1, 0, 0)]
def P_Acts_keep : List PE := [(0, .aload_n 0, 1, 0, 0), (1, .getfield 22, 3, 0, 0), (4, .ifCond .lt 27, 3, 31, 0), (7, .aload_n 0, 1, 0, 0), (8, .getfield 22, 3, 0, 0), (11, .aload_n 0, 1, 0, 0), (12, .getfield 11, 3, 0, 0), (15, .arraylength, 1, 0, 0), (16, .if_icmp .ge 15, 3, 31, 0), (19, .aload_n 0, 1, 0, 0), (20, .getfield 11, 3, 0, 0), (23, .aload_n 0, 1, 0, 0), (24, .getfield 22, 3, 0, 0), (27, .aaload, 1, 0, 0), (28, .ifnonnull 4, 3, 32, 0), (31, .return_, 1, 0, 0), (32, .aload_n 0, 1, 0, 0), (33, .getfield 11, 3, 0, 0), (36, .aload_n 0, 1, 0, 0), (37, .getfield 22, 3, 0, 0), (40, .aaload, 1, 0, 0), (41, .aload_n 1, 1, 0, 0), (42, .invokevirtual 25, 3, 0, 0), (45, .aload_n 0, 1, 0, 0), (46, .aload_n 0, 1, 0, 0), (47, .getfield 22, 3, 0, 0), (50, .iconst 1, 1, 0, 1), (51, .iadd, 1, 0, 0), (52, .bipush 10, 2, 0, 10), (54, .if_icmp .ge 12, 3, 66, 0), (57, .aload_n 0, 1, 0, 0), (58, .getfield 22, 3, 0, 0), (61, .iconst 1, 1, 0, 1), (62, .iadd, 1, 0, 0), (63, .goto 4, 3, 67, 0), (66, .iconst 0, 1, 0, 0), (67, .putfield 22, 3, 0, 0), (70, .aload_n 0, 1, 0, 0), (71, .aload_n 0, 1, 0, 0), (72, .getfield 18, 3, 0, 0), (75, .iconst 1, 1, 0, 1), (76, .iadd, 1, 0, 0), (77, .bipush 10, 2, 0, 10), (79, .invokestatic 29, 3, 0, 0), (82, .putfield 18, 3, 0, 0), (85, .return_, 1, 0, 0)]
def P_Acts_giveBack : List PE := [(0, .aload_n 0, 1, 0, 0), (1, .getfield 22, 3, 0, 0), (4, .ifCond .le 12, 3, 16, 0), (7, .aload_n 0, 1, 0, 0), (8, .getfield 22, 3, 0, 0), (11, .iconst 1, 1, 0, 1), (12, .isub, 1, 0, 0), (13, .goto 5, 3, 18, 0), (16, .bipush 9, 2, 0, 9), (18, .istore_n 2, 1, 0, 0), (19, .aload_n 0, 1, 0, 0), (20, .getfield 18, 3, 0, 0), (23, .ifCond .eq 21, 3, 44, 0), (26, .iload_n 2, 1, 0, 0), (27, .aload_n 0, 1, 0, 0), (28, .getfield 11, 3, 0, 0), (31, .arraylength, 1, 0, 0), (32, .if_icmp .ge 12, 3, 44, 0), (35, .aload_n 0, 1, 0, 0), (36, .getfield 11, 3, 0, 0), (39, .iload_n 2, 1, 0, 0), (40, .aaload, 1, 0, 0), (41, .ifnonnull 5, 3, 46, 0), (44, .iconst (-1), 1, 0, (-1)), (45, .ireturn, 1, 0, 0), (46, .aload_n 1, 1, 0, 0), (47, .aload_n 0, 1, 0, 0), (48, .getfield 11, 3, 0, 0), (51, .iload_n 2, 1, 0, 0), (52, .aaload, 1, 0, 0), (53, .invokevirtual 25, 3, 0, 0), (56, .aload_n 0, 1, 0, 0), (57, .iload_n 2, 1, 0, 0), (58, .putfield 22, 3, 0, 0), (61, .aload_n 0, 1, 0, 0), (62, .dup, 1, 0, 0), (63, .getfield 18, 3, 0, 0), (66, .iconst 1, 1, 0, 1), (67, .isub, 1, 0, 0), (68, .putfield 18, 3, 0, 0), (71, .aload_n 0, 1, 0, 0), (72, .getfield 18, 3, 0, 0), (75, .ireturn, 1, 0, 0)]
def P_Mo_gives : List PE := [(0, .iconst 0, 1, 0, 0), (1, .istore_n 3, 1, 0, 0), (2, .iload_n 3, 1, 0, 0), (3, .aload_n 0, 1, 0, 0), (4, .getfield 9, 3, 0, 0), (7, .iconst 3, 1, 0, 3), (8, .iaload, 1, 0, 0), (9, .if_icmp .ge 40, 3, 49, 0), (12, .aload_n 0, 1, 0, 0), (13, .iload_n 3, 1, 0, 0), (14, .invokevirtual 116, 3, 0, 0), (17, .ifCond .eq 26, 3, 43, 0), (20, .aload_n 0, 1, 0, 0), (21, .getfield 9, 3, 0, 0), (24, .bipush 66, 2, 0, 66), (26, .bipush 10, 2, 0, 10), (28, .iload_n 3, 1, 0, 0), (29, .imul, 1, 0, 0), (30, .iadd, 1, 0, 0), (31, .iconst 5, 1, 0, 5), (32, .iadd, 1, 0, 0), (33, .dup2, 1, 0, 0), (34, .iaload, 1, 0, 0), (35, .aload_n 0, 1, 0, 0), (36, .iload_n 3, 1, 0, 0), (37, .iconst 3, 1, 0, 3), (38, .invokevirtual 61, 3, 0, 0), (41, .iadd, 1, 0, 0), (42, .iastore, 1, 0, 0), (43, .iinc 3 1, 3, 0, 1), (46, .goto (-44), 3, 2, 0), (49, .aload_n 0, 1, 0, 0), (50, .getfield 9, 3, 0, 0), (53, .bipush 66, 2, 0, 66), (55, .bipush 10, 2, 0, 10), (57, .iload_n 1, 1, 0, 0), (58, .imul, 1, 0, 0), (59, .iadd, 1, 0, 0), (60, .iconst 5, 1, 0, 5), (61, .iadd, 1, 0, 0), (62, .dup2, 1, 0, 0), (63, .iaload, 1, 0, 0), (64, .iload_n 2, 1, 0, 0), (65, .isub, 1, 0, 0), (66, .iastore, 1, 0, 0), (67, .aload_n 0, 1, 0, 0), (68, .getfield 9, 3, 0, 0), (71, .sipush 174, 3, 0, 174), (74, .bipush 6, 2, 0, 6), (76, .aload_n 0, 1, 0, 0), (77, .iload_n 1, 1, 0, 0), (78, .invokevirtual 113, 3, 0, 0), (81, .imul, 1, 0, 0), (82, .iadd, 1, 0, 0), (83, .iconst 5, 1, 0, 5), (84, .iadd, 1, 0, 0), (85, .iload_n 1, 1, 0, 0), (86, .iastore, 1, 0, 0), (87, .return_, 1, 0, 0)]
def P_Mo_isWord : List PE := [(0, .aload_n 0, 1, 0, 0), (1, .getfield 297, 3, 0, 0), (4, .ifCond .ne 31, 3, 35, 0), (7, .aload_n 0, 1, 0, 0), (8, .getfield 291, 3, 0, 0), (11, .iconst 1, 1, 0, 1), (12, .if_icmp .ne 23, 3, 35, 0), (15, .aload_n 1, 1, 0, 0), (16, .invokevirtual 309, 3, 0, 0), (19, .aload_n 0, 1, 0, 0), (20, .getfield 294, 3, 0, 0), (23, .aload_n 0, 1, 0, 0), (24, .getfield 288, 3, 0, 0), (27, .isub, 1, 0, 0), (28, .if_icmp .ne 7, 3, 35, 0), (31, .iconst 1, 1, 0, 1), (32, .goto 4, 3, 36, 0), (35, .iconst 0, 1, 0, 0), (36, .istore_n 2, 1, 0, 0), (37, .iconst 0, 1, 0, 0), (38, .istore_n 3, 1, 0, 0), (39, .iload_n 2, 1, 0, 0), (40, .ifCond .eq 42, 3, 82, 0), (43, .iload_n 3, 1, 0, 0), (44, .aload_n 1, 1, 0, 0), (45, .invokevirtual 309, 3, 0, 0), (48, .if_icmp .ge 34, 3, 82, 0), (51, .aload_n 1, 1, 0, 0), (52, .iload_n 3, 1, 0, 0), (53, .invokevirtual 314, 3, 0, 0), (56, .aload_n 0, 1, 0, 0), (57, .getfield 36, 3, 0, 0), (60, .aload_n 0, 1, 0, 0), (61, .getfield 288, 3, 0, 0), (64, .iload_n 3, 1, 0, 0), (65, .iadd, 1, 0, 0), (66, .iaload, 1, 0, 0), (67, .if_icmp .ne 7, 3, 74, 0), (70, .iconst 1, 1, 0, 1), (71, .goto 4, 3, 75, 0), (74, .iconst 0, 1, 0, 0), (75, .istore_n 2, 1, 0, 0), (76, .iinc 3 1, 3, 0, 1), (79, .goto (-40), 3, 39, 0), (82, .iload_n 2, 1, 0, 0), (83, .ireturn, 1, 0, 0)]
def P_Mo_readExit : List PE := [(0, .aload_n 0, 1, 0, 0), (1, .getfield 13, 3, 0, 0), (4, .iconst 1, 1, 0, 1), (5, .iaload, 1, 0, 0), (6, .bipush 6, 2, 0, 6), (8, .if_icmp .ne 8, 3, 16, 0), (11, .aload_n 0, 1, 0, 0), (12, .iconst 4, 1, 0, 4), (13, .invokevirtual 321, 3, 0, 0), (16, .aload_n 0, 1, 0, 0), (17, .invokevirtual 324, 3, 0, 0), (20, .bipush 12, 2, 0, 12), (22, .iconst 5, 1, 0, 5), (23, .iconst 5, 1, 0, 5), (24, .aload_n 0, 1, 0, 0), (25, .getfield 13, 3, 0, 0), (28, .iconst 1, 1, 0, 1), (29, .iaload, 1, 0, 0), (30, .invokestatic 89, 3, 0, 0), (33, .imul, 1, 0, 0), (34, .iadd, 1, 0, 0), (35, .istore_n 1, 1, 0, 0), (36, .aload_n 0, 1, 0, 0), (37, .bipush 12, 2, 0, 12), (39, .iconst 5, 1, 0, 5), (40, .aload_n 0, 1, 0, 0), (41, .getfield 13, 3, 0, 0), (44, .iconst 1, 1, 0, 1), (45, .iaload, 1, 0, 0), (46, .invokevirtual 331, 3, 0, 0), (49, .istore_n 2, 1, 0, 0), (50, .aload_n 0, 1, 0, 0), (51, .iconst 1, 1, 0, 1), (52, .bipush 9, 2, 0, 9), (54, .invokevirtual 335, 3, 0, 0), (57, .istore_n 3, 1, 0, 0), (58, .aload_n 0, 1, 0, 0), (59, .getfield 297, 3, 0, 0), (62, .ifCond .eq 4, 3, 66, 0), (65, .return_, 1, 0, 0), (66, .aload_n 0, 1, 0, 0), (67, .getfield 13, 3, 0, 0), (70, .iload_n 1, 1, 0, 0), (71, .iconst 0, 1, 0, 0), (72, .iadd, 1, 0, 0), (73, .iload_n 2, 1, 0, 0), (74, .iastore, 1, 0, 0), (75, .aload_n 0, 1, 0, 0), (76, .getfield 13, 3, 0, 0), (79, .iload_n 1, 1, 0, 0), (80, .iconst 1, 1, 0, 1), (81, .iadd, 1, 0, 0), (82, .iload_n 3, 1, 0, 0), (83, .iastore, 1, 0, 0), (84, .aload_n 0, 1, 0, 0), (85, .getfield 13, 3, 0, 0), (88, .iload_n 1, 1, 0, 0), (89, .iconst 3, 1, 0, 3), (90, .iadd, 1, 0, 0), (91, .iconst (-1), 1, 0, (-1)), (92, .iastore, 1, 0, 0), (93, .aload_n 0, 1, 0, 0), (94, .getfield 13, 3, 0, 0), (97, .iconst 1, 1, 0, 1), (98, .dup2, 1, 0, 0), (99, .iaload, 1, 0, 0), (100, .iconst 1, 1, 0, 1), (101, .iadd, 1, 0, 0), (102, .iastore, 1, 0, 0), (103, .return_, 1, 0, 0)]
def P_Mo_readSide : List PE := [(0, .aload_n 0, 1, 0, 0), (1, .getfield 13, 3, 0, 0), (4, .iconst 3, 1, 0, 3), (5, .iaload, 1, 0, 0), (6, .bipush 6, 2, 0, 6), (8, .if_icmp .ne 8, 3, 16, 0), (11, .aload_n 0, 1, 0, 0), (12, .iconst 4, 1, 0, 4), (13, .invokevirtual 321, 3, 0, 0), (16, .aload_n 0, 1, 0, 0), (17, .invokevirtual 324, 3, 0, 0), (20, .aload_n 0, 1, 0, 0), (21, .bipush 66, 2, 0, 66), (23, .bipush 10, 2, 0, 10), (25, .aload_n 0, 1, 0, 0), (26, .getfield 13, 3, 0, 0), (29, .iconst 3, 1, 0, 3), (30, .iaload, 1, 0, 0), (31, .invokevirtual 331, 3, 0, 0), (34, .istore_n 1, 1, 0, 0), (35, .aload_n 0, 1, 0, 0), (36, .iconst 1, 1, 0, 1), (37, .bipush 20, 2, 0, 20), (39, .invokevirtual 335, 3, 0, 0), (42, .istore_n 2, 1, 0, 0), (43, .aload_n 0, 1, 0, 0), (44, .iconst 0, 1, 0, 0), (45, .aload_n 0, 1, 0, 0), (46, .getfield 13, 3, 0, 0), (49, .iconst 0, 1, 0, 0), (50, .iaload, 1, 0, 0), (51, .iconst 1, 1, 0, 1), (52, .isub, 1, 0, 0), (53, .invokevirtual 335, 3, 0, 0), (56, .istore_n 3, 1, 0, 0), (57, .aload_n 0, 1, 0, 0), (58, .iconst 1, 1, 0, 1), (59, .bipush 9, 2, 0, 9), (61, .invokevirtual 335, 3, 0, 0), (64, .istore 4, 2, 0, 0), (66, .aload_n 0, 1, 0, 0), (67, .getfield 297, 3, 0, 0), (70, .ifCond .eq 4, 3, 74, 0), (73, .return_, 1, 0, 0), (74, .bipush 66, 2, 0, 66), (76, .bipush 10, 2, 0, 10), (78, .aload_n 0, 1, 0, 0), (79, .getfield 13, 3, 0, 0), (82, .iconst 3, 1, 0, 3), (83, .iaload, 1, 0, 0), (84, .imul, 1, 0, 0), (85, .iadd, 1, 0, 0), (86, .istore 5, 2, 0, 0), (88, .aload_n 0, 1, 0, 0), (89, .getfield 13, 3, 0, 0), (92, .iload 5, 2, 0, 0), (94, .iconst 0, 1, 0, 0), (95, .iadd, 1, 0, 0), (96, .iload_n 1, 1, 0, 0), (97, .iastore, 1, 0, 0), (98, .aload_n 0, 1, 0, 0), (99, .getfield 13, 3, 0, 0), (102, .iload 5, 2, 0, 0), (104, .iconst 1, 1, 0, 1), (105, .iadd, 1, 0, 0), (106, .iload_n 2, 1, 0, 0), (107, .iastore, 1, 0, 0), (108, .aload_n 0, 1, 0, 0), (109, .getfield 13, 3, 0, 0), (112, .iload 5, 2, 0, 0), (114, .iconst 2, 1, 0, 2), (115, .iadd, 1, 0, 0), (116, .iload_n 3, 1, 0, 0), (117, .iastore, 1, 0, 0), (118, .aload_n 0, 1, 0, 0), (119, .getfield 13, 3, 0, 0), (122, .iload 5, 2, 0, 0), (124, .iconst 3, 1, 0, 3), (125, .iadd, 1, 0, 0), (126, .iload 4, 2, 0, 0), (128, .iastore, 1, 0, 0), (129, .aload_n 0, 1, 0, 0), (130, .getfield 13, 3, 0, 0), (133, .iconst 3, 1, 0, 3), (134, .dup2, 1, 0, 0), (135, .iaload, 1, 0, 0), (136, .iconst 1, 1, 0, 1), (137, .iadd, 1, 0, 0), (138, .iastore, 1, 0, 0), (139, .return_, 1, 0, 0)]
def P_Mo_readComing : List PE := [(0, .aload_n 0, 1, 0, 0), (1, .getfield 13, 3, 0, 0), (4, .iconst 4, 1, 0, 4), (5, .iaload, 1, 0, 0), (6, .bipush 12, 2, 0, 12), (8, .if_icmp .ne 8, 3, 16, 0), (11, .aload_n 0, 1, 0, 0), (12, .iconst 4, 1, 0, 4), (13, .invokevirtual 321, 3, 0, 0), (16, .aload_n 0, 1, 0, 0), (17, .invokevirtual 324, 3, 0, 0), (20, .aload_n 0, 1, 0, 0), (21, .iconst 0, 1, 0, 0), (22, .aload_n 0, 1, 0, 0), (23, .getfield 13, 3, 0, 0), (26, .iconst 3, 1, 0, 3), (27, .iaload, 1, 0, 0), (28, .iconst 1, 1, 0, 1), (29, .isub, 1, 0, 0), (30, .invokevirtual 335, 3, 0, 0), (33, .istore_n 1, 1, 0, 0), (34, .aload_n 0, 1, 0, 0), (35, .iconst 0, 1, 0, 0), (36, .aload_n 0, 1, 0, 0), (37, .getfield 13, 3, 0, 0), (40, .iconst 2, 1, 0, 2), (41, .iaload, 1, 0, 0), (42, .iconst 1, 1, 0, 1), (43, .isub, 1, 0, 0), (44, .invokevirtual 335, 3, 0, 0), (47, .istore_n 2, 1, 0, 0), (48, .aload_n 0, 1, 0, 0), (49, .iconst 1, 1, 0, 1), (50, .bipush 30, 2, 0, 30), (52, .invokevirtual 335, 3, 0, 0), (55, .istore_n 3, 1, 0, 0), (56, .aload_n 0, 1, 0, 0), (57, .iconst 0, 1, 0, 0), (58, .sipush 999, 3, 0, 999), (61, .invokevirtual 335, 3, 0, 0), (64, .istore 4, 2, 0, 0), (66, .aload_n 0, 1, 0, 0), (67, .getfield 297, 3, 0, 0), (70, .ifCond .eq 4, 3, 74, 0), (73, .return_, 1, 0, 0), (74, .bipush 126, 2, 0, 126), (76, .iconst 4, 1, 0, 4), (77, .aload_n 0, 1, 0, 0), (78, .getfield 13, 3, 0, 0), (81, .iconst 4, 1, 0, 4), (82, .iaload, 1, 0, 0), (83, .imul, 1, 0, 0), (84, .iadd, 1, 0, 0), (85, .istore 5, 2, 0, 0), (87, .aload_n 0, 1, 0, 0), (88, .getfield 13, 3, 0, 0), (91, .iload 5, 2, 0, 0), (93, .iconst 0, 1, 0, 0), (94, .iadd, 1, 0, 0), (95, .iload_n 1, 1, 0, 0), (96, .iastore, 1, 0, 0), (97, .aload_n 0, 1, 0, 0), (98, .getfield 13, 3, 0, 0), (101, .iload 5, 2, 0, 0), (103, .iconst 1, 1, 0, 1), (104, .iadd, 1, 0, 0), (105, .iload_n 2, 1, 0, 0), (106, .iastore, 1, 0, 0), (107, .aload_n 0, 1, 0, 0), (108, .getfield 13, 3, 0, 0), (111, .iload 5, 2, 0, 0), (113, .iconst 2, 1, 0, 2), (114, .iadd, 1, 0, 0), (115, .iload_n 3, 1, 0, 0), (116, .iastore, 1, 0, 0), (117, .aload_n 0, 1, 0, 0), (118, .getfield 13, 3, 0, 0), (121, .iload 5, 2, 0, 0), (123, .iconst 3, 1, 0, 3), (124, .iadd, 1, 0, 0), (125, .iload 4, 2, 0, 0), (127, .iastore, 1, 0, 0), (128, .aload_n 0, 1, 0, 0), (129, .getfield 13, 3, 0, 0), (132, .iconst 4, 1, 0, 4), (133, .dup2, 1, 0, 0), (134, .iaload, 1, 0, 0), (135, .iconst 1, 1, 0, 1), (136, .iadd, 1, 0, 0), (137, .iastore, 1, 0, 0), (138, .return_, 1, 0, 0)]
def P_Law_exit : List PE := [(0, .aload_n 3, 1, 0, 0), (1, .iconst 0, 1, 0, 0), (2, .aload_n 0, 1, 0, 0), (3, .iload_n 1, 1, 0, 0), (4, .iload_n 2, 1, 0, 0), (5, .invokevirtual 24, 3, 0, 0), (8, .i2l, 1, 0, 0), (9, .lastore, 1, 0, 0), (10, .goto 7, 3, 17, 0), (13, .astore 4, 2, 0, 0), (15, .iconst 1, 1, 0, 1), (16, .ireturn, 1, 0, 0), (17, .iconst 0, 1, 0, 0), (18, .ireturn, 1, 0, 0)]
def P_MB_push : List PE := [(0, .iload_n 1, 1, 0, 0), (1, .aload_n 0, 1, 0, 0), (2, .getfield 33, 3, 0, 0), (5, .getfield 105, 3, 0, 0), (8, .invokestatic 162, 3, 0, 0), (11, .ifCond .eq 28, 3, 39, 0), (14, .iload_n 2, 1, 0, 0), (15, .aload_n 0, 1, 0, 0), (16, .getfield 33, 3, 0, 0), (19, .getfield 102, 3, 0, 0), (22, .invokestatic 162, 3, 0, 0), (25, .ifCond .eq 14, 3, 39, 0), (28, .aload_n 0, 1, 0, 0), (29, .getfield 40, 3, 0, 0), (32, .iload_n 1, 1, 0, 0), (33, .invokevirtual 281, 3, 0, 0), (36, .ifCond .eq 5, 3, 41, 0), (39, .iconst (-1), 1, 0, (-1)), (40, .ireturn, 1, 0, 0), (41, .aload_n 0, 1, 0, 0), (42, .getfield 47, 3, 0, 0), (45, .aload_n 0, 1, 0, 0), (46, .getfield 40, 3, 0, 0), (49, .invokevirtual 273, 3, 0, 0), (52, .aload_n 0, 1, 0, 0), (53, .getfield 40, 3, 0, 0), (56, .getfield 127, 3, 0, 0), (59, .iload_n 1, 1, 0, 0), (60, .iload_n 2, 1, 0, 0), (61, .aload_n 0, 1, 0, 0), (62, .getfield 40, 3, 0, 0), (65, .getfield 111, 3, 0, 0), (68, .invokevirtual 285, 3, 0, 0), (71, .aload_n 0, 1, 0, 0), (72, .getfield 40, 3, 0, 0), (75, .getfield 127, 3, 0, 0), (78, .getfield 131, 3, 0, 0), (81, .iload_n 1, 1, 0, 0), (82, .invokevirtual 185, 3, 0, 0), (85, .ireturn, 1, 0, 0)]
def P_MB_undo : List PE := [(0, .aload_n 0, 1, 0, 0), (1, .getfield 47, 3, 0, 0), (4, .aload_n 0, 1, 0, 0), (5, .getfield 40, 3, 0, 0), (8, .invokevirtual 296, 3, 0, 0), (11, .ireturn, 1, 0, 0)]
def P_MB_shut : List PE := [(0, .iload_n 1, 1, 0, 0), (1, .aload_n 0, 1, 0, 0), (2, .getfield 33, 3, 0, 0), (5, .getfield 99, 3, 0, 0), (8, .invokestatic 162, 3, 0, 0), (11, .ifCond .ne 11, 3, 22, 0), (14, .new 159, 3, 0, 0), (17, .dup, 1, 0, 0), (18, .invokespecial 161, 3, 0, 0), (21, .athrow, 1, 0, 0), (22, .iload_n 2, 1, 0, 0), (23, .ifCond .lt 10, 3, 33, 0), (26, .iload_n 2, 1, 0, 0), (27, .sipush 999, 3, 0, 999), (30, .if_icmp .le 11, 3, 41, 0), (33, .new 81, 3, 0, 0), (36, .dup, 1, 0, 0), (37, .invokespecial 83, 3, 0, 0), (40, .athrow, 1, 0, 0), (41, .aload_n 0, 1, 0, 0), (42, .getfield 47, 3, 0, 0), (45, .aload_n 0, 1, 0, 0), (46, .getfield 40, 3, 0, 0), (49, .invokevirtual 273, 3, 0, 0), (52, .aload_n 0, 1, 0, 0), (53, .getfield 40, 3, 0, 0), (56, .getfield 191, 3, 0, 0), (59, .iload_n 1, 1, 0, 0), (60, .invokevirtual 185, 3, 0, 0), (63, .istore_n 3, 1, 0, 0), (64, .aload_n 0, 1, 0, 0), (65, .getfield 40, 3, 0, 0), (68, .getfield 191, 3, 0, 0), (71, .iload_n 1, 1, 0, 0), (72, .iload_n 2, 1, 0, 0), (73, .invokevirtual 289, 3, 0, 0), (76, .iload_n 3, 1, 0, 0), (77, .ireturn, 1, 0, 0)]
def P_MB_change : List PE := [(0, .iload_n 1, 1, 0, 0), (1, .aload_n 0, 1, 0, 0), (2, .getfield 33, 3, 0, 0), (5, .getfield 105, 3, 0, 0), (8, .invokestatic 162, 3, 0, 0), (11, .ifCond .eq 11, 3, 22, 0), (14, .iload_n 2, 1, 0, 0), (15, .iconst 3, 1, 0, 3), (16, .invokestatic 162, 3, 0, 0), (19, .ifCond .ne 11, 3, 30, 0), (22, .new 159, 3, 0, 0), (25, .dup, 1, 0, 0), (26, .invokespecial 161, 3, 0, 0), (29, .athrow, 1, 0, 0), (30, .aload_n 0, 1, 0, 0), (31, .iload_n 2, 1, 0, 0), (32, .iload_n 3, 1, 0, 0), (33, .invokevirtual 293, 3, 0, 0), (36, .ifCond .ne 11, 3, 47, 0), (39, .new 81, 3, 0, 0), (42, .dup, 1, 0, 0), (43, .invokespecial 83, 3, 0, 0), (46, .athrow, 1, 0, 0), (47, .aload_n 0, 1, 0, 0), (48, .getfield 47, 3, 0, 0), (51, .aload_n 0, 1, 0, 0), (52, .getfield 40, 3, 0, 0), (55, .invokevirtual 273, 3, 0, 0), (58, .iload_n 2, 1, 0, 0), (59, .ifCond .ne 13, 3, 72, 0), (62, .aload_n 0, 1, 0, 0), (63, .getfield 40, 3, 0, 0), (66, .getfield 219, 3, 0, 0), (69, .goto 25, 3, 94, 0), (72, .iload_n 2, 1, 0, 0), (73, .iconst 1, 1, 0, 1), (74, .if_icmp .ne 13, 3, 87, 0), (77, .aload_n 0, 1, 0, 0), (78, .getfield 40, 3, 0, 0), (81, .getfield 222, 3, 0, 0), (84, .goto 10, 3, 94, 0), (87, .aload_n 0, 1, 0, 0), (88, .getfield 40, 3, 0, 0), (91, .getfield 225, 3, 0, 0), (94, .astore 4, 2, 0, 0), (96, .aload 4, 2, 0, 0), (98, .iload_n 1, 1, 0, 0), (99, .invokevirtual 185, 3, 0, 0), (102, .istore 5, 2, 0, 0), (104, .aload 4, 2, 0, 0), (106, .iload_n 1, 1, 0, 0), (107, .iload_n 3, 1, 0, 0), (108, .invokevirtual 289, 3, 0, 0), (111, .iload 5, 2, 0, 0), (113, .ireturn, 1, 0, 0)]
def P_MB_findAgain : List PE := [(0, .aload_n 0, 1, 0, 0), (1, .getfield 51, 3, 0, 0), (4, .aload_n 0, 1, 0, 0), (5, .getfield 40, 3, 0, 0), (8, .invokevirtual 300, 3, 0, 0), (11, .iconst 0, 1, 0, 0), (12, .istore_n 1, 1, 0, 0), (13, .iload_n 1, 1, 0, 0), (14, .sipush 500, 3, 0, 500), (17, .if_icmp .ge 20, 3, 37, 0), (20, .aload_n 0, 1, 0, 0), (21, .getfield 51, 3, 0, 0), (24, .aload_n 0, 1, 0, 0), (25, .getfield 33, 3, 0, 0), (28, .invokevirtual 351, 3, 0, 0), (31, .iinc 1 1, 3, 0, 1), (34, .goto (-21), 3, 13, 0), (37, .aload_n 0, 1, 0, 0), (38, .getfield 54, 3, 0, 0), (41, .aload_n 0, 1, 0, 0), (42, .getfield 51, 3, 0, 0), (45, .invokevirtual 300, 3, 0, 0), (48, .iconst 1, 1, 0, 1), (49, .istore_n 1, 1, 0, 0), (50, .aload_n 0, 1, 0, 0), (51, .getfield 54, 3, 0, 0), (54, .aload_n 0, 1, 0, 0), (55, .getfield 33, 3, 0, 0), (58, .invokevirtual 351, 3, 0, 0), (61, .iload_n 1, 1, 0, 0), (62, .sipush 500, 3, 0, 500), (65, .if_icmp .ge 38, 3, 103, 0), (68, .aload_n 0, 1, 0, 0), (69, .getfield 54, 3, 0, 0), (72, .aload_n 0, 1, 0, 0), (73, .getfield 51, 3, 0, 0), (76, .aload_n 0, 1, 0, 0), (77, .getfield 33, 3, 0, 0), (80, .invokevirtual 354, 3, 0, 0), (83, .ifCond .ne 20, 3, 103, 0), (86, .aload_n 0, 1, 0, 0), (87, .getfield 54, 3, 0, 0), (90, .aload_n 0, 1, 0, 0), (91, .getfield 33, 3, 0, 0), (94, .invokevirtual 351, 3, 0, 0), (97, .iinc 1 1, 3, 0, 1), (100, .goto (-39), 3, 61, 0), (103, .aload_n 0, 1, 0, 0), (104, .getfield 51, 3, 0, 0), (107, .aload_n 0, 1, 0, 0), (108, .getfield 40, 3, 0, 0), (111, .invokevirtual 300, 3, 0, 0), (114, .aload_n 0, 1, 0, 0), (115, .getfield 54, 3, 0, 0), (118, .aload_n 0, 1, 0, 0), (119, .getfield 40, 3, 0, 0), (122, .invokevirtual 300, 3, 0, 0), (125, .iconst 0, 1, 0, 0), (126, .istore_n 2, 1, 0, 0), (127, .iload_n 2, 1, 0, 0), (128, .iload_n 1, 1, 0, 0), (129, .if_icmp .ge 20, 3, 149, 0), (132, .aload_n 0, 1, 0, 0), (133, .getfield 54, 3, 0, 0), (136, .aload_n 0, 1, 0, 0), (137, .getfield 33, 3, 0, 0), (140, .invokevirtual 351, 3, 0, 0), (143, .iinc 2 1, 3, 0, 1), (146, .goto (-19), 3, 127, 0), (149, .iconst 0, 1, 0, 0), (150, .istore_n 2, 1, 0, 0), (151, .iload_n 2, 1, 0, 0), (152, .iload_n 1, 1, 0, 0), (153, .iadd, 1, 0, 0), (154, .sipush 500, 3, 0, 500), (157, .if_icmp .gt 51, 3, 208, 0), (160, .aload_n 0, 1, 0, 0), (161, .getfield 51, 3, 0, 0), (164, .aload_n 0, 1, 0, 0), (165, .getfield 54, 3, 0, 0), (168, .aload_n 0, 1, 0, 0), (169, .getfield 33, 3, 0, 0), (172, .invokevirtual 354, 3, 0, 0), (175, .ifCond .eq 5, 3, 180, 0), (178, .iload_n 1, 1, 0, 0), (179, .ireturn, 1, 0, 0), (180, .aload_n 0, 1, 0, 0), (181, .getfield 51, 3, 0, 0), (184, .aload_n 0, 1, 0, 0), (185, .getfield 33, 3, 0, 0), (188, .invokevirtual 351, 3, 0, 0), (191, .aload_n 0, 1, 0, 0), (192, .getfield 54, 3, 0, 0), (195, .aload_n 0, 1, 0, 0), (196, .getfield 33, 3, 0, 0), (199, .invokevirtual 351, 3, 0, 0), (202, .iinc 2 1, 3, 0, 1), (205, .goto (-54), 3, 151, 0), (208, .iconst (-1), 1, 0, (-1)), (209, .ireturn, 1, 0, 0)]
def P_Tape_takeWord : List PE := [(0, .aload_n 0, 1, 0, 0), (1, .aload_n 0, 1, 0, 0), (2, .aload_n 1, 1, 0, 0), (3, .invokevirtual 72, 3, 0, 0), (6, .invokevirtual 76, 3, 0, 0), (9, .return_, 1, 0, 0)]
def P_BeltText_partThere : List PE := [(0, .aload_n 0, 1, 0, 0), (1, .ldc 211, 2, 0, 0), (3, .invokevirtual 54, 3, 0, 0), (6, .ifCond .eq 5, 3, 11, 0), (9, .iconst 0, 1, 0, 0), (10, .ireturn, 1, 0, 0), (11, .aload_n 0, 1, 0, 0), (12, .ldc 213, 2, 0, 0), (14, .invokevirtual 54, 3, 0, 0), (17, .ifCond .eq 5, 3, 22, 0), (20, .iconst 1, 1, 0, 1), (21, .ireturn, 1, 0, 0), (22, .aload_n 0, 1, 0, 0), (23, .ldc 215, 2, 0, 0), (25, .invokevirtual 54, 3, 0, 0), (28, .ifCond .eq 5, 3, 33, 0), (31, .iconst 2, 1, 0, 2), (32, .ireturn, 1, 0, 0), (33, .aload_n 0, 1, 0, 0), (34, .ldc 217, 2, 0, 0), (36, .invokevirtual 54, 3, 0, 0), (39, .ifCond .eq 5, 3, 44, 0), (42, .iconst 3, 1, 0, 3), (43, .ireturn, 1, 0, 0), (44, .aload_n 0, 1, 0, 0), (45, .ldc 219, 2, 0, 0), (47, .invokevirtual 54, 3, 0, 0), (50, .ifCond .eq 5, 3, 55, 0), (53, .iconst 4, 1, 0, 4), (54, .ireturn, 1, 0, 0), (55, .aload_n 0, 1, 0, 0), (56, .ldc 221, 2, 0, 0), (58, .invokevirtual 54, 3, 0, 0), (61, .ifCond .eq 5, 3, 66, 0), (64, .iconst 5, 1, 0, 5), (65, .ireturn, 1, 0, 0), (66, .aload_n 0, 1, 0, 0), (67, .ldc 130, 2, 0, 0), (69, .invokevirtual 54, 3, 0, 0), (72, .ifCond .eq 6, 3, 78, 0), (75, .bipush 6, 2, 0, 6), (77, .ireturn, 1, 0, 0), (78, .aload_n 0, 1, 0, 0), (79, .ldc 67, 2, 0, 0), (81, .invokevirtual 54, 3, 0, 0), (84, .ifCond .eq 8, 3, 92, 0), (87, .bipush 7, 2, 0, 7), (89, .goto 4, 3, 93, 0), (92, .iconst (-1), 1, 0, (-1)), (93, .ireturn, 1, 0, 0)]
def P_Question_partThere : List PE := [(0, .aload_n 0, 1, 0, 0), (1, .ldc 123, 2, 0, 0), (3, .invokevirtual 37, 3, 0, 0), (6, .ifCond .eq 5, 3, 11, 0), (9, .iconst 0, 1, 0, 0), (10, .ireturn, 1, 0, 0), (11, .aload_n 0, 1, 0, 0), (12, .ldc 125, 2, 0, 0), (14, .invokevirtual 37, 3, 0, 0), (17, .ifCond .eq 5, 3, 22, 0), (20, .iconst 1, 1, 0, 1), (21, .ireturn, 1, 0, 0), (22, .aload_n 0, 1, 0, 0), (23, .ldc 127, 2, 0, 0), (25, .invokevirtual 37, 3, 0, 0), (28, .ifCond .eq 5, 3, 33, 0), (31, .iconst 2, 1, 0, 2), (32, .ireturn, 1, 0, 0), (33, .aload_n 0, 1, 0, 0), (34, .ldc 129, 2, 0, 0), (36, .invokevirtual 37, 3, 0, 0), (39, .ifCond .eq 5, 3, 44, 0), (42, .iconst 3, 1, 0, 3), (43, .ireturn, 1, 0, 0), (44, .aload_n 0, 1, 0, 0), (45, .ldc 131, 2, 0, 0), (47, .invokevirtual 37, 3, 0, 0), (50, .ifCond .eq 5, 3, 55, 0), (53, .iconst 4, 1, 0, 4), (54, .ireturn, 1, 0, 0), (55, .aload_n 0, 1, 0, 0), (56, .ldc 133, 2, 0, 0), (58, .invokevirtual 37, 3, 0, 0), (61, .ifCond .eq 5, 3, 66, 0), (64, .iconst 5, 1, 0, 5), (65, .ireturn, 1, 0, 0), (66, .aload_n 0, 1, 0, 0), (67, .ldc 135, 2, 0, 0), (69, .invokevirtual 37, 3, 0, 0), (72, .ifCond .eq 6, 3, 78, 0), (75, .bipush 6, 2, 0, 6), (77, .ireturn, 1, 0, 0), (78, .aload_n 0, 1, 0, 0), (79, .ldc 137, 2, 0, 0), (81, .invokevirtual 37, 3, 0, 0), (84, .ifCond .eq 8, 3, 92, 0), (87, .bipush 7, 2, 0, 7), (89, .goto 4, 3, 93, 0), (92, .iconst (-1), 1, 0, (-1)), (93, .ireturn, 1, 0, 0)]
def P_State_run : List PE := [(0, .iconst 0, 1, 0, 0), (1, .istore_n 3, 1, 0, 0), (2, .iload_n 3, 1, 0, 0), (3, .iload_n 2, 1, 0, 0), (4, .if_icmp .ge 14, 3, 18, 0), (7, .aload_n 0, 1, 0, 0), (8, .aload_n 1, 1, 0, 0), (9, .invokevirtual 127, 3, 0, 0), (12, .iinc 3 1, 3, 0, 1), (15, .goto (-13), 3, 2, 0), (18, .return_, 1, 0, 0)]
def P_State_runTillLost : List PE := [(0, .aload_n 0, 1, 0, 0), (1, .getfield 52, 3, 0, 0), (4, .iload_n 2, 1, 0, 0), (5, .invokevirtual 131, 3, 0, 0), (8, .istore 4, 2, 0, 0), (10, .iconst 0, 1, 0, 0), (11, .istore 5, 2, 0, 0), (13, .iload 5, 2, 0, 0), (15, .iload_n 3, 1, 0, 0), (16, .if_icmp .ge 27, 3, 43, 0), (19, .aload_n 0, 1, 0, 0), (20, .getfield 52, 3, 0, 0), (23, .iload_n 2, 1, 0, 0), (24, .invokevirtual 131, 3, 0, 0), (27, .iload 4, 2, 0, 0), (29, .if_icmp .ne 14, 3, 43, 0), (32, .aload_n 0, 1, 0, 0), (33, .aload_n 1, 1, 0, 0), (34, .invokevirtual 127, 3, 0, 0), (37, .iinc 5 1, 3, 0, 1), (40, .goto (-27), 3, 13, 0), (43, .return_, 1, 0, 0)]
def P_Mo_readWare : List PE := [(0, .aload_n 0, 1, 0, 0), (1, .getfield 13, 3, 0, 0), (4, .iconst 2, 1, 0, 2), (5, .iaload, 1, 0, 0), (6, .bipush 8, 2, 0, 8), (8, .if_icmp .ne 8, 3, 16, 0), (11, .aload_n 0, 1, 0, 0), (12, .iconst 4, 1, 0, 4), (13, .invokevirtual 321, 3, 0, 0), (16, .aload_n 0, 1, 0, 0), (17, .invokevirtual 324, 3, 0, 0), (20, .aload_n 0, 1, 0, 0), (21, .iconst 0, 1, 0, 0), (22, .aload_n 0, 1, 0, 0), (23, .getfield 13, 3, 0, 0), (26, .iconst 1, 1, 0, 1), (27, .iaload, 1, 0, 0), (28, .iconst 1, 1, 0, 1), (29, .isub, 1, 0, 0), (30, .invokevirtual 335, 3, 0, 0), (33, .istore_n 1, 1, 0, 0), (34, .aload_n 0, 1, 0, 0), (35, .ldc_w 338, 3, 0, 0), (38, .invokevirtual 340, 3, 0, 0), (41, .istore_n 2, 1, 0, 0), (42, .iload_n 2, 1, 0, 0), (43, .ifCond .eq 7, 3, 50, 0), (46, .aload_n 0, 1, 0, 0), (47, .invokevirtual 324, 3, 0, 0), (50, .aload_n 0, 1, 0, 0), (51, .getfield 297, 3, 0, 0), (54, .ifCond .eq 4, 3, 58, 0), (57, .return_, 1, 0, 0), (58, .aload_n 0, 1, 0, 0), (59, .getfield 13, 3, 0, 0), (62, .bipush 42, 2, 0, 42), (64, .iconst 3, 1, 0, 3), (65, .aload_n 0, 1, 0, 0), (66, .getfield 13, 3, 0, 0), (69, .iconst 2, 1, 0, 2), (70, .iaload, 1, 0, 0), (71, .imul, 1, 0, 0), (72, .iadd, 1, 0, 0), (73, .iconst 0, 1, 0, 0), (74, .iadd, 1, 0, 0), (75, .iload_n 1, 1, 0, 0), (76, .iastore, 1, 0, 0), (77, .aload_n 0, 1, 0, 0), (78, .getfield 13, 3, 0, 0), (81, .bipush 42, 2, 0, 42), (83, .iconst 3, 1, 0, 3), (84, .aload_n 0, 1, 0, 0), (85, .getfield 13, 3, 0, 0), (88, .iconst 2, 1, 0, 2), (89, .iaload, 1, 0, 0), (90, .imul, 1, 0, 0), (91, .iadd, 1, 0, 0), (92, .iconst 1, 1, 0, 1), (93, .iadd, 1, 0, 0), (94, .iload_n 2, 1, 0, 0), (95, .ifCond .eq 7, 3, 102, 0), (98, .iconst 1, 1, 0, 1), (99, .goto 4, 3, 103, 0), (102, .iconst 0, 1, 0, 0), (103, .iastore, 1, 0, 0), (104, .aload_n 0, 1, 0, 0), (105, .getfield 13, 3, 0, 0), (108, .iconst 2, 1, 0, 2), (109, .dup2, 1, 0, 0), (110, .iaload, 1, 0, 0), (111, .iconst 1, 1, 0, 1), (112, .iadd, 1, 0, 0), (113, .iastore, 1, 0, 0), (114, .return_, 1, 0, 0)]
def P_Mo_readValue : List PE := [(0, .aload_n 0, 1, 0, 0), (1, .getfield 297, 3, 0, 0), (4, .ifCond .ne 11, 3, 15, 0), (7, .aload_n 0, 1, 0, 0), (8, .getfield 291, 3, 0, 0), (11, .iconst 2, 1, 0, 2), (12, .if_icmp .ne 12, 3, 24, 0), (15, .aload_n 0, 1, 0, 0), (16, .iconst 0, 1, 0, 0), (17, .sipush 9999, 3, 0, 9999), (20, .invokevirtual 335, 3, 0, 0), (23, .ireturn, 1, 0, 0), (24, .iconst (-1), 1, 0, (-1)), (25, .istore_n 1, 1, 0, 0), (26, .aload_n 0, 1, 0, 0), (27, .ldc_w 405, 3, 0, 0), (30, .invokevirtual 340, 3, 0, 0), (33, .ifCond .eq 11, 3, 44, 0), (36, .aload_n 0, 1, 0, 0), (37, .getfield 402, 3, 0, 0), (40, .istore_n 1, 1, 0, 0), (41, .goto 177, 3, 218, 0), (44, .aload_n 0, 1, 0, 0), (45, .ldc_w 375, 3, 0, 0), (48, .invokevirtual 340, 3, 0, 0), (51, .ifCond .eq 16, 3, 67, 0), (54, .aload_n 0, 1, 0, 0), (55, .aload_n 0, 1, 0, 0), (56, .getfield 402, 3, 0, 0), (59, .iconst 0, 1, 0, 0), (60, .invokevirtual 57, 3, 0, 0), (63, .istore_n 1, 1, 0, 0), (64, .goto 154, 3, 218, 0), (67, .aload_n 0, 1, 0, 0), (68, .ldc_w 407, 3, 0, 0), (71, .invokevirtual 340, 3, 0, 0), (74, .ifCond .eq 16, 3, 90, 0), (77, .aload_n 0, 1, 0, 0), (78, .aload_n 0, 1, 0, 0), (79, .getfield 402, 3, 0, 0), (82, .iconst 1, 1, 0, 1), (83, .invokevirtual 57, 3, 0, 0), (86, .istore_n 1, 1, 0, 0), (87, .goto 131, 3, 218, 0), (90, .aload_n 0, 1, 0, 0), (91, .ldc_w 409, 3, 0, 0), (94, .invokevirtual 340, 3, 0, 0), (97, .ifCond .eq 16, 3, 113, 0), (100, .aload_n 0, 1, 0, 0), (101, .aload_n 0, 1, 0, 0), (102, .getfield 402, 3, 0, 0), (105, .iconst 2, 1, 0, 2), (106, .invokevirtual 57, 3, 0, 0), (109, .istore_n 1, 1, 0, 0), (110, .goto 108, 3, 218, 0), (113, .aload_n 0, 1, 0, 0), (114, .ldc_w 411, 3, 0, 0), (117, .invokevirtual 340, 3, 0, 0), (120, .ifCond .eq 15, 3, 135, 0), (123, .aload_n 0, 1, 0, 0), (124, .aload_n 0, 1, 0, 0), (125, .getfield 402, 3, 0, 0), (128, .invokevirtual 197, 3, 0, 0), (131, .istore_n 1, 1, 0, 0), (132, .goto 86, 3, 218, 0), (135, .aload_n 0, 1, 0, 0), (136, .ldc_w 358, 3, 0, 0), (139, .invokevirtual 340, 3, 0, 0), (142, .ifCond .eq 16, 3, 158, 0), (145, .aload_n 0, 1, 0, 0), (146, .aload_n 0, 1, 0, 0), (147, .getfield 402, 3, 0, 0), (150, .iconst 5, 1, 0, 5), (151, .invokevirtual 57, 3, 0, 0), (154, .istore_n 1, 1, 0, 0), (155, .goto 63, 3, 218, 0), (158, .aload_n 0, 1, 0, 0), (159, .ldc_w 370, 3, 0, 0), (162, .invokevirtual 340, 3, 0, 0), (165, .ifCond .eq 20, 3, 185, 0), (168, .aload_n 0, 1, 0, 0), (169, .bipush 12, 2, 0, 12), (171, .iconst 5, 1, 0, 5), (172, .aload_n 0, 1, 0, 0), (173, .getfield 9, 3, 0, 0), (176, .iconst 1, 1, 0, 1), (177, .iaload, 1, 0, 0), (178, .invokevirtual 413, 3, 0, 0), (181, .istore_n 1, 1, 0, 0), (182, .goto 36, 3, 218, 0), (185, .aload_n 0, 1, 0, 0), (186, .ldc_w 362, 3, 0, 0), (189, .invokevirtual 340, 3, 0, 0), (192, .ifCond .eq 21, 3, 213, 0), (195, .aload_n 0, 1, 0, 0), (196, .bipush 66, 2, 0, 66), (198, .bipush 10, 2, 0, 10), (200, .aload_n 0, 1, 0, 0), (201, .getfield 9, 3, 0, 0), (204, .iconst 3, 1, 0, 3), (205, .iaload, 1, 0, 0), (206, .invokevirtual 413, 3, 0, 0), (209, .istore_n 1, 1, 0, 0), (210, .goto 8, 3, 218, 0), (213, .aload_n 0, 1, 0, 0), (214, .iconst 1, 1, 0, 1), (215, .invokevirtual 321, 3, 0, 0), (218, .aload_n 0, 1, 0, 0), (219, .invokevirtual 324, 3, 0, 0), (222, .iload_n 1, 1, 0, 0), (223, .ireturn, 1, 0, 0)]
def P_Law_shut : List PE := [(0, .aload_n 3, 1, 0, 0), (1, .iconst 0, 1, 0, 0), (2, .aload_n 0, 1, 0, 0), (3, .iload_n 1, 1, 0, 0), (4, .iload_n 2, 1, 0, 0), (5, .invokevirtual 45, 3, 0, 0), (8, .i2l, 1, 0, 0), (9, .lastore, 1, 0, 0), (10, .goto 11, 3, 21, 0), (13, .astore 4, 2, 0, 0), (15, .iconst 1, 1, 0, 1), (16, .ireturn, 1, 0, 0), (17, .astore 4, 2, 0, 0), (19, .iconst 2, 1, 0, 2), (20, .ireturn, 1, 0, 0), (21, .iconst 0, 1, 0, 0), (22, .ireturn, 1, 0, 0)]
def P_Law_change : List PE := [(0, .aload 4, 2, 0, 0), (2, .iconst 0, 1, 0, 0), (3, .aload_n 0, 1, 0, 0), (4, .iload_n 1, 1, 0, 0), (5, .iload_n 2, 1, 0, 0), (6, .iload_n 3, 1, 0, 0), (7, .invokevirtual 48, 3, 0, 0), (10, .i2l, 1, 0, 0), (11, .lastore, 1, 0, 0), (12, .goto 11, 3, 23, 0), (15, .astore 5, 2, 0, 0), (17, .iconst 1, 1, 0, 1), (18, .ireturn, 1, 0, 0), (19, .astore 5, 2, 0, 0), (21, .iconst 2, 1, 0, 2), (22, .ireturn, 1, 0, 0), (23, .iconst 0, 1, 0, 0), (24, .ireturn, 1, 0, 0)]
def P_MB_ticks : List PE := [(0, .iload_n 1, 1, 0, 0), (1, .iconst 1, 1, 0, 1), (2, .if_icmp .lt 10, 3, 12, 0), (5, .iload_n 1, 1, 0, 0), (6, .sipush 500, 3, 0, 500), (9, .if_icmp .le 11, 3, 20, 0), (12, .new 81, 3, 0, 0), (15, .dup, 1, 0, 0), (16, .invokespecial 83, 3, 0, 0), (19, .athrow, 1, 0, 0), (20, .aload_n 0, 1, 0, 0), (21, .getfield 47, 3, 0, 0), (24, .aload_n 0, 1, 0, 0), (25, .getfield 40, 3, 0, 0), (28, .invokevirtual 273, 3, 0, 0), (31, .aload_n 0, 1, 0, 0), (32, .getfield 40, 3, 0, 0), (35, .getfield 141, 3, 0, 0), (38, .invokevirtual 136, 3, 0, 0), (41, .istore_n 2, 1, 0, 0), (42, .aload_n 0, 1, 0, 0), (43, .getfield 40, 3, 0, 0), (46, .aload_n 0, 1, 0, 0), (47, .getfield 33, 3, 0, 0), (50, .iload_n 1, 1, 0, 0), (51, .invokevirtual 277, 3, 0, 0), (54, .aload_n 0, 1, 0, 0), (55, .getfield 40, 3, 0, 0), (58, .getfield 141, 3, 0, 0), (61, .invokevirtual 136, 3, 0, 0), (64, .iload_n 2, 1, 0, 0), (65, .isub, 1, 0, 0), (66, .ireturn, 1, 0, 0)]
def P_MB_trial : List PE := [(0, .iload_n 2, 1, 0, 0), (1, .iconst 5, 1, 0, 5), (2, .invokestatic 162, 3, 0, 0), (5, .ifCond .ne 11, 3, 16, 0), (8, .new 159, 3, 0, 0), (11, .dup, 1, 0, 0), (12, .invokespecial 161, 3, 0, 0), (15, .athrow, 1, 0, 0), (16, .iload_n 1, 1, 0, 0), (17, .ifCond .lt 10, 3, 27, 0), (20, .iload_n 1, 1, 0, 0), (21, .sipush 500, 3, 0, 500), (24, .if_icmp .le 11, 3, 35, 0), (27, .new 81, 3, 0, 0), (30, .dup, 1, 0, 0), (31, .invokespecial 83, 3, 0, 0), (34, .athrow, 1, 0, 0), (35, .aload_n 0, 1, 0, 0), (36, .getfield 54, 3, 0, 0), (39, .aload_n 0, 1, 0, 0), (40, .getfield 40, 3, 0, 0), (43, .invokevirtual 300, 3, 0, 0), (46, .aload_n 0, 1, 0, 0), (47, .getfield 54, 3, 0, 0), (50, .aload_n 0, 1, 0, 0), (51, .getfield 33, 3, 0, 0), (54, .iload_n 1, 1, 0, 0), (55, .invokevirtual 277, 3, 0, 0), (58, .iload_n 2, 1, 0, 0), (59, .tableswitch 98 0 3 #[29, 51, 73, 84], 29, 157, 0), (88, .aload_n 0, 1, 0, 0), (89, .getfield 54, 3, 0, 0), (92, .getfield 141, 3, 0, 0), (95, .invokevirtual 136, 3, 0, 0), (98, .aload_n 0, 1, 0, 0), (99, .getfield 40, 3, 0, 0), (102, .getfield 141, 3, 0, 0), (105, .invokevirtual 136, 3, 0, 0), (108, .isub, 1, 0, 0), (109, .ireturn, 1, 0, 0), (110, .aload_n 0, 1, 0, 0), (111, .getfield 54, 3, 0, 0), (114, .getfield 144, 3, 0, 0), (117, .invokevirtual 136, 3, 0, 0), (120, .aload_n 0, 1, 0, 0), (121, .getfield 40, 3, 0, 0), (124, .getfield 144, 3, 0, 0), (127, .invokevirtual 136, 3, 0, 0), (130, .isub, 1, 0, 0), (131, .ireturn, 1, 0, 0), (132, .aload_n 0, 1, 0, 0), (133, .getfield 54, 3, 0, 0), (136, .getfield 114, 3, 0, 0), (139, .invokevirtual 118, 3, 0, 0), (142, .ireturn, 1, 0, 0), (143, .aload_n 0, 1, 0, 0), (144, .getfield 54, 3, 0, 0), (147, .getfield 127, 3, 0, 0), (150, .getfield 131, 3, 0, 0), (153, .invokevirtual 136, 3, 0, 0), (156, .ireturn, 1, 0, 0), (157, .aload_n 0, 1, 0, 0), (158, .getfield 54, 3, 0, 0), (161, .aload_n 0, 1, 0, 0), (162, .getfield 33, 3, 0, 0), (165, .invokevirtual 302, 3, 0, 0), (168, .ireturn, 1, 0, 0)]
def P_MB_again : List PE := [(0, .iload_n 1, 1, 0, 0), (1, .iconst 2, 1, 0, 2), (2, .invokestatic 162, 3, 0, 0), (5, .ifCond .ne 11, 3, 16, 0), (8, .new 159, 3, 0, 0), (11, .dup, 1, 0, 0), (12, .invokespecial 161, 3, 0, 0), (15, .athrow, 1, 0, 0), (16, .aload_n 0, 1, 0, 0), (17, .invokevirtual 306, 3, 0, 0), (20, .istore_n 2, 1, 0, 0), (21, .iload_n 2, 1, 0, 0), (22, .iconst (-1), 1, 0, (-1)), (23, .if_icmp .eq 8, 3, 31, 0), (26, .iload_n 1, 1, 0, 0), (27, .iconst 1, 1, 0, 1), (28, .if_icmp .ne 5, 3, 33, 0), (31, .iload_n 2, 1, 0, 0), (32, .ireturn, 1, 0, 0), (33, .aload_n 0, 1, 0, 0), (34, .getfield 51, 3, 0, 0), (37, .getfield 111, 3, 0, 0), (40, .aload_n 0, 1, 0, 0), (41, .getfield 40, 3, 0, 0), (44, .getfield 111, 3, 0, 0), (47, .isub, 1, 0, 0), (48, .ireturn, 1, 0, 0)]
def P_MB_rate : List PE := [(0, .iload_n 1, 1, 0, 0), (1, .ifCond .ne 13, 3, 14, 0), (4, .aload_n 0, 1, 0, 0), (5, .getfield 33, 3, 0, 0), (8, .getfield 99, 3, 0, 0), (11, .goto 10, 3, 21, 0), (14, .aload_n 0, 1, 0, 0), (15, .getfield 33, 3, 0, 0), (18, .getfield 105, 3, 0, 0), (21, .istore_n 3, 1, 0, 0), (22, .iload_n 1, 1, 0, 0), (23, .iconst 3, 1, 0, 3), (24, .invokestatic 162, 3, 0, 0), (27, .ifCond .eq 16, 3, 43, 0), (30, .iload_n 2, 1, 0, 0), (31, .iconst (-1), 1, 0, (-1)), (32, .if_icmp .eq 19, 3, 51, 0), (35, .iload_n 2, 1, 0, 0), (36, .iload_n 3, 1, 0, 0), (37, .invokestatic 162, 3, 0, 0), (40, .ifCond .ne 11, 3, 51, 0), (43, .new 159, 3, 0, 0), (46, .dup, 1, 0, 0), (47, .invokespecial 161, 3, 0, 0), (50, .athrow, 1, 0, 0), (51, .aload_n 0, 1, 0, 0), (52, .invokevirtual 306, 3, 0, 0), (55, .iconst (-1), 1, 0, (-1)), (56, .if_icmp .ne 5, 3, 61, 0), (59, .iconst (-1), 1, 0, (-1)), (60, .ireturn, 1, 0, 0), (61, .aload_n 0, 1, 0, 0), (62, .getfield 54, 3, 0, 0), (65, .iload_n 1, 1, 0, 0), (66, .iload_n 2, 1, 0, 0), (67, .invokestatic 309, 3, 0, 0), (70, .aload_n 0, 1, 0, 0), (71, .getfield 51, 3, 0, 0), (74, .iload_n 1, 1, 0, 0), (75, .iload_n 2, 1, 0, 0), (76, .invokestatic 309, 3, 0, 0), (79, .isub, 1, 0, 0), (80, .ireturn, 1, 0, 0)]
def P_MB_leastRoom : List PE := [(0, .iload_n 1, 1, 0, 0), (1, .aload_n 0, 1, 0, 0), (2, .getfield 33, 3, 0, 0), (5, .getfield 105, 3, 0, 0), (8, .invokestatic 162, 3, 0, 0), (11, .ifCond .ne 11, 3, 22, 0), (14, .new 159, 3, 0, 0), (17, .dup, 1, 0, 0), (18, .invokespecial 161, 3, 0, 0), (21, .athrow, 1, 0, 0), (22, .iload_n 2, 1, 0, 0), (23, .iconst 1, 1, 0, 1), (24, .if_icmp .lt 10, 3, 34, 0), (27, .iload_n 2, 1, 0, 0), (28, .sipush 500, 3, 0, 500), (31, .if_icmp .le 11, 3, 42, 0), (34, .new 81, 3, 0, 0), (37, .dup, 1, 0, 0), (38, .invokespecial 83, 3, 0, 0), (41, .athrow, 1, 0, 0), (42, .iconst 1, 1, 0, 1), (43, .aload_n 0, 1, 0, 0), (44, .getfield 40, 3, 0, 0), (47, .getfield 127, 3, 0, 0), (50, .getfield 131, 3, 0, 0), (53, .iload_n 1, 1, 0, 0), (54, .invokevirtual 185, 3, 0, 0), (57, .invokestatic 323, 3, 0, 0), (60, .istore_n 3, 1, 0, 0), (61, .iload_n 3, 1, 0, 0), (62, .bipush 20, 2, 0, 20), (64, .if_icmp .gt 72, 3, 136, 0), (67, .aload_n 0, 1, 0, 0), (68, .getfield 54, 3, 0, 0), (71, .aload_n 0, 1, 0, 0), (72, .getfield 40, 3, 0, 0), (75, .invokevirtual 300, 3, 0, 0), (78, .aload_n 0, 1, 0, 0), (79, .getfield 54, 3, 0, 0), (82, .getfield 219, 3, 0, 0), (85, .iload_n 1, 1, 0, 0), (86, .iload_n 3, 1, 0, 0), (87, .invokevirtual 289, 3, 0, 0), (90, .aload_n 0, 1, 0, 0), (91, .getfield 54, 3, 0, 0), (94, .aload_n 0, 1, 0, 0), (95, .getfield 33, 3, 0, 0), (98, .iload_n 1, 1, 0, 0), (99, .iload_n 2, 1, 0, 0), (100, .invokevirtual 328, 3, 0, 0), (103, .aload_n 0, 1, 0, 0), (104, .getfield 54, 3, 0, 0), (107, .getfield 144, 3, 0, 0), (110, .iload_n 1, 1, 0, 0), (111, .invokevirtual 185, 3, 0, 0), (114, .aload_n 0, 1, 0, 0), (115, .getfield 40, 3, 0, 0), (118, .getfield 144, 3, 0, 0), (121, .iload_n 1, 1, 0, 0), (122, .invokevirtual 185, 3, 0, 0), (125, .if_icmp .ne 5, 3, 130, 0), (128, .iload_n 3, 1, 0, 0), (129, .ireturn, 1, 0, 0), (130, .iinc 3 1, 3, 0, 1), (133, .goto (-72), 3, 61, 0), (136, .iconst (-1), 1, 0, (-1)), (137, .ireturn, 1, 0, 0)]
def P_MB_bestReach : List PE := [(0, .iload_n 1, 1, 0, 0), (1, .aload_n 0, 1, 0, 0), (2, .getfield 33, 3, 0, 0), (5, .getfield 105, 3, 0, 0), (8, .invokestatic 162, 3, 0, 0), (11, .ifCond .ne 11, 3, 22, 0), (14, .new 159, 3, 0, 0), (17, .dup, 1, 0, 0), (18, .invokespecial 161, 3, 0, 0), (21, .athrow, 1, 0, 0), (22, .iload_n 2, 1, 0, 0), (23, .iconst 1, 1, 0, 1), (24, .if_icmp .lt 10, 3, 34, 0), (27, .iload_n 2, 1, 0, 0), (28, .sipush 200, 3, 0, 200), (31, .if_icmp .le 11, 3, 42, 0), (34, .new 81, 3, 0, 0), (37, .dup, 1, 0, 0), (38, .invokespecial 83, 3, 0, 0), (41, .athrow, 1, 0, 0), (42, .iconst 0, 1, 0, 0), (43, .istore_n 3, 1, 0, 0), (44, .iconst (-1), 1, 0, (-1)), (45, .istore 4, 2, 0, 0), (47, .iconst 0, 1, 0, 0), (48, .istore 5, 2, 0, 0), (50, .iload 5, 2, 0, 0), (52, .aload_n 0, 1, 0, 0), (53, .getfield 33, 3, 0, 0), (56, .getfield 67, 3, 0, 0), (59, .if_icmp .ge 77, 3, 136, 0), (62, .aload_n 0, 1, 0, 0), (63, .getfield 54, 3, 0, 0), (66, .aload_n 0, 1, 0, 0), (67, .getfield 40, 3, 0, 0), (70, .invokevirtual 300, 3, 0, 0), (73, .aload_n 0, 1, 0, 0), (74, .getfield 54, 3, 0, 0), (77, .getfield 222, 3, 0, 0), (80, .iload_n 1, 1, 0, 0), (81, .iload 5, 2, 0, 0), (83, .invokevirtual 289, 3, 0, 0), (86, .aload_n 0, 1, 0, 0), (87, .getfield 54, 3, 0, 0), (90, .aload_n 0, 1, 0, 0), (91, .getfield 33, 3, 0, 0), (94, .iload_n 2, 1, 0, 0), (95, .invokevirtual 277, 3, 0, 0), (98, .aload_n 0, 1, 0, 0), (99, .getfield 54, 3, 0, 0), (102, .getfield 243, 3, 0, 0), (105, .iload_n 1, 1, 0, 0), (106, .invokevirtual 185, 3, 0, 0), (109, .iload 4, 2, 0, 0), (111, .if_icmp .le 19, 3, 130, 0), (114, .aload_n 0, 1, 0, 0), (115, .getfield 54, 3, 0, 0), (118, .getfield 243, 3, 0, 0), (121, .iload_n 1, 1, 0, 0), (122, .invokevirtual 185, 3, 0, 0), (125, .istore 4, 2, 0, 0), (127, .iload 5, 2, 0, 0), (129, .istore_n 3, 1, 0, 0), (130, .iinc 5 1, 3, 0, 1), (133, .goto (-83), 3, 50, 0), (136, .iload_n 3, 1, 0, 0), (137, .ireturn, 1, 0, 0)]
def P_MB_without : List PE := [(0, .iload_n 1, 1, 0, 0), (1, .aload_n 0, 1, 0, 0), (2, .getfield 33, 3, 0, 0), (5, .getfield 105, 3, 0, 0), (8, .invokestatic 162, 3, 0, 0), (11, .ifCond .ne 11, 3, 22, 0), (14, .new 159, 3, 0, 0), (17, .dup, 1, 0, 0), (18, .invokespecial 161, 3, 0, 0), (21, .athrow, 1, 0, 0), (22, .iload_n 2, 1, 0, 0), (23, .ifCond .lt 10, 3, 33, 0), (26, .iload_n 2, 1, 0, 0), (27, .sipush 500, 3, 0, 500), (30, .if_icmp .le 11, 3, 41, 0), (33, .new 81, 3, 0, 0), (36, .dup, 1, 0, 0), (37, .invokespecial 83, 3, 0, 0), (40, .athrow, 1, 0, 0), (41, .aload_n 0, 1, 0, 0), (42, .getfield 51, 3, 0, 0), (45, .aload_n 0, 1, 0, 0), (46, .getfield 40, 3, 0, 0), (49, .invokevirtual 300, 3, 0, 0), (52, .aload_n 0, 1, 0, 0), (53, .getfield 51, 3, 0, 0), (56, .aload_n 0, 1, 0, 0), (57, .getfield 33, 3, 0, 0), (60, .iload_n 2, 1, 0, 0), (61, .invokevirtual 277, 3, 0, 0), (64, .aload_n 0, 1, 0, 0), (65, .getfield 54, 3, 0, 0), (68, .aload_n 0, 1, 0, 0), (69, .getfield 40, 3, 0, 0), (72, .invokevirtual 300, 3, 0, 0), (75, .aload_n 0, 1, 0, 0), (76, .getfield 54, 3, 0, 0), (79, .iload_n 1, 1, 0, 0), (80, .invokevirtual 332, 3, 0, 0), (83, .aload_n 0, 1, 0, 0), (84, .getfield 54, 3, 0, 0), (87, .aload_n 0, 1, 0, 0), (88, .getfield 33, 3, 0, 0), (91, .iload_n 2, 1, 0, 0), (92, .invokevirtual 277, 3, 0, 0), (95, .aload_n 0, 1, 0, 0), (96, .getfield 54, 3, 0, 0), (99, .iload_n 1, 1, 0, 0), (100, .invokestatic 335, 3, 0, 0), (103, .aload_n 0, 1, 0, 0), (104, .getfield 51, 3, 0, 0), (107, .iload_n 1, 1, 0, 0), (108, .invokestatic 335, 3, 0, 0), (111, .isub, 1, 0, 0), (112, .ireturn, 1, 0, 0)]
def P_BeltText_readWare : List PE := [(0, .aload_n 0, 1, 0, 0), (1, .getfield 12, 3, 0, 0), (4, .getfield 124, 3, 0, 0), (7, .istore_n 2, 1, 0, 0), (8, .aload_n 1, 1, 0, 0), (9, .iload_n 2, 1, 0, 0), (10, .bipush 8, 2, 0, 8), (12, .invokestatic 105, 3, 0, 0), (15, .aload_n 0, 1, 0, 0), (16, .getfield 12, 3, 0, 0), (19, .getfield 127, 3, 0, 0), (22, .iload_n 2, 1, 0, 0), (23, .aload_n 1, 1, 0, 0), (24, .iconst 0, 1, 0, 0), (25, .aload_n 0, 1, 0, 0), (26, .getfield 12, 3, 0, 0), (29, .getfield 102, 3, 0, 0), (32, .iconst 1, 1, 0, 1), (33, .isub, 1, 0, 0), (34, .invokevirtual 33, 3, 0, 0), (37, .invokevirtual 117, 3, 0, 0), (40, .aload_n 1, 1, 0, 0), (41, .ldc 130, 2, 0, 0), (43, .invokevirtual 54, 3, 0, 0), (46, .istore_n 3, 1, 0, 0), (47, .aload_n 0, 1, 0, 0), (48, .getfield 12, 3, 0, 0), (51, .getfield 132, 3, 0, 0), (54, .iload_n 2, 1, 0, 0), (55, .iload_n 3, 1, 0, 0), (56, .ifCond .eq 7, 3, 63, 0), (59, .iconst 1, 1, 0, 1), (60, .goto 4, 3, 64, 0), (63, .iconst 0, 1, 0, 0), (64, .invokevirtual 117, 3, 0, 0), (67, .iload_n 3, 1, 0, 0), (68, .ifCond .eq 9, 3, 77, 0), (71, .aload_n 1, 1, 0, 0), (72, .ldc 130, 2, 0, 0), (74, .invokevirtual 29, 3, 0, 0), (77, .aload_n 0, 1, 0, 0), (78, .getfield 12, 3, 0, 0), (81, .dup, 1, 0, 0), (82, .getfield 124, 3, 0, 0), (85, .iconst 1, 1, 0, 1), (86, .iadd, 1, 0, 0), (87, .putfield 124, 3, 0, 0), (90, .return_, 1, 0, 0)]
def P_BeltText_readPart : List PE := [(0, .aload_n 1, 1, 0, 0), (1, .invokestatic 202, 3, 0, 0), (4, .istore_n 2, 1, 0, 0), (5, .iload_n 2, 1, 0, 0), (6, .iconst (-1), 1, 0, (-1)), (7, .if_icmp .ne 24, 3, 31, 0), (10, .aload_n 0, 1, 0, 0), (11, .getfield 12, 3, 0, 0), (14, .getfield 184, 3, 0, 0), (17, .aload_n 1, 1, 0, 0), (18, .iconst 0, 1, 0, 0), (19, .sipush 9999, 3, 0, 9999), (22, .invokevirtual 33, 3, 0, 0), (25, .invokevirtual 205, 3, 0, 0), (28, .goto 18, 3, 46, 0), (31, .aload_n 0, 1, 0, 0), (32, .getfield 12, 3, 0, 0), (35, .getfield 184, 3, 0, 0), (38, .iload_n 2, 1, 0, 0), (39, .invokevirtual 208, 3, 0, 0), (42, .aload_n 1, 1, 0, 0), (43, .invokevirtual 86, 3, 0, 0), (46, .return_, 1, 0, 0)]
def P_Question_readValue : List PE := [(0, .aload_n 1, 1, 0, 0), (1, .invokestatic 110, 3, 0, 0), (4, .istore_n 2, 1, 0, 0), (5, .iload_n 2, 1, 0, 0), (6, .iconst (-1), 1, 0, (-1)), (7, .if_icmp .ne 21, 3, 28, 0), (10, .aload_n 0, 1, 0, 0), (11, .getfield 14, 3, 0, 0), (14, .aload_n 1, 1, 0, 0), (15, .iconst 0, 1, 0, 0), (16, .sipush 9999, 3, 0, 9999), (19, .invokevirtual 113, 3, 0, 0), (22, .invokevirtual 117, 3, 0, 0), (25, .goto 15, 3, 40, 0), (28, .aload_n 0, 1, 0, 0), (29, .getfield 14, 3, 0, 0), (32, .iload_n 2, 1, 0, 0), (33, .invokevirtual 120, 3, 0, 0), (36, .aload_n 1, 1, 0, 0), (37, .invokevirtual 65, 3, 0, 0), (40, .return_, 1, 0, 0)]
def P_Law_ticks : List PE := [(0, .aload_n 2, 1, 0, 0), (1, .iconst 0, 1, 0, 0), (2, .aload_n 0, 1, 0, 0), (3, .iload_n 1, 1, 0, 0), (4, .invokevirtual 42, 3, 0, 0), (7, .i2l, 1, 0, 0), (8, .lastore, 1, 0, 0), (9, .goto 6, 3, 15, 0), (12, .astore_n 3, 1, 0, 0), (13, .iconst 1, 1, 0, 1), (14, .ireturn, 1, 0, 0), (15, .iconst 0, 1, 0, 0), (16, .ireturn, 1, 0, 0)]
def P_Law_trial : List PE := [(0, .aload_n 3, 1, 0, 0), (1, .iconst 0, 1, 0, 0), (2, .aload_n 0, 1, 0, 0), (3, .iload_n 1, 1, 0, 0), (4, .iload_n 2, 1, 0, 0), (5, .invokevirtual 52, 3, 0, 0), (8, .i2l, 1, 0, 0), (9, .lastore, 1, 0, 0), (10, .goto 11, 3, 21, 0), (13, .astore 4, 2, 0, 0), (15, .iconst 1, 1, 0, 1), (16, .ireturn, 1, 0, 0), (17, .astore 4, 2, 0, 0), (19, .iconst 2, 1, 0, 2), (20, .ireturn, 1, 0, 0), (21, .iconst 0, 1, 0, 0), (22, .ireturn, 1, 0, 0)]
def P_Law_again : List PE := [(0, .aload_n 2, 1, 0, 0), (1, .iconst 0, 1, 0, 0), (2, .aload_n 0, 1, 0, 0), (3, .iload_n 1, 1, 0, 0), (4, .invokevirtual 55, 3, 0, 0), (7, .i2l, 1, 0, 0), (8, .lastore, 1, 0, 0), (9, .goto 6, 3, 15, 0), (12, .astore_n 3, 1, 0, 0), (13, .iconst 1, 1, 0, 1), (14, .ireturn, 1, 0, 0), (15, .iconst 0, 1, 0, 0), (16, .ireturn, 1, 0, 0)]
def P_Law_rate : List PE := [(0, .aload_n 3, 1, 0, 0), (1, .iconst 0, 1, 0, 0), (2, .aload_n 0, 1, 0, 0), (3, .iload_n 1, 1, 0, 0), (4, .iload_n 2, 1, 0, 0), (5, .invokevirtual 58, 3, 0, 0), (8, .i2l, 1, 0, 0), (9, .lastore, 1, 0, 0), (10, .goto 7, 3, 17, 0), (13, .astore 4, 2, 0, 0), (15, .iconst 1, 1, 0, 1), (16, .ireturn, 1, 0, 0), (17, .iconst 0, 1, 0, 0), (18, .ireturn, 1, 0, 0)]
def P_Law_leastRoom : List PE := [(0, .aload_n 3, 1, 0, 0), (1, .iconst 0, 1, 0, 0), (2, .aload_n 0, 1, 0, 0), (3, .iload_n 1, 1, 0, 0), (4, .iload_n 2, 1, 0, 0), (5, .invokevirtual 65, 3, 0, 0), (8, .i2l, 1, 0, 0), (9, .lastore, 1, 0, 0), (10, .goto 11, 3, 21, 0), (13, .astore 4, 2, 0, 0), (15, .iconst 1, 1, 0, 1), (16, .ireturn, 1, 0, 0), (17, .astore 4, 2, 0, 0), (19, .iconst 2, 1, 0, 2), (20, .ireturn, 1, 0, 0), (21, .iconst 0, 1, 0, 0), (22, .ireturn, 1, 0, 0)]
def P_Law_bestReach : List PE := [(0, .aload_n 3, 1, 0, 0), (1, .iconst 0, 1, 0, 0), (2, .aload_n 0, 1, 0, 0), (3, .iload_n 1, 1, 0, 0), (4, .iload_n 2, 1, 0, 0), (5, .invokevirtual 68, 3, 0, 0), (8, .i2l, 1, 0, 0), (9, .lastore, 1, 0, 0), (10, .goto 11, 3, 21, 0), (13, .astore 4, 2, 0, 0), (15, .iconst 1, 1, 0, 1), (16, .ireturn, 1, 0, 0), (17, .astore 4, 2, 0, 0), (19, .iconst 2, 1, 0, 2), (20, .ireturn, 1, 0, 0), (21, .iconst 0, 1, 0, 0), (22, .ireturn, 1, 0, 0)]
def P_Law_without : List PE := [(0, .aload_n 3, 1, 0, 0), (1, .iconst 0, 1, 0, 0), (2, .aload_n 0, 1, 0, 0), (3, .iload_n 1, 1, 0, 0), (4, .iload_n 2, 1, 0, 0), (5, .invokevirtual 71, 3, 0, 0), (8, .i2l, 1, 0, 0), (9, .lastore, 1, 0, 0), (10, .goto 11, 3, 21, 0), (13, .astore 4, 2, 0, 0), (15, .iconst 1, 1, 0, 1), (16, .ireturn, 1, 0, 0), (17, .astore 4, 2, 0, 0), (19, .iconst 2, 1, 0, 2), (20, .ireturn, 1, 0, 0), (21, .iconst 0, 1, 0, 0), (22, .ireturn, 1, 0, 0)]
def P_BeltText_readTurns : List PE := [(0, .aload_n 0, 1, 0, 0), (1, .getfield 12, 3, 0, 0), (4, .getfield 165, 3, 0, 0), (7, .ifCond .eq 10, 3, 17, 0), (10, .aload_n 1, 1, 0, 0), (11, .iconst 5, 1, 0, 5), (12, .invokevirtual 82, 3, 0, 0), (15, .pop, 1, 0, 0), (16, .return_, 1, 0, 0), (17, .aload_n 0, 1, 0, 0), (18, .getfield 12, 3, 0, 0), (21, .iconst 1, 1, 0, 1), (22, .putfield 165, 3, 0, 0), (25, .aload_n 1, 1, 0, 0), (26, .invokevirtual 86, 3, 0, 0), (29, .iconst 0, 1, 0, 0), (30, .istore_n 2, 1, 0, 0), (31, .iconst 1, 1, 0, 1), (32, .istore_n 3, 1, 0, 0), (33, .iconst 0, 1, 0, 0), (34, .istore 4, 2, 0, 0), (36, .iload 4, 2, 0, 0), (38, .sipush 500, 3, 0, 500), (41, .if_icmp .ge 108, 3, 149, 0), (44, .aload_n 1, 1, 0, 0), (45, .invokevirtual 45, 3, 0, 0), (48, .ifCond .eq 101, 3, 149, 0), (51, .iload_n 3, 1, 0, 0), (52, .ifCond .eq 24, 3, 76, 0), (55, .aload_n 1, 1, 0, 0), (56, .bipush 40, 2, 0, 40), (58, .invokevirtual 169, 3, 0, 0), (61, .ifCond .eq 15, 3, 76, 0), (64, .iload_n 2, 1, 0, 0), (65, .aload_n 0, 1, 0, 0), (66, .aload_n 1, 1, 0, 0), (67, .iload_n 2, 1, 0, 0), (68, .invokevirtual 173, 3, 0, 0), (71, .iadd, 1, 0, 0), (72, .istore_n 2, 1, 0, 0), (73, .goto 70, 3, 143, 0), (76, .iload_n 3, 1, 0, 0), (77, .ifCond .eq 13, 3, 90, 0), (80, .aload_n 0, 1, 0, 0), (81, .aload_n 1, 1, 0, 0), (82, .invokevirtual 177, 3, 0, 0), (85, .iconst 0, 1, 0, 0), (86, .istore_n 3, 1, 0, 0), (87, .goto 56, 3, 143, 0), (90, .aload_n 1, 1, 0, 0), (91, .invokestatic 180, 3, 0, 0), (94, .ifCond .eq 26, 3, 120, 0), (97, .aload_n 0, 1, 0, 0), (98, .getfield 12, 3, 0, 0), (101, .getfield 184, 3, 0, 0), (104, .aload_n 1, 1, 0, 0), (105, .invokestatic 180, 3, 0, 0), (108, .invokevirtual 188, 3, 0, 0), (111, .aload_n 1, 1, 0, 0), (112, .invokevirtual 86, 3, 0, 0), (115, .iconst 1, 1, 0, 1), (116, .istore_n 3, 1, 0, 0), (117, .goto 26, 3, 143, 0), (120, .iload_n 2, 1, 0, 0), (121, .ifCond .le 28, 3, 149, 0), (124, .aload_n 1, 1, 0, 0), (125, .bipush 41, 2, 0, 41), (127, .invokevirtual 41, 3, 0, 0), (130, .aload_n 0, 1, 0, 0), (131, .getfield 12, 3, 0, 0), (134, .getfield 184, 3, 0, 0), (137, .invokevirtual 193, 3, 0, 0), (140, .iinc 2 (-1), 3, 0, (-1)), (143, .iinc 4 1, 3, 0, 1), (146, .goto (-110), 3, 36, 0), (149, .aload_n 0, 1, 0, 0), (150, .getfield 12, 3, 0, 0), (153, .getfield 184, 3, 0, 0), (156, .invokevirtual 196, 3, 0, 0), (159, .return_, 1, 0, 0)]
def P_Question_readFact : List PE := [(0, .aload_n 1, 1, 0, 0), (1, .ldc 89, 2, 0, 0), (3, .invokevirtual 37, 3, 0, 0), (6, .istore_n 2, 1, 0, 0), (7, .iload_n 2, 1, 0, 0), (8, .ifCond .ne 12, 3, 20, 0), (11, .aload_n 1, 1, 0, 0), (12, .bipush 123, 2, 0, 123), (14, .invokevirtual 91, 3, 0, 0), (17, .ifCond .eq 11, 3, 28, 0), (20, .aload_n 0, 1, 0, 0), (21, .aload_n 1, 1, 0, 0), (22, .iload_n 2, 1, 0, 0), (23, .invokevirtual 95, 3, 0, 0), (26, .iconst 0, 1, 0, 0), (27, .ireturn, 1, 0, 0), (28, .aload_n 0, 1, 0, 0), (29, .aload_n 1, 1, 0, 0), (30, .invokevirtual 99, 3, 0, 0), (33, .aload_n 1, 1, 0, 0), (34, .invokestatic 103, 3, 0, 0), (37, .istore_n 3, 1, 0, 0), (38, .iload_n 3, 1, 0, 0), (39, .ifCond .ne 11, 3, 50, 0), (42, .aload_n 1, 1, 0, 0), (43, .iconst 1, 1, 0, 1), (44, .invokevirtual 82, 3, 0, 0), (47, .pop, 1, 0, 0), (48, .iconst 0, 1, 0, 0), (49, .ireturn, 1, 0, 0), (50, .aload_n 1, 1, 0, 0), (51, .invokevirtual 65, 3, 0, 0), (54, .aload_n 0, 1, 0, 0), (55, .getfield 14, 3, 0, 0), (58, .iload_n 3, 1, 0, 0), (59, .invokevirtual 62, 3, 0, 0), (62, .aload_n 0, 1, 0, 0), (63, .aload_n 1, 1, 0, 0), (64, .invokevirtual 99, 3, 0, 0), (67, .aload_n 0, 1, 0, 0), (68, .dup, 1, 0, 0), (69, .getfield 27, 3, 0, 0), (72, .aload_n 0, 1, 0, 0), (73, .getfield 14, 3, 0, 0), (76, .invokevirtual 75, 3, 0, 0), (79, .isub, 1, 0, 0), (80, .putfield 27, 3, 0, 0), (83, .iconst 1, 1, 0, 1), (84, .ireturn, 1, 0, 0)]
def P_BeltText_read : List PE := [(0, .aload_n 0, 1, 0, 0), (1, .getfield 12, 3, 0, 0), (4, .invokevirtual 18, 3, 0, 0), (7, .aload_n 1, 1, 0, 0), (8, .iload_n 2, 1, 0, 0), (9, .invokevirtual 21, 3, 0, 0), (12, .aload_n 1, 1, 0, 0), (13, .ldc 27, 2, 0, 0), (15, .invokevirtual 29, 3, 0, 0), (18, .aload_n 0, 1, 0, 0), (19, .getfield 12, 3, 0, 0), (22, .aload_n 1, 1, 0, 0), (23, .iconst 4, 1, 0, 4), (24, .bipush 40, 2, 0, 40), (26, .invokevirtual 33, 3, 0, 0), (29, .putfield 37, 3, 0, 0), (32, .aload_n 1, 1, 0, 0), (33, .bipush 59, 2, 0, 59), (35, .invokevirtual 41, 3, 0, 0), (38, .iconst 0, 1, 0, 0), (39, .istore_n 3, 1, 0, 0), (40, .iload_n 3, 1, 0, 0), (41, .sipush 500, 3, 0, 500), (44, .if_icmp .ge 120, 3, 164, 0), (47, .aload_n 1, 1, 0, 0), (48, .invokevirtual 45, 3, 0, 0), (51, .ifCond .eq 113, 3, 164, 0), (54, .aload_n 1, 1, 0, 0), (55, .invokevirtual 49, 3, 0, 0), (58, .ifCond .ne 106, 3, 164, 0), (61, .aload_n 1, 1, 0, 0), (62, .ldc 52, 2, 0, 0), (64, .invokevirtual 54, 3, 0, 0), (67, .ifCond .eq 11, 3, 78, 0), (70, .aload_n 0, 1, 0, 0), (71, .aload_n 1, 1, 0, 0), (72, .invokevirtual 58, 3, 0, 0), (75, .goto 77, 3, 152, 0), (78, .aload_n 1, 1, 0, 0), (79, .ldc 62, 2, 0, 0), (81, .invokevirtual 54, 3, 0, 0), (84, .ifCond .eq 11, 3, 95, 0), (87, .aload_n 0, 1, 0, 0), (88, .aload_n 1, 1, 0, 0), (89, .invokevirtual 64, 3, 0, 0), (92, .goto 60, 3, 152, 0), (95, .aload_n 1, 1, 0, 0), (96, .ldc 67, 2, 0, 0), (98, .invokevirtual 54, 3, 0, 0), (101, .ifCond .eq 11, 3, 112, 0), (104, .aload_n 0, 1, 0, 0), (105, .aload_n 1, 1, 0, 0), (106, .invokevirtual 69, 3, 0, 0), (109, .goto 43, 3, 152, 0), (112, .aload_n 1, 1, 0, 0), (113, .ldc 72, 2, 0, 0), (115, .invokevirtual 54, 3, 0, 0), (118, .ifCond .eq 11, 3, 129, 0), (121, .aload_n 0, 1, 0, 0), (122, .aload_n 1, 1, 0, 0), (123, .invokevirtual 74, 3, 0, 0), (126, .goto 26, 3, 152, 0), (129, .aload_n 1, 1, 0, 0), (130, .ldc 77, 2, 0, 0), (132, .invokevirtual 54, 3, 0, 0), (135, .ifCond .eq 11, 3, 146, 0), (138, .aload_n 0, 1, 0, 0), (139, .aload_n 1, 1, 0, 0), (140, .invokevirtual 79, 3, 0, 0), (143, .goto 9, 3, 152, 0), (146, .aload_n 1, 1, 0, 0), (147, .iconst 1, 1, 0, 1), (148, .invokevirtual 82, 3, 0, 0), (151, .pop, 1, 0, 0), (152, .aload_n 1, 1, 0, 0), (153, .bipush 59, 2, 0, 59), (155, .invokevirtual 41, 3, 0, 0), (158, .iinc 3 1, 3, 0, 1), (161, .goto (-121), 3, 40, 0), (164, .return_, 1, 0, 0)]
def P_Question_read : List PE := [(0, .aload_n 0, 1, 0, 0), (1, .getfield 14, 3, 0, 0), (4, .invokevirtual 20, 3, 0, 0), (7, .aload_n 0, 1, 0, 0), (8, .iconst 0, 1, 0, 0), (9, .putfield 23, 3, 0, 0), (12, .aload_n 0, 1, 0, 0), (13, .iconst 0, 1, 0, 0), (14, .putfield 27, 3, 0, 0), (17, .aload_n 1, 1, 0, 0), (18, .iload_n 2, 1, 0, 0), (19, .invokevirtual 30, 3, 0, 0), (22, .aload_n 0, 1, 0, 0), (23, .aload_n 1, 1, 0, 0), (24, .ldc 35, 2, 0, 0), (26, .invokevirtual 37, 3, 0, 0), (29, .putfield 41, 3, 0, 0), (32, .aload_n 1, 1, 0, 0), (33, .aload_n 0, 1, 0, 0), (34, .getfield 41, 3, 0, 0), (37, .ifCond .eq 8, 3, 45, 0), (40, .ldc 35, 2, 0, 0), (42, .goto 5, 3, 47, 0), (45, .ldc 44, 2, 0, 0), (47, .invokevirtual 46, 3, 0, 0), (50, .iconst 1, 1, 0, 1), (51, .istore_n 3, 1, 0, 0), (52, .iconst 0, 1, 0, 0), (53, .istore 4, 2, 0, 0), (55, .iload 4, 2, 0, 0), (57, .sipush 200, 3, 0, 200), (60, .if_icmp .ge 152, 3, 212, 0), (63, .aload_n 1, 1, 0, 0), (64, .invokevirtual 50, 3, 0, 0), (67, .ifCond .eq 145, 3, 212, 0), (70, .iload_n 3, 1, 0, 0), (71, .ifCond .eq 20, 3, 91, 0), (74, .aload_n 0, 1, 0, 0), (75, .aload_n 1, 1, 0, 0), (76, .invokevirtual 54, 3, 0, 0), (79, .ifCond .ne 7, 3, 86, 0), (82, .iconst 1, 1, 0, 1), (83, .goto 4, 3, 87, 0), (86, .iconst 0, 1, 0, 0), (87, .istore_n 3, 1, 0, 0), (88, .goto 118, 3, 206, 0), (91, .aload_n 1, 1, 0, 0), (92, .ldc 58, 2, 0, 0), (94, .invokevirtual 37, 3, 0, 0), (97, .ifCond .ne 12, 3, 109, 0), (100, .aload_n 1, 1, 0, 0), (101, .ldc 60, 2, 0, 0), (103, .invokevirtual 37, 3, 0, 0), (106, .ifCond .eq 35, 3, 141, 0), (109, .aload_n 0, 1, 0, 0), (110, .getfield 14, 3, 0, 0), (113, .aload_n 1, 1, 0, 0), (114, .ldc 58, 2, 0, 0), (116, .invokevirtual 37, 3, 0, 0), (119, .ifCond .eq 8, 3, 127, 0), (122, .bipush (-17), 2, 0, (-17)), (124, .goto 5, 3, 129, 0), (127, .bipush (-18), 2, 0, (-18)), (129, .invokevirtual 62, 3, 0, 0), (132, .aload_n 1, 1, 0, 0), (133, .invokevirtual 65, 3, 0, 0), (136, .iconst 1, 1, 0, 1), (137, .istore_n 3, 1, 0, 0), (138, .goto 68, 3, 206, 0), (141, .aload_n 0, 1, 0, 0), (142, .getfield 23, 3, 0, 0), (145, .ifCond .le 45, 3, 190, 0), (148, .aload_n 1, 1, 0, 0), (149, .bipush 125, 2, 0, 125), (151, .invokevirtual 68, 3, 0, 0), (154, .aload_n 0, 1, 0, 0), (155, .getfield 14, 3, 0, 0), (158, .invokevirtual 72, 3, 0, 0), (161, .aload_n 0, 1, 0, 0), (162, .dup, 1, 0, 0), (163, .getfield 23, 3, 0, 0), (166, .iconst 1, 1, 0, 1), (167, .isub, 1, 0, 0), (168, .putfield 23, 3, 0, 0), (171, .aload_n 0, 1, 0, 0), (172, .dup, 1, 0, 0), (173, .getfield 27, 3, 0, 0), (176, .aload_n 0, 1, 0, 0), (177, .getfield 14, 3, 0, 0), (180, .invokevirtual 75, 3, 0, 0), (183, .isub, 1, 0, 0), (184, .putfield 27, 3, 0, 0), (187, .goto 19, 3, 206, 0), (190, .aload_n 1, 1, 0, 0), (191, .invokevirtual 79, 3, 0, 0), (194, .ifCond .eq 6, 3, 200, 0), (197, .goto 15, 3, 212, 0), (200, .aload_n 1, 1, 0, 0), (201, .iconst 1, 1, 0, 1), (202, .invokevirtual 82, 3, 0, 0), (205, .pop, 1, 0, 0), (206, .iinc 4 1, 3, 0, 1), (209, .goto (-154), 3, 55, 0), (212, .aload_n 0, 1, 0, 0), (213, .getfield 14, 3, 0, 0), (216, .invokevirtual 86, 3, 0, 0), (219, .return_, 1, 0, 0)]
def P_MB_belt : List PE := [(0, .iload_n 1, 1, 0, 0), (1, .ifCond .lt 14, 3, 15, 0), (4, .iload_n 1, 1, 0, 0), (5, .aload_n 0, 1, 0, 0), (6, .getfield 10, 3, 0, 0), (9, .getfield 74, 3, 0, 0), (12, .if_icmp .le 11, 3, 23, 0), (15, .new 81, 3, 0, 0), (18, .dup, 1, 0, 0), (19, .invokespecial 83, 3, 0, 0), (22, .athrow, 1, 0, 0), (23, .aload_n 0, 1, 0, 0), (24, .getfield 19, 3, 0, 0), (27, .aload_n 0, 1, 0, 0), (28, .getfield 10, 3, 0, 0), (31, .iload_n 1, 1, 0, 0), (32, .invokevirtual 84, 3, 0, 0), (35, .aload_n 0, 1, 0, 0), (36, .aload_n 0, 1, 0, 0), (37, .getfield 10, 3, 0, 0), (40, .getfield 88, 3, 0, 0), (43, .putfield 63, 3, 0, 0), (46, .aload_n 0, 1, 0, 0), (47, .getfield 10, 3, 0, 0), (50, .getfield 89, 3, 0, 0), (53, .ifCond .eq 14, 3, 67, 0), (56, .bipush (-10), 2, 0, (-10)), (58, .aload_n 0, 1, 0, 0), (59, .getfield 10, 3, 0, 0), (62, .getfield 89, 3, 0, 0), (65, .isub, 1, 0, 0), (66, .ireturn, 1, 0, 0), (67, .aload_n 0, 1, 0, 0), (68, .getfield 33, 3, 0, 0), (71, .aload_n 0, 1, 0, 0), (72, .getfield 19, 3, 0, 0), (75, .getfield 92, 3, 0, 0), (78, .invokevirtual 93, 3, 0, 0), (81, .aload_n 0, 1, 0, 0), (82, .getfield 40, 3, 0, 0), (85, .aload_n 0, 1, 0, 0), (86, .getfield 33, 3, 0, 0), (89, .invokevirtual 70, 3, 0, 0), (92, .aload_n 0, 1, 0, 0), (93, .getfield 47, 3, 0, 0), (96, .invokevirtual 96, 3, 0, 0), (99, .aload_n 0, 1, 0, 0), (100, .getfield 33, 3, 0, 0), (103, .getfield 67, 3, 0, 0), (106, .ireturn, 1, 0, 0)]
def P_MB_ask : List PE := [(0, .iload_n 1, 1, 0, 0), (1, .ifCond .lt 21, 3, 22, 0), (4, .iload_n 1, 1, 0, 0), (5, .aload_n 0, 1, 0, 0), (6, .getfield 10, 3, 0, 0), (9, .getfield 74, 3, 0, 0), (12, .if_icmp .gt 10, 3, 22, 0), (15, .iload_n 1, 1, 0, 0), (16, .sipush 200, 3, 0, 200), (19, .if_icmp .le 11, 3, 30, 0), (22, .new 81, 3, 0, 0), (25, .dup, 1, 0, 0), (26, .invokespecial 83, 3, 0, 0), (29, .athrow, 1, 0, 0), (30, .aload_n 0, 1, 0, 0), (31, .getfield 26, 3, 0, 0), (34, .aload_n 0, 1, 0, 0), (35, .getfield 10, 3, 0, 0), (38, .iload_n 1, 1, 0, 0), (39, .invokevirtual 339, 3, 0, 0), (42, .aload_n 0, 1, 0, 0), (43, .aload_n 0, 1, 0, 0), (44, .getfield 10, 3, 0, 0), (47, .getfield 88, 3, 0, 0), (50, .putfield 63, 3, 0, 0), (53, .aload_n 0, 1, 0, 0), (54, .getfield 10, 3, 0, 0), (57, .getfield 89, 3, 0, 0), (60, .ifCond .eq 15, 3, 75, 0), (63, .ldc_w 340, 3, 0, 0), (66, .aload_n 0, 1, 0, 0), (67, .getfield 10, 3, 0, 0), (70, .getfield 89, 3, 0, 0), (73, .isub, 1, 0, 0), (74, .ireturn, 1, 0, 0), (75, .iconst 0, 1, 0, 0), (76, .istore_n 2, 1, 0, 0), (77, .iconst 0, 1, 0, 0), (78, .istore_n 3, 1, 0, 0), (79, .iload_n 3, 1, 0, 0), (80, .aload_n 0, 1, 0, 0), (81, .getfield 33, 3, 0, 0), (84, .getfield 67, 3, 0, 0), (87, .if_icmp .ge 43, 3, 130, 0), (90, .aload_n 0, 1, 0, 0), (91, .getfield 26, 3, 0, 0), (94, .iload_n 3, 1, 0, 0), (95, .aload_n 0, 1, 0, 0), (96, .getfield 33, 3, 0, 0), (99, .aload_n 0, 1, 0, 0), (100, .getfield 40, 3, 0, 0), (103, .invokevirtual 341, 3, 0, 0), (106, .ifCond .eq 18, 3, 124, 0), (109, .aload_n 0, 1, 0, 0), (110, .getfield 26, 3, 0, 0), (113, .getfield 345, 3, 0, 0), (116, .ifCond .ne 5, 3, 121, 0), (119, .iload_n 3, 1, 0, 0), (120, .ireturn, 1, 0, 0), (121, .iinc 2 1, 3, 0, 1), (124, .iinc 3 1, 3, 0, 1), (127, .goto (-48), 3, 79, 0), (130, .aload_n 0, 1, 0, 0), (131, .getfield 26, 3, 0, 0), (134, .getfield 345, 3, 0, 0), (137, .ifCond .eq 7, 3, 144, 0), (140, .iload_n 2, 1, 0, 0), (141, .goto 4, 3, 145, 0), (144, .iconst (-1), 1, 0, (-1)), (145, .ireturn, 1, 0, 0)]
def P_Law_belt : List PE := [(0, .aload_n 2, 1, 0, 0), (1, .iconst 0, 1, 0, 0), (2, .aload_n 0, 1, 0, 0), (3, .iload_n 1, 1, 0, 0), (4, .invokevirtual 7, 3, 0, 0), (7, .i2l, 1, 0, 0), (8, .lastore, 1, 0, 0), (9, .goto 6, 3, 15, 0), (12, .astore_n 3, 1, 0, 0), (13, .iconst 1, 1, 0, 1), (14, .ireturn, 1, 0, 0), (15, .iconst 0, 1, 0, 0), (16, .ireturn, 1, 0, 0)]
def P_Law_ask : List PE := [(0, .aload_n 2, 1, 0, 0), (1, .iconst 0, 1, 0, 0), (2, .aload_n 0, 1, 0, 0), (3, .iload_n 1, 1, 0, 0), (4, .invokevirtual 74, 3, 0, 0), (7, .i2l, 1, 0, 0), (8, .lastore, 1, 0, 0), (9, .goto 6, 3, 15, 0), (12, .astore_n 3, 1, 0, 0), (13, .iconst 1, 1, 0, 1), (14, .ireturn, 1, 0, 0), (15, .iconst 0, 1, 0, 0), (16, .ireturn, 1, 0, 0)]
def P_Mo_turnSum : List PE := [(0, .aload_n 0, 1, 0, 0), (1, .invokevirtual 173, 3, 0, 0), (4, .istore_n 1, 1, 0, 0), (5, .aload_n 0, 1, 0, 0), (6, .invokevirtual 146, 3, 0, 0), (9, .istore_n 2, 1, 0, 0), (10, .iload_n 2, 1, 0, 0), (11, .bipush 43, 2, 0, 43), (13, .if_icmp .eq 9, 3, 22, 0), (16, .iload_n 2, 1, 0, 0), (17, .bipush 45, 2, 0, 45), (19, .if_icmp .ne 42, 3, 61, 0), (22, .aload_n 0, 1, 0, 0), (23, .dup, 1, 0, 0), (24, .getfield 143, 3, 0, 0), (27, .iconst 1, 1, 0, 1), (28, .iadd, 1, 0, 0), (29, .putfield 143, 3, 0, 0), (32, .aload_n 0, 1, 0, 0), (33, .invokevirtual 173, 3, 0, 0), (36, .istore_n 3, 1, 0, 0), (37, .iload_n 2, 1, 0, 0), (38, .bipush 43, 2, 0, 43), (40, .if_icmp .ne 9, 3, 49, 0), (43, .iload_n 1, 1, 0, 0), (44, .iload_n 3, 1, 0, 0), (45, .iadd, 1, 0, 0), (46, .goto 6, 3, 52, 0), (49, .iload_n 1, 1, 0, 0), (50, .iload_n 3, 1, 0, 0), (51, .isub, 1, 0, 0), (52, .istore_n 1, 1, 0, 0), (53, .aload_n 0, 1, 0, 0), (54, .invokevirtual 146, 3, 0, 0), (57, .istore_n 2, 1, 0, 0), (58, .goto (-48), 3, 10, 0), (61, .iload_n 1, 1, 0, 0), (62, .ireturn, 1, 0, 0)]
def P_Mo_turnTerm : List PE := [(0, .aload_n 0, 1, 0, 0), (1, .invokevirtual 170, 3, 0, 0), (4, .istore_n 1, 1, 0, 0), (5, .aload_n 0, 1, 0, 0), (6, .invokevirtual 146, 3, 0, 0), (9, .bipush 42, 2, 0, 42), (11, .if_icmp .ne 23, 3, 34, 0), (14, .aload_n 0, 1, 0, 0), (15, .dup, 1, 0, 0), (16, .getfield 143, 3, 0, 0), (19, .iconst 1, 1, 0, 1), (20, .iadd, 1, 0, 0), (21, .putfield 143, 3, 0, 0), (24, .iload_n 1, 1, 0, 0), (25, .aload_n 0, 1, 0, 0), (26, .invokevirtual 170, 3, 0, 0), (29, .imul, 1, 0, 0), (30, .istore_n 1, 1, 0, 0), (31, .goto (-26), 3, 5, 0), (34, .iload_n 1, 1, 0, 0), (35, .ireturn, 1, 0, 0)]
def P_Mo_turnPart : List PE := [(0, .aload_n 0, 1, 0, 0), (1, .invokevirtual 146, 3, 0, 0), (4, .istore_n 1, 1, 0, 0), (5, .iload_n 1, 1, 0, 0), (6, .bipush 40, 2, 0, 40), (8, .if_icmp .ne 35, 3, 43, 0), (11, .aload_n 0, 1, 0, 0), (12, .dup, 1, 0, 0), (13, .getfield 143, 3, 0, 0), (16, .iconst 1, 1, 0, 1), (17, .iadd, 1, 0, 0), (18, .putfield 143, 3, 0, 0), (21, .aload_n 0, 1, 0, 0), (22, .invokevirtual 149, 3, 0, 0), (25, .istore_n 2, 1, 0, 0), (26, .aload_n 0, 1, 0, 0), (27, .invokevirtual 146, 3, 0, 0), (30, .istore_n 1, 1, 0, 0), (31, .aload_n 0, 1, 0, 0), (32, .dup, 1, 0, 0), (33, .getfield 143, 3, 0, 0), (36, .iconst 1, 1, 0, 1), (37, .iadd, 1, 0, 0), (38, .putfield 143, 3, 0, 0), (41, .iload_n 2, 1, 0, 0), (42, .ireturn, 1, 0, 0), (43, .aload_n 0, 1, 0, 0), (44, .getfield 143, 3, 0, 0), (47, .istore_n 2, 1, 0, 0), (48, .iconst 0, 1, 0, 0), (49, .istore_n 3, 1, 0, 0), (50, .aload_n 0, 1, 0, 0), (51, .getfield 143, 3, 0, 0), (54, .aload_n 0, 1, 0, 0), (55, .getfield 9, 3, 0, 0), (58, .bipush 10, 2, 0, 10), (60, .iaload, 1, 0, 0), (61, .if_icmp .ge 63, 3, 124, 0), (64, .aload_n 0, 1, 0, 0), (65, .getfield 9, 3, 0, 0), (68, .sipush 934, 3, 0, 934), (71, .aload_n 0, 1, 0, 0), (72, .getfield 143, 3, 0, 0), (75, .iadd, 1, 0, 0), (76, .iaload, 1, 0, 0), (77, .invokestatic 152, 3, 0, 0), (80, .ifCond .eq 44, 3, 124, 0), (83, .sipush 9999, 3, 0, 9999), (86, .bipush 10, 2, 0, 10), (88, .iload_n 3, 1, 0, 0), (89, .imul, 1, 0, 0), (90, .aload_n 0, 1, 0, 0), (91, .getfield 9, 3, 0, 0), (94, .sipush 934, 3, 0, 934), (97, .aload_n 0, 1, 0, 0), (98, .getfield 143, 3, 0, 0), (101, .iadd, 1, 0, 0), (102, .iaload, 1, 0, 0), (103, .iadd, 1, 0, 0), (104, .bipush 48, 2, 0, 48), (106, .isub, 1, 0, 0), (107, .invokestatic 89, 3, 0, 0), (110, .istore_n 3, 1, 0, 0), (111, .aload_n 0, 1, 0, 0), (112, .dup, 1, 0, 0), (113, .getfield 143, 3, 0, 0), (116, .iconst 1, 1, 0, 1), (117, .iadd, 1, 0, 0), (118, .putfield 143, 3, 0, 0), (121, .goto (-71), 3, 50, 0), (124, .aload_n 0, 1, 0, 0), (125, .getfield 143, 3, 0, 0), (128, .aload_n 0, 1, 0, 0), (129, .getfield 9, 3, 0, 0), (132, .bipush 10, 2, 0, 10), (134, .iaload, 1, 0, 0), (135, .if_icmp .ge 35, 3, 170, 0), (138, .aload_n 0, 1, 0, 0), (139, .getfield 9, 3, 0, 0), (142, .sipush 934, 3, 0, 934), (145, .aload_n 0, 1, 0, 0), (146, .getfield 143, 3, 0, 0), (149, .iadd, 1, 0, 0), (150, .iaload, 1, 0, 0), (151, .invokestatic 155, 3, 0, 0), (154, .ifCond .eq 16, 3, 170, 0), (157, .aload_n 0, 1, 0, 0), (158, .dup, 1, 0, 0), (159, .getfield 143, 3, 0, 0), (162, .iconst 1, 1, 0, 1), (163, .iadd, 1, 0, 0), (164, .putfield 143, 3, 0, 0), (167, .goto (-43), 3, 124, 0), (170, .iload_n 1, 1, 0, 0), (171, .invokestatic 152, 3, 0, 0), (174, .ifCond .eq 7, 3, 181, 0), (177, .iload_n 3, 1, 0, 0), (178, .goto 20, 3, 198, 0), (181, .aload_n 0, 1, 0, 0), (182, .iload_n 1, 1, 0, 0), (183, .aload_n 0, 1, 0, 0), (184, .getfield 9, 3, 0, 0), (187, .sipush 934, 3, 0, 934), (190, .iload_n 2, 1, 0, 0), (191, .iadd, 1, 0, 0), (192, .iconst 1, 1, 0, 1), (193, .iadd, 1, 0, 0), (194, .iaload, 1, 0, 0), (195, .invokevirtual 158, 3, 0, 0), (198, .ireturn, 1, 0, 0)]
def P_Mo_rankOf : List PE := [(0, .aload_n 0, 1, 0, 0), (1, .getfield 9, 3, 0, 0), (4, .bipush 9, 2, 0, 9), (6, .iaload, 1, 0, 0), (7, .ifCond .ne 10, 3, 17, 0), (10, .aload_n 0, 1, 0, 0), (11, .iload_n 1, 1, 0, 0), (12, .iconst 5, 1, 0, 5), (13, .invokevirtual 61, 3, 0, 0), (16, .ireturn, 1, 0, 0), (17, .aload_n 0, 1, 0, 0), (18, .iconst 0, 1, 0, 0), (19, .putfield 143, 3, 0, 0), (22, .aload_n 0, 1, 0, 0), (23, .iload_n 1, 1, 0, 0), (24, .putfield 161, 3, 0, 0), (27, .aload_n 0, 1, 0, 0), (28, .invokevirtual 149, 3, 0, 0), (31, .ireturn, 1, 0, 0)]
def P_Mo_side : List PE := [(0, .aload_n 0, 1, 0, 0), (1, .iconst 0, 1, 0, 0), (2, .putfield 46, 3, 0, 0), (5, .aload_n 0, 1, 0, 0), (6, .iload_n 1, 1, 0, 0), (7, .invokevirtual 209, 3, 0, 0), (10, .ifCond .eq 13, 3, 23, 0), (13, .iload_n 2, 1, 0, 0), (14, .iconst 0, 1, 0, 0), (15, .bipush 13, 2, 0, 13), (17, .invokestatic 53, 3, 0, 0), (20, .ifCond .ne 9, 3, 29, 0), (23, .aload_n 0, 1, 0, 0), (24, .iconst 1, 1, 0, 1), (25, .invokevirtual 191, 3, 0, 0), (28, .ireturn, 1, 0, 0), (29, .iload_n 2, 1, 0, 0), (30, .tableswitch 94 5 13 #[50, 56, 63, 69, 75, 81, 81, 81, 81], 50, 124, 0), (80, .aload_n 0, 1, 0, 0), (81, .iload_n 1, 1, 0, 0), (82, .invokevirtual 110, 3, 0, 0), (85, .ireturn, 1, 0, 0), (86, .aload_n 0, 1, 0, 0), (87, .iload_n 1, 1, 0, 0), (88, .iconst 5, 1, 0, 5), (89, .invokevirtual 61, 3, 0, 0), (92, .ireturn, 1, 0, 0), (93, .aload_n 0, 1, 0, 0), (94, .iload_n 1, 1, 0, 0), (95, .invokevirtual 164, 3, 0, 0), (98, .ireturn, 1, 0, 0), (99, .aload_n 0, 1, 0, 0), (100, .iload_n 1, 1, 0, 0), (101, .invokevirtual 167, 3, 0, 0), (104, .ireturn, 1, 0, 0), (105, .aload_n 0, 1, 0, 0), (106, .iload_n 1, 1, 0, 0), (107, .invokevirtual 119, 3, 0, 0), (110, .ireturn, 1, 0, 0), (111, .aload_n 0, 1, 0, 0), (112, .iload_n 1, 1, 0, 0), (113, .bipush 6, 2, 0, 6), (115, .iload_n 2, 1, 0, 0), (116, .iadd, 1, 0, 0), (117, .bipush 10, 2, 0, 10), (119, .isub, 1, 0, 0), (120, .invokevirtual 61, 3, 0, 0), (123, .ireturn, 1, 0, 0), (124, .aload_n 0, 1, 0, 0), (125, .iload_n 1, 1, 0, 0), (126, .iload_n 2, 1, 0, 0), (127, .invokevirtual 61, 3, 0, 0), (130, .ireturn, 1, 0, 0)]
def P_Mo_reserves : List PE := [(0, .iconst 1, 1, 0, 1), (1, .istore_n 1, 1, 0, 0), (2, .iload_n 1, 1, 0, 0), (3, .ifCond .eq 107, 3, 110, 0), (6, .iconst (-1), 1, 0, (-1)), (7, .istore_n 2, 1, 0, 0), (8, .iconst 0, 1, 0, 0), (9, .istore_n 3, 1, 0, 0), (10, .iconst 0, 1, 0, 0), (11, .istore 4, 2, 0, 0), (13, .iconst 0, 1, 0, 0), (14, .istore 5, 2, 0, 0), (16, .iload 5, 2, 0, 0), (18, .aload_n 0, 1, 0, 0), (19, .getfield 9, 3, 0, 0), (22, .iconst 3, 1, 0, 3), (23, .iaload, 1, 0, 0), (24, .if_icmp .ge 61, 3, 85, 0), (27, .aload_n 0, 1, 0, 0), (28, .iload 5, 2, 0, 0), (30, .invokevirtual 116, 3, 0, 0), (33, .ifCond .ne 6, 3, 39, 0), (36, .goto 43, 3, 79, 0), (39, .aload_n 0, 1, 0, 0), (40, .iload 5, 2, 0, 0), (42, .invokevirtual 119, 3, 0, 0), (45, .istore 6, 2, 0, 0), (47, .iload 4, 2, 0, 0), (49, .aload_n 0, 1, 0, 0), (50, .iload 5, 2, 0, 0), (52, .iconst 3, 1, 0, 3), (53, .invokevirtual 61, 3, 0, 0), (56, .iadd, 1, 0, 0), (57, .istore 4, 2, 0, 0), (59, .iload_n 2, 1, 0, 0), (60, .iconst (-1), 1, 0, (-1)), (61, .if_icmp .eq 12, 3, 73, 0), (64, .iload 6, 2, 0, 0), (66, .iload_n 3, 1, 0, 0), (67, .if_icmp .gt 6, 3, 73, 0), (70, .goto 9, 3, 79, 0), (73, .iload 5, 2, 0, 0), (75, .istore_n 2, 1, 0, 0), (76, .iload 6, 2, 0, 0), (78, .istore_n 3, 1, 0, 0), (79, .iinc 5 1, 3, 0, 1), (82, .goto (-66), 3, 16, 0), (85, .iload_n 2, 1, 0, 0), (86, .iconst (-1), 1, 0, (-1)), (87, .if_icmp .eq 7, 3, 94, 0), (90, .iconst 1, 1, 0, 1), (91, .goto 4, 3, 95, 0), (94, .iconst 0, 1, 0, 0), (95, .istore_n 1, 1, 0, 0), (96, .iload_n 1, 1, 0, 0), (97, .ifCond .eq 10, 3, 107, 0), (100, .aload_n 0, 1, 0, 0), (101, .iload_n 2, 1, 0, 0), (102, .iload 4, 2, 0, 0), (104, .invokevirtual 122, 3, 0, 0), (107, .goto (-105), 3, 2, 0), (110, .return_, 1, 0, 0)]
def P_Mo_readSum : List PE := [(0, .aload_n 0, 1, 0, 0), (1, .invokevirtual 367, 3, 0, 0), (4, .aload_n 0, 1, 0, 0), (5, .bipush 43, 2, 0, 43), (7, .invokevirtual 318, 3, 0, 0), (10, .ifCond .ne 12, 3, 22, 0), (13, .aload_n 0, 1, 0, 0), (14, .bipush 45, 2, 0, 45), (16, .invokevirtual 318, 3, 0, 0), (19, .ifCond .eq 14, 3, 33, 0), (22, .aload_n 0, 1, 0, 0), (23, .invokevirtual 324, 3, 0, 0), (26, .aload_n 0, 1, 0, 0), (27, .invokevirtual 367, 3, 0, 0), (30, .goto (-26), 3, 4, 0), (33, .return_, 1, 0, 0)]
def P_Mo_readTerm : List PE := [(0, .aload_n 0, 1, 0, 0), (1, .invokevirtual 364, 3, 0, 0), (4, .aload_n 0, 1, 0, 0), (5, .bipush 42, 2, 0, 42), (7, .invokevirtual 318, 3, 0, 0), (10, .ifCond .eq 14, 3, 24, 0), (13, .aload_n 0, 1, 0, 0), (14, .invokevirtual 324, 3, 0, 0), (17, .aload_n 0, 1, 0, 0), (18, .invokevirtual 364, 3, 0, 0), (21, .goto (-17), 3, 4, 0), (24, .return_, 1, 0, 0)]
def P_Mo_readPart : List PE := [(0, .aload_n 0, 1, 0, 0), (1, .bipush 40, 2, 0, 40), (3, .invokevirtual 318, 3, 0, 0), (6, .ifCond .eq 52, 3, 58, 0), (9, .aload_n 0, 1, 0, 0), (10, .getfield 300, 3, 0, 0), (13, .bipush 6, 2, 0, 6), (15, .if_icmp .ne 8, 3, 23, 0), (18, .aload_n 0, 1, 0, 0), (19, .iconst 4, 1, 0, 4), (20, .invokevirtual 321, 3, 0, 0), (23, .aload_n 0, 1, 0, 0), (24, .dup, 1, 0, 0), (25, .getfield 300, 3, 0, 0), (28, .iconst 1, 1, 0, 1), (29, .iadd, 1, 0, 0), (30, .putfield 300, 3, 0, 0), (33, .aload_n 0, 1, 0, 0), (34, .invokevirtual 324, 3, 0, 0), (37, .aload_n 0, 1, 0, 0), (38, .invokevirtual 344, 3, 0, 0), (41, .aload_n 0, 1, 0, 0), (42, .bipush 41, 2, 0, 41), (44, .invokevirtual 347, 3, 0, 0), (47, .aload_n 0, 1, 0, 0), (48, .dup, 1, 0, 0), (49, .getfield 300, 3, 0, 0), (52, .iconst 1, 1, 0, 1), (53, .isub, 1, 0, 0), (54, .putfield 300, 3, 0, 0), (57, .return_, 1, 0, 0), (58, .aload_n 0, 1, 0, 0), (59, .getfield 297, 3, 0, 0), (62, .ifCond .ne 21, 3, 83, 0), (65, .aload_n 0, 1, 0, 0), (66, .getfield 291, 3, 0, 0), (69, .iconst 2, 1, 0, 2), (70, .if_icmp .ne 13, 3, 83, 0), (73, .aload_n 0, 1, 0, 0), (74, .iconst 0, 1, 0, 0), (75, .sipush 9999, 3, 0, 9999), (78, .invokevirtual 335, 3, 0, 0), (81, .istore_n 1, 1, 0, 0), (82, .return_, 1, 0, 0), (83, .aload_n 0, 1, 0, 0), (84, .ldc_w 350, 3, 0, 0), (87, .invokevirtual 340, 3, 0, 0), (90, .ifCond .ne 73, 3, 163, 0), (93, .aload_n 0, 1, 0, 0), (94, .ldc_w 352, 3, 0, 0), (97, .invokevirtual 340, 3, 0, 0), (100, .ifCond .ne 63, 3, 163, 0), (103, .aload_n 0, 1, 0, 0), (104, .ldc_w 354, 3, 0, 0), (107, .invokevirtual 340, 3, 0, 0), (110, .ifCond .ne 53, 3, 163, 0), (113, .aload_n 0, 1, 0, 0), (114, .ldc_w 356, 3, 0, 0), (117, .invokevirtual 340, 3, 0, 0), (120, .ifCond .ne 43, 3, 163, 0), (123, .aload_n 0, 1, 0, 0), (124, .ldc_w 358, 3, 0, 0), (127, .invokevirtual 340, 3, 0, 0), (130, .ifCond .ne 33, 3, 163, 0), (133, .aload_n 0, 1, 0, 0), (134, .ldc_w 360, 3, 0, 0), (137, .invokevirtual 340, 3, 0, 0), (140, .ifCond .ne 23, 3, 163, 0), (143, .aload_n 0, 1, 0, 0), (144, .ldc_w 338, 3, 0, 0), (147, .invokevirtual 340, 3, 0, 0), (150, .ifCond .ne 13, 3, 163, 0), (153, .aload_n 0, 1, 0, 0), (154, .ldc_w 362, 3, 0, 0), (157, .invokevirtual 340, 3, 0, 0), (160, .ifCond .eq 7, 3, 167, 0), (163, .iconst 1, 1, 0, 1), (164, .goto 4, 3, 168, 0), (167, .iconst 0, 1, 0, 0), (168, .istore_n 1, 1, 0, 0), (169, .iload_n 1, 1, 0, 0), (170, .ifCond .ne 8, 3, 178, 0), (173, .aload_n 0, 1, 0, 0), (174, .iconst 1, 1, 0, 1), (175, .invokevirtual 321, 3, 0, 0), (178, .aload_n 0, 1, 0, 0), (179, .invokevirtual 324, 3, 0, 0), (182, .return_, 1, 0, 0)]
def P_Mo_tick : List PE := [(0, .aload_n 0, 1, 0, 0), (1, .invokevirtual 125, 3, 0, 0), (4, .aload_n 0, 1, 0, 0), (5, .invokevirtual 128, 3, 0, 0), (8, .aload_n 0, 1, 0, 0), (9, .invokevirtual 131, 3, 0, 0), (12, .aload_n 0, 1, 0, 0), (13, .invokevirtual 134, 3, 0, 0), (16, .aload_n 0, 1, 0, 0), (17, .invokevirtual 137, 3, 0, 0), (20, .aload_n 0, 1, 0, 0), (21, .getfield 9, 3, 0, 0), (24, .iconst 5, 1, 0, 5), (25, .dup2, 1, 0, 0), (26, .iaload, 1, 0, 0), (27, .iconst 1, 1, 0, 1), (28, .iadd, 1, 0, 0), (29, .iastore, 1, 0, 0), (30, .iconst 0, 1, 0, 0), (31, .istore_n 1, 1, 0, 0), (32, .iload_n 1, 1, 0, 0), (33, .aload_n 0, 1, 0, 0), (34, .getfield 9, 3, 0, 0), (37, .iconst 1, 1, 0, 1), (38, .iaload, 1, 0, 0), (39, .if_icmp .ge 34, 3, 73, 0), (42, .aload_n 0, 1, 0, 0), (43, .getfield 9, 3, 0, 0), (46, .bipush 12, 2, 0, 12), (48, .iconst 5, 1, 0, 5), (49, .iload_n 1, 1, 0, 0), (50, .imul, 1, 0, 0), (51, .iadd, 1, 0, 0), (52, .iconst 2, 1, 0, 2), (53, .iadd, 1, 0, 0), (54, .iconst 0, 1, 0, 0), (55, .aload_n 0, 1, 0, 0), (56, .iload_n 1, 1, 0, 0), (57, .iconst 2, 1, 0, 2), (58, .invokevirtual 81, 3, 0, 0), (61, .iconst 1, 1, 0, 1), (62, .isub, 1, 0, 0), (63, .invokestatic 84, 3, 0, 0), (66, .iastore, 1, 0, 0), (67, .iinc 1 1, 3, 0, 1), (70, .goto (-38), 3, 32, 0), (73, .return_, 1, 0, 0)]
def P_Mo_readTurns : List PE := [(0, .aload_n 0, 1, 0, 0), (1, .getfield 13, 3, 0, 0), (4, .bipush 9, 2, 0, 9), (6, .iaload, 1, 0, 0), (7, .iconst 1, 1, 0, 1), (8, .if_icmp .ne 8, 3, 16, 0), (11, .aload_n 0, 1, 0, 0), (12, .iconst 5, 1, 0, 5), (13, .invokevirtual 321, 3, 0, 0), (16, .aload_n 0, 1, 0, 0), (17, .invokevirtual 324, 3, 0, 0), (20, .aload_n 0, 1, 0, 0), (21, .getfield 288, 3, 0, 0), (24, .istore_n 1, 1, 0, 0), (25, .aload_n 0, 1, 0, 0), (26, .invokevirtual 344, 3, 0, 0), (29, .aload_n 0, 1, 0, 0), (30, .getfield 297, 3, 0, 0), (33, .ifCond .eq 4, 3, 37, 0), (36, .return_, 1, 0, 0), (37, .aload_n 0, 1, 0, 0), (38, .getfield 13, 3, 0, 0), (41, .bipush 9, 2, 0, 9), (43, .iconst 1, 1, 0, 1), (44, .iastore, 1, 0, 0), (45, .aload_n 0, 1, 0, 0), (46, .getfield 13, 3, 0, 0), (49, .bipush 10, 2, 0, 10), (51, .aload_n 0, 1, 0, 0), (52, .getfield 288, 3, 0, 0), (55, .iload_n 1, 1, 0, 0), (56, .isub, 1, 0, 0), (57, .iastore, 1, 0, 0), (58, .iload_n 1, 1, 0, 0), (59, .istore_n 2, 1, 0, 0), (60, .iload_n 2, 1, 0, 0), (61, .aload_n 0, 1, 0, 0), (62, .getfield 288, 3, 0, 0), (65, .if_icmp .ge 27, 3, 92, 0), (68, .aload_n 0, 1, 0, 0), (69, .getfield 13, 3, 0, 0), (72, .sipush 934, 3, 0, 934), (75, .iload_n 2, 1, 0, 0), (76, .iadd, 1, 0, 0), (77, .iload_n 1, 1, 0, 0), (78, .isub, 1, 0, 0), (79, .aload_n 0, 1, 0, 0), (80, .getfield 36, 3, 0, 0), (83, .iload_n 2, 1, 0, 0), (84, .iaload, 1, 0, 0), (85, .iastore, 1, 0, 0), (86, .iinc 2 1, 3, 0, 1), (89, .goto (-29), 3, 60, 0), (92, .return_, 1, 0, 0)]
def P_Mo_readTest : List PE := [(0, .aload_n 0, 1, 0, 0), (1, .invokevirtual 432, 3, 0, 0), (4, .istore_n 1, 1, 0, 0), (5, .aload_n 0, 1, 0, 0), (6, .ldc_w 435, 3, 0, 0), (9, .invokevirtual 340, 3, 0, 0), (12, .ifCond .eq 29, 3, 41, 0), (15, .aload_n 0, 1, 0, 0), (16, .invokevirtual 324, 3, 0, 0), (19, .aload_n 0, 1, 0, 0), (20, .invokevirtual 432, 3, 0, 0), (23, .istore_n 2, 1, 0, 0), (24, .iload_n 1, 1, 0, 0), (25, .ifCond .ne 7, 3, 32, 0), (28, .iload_n 2, 1, 0, 0), (29, .ifCond .eq 7, 3, 36, 0), (32, .iconst 1, 1, 0, 1), (33, .goto 4, 3, 37, 0), (36, .iconst 0, 1, 0, 0), (37, .istore_n 1, 1, 0, 0), (38, .goto (-33), 3, 5, 0), (41, .iload_n 1, 1, 0, 0), (42, .ireturn, 1, 0, 0)]
def P_Mo_readBoth : List PE := [(0, .aload_n 0, 1, 0, 0), (1, .invokevirtual 421, 3, 0, 0), (4, .istore_n 1, 1, 0, 0), (5, .aload_n 0, 1, 0, 0), (6, .ldc_w 430, 3, 0, 0), (9, .invokevirtual 340, 3, 0, 0), (12, .ifCond .eq 29, 3, 41, 0), (15, .aload_n 0, 1, 0, 0), (16, .invokevirtual 324, 3, 0, 0), (19, .aload_n 0, 1, 0, 0), (20, .invokevirtual 421, 3, 0, 0), (23, .istore_n 2, 1, 0, 0), (24, .iload_n 1, 1, 0, 0), (25, .ifCond .eq 11, 3, 36, 0), (28, .iload_n 2, 1, 0, 0), (29, .ifCond .eq 7, 3, 36, 0), (32, .iconst 1, 1, 0, 1), (33, .goto 4, 3, 37, 0), (36, .iconst 0, 1, 0, 0), (37, .istore_n 1, 1, 0, 0), (38, .goto (-33), 3, 5, 0), (41, .iload_n 1, 1, 0, 0), (42, .ireturn, 1, 0, 0)]
def P_Mo_readFact : List PE := [(0, .aload_n 0, 1, 0, 0), (1, .ldc_w 416, 3, 0, 0), (4, .invokevirtual 340, 3, 0, 0), (7, .ifCond .eq 32, 3, 39, 0), (10, .aload_n 0, 1, 0, 0), (11, .invokevirtual 418, 3, 0, 0), (14, .aload_n 0, 1, 0, 0), (15, .invokevirtual 421, 3, 0, 0), (18, .istore_n 1, 1, 0, 0), (19, .aload_n 0, 1, 0, 0), (20, .dup, 1, 0, 0), (21, .getfield 300, 3, 0, 0), (24, .iconst 1, 1, 0, 1), (25, .isub, 1, 0, 0), (26, .putfield 300, 3, 0, 0), (29, .iload_n 1, 1, 0, 0), (30, .ifCond .ne 7, 3, 37, 0), (33, .iconst 1, 1, 0, 1), (34, .goto 4, 3, 38, 0), (37, .iconst 0, 1, 0, 0), (38, .ireturn, 1, 0, 0), (39, .aload_n 0, 1, 0, 0), (40, .bipush 123, 2, 0, 123), (42, .invokevirtual 318, 3, 0, 0), (45, .ifCond .eq 30, 3, 75, 0), (48, .aload_n 0, 1, 0, 0), (49, .invokevirtual 418, 3, 0, 0), (52, .aload_n 0, 1, 0, 0), (53, .invokevirtual 424, 3, 0, 0), (56, .istore_n 1, 1, 0, 0), (57, .aload_n 0, 1, 0, 0), (58, .bipush 125, 2, 0, 125), (60, .invokevirtual 347, 3, 0, 0), (63, .aload_n 0, 1, 0, 0), (64, .dup, 1, 0, 0), (65, .getfield 300, 3, 0, 0), (68, .iconst 1, 1, 0, 1), (69, .isub, 1, 0, 0), (70, .putfield 300, 3, 0, 0), (73, .iload_n 1, 1, 0, 0), (74, .ireturn, 1, 0, 0), (75, .aload_n 0, 1, 0, 0), (76, .invokevirtual 427, 3, 0, 0), (79, .istore_n 1, 1, 0, 0), (80, .aload_n 0, 1, 0, 0), (81, .bipush 60, 2, 0, 60), (83, .invokevirtual 318, 3, 0, 0), (86, .ifCond .eq 7, 3, 93, 0), (89, .iconst (-1), 1, 0, (-1)), (90, .goto 30, 3, 120, 0), (93, .aload_n 0, 1, 0, 0), (94, .bipush 61, 2, 0, 61), (96, .invokevirtual 318, 3, 0, 0), (99, .ifCond .eq 7, 3, 106, 0), (102, .iconst 0, 1, 0, 0), (103, .goto 17, 3, 120, 0), (106, .aload_n 0, 1, 0, 0), (107, .bipush 62, 2, 0, 62), (109, .invokevirtual 318, 3, 0, 0), (112, .ifCond .eq 7, 3, 119, 0), (115, .iconst 1, 1, 0, 1), (116, .goto 4, 3, 120, 0), (119, .iconst 2, 1, 0, 2), (120, .istore_n 2, 1, 0, 0), (121, .iload_n 2, 1, 0, 0), (122, .iconst 2, 1, 0, 2), (123, .if_icmp .ne 8, 3, 131, 0), (126, .aload_n 0, 1, 0, 0), (127, .iconst 1, 1, 0, 1), (128, .invokevirtual 321, 3, 0, 0), (131, .aload_n 0, 1, 0, 0), (132, .invokevirtual 324, 3, 0, 0), (135, .aload_n 0, 1, 0, 0), (136, .invokevirtual 427, 3, 0, 0), (139, .istore_n 3, 1, 0, 0), (140, .iload_n 2, 1, 0, 0), (141, .ifCond .ge 16, 3, 157, 0), (144, .iload_n 1, 1, 0, 0), (145, .iload_n 3, 1, 0, 0), (146, .if_icmp .ge 7, 3, 153, 0), (149, .iconst 1, 1, 0, 1), (150, .goto 34, 3, 184, 0), (153, .iconst 0, 1, 0, 0), (154, .goto 30, 3, 184, 0), (157, .iload_n 2, 1, 0, 0), (158, .ifCond .ne 16, 3, 174, 0), (161, .iload_n 1, 1, 0, 0), (162, .iload_n 3, 1, 0, 0), (163, .if_icmp .ne 7, 3, 170, 0), (166, .iconst 1, 1, 0, 1), (167, .goto 17, 3, 184, 0), (170, .iconst 0, 1, 0, 0), (171, .goto 13, 3, 184, 0), (174, .iload_n 1, 1, 0, 0), (175, .iload_n 3, 1, 0, 0), (176, .if_icmp .le 7, 3, 183, 0), (179, .iconst 1, 1, 0, 1), (180, .goto 4, 3, 184, 0), (183, .iconst 0, 1, 0, 0), (184, .ireturn, 1, 0, 0)]
def P_Mo_runs : List PE := [(0, .iconst 0, 1, 0, 0), (1, .istore_n 2, 1, 0, 0), (2, .iload_n 2, 1, 0, 0), (3, .iload_n 1, 1, 0, 0), (4, .if_icmp .ge 13, 3, 17, 0), (7, .aload_n 0, 1, 0, 0), (8, .invokevirtual 140, 3, 0, 0), (11, .iinc 2 1, 3, 0, 1), (14, .goto (-12), 3, 2, 0), (17, .return_, 1, 0, 0)]
def P_Mo_layAgain : List PE := [(0, .aload_n 0, 1, 0, 0), (1, .getfield 16, 3, 0, 0), (4, .aload_n 0, 1, 0, 0), (5, .getfield 9, 3, 0, 0), (8, .invokestatic 218, 3, 0, 0), (11, .aload_n 0, 1, 0, 0), (12, .invokevirtual 235, 3, 0, 0), (15, .istore_n 1, 1, 0, 0), (16, .aload_n 0, 1, 0, 0), (17, .iconst 0, 1, 0, 0), (18, .iload_n 1, 1, 0, 0), (19, .invokevirtual 239, 3, 0, 0), (22, .iconst 1, 1, 0, 1), (23, .istore_n 2, 1, 0, 0), (24, .iload_n 2, 1, 0, 0), (25, .sipush 500, 3, 0, 500), (28, .if_icmp .gt 19, 3, 47, 0), (31, .aload_n 0, 1, 0, 0), (32, .invokevirtual 140, 3, 0, 0), (35, .aload_n 0, 1, 0, 0), (36, .iload_n 2, 1, 0, 0), (37, .iload_n 1, 1, 0, 0), (38, .invokevirtual 239, 3, 0, 0), (41, .iinc 2 1, 3, 0, 1), (44, .goto (-20), 3, 24, 0), (47, .aload_n 0, 1, 0, 0), (48, .getfield 9, 3, 0, 0), (51, .aload_n 0, 1, 0, 0), (52, .getfield 16, 3, 0, 0), (55, .invokestatic 218, 3, 0, 0), (58, .aload_n 0, 1, 0, 0), (59, .iconst (-1), 1, 0, (-1)), (60, .putfield 243, 3, 0, 0), (63, .aload_n 0, 1, 0, 0), (64, .iconst (-1), 1, 0, (-1)), (65, .putfield 246, 3, 0, 0), (68, .iconst 0, 1, 0, 0), (69, .istore_n 2, 1, 0, 0), (70, .iload_n 2, 1, 0, 0), (71, .sipush 500, 3, 0, 500), (74, .if_icmp .ge 66, 3, 140, 0), (77, .aload_n 0, 1, 0, 0), (78, .getfield 243, 3, 0, 0), (81, .iconst (-1), 1, 0, (-1)), (82, .if_icmp .ne 58, 3, 140, 0), (85, .iconst 1, 1, 0, 1), (86, .istore_n 3, 1, 0, 0), (87, .iload_n 2, 1, 0, 0), (88, .iload_n 3, 1, 0, 0), (89, .iadd, 1, 0, 0), (90, .sipush 500, 3, 0, 500), (93, .if_icmp .gt 41, 3, 134, 0), (96, .aload_n 0, 1, 0, 0), (97, .getfield 243, 3, 0, 0), (100, .iconst (-1), 1, 0, (-1)), (101, .if_icmp .ne 33, 3, 134, 0), (104, .aload_n 0, 1, 0, 0), (105, .iload_n 2, 1, 0, 0), (106, .iload_n 2, 1, 0, 0), (107, .iload_n 3, 1, 0, 0), (108, .iadd, 1, 0, 0), (109, .invokevirtual 249, 3, 0, 0), (112, .ifCond .ne 6, 3, 118, 0), (115, .goto 13, 3, 128, 0), (118, .aload_n 0, 1, 0, 0), (119, .iload_n 2, 1, 0, 0), (120, .putfield 243, 3, 0, 0), (123, .aload_n 0, 1, 0, 0), (124, .iload_n 3, 1, 0, 0), (125, .putfield 246, 3, 0, 0), (128, .iinc 3 1, 3, 0, 1), (131, .goto (-44), 3, 87, 0), (134, .iinc 2 1, 3, 0, 1), (137, .goto (-67), 3, 70, 0), (140, .return_, 1, 0, 0)]
def P_Mo_readLine : List PE := [(0, .aload_n 0, 1, 0, 0), (1, .ldc_w 370, 3, 0, 0), (4, .invokevirtual 340, 3, 0, 0), (7, .ifCond .eq 10, 3, 17, 0), (10, .aload_n 0, 1, 0, 0), (11, .invokevirtual 372, 3, 0, 0), (14, .goto 76, 3, 90, 0), (17, .aload_n 0, 1, 0, 0), (18, .ldc_w 375, 3, 0, 0), (21, .invokevirtual 340, 3, 0, 0), (24, .ifCond .eq 10, 3, 34, 0), (27, .aload_n 0, 1, 0, 0), (28, .invokevirtual 377, 3, 0, 0), (31, .goto 59, 3, 90, 0), (34, .aload_n 0, 1, 0, 0), (35, .ldc_w 362, 3, 0, 0), (38, .invokevirtual 340, 3, 0, 0), (41, .ifCond .eq 10, 3, 51, 0), (44, .aload_n 0, 1, 0, 0), (45, .invokevirtual 380, 3, 0, 0), (48, .goto 42, 3, 90, 0), (51, .aload_n 0, 1, 0, 0), (52, .ldc_w 383, 3, 0, 0), (55, .invokevirtual 340, 3, 0, 0), (58, .ifCond .eq 10, 3, 68, 0), (61, .aload_n 0, 1, 0, 0), (62, .invokevirtual 384, 3, 0, 0), (65, .goto 25, 3, 90, 0), (68, .aload_n 0, 1, 0, 0), (69, .ldc_w 387, 3, 0, 0), (72, .invokevirtual 340, 3, 0, 0), (75, .ifCond .eq 10, 3, 85, 0), (78, .aload_n 0, 1, 0, 0), (79, .invokevirtual 388, 3, 0, 0), (82, .goto 8, 3, 90, 0), (85, .aload_n 0, 1, 0, 0), (86, .iconst 1, 1, 0, 1), (87, .invokevirtual 321, 3, 0, 0), (90, .aload_n 0, 1, 0, 0), (91, .bipush 59, 2, 0, 59), (93, .invokevirtual 347, 3, 0, 0), (96, .return_, 1, 0, 0)]
def P_Mo_readQuestion : List PE := [(0, .aload_n 0, 1, 0, 0), (1, .iload_n 2, 1, 0, 0), (2, .putfield 402, 3, 0, 0), (5, .aload_n 0, 1, 0, 0), (6, .iload_n 1, 1, 0, 0), (7, .invokevirtual 391, 3, 0, 0), (10, .aload_n 0, 1, 0, 0), (11, .ldc_w 437, 3, 0, 0), (14, .invokevirtual 340, 3, 0, 0), (17, .ifCond .ne 18, 3, 35, 0), (20, .aload_n 0, 1, 0, 0), (21, .ldc_w 439, 3, 0, 0), (24, .invokevirtual 340, 3, 0, 0), (27, .ifCond .ne 8, 3, 35, 0), (30, .aload_n 0, 1, 0, 0), (31, .iconst 1, 1, 0, 1), (32, .invokevirtual 321, 3, 0, 0), (35, .aload_n 0, 1, 0, 0), (36, .invokevirtual 324, 3, 0, 0), (39, .aload_n 0, 1, 0, 0), (40, .invokevirtual 424, 3, 0, 0), (43, .istore_n 3, 1, 0, 0), (44, .aload_n 0, 1, 0, 0), (45, .getfield 297, 3, 0, 0), (48, .ifCond .ne 15, 3, 63, 0), (51, .aload_n 0, 1, 0, 0), (52, .getfield 291, 3, 0, 0), (55, .ifCond .eq 8, 3, 63, 0), (58, .aload_n 0, 1, 0, 0), (59, .iconst 1, 1, 0, 1), (60, .invokevirtual 321, 3, 0, 0), (63, .iload_n 3, 1, 0, 0), (64, .ireturn, 1, 0, 0)]
def P_Mo_ticks : List PE := [(0, .aload_n 0, 1, 0, 0), (1, .iconst 0, 1, 0, 0), (2, .putfield 46, 3, 0, 0), (5, .iload_n 1, 1, 0, 0), (6, .iconst 1, 1, 0, 1), (7, .sipush 500, 3, 0, 500), (10, .invokestatic 53, 3, 0, 0), (13, .ifCond .ne 9, 3, 22, 0), (16, .aload_n 0, 1, 0, 0), (17, .iconst 1, 1, 0, 1), (18, .invokevirtual 191, 3, 0, 0), (21, .ireturn, 1, 0, 0), (22, .aload_n 0, 1, 0, 0), (23, .invokevirtual 212, 3, 0, 0), (26, .aload_n 0, 1, 0, 0), (27, .getfield 9, 3, 0, 0), (30, .bipush 6, 2, 0, 6), (32, .iaload, 1, 0, 0), (33, .istore_n 2, 1, 0, 0), (34, .aload_n 0, 1, 0, 0), (35, .iload_n 1, 1, 0, 0), (36, .invokevirtual 215, 3, 0, 0), (39, .aload_n 0, 1, 0, 0), (40, .getfield 9, 3, 0, 0), (43, .bipush 6, 2, 0, 6), (45, .iaload, 1, 0, 0), (46, .iload_n 2, 1, 0, 0), (47, .isub, 1, 0, 0), (48, .ireturn, 1, 0, 0)]
def P_Mo_trial : List PE := [(0, .aload_n 0, 1, 0, 0), (1, .iload_n 2, 1, 0, 0), (2, .iconst 0, 1, 0, 0), (3, .iconst 4, 1, 0, 4), (4, .invokestatic 53, 3, 0, 0), (7, .ifCond .ne 7, 3, 14, 0), (10, .iconst 1, 1, 0, 1), (11, .goto 19, 3, 30, 0), (14, .iload_n 1, 1, 0, 0), (15, .iconst 0, 1, 0, 0), (16, .sipush 500, 3, 0, 500), (19, .invokestatic 53, 3, 0, 0), (22, .ifCond .ne 7, 3, 29, 0), (25, .iconst 2, 1, 0, 2), (26, .goto 4, 3, 30, 0), (29, .iconst 0, 1, 0, 0), (30, .putfield 46, 3, 0, 0), (33, .aload_n 0, 1, 0, 0), (34, .getfield 46, 3, 0, 0), (37, .ifCond .le 5, 3, 42, 0), (40, .iconst 0, 1, 0, 0), (41, .ireturn, 1, 0, 0), (42, .aload_n 0, 1, 0, 0), (43, .getfield 16, 3, 0, 0), (46, .aload_n 0, 1, 0, 0), (47, .getfield 9, 3, 0, 0), (50, .invokestatic 218, 3, 0, 0), (53, .aload_n 0, 1, 0, 0), (54, .iload_n 1, 1, 0, 0), (55, .invokevirtual 215, 3, 0, 0), (58, .iload_n 2, 1, 0, 0), (59, .ifCond .ne 21, 3, 80, 0), (62, .aload_n 0, 1, 0, 0), (63, .getfield 9, 3, 0, 0), (66, .bipush 6, 2, 0, 6), (68, .iaload, 1, 0, 0), (69, .aload_n 0, 1, 0, 0), (70, .getfield 16, 3, 0, 0), (73, .bipush 6, 2, 0, 6), (75, .iaload, 1, 0, 0), (76, .isub, 1, 0, 0), (77, .goto 56, 3, 133, 0), (80, .iload_n 2, 1, 0, 0), (81, .iconst 1, 1, 0, 1), (82, .if_icmp .ne 21, 3, 103, 0), (85, .aload_n 0, 1, 0, 0), (86, .getfield 9, 3, 0, 0), (89, .bipush 7, 2, 0, 7), (91, .iaload, 1, 0, 0), (92, .aload_n 0, 1, 0, 0), (93, .getfield 16, 3, 0, 0), (96, .bipush 7, 2, 0, 7), (98, .iaload, 1, 0, 0), (99, .isub, 1, 0, 0), (100, .goto 33, 3, 133, 0), (103, .iload_n 2, 1, 0, 0), (104, .iconst 2, 1, 0, 2), (105, .if_icmp .ne 11, 3, 116, 0), (108, .aload_n 0, 1, 0, 0), (109, .iconst (-1), 1, 0, (-1)), (110, .invokevirtual 176, 3, 0, 0), (113, .goto 20, 3, 133, 0), (116, .iload_n 2, 1, 0, 0), (117, .iconst 3, 1, 0, 3), (118, .if_icmp .ne 11, 3, 129, 0), (121, .aload_n 0, 1, 0, 0), (122, .iconst (-1), 1, 0, (-1)), (123, .invokevirtual 182, 3, 0, 0), (126, .goto 7, 3, 133, 0), (129, .aload_n 0, 1, 0, 0), (130, .invokevirtual 226, 3, 0, 0), (133, .istore_n 3, 1, 0, 0), (134, .aload_n 0, 1, 0, 0), (135, .getfield 9, 3, 0, 0), (138, .aload_n 0, 1, 0, 0), (139, .getfield 16, 3, 0, 0), (142, .invokestatic 218, 3, 0, 0), (145, .iload_n 3, 1, 0, 0), (146, .ireturn, 1, 0, 0)]
def P_Mo_again : List PE := [(0, .aload_n 0, 1, 0, 0), (1, .iconst 0, 1, 0, 0), (2, .putfield 46, 3, 0, 0), (5, .iload_n 1, 1, 0, 0), (6, .iconst 0, 1, 0, 0), (7, .iconst 1, 1, 0, 1), (8, .invokestatic 53, 3, 0, 0), (11, .ifCond .ne 9, 3, 20, 0), (14, .aload_n 0, 1, 0, 0), (15, .iconst 1, 1, 0, 1), (16, .invokevirtual 191, 3, 0, 0), (19, .ireturn, 1, 0, 0), (20, .aload_n 0, 1, 0, 0), (21, .invokevirtual 252, 3, 0, 0), (24, .iload_n 1, 1, 0, 0), (25, .ifCond .ne 10, 3, 35, 0), (28, .aload_n 0, 1, 0, 0), (29, .getfield 243, 3, 0, 0), (32, .goto 7, 3, 39, 0), (35, .aload_n 0, 1, 0, 0), (36, .getfield 246, 3, 0, 0), (39, .ireturn, 1, 0, 0)]
def P_Mo_rate : List PE := [(0, .aload_n 0, 1, 0, 0), (1, .iconst 0, 1, 0, 0), (2, .putfield 46, 3, 0, 0), (5, .iload_n 1, 1, 0, 0), (6, .iconst 0, 1, 0, 0), (7, .iconst 2, 1, 0, 2), (8, .invokestatic 53, 3, 0, 0), (11, .ifCond .eq 31, 3, 42, 0), (14, .iload_n 2, 1, 0, 0), (15, .iconst (-1), 1, 0, (-1)), (16, .if_icmp .eq 32, 3, 48, 0), (19, .iload_n 1, 1, 0, 0), (20, .ifCond .ne 14, 3, 34, 0), (23, .aload_n 0, 1, 0, 0), (24, .iload_n 2, 1, 0, 0), (25, .invokevirtual 200, 3, 0, 0), (28, .ifCond .eq 14, 3, 42, 0), (31, .goto 17, 3, 48, 0), (34, .aload_n 0, 1, 0, 0), (35, .iload_n 2, 1, 0, 0), (36, .invokevirtual 209, 3, 0, 0), (39, .ifCond .ne 9, 3, 48, 0), (42, .aload_n 0, 1, 0, 0), (43, .iconst 1, 1, 0, 1), (44, .invokevirtual 191, 3, 0, 0), (47, .ireturn, 1, 0, 0), (48, .aload_n 0, 1, 0, 0), (49, .invokevirtual 252, 3, 0, 0), (52, .aload_n 0, 1, 0, 0), (53, .getfield 243, 3, 0, 0), (56, .iconst (-1), 1, 0, (-1)), (57, .if_icmp .ne 5, 3, 62, 0), (60, .iconst (-1), 1, 0, (-1)), (61, .ireturn, 1, 0, 0), (62, .aload_n 0, 1, 0, 0), (63, .getfield 16, 3, 0, 0), (66, .aload_n 0, 1, 0, 0), (67, .getfield 9, 3, 0, 0), (70, .invokestatic 218, 3, 0, 0), (73, .aload_n 0, 1, 0, 0), (74, .aload_n 0, 1, 0, 0), (75, .getfield 243, 3, 0, 0), (78, .invokevirtual 215, 3, 0, 0), (81, .aload_n 0, 1, 0, 0), (82, .iload_n 1, 1, 0, 0), (83, .iload_n 2, 1, 0, 0), (84, .invokevirtual 255, 3, 0, 0), (87, .istore_n 3, 1, 0, 0), (88, .aload_n 0, 1, 0, 0), (89, .aload_n 0, 1, 0, 0), (90, .getfield 246, 3, 0, 0), (93, .invokevirtual 215, 3, 0, 0), (96, .aload_n 0, 1, 0, 0), (97, .iload_n 1, 1, 0, 0), (98, .iload_n 2, 1, 0, 0), (99, .invokevirtual 255, 3, 0, 0), (102, .iload_n 3, 1, 0, 0), (103, .isub, 1, 0, 0), (104, .istore 4, 2, 0, 0), (106, .aload_n 0, 1, 0, 0), (107, .getfield 9, 3, 0, 0), (110, .aload_n 0, 1, 0, 0), (111, .getfield 16, 3, 0, 0), (114, .invokestatic 218, 3, 0, 0), (117, .iload 4, 2, 0, 0), (119, .ireturn, 1, 0, 0)]
def P_Mo_inTrial : List PE := [(0, .aload_n 0, 1, 0, 0), (1, .getfield 16, 3, 0, 0), (4, .aload_n 0, 1, 0, 0), (5, .getfield 9, 3, 0, 0), (8, .invokestatic 218, 3, 0, 0), (11, .aload_n 0, 1, 0, 0), (12, .getfield 9, 3, 0, 0), (15, .bipush 66, 2, 0, 66), (17, .bipush 10, 2, 0, 10), (19, .iload_n 1, 1, 0, 0), (20, .imul, 1, 0, 0), (21, .iadd, 1, 0, 0), (22, .iload_n 2, 1, 0, 0), (23, .iadd, 1, 0, 0), (24, .iload_n 3, 1, 0, 0), (25, .iastore, 1, 0, 0), (26, .aload_n 0, 1, 0, 0), (27, .iload_n 1, 1, 0, 0), (28, .iload 5, 2, 0, 0), (30, .invokevirtual 61, 3, 0, 0), (33, .istore 6, 2, 0, 0), (35, .aload_n 0, 1, 0, 0), (36, .iload 4, 2, 0, 0), (38, .invokevirtual 215, 3, 0, 0), (41, .aload_n 0, 1, 0, 0), (42, .iload_n 1, 1, 0, 0), (43, .iload 5, 2, 0, 0), (45, .invokevirtual 61, 3, 0, 0), (48, .iload 6, 2, 0, 0), (50, .isub, 1, 0, 0), (51, .istore 7, 2, 0, 0), (53, .aload_n 0, 1, 0, 0), (54, .getfield 9, 3, 0, 0), (57, .aload_n 0, 1, 0, 0), (58, .getfield 16, 3, 0, 0), (61, .invokestatic 218, 3, 0, 0), (64, .iload 7, 2, 0, 0), (66, .ireturn, 1, 0, 0)]
def P_Mo_takenOfOthers : List PE := [(0, .aload_n 0, 1, 0, 0), (1, .getfield 16, 3, 0, 0), (4, .aload_n 0, 1, 0, 0), (5, .getfield 9, 3, 0, 0), (8, .invokestatic 218, 3, 0, 0), (11, .iload_n 3, 1, 0, 0), (12, .ifCond .eq 23, 3, 35, 0), (15, .aload_n 0, 1, 0, 0), (16, .iload_n 1, 1, 0, 0), (17, .putfield 25, 3, 0, 0), (20, .aload_n 0, 1, 0, 0), (21, .getfield 9, 3, 0, 0), (24, .bipush 66, 2, 0, 66), (26, .bipush 10, 2, 0, 10), (28, .iload_n 1, 1, 0, 0), (29, .imul, 1, 0, 0), (30, .iadd, 1, 0, 0), (31, .iconst 4, 1, 0, 4), (32, .iadd, 1, 0, 0), (33, .iconst 0, 1, 0, 0), (34, .iastore, 1, 0, 0), (35, .aload_n 0, 1, 0, 0), (36, .getfield 9, 3, 0, 0), (39, .bipush 6, 2, 0, 6), (41, .iaload, 1, 0, 0), (42, .aload_n 0, 1, 0, 0), (43, .iload_n 1, 1, 0, 0), (44, .bipush 7, 2, 0, 7), (46, .invokevirtual 61, 3, 0, 0), (49, .isub, 1, 0, 0), (50, .istore 4, 2, 0, 0), (52, .aload_n 0, 1, 0, 0), (53, .iload_n 2, 1, 0, 0), (54, .invokevirtual 215, 3, 0, 0), (57, .aload_n 0, 1, 0, 0), (58, .getfield 9, 3, 0, 0), (61, .bipush 6, 2, 0, 6), (63, .iaload, 1, 0, 0), (64, .aload_n 0, 1, 0, 0), (65, .iload_n 1, 1, 0, 0), (66, .bipush 7, 2, 0, 7), (68, .invokevirtual 61, 3, 0, 0), (71, .isub, 1, 0, 0), (72, .iload 4, 2, 0, 0), (74, .isub, 1, 0, 0), (75, .istore 5, 2, 0, 0), (77, .aload_n 0, 1, 0, 0), (78, .iconst (-1), 1, 0, (-1)), (79, .putfield 25, 3, 0, 0), (82, .aload_n 0, 1, 0, 0), (83, .getfield 9, 3, 0, 0), (86, .aload_n 0, 1, 0, 0), (87, .getfield 16, 3, 0, 0), (90, .invokestatic 218, 3, 0, 0), (93, .iload 5, 2, 0, 0), (95, .ireturn, 1, 0, 0)]
def P_Mo_belt : List PE := [(0, .aload_n 0, 1, 0, 0), (1, .iconst 0, 1, 0, 0), (2, .putfield 46, 3, 0, 0), (5, .iload_n 1, 1, 0, 0), (6, .ifCond .lt 11, 3, 17, 0), (9, .iload_n 1, 1, 0, 0), (10, .aload_n 0, 1, 0, 0), (11, .getfield 188, 3, 0, 0), (14, .if_icmp .le 9, 3, 23, 0), (17, .aload_n 0, 1, 0, 0), (18, .iconst 1, 1, 0, 1), (19, .invokevirtual 191, 3, 0, 0), (22, .ireturn, 1, 0, 0), (23, .aload_n 0, 1, 0, 0), (24, .getfield 13, 3, 0, 0), (27, .iconst 4, 1, 0, 4), (28, .invokestatic 42, 3, 0, 0), (31, .aload_n 0, 1, 0, 0), (32, .iload_n 1, 1, 0, 0), (33, .invokevirtual 391, 3, 0, 0), (36, .aload_n 0, 1, 0, 0), (37, .ldc_w 394, 3, 0, 0), (40, .invokevirtual 340, 3, 0, 0), (43, .ifCond .ne 8, 3, 51, 0), (46, .aload_n 0, 1, 0, 0), (47, .iconst 1, 1, 0, 1), (48, .invokevirtual 321, 3, 0, 0), (51, .aload_n 0, 1, 0, 0), (52, .invokevirtual 324, 3, 0, 0), (55, .aload_n 0, 1, 0, 0), (56, .getfield 13, 3, 0, 0), (59, .iconst 0, 1, 0, 0), (60, .aload_n 0, 1, 0, 0), (61, .iconst 4, 1, 0, 4), (62, .bipush 40, 2, 0, 40), (64, .invokevirtual 335, 3, 0, 0), (67, .iastore, 1, 0, 0), (68, .aload_n 0, 1, 0, 0), (69, .bipush 59, 2, 0, 59), (71, .invokevirtual 347, 3, 0, 0), (74, .aload_n 0, 1, 0, 0), (75, .getfield 297, 3, 0, 0), (78, .ifCond .ne 17, 3, 95, 0), (81, .aload_n 0, 1, 0, 0), (82, .getfield 291, 3, 0, 0), (85, .ifCond .eq 10, 3, 95, 0), (88, .aload_n 0, 1, 0, 0), (89, .invokevirtual 396, 3, 0, 0), (92, .goto (-18), 3, 74, 0), (95, .aload_n 0, 1, 0, 0), (96, .invokevirtual 399, 3, 0, 0), (99, .istore_n 2, 1, 0, 0), (100, .iload_n 2, 1, 0, 0), (101, .ifCond .eq 8, 3, 109, 0), (104, .bipush (-10), 2, 0, (-10)), (106, .iload_n 2, 1, 0, 0), (107, .isub, 1, 0, 0), (108, .ireturn, 1, 0, 0), (109, .aload_n 0, 1, 0, 0), (110, .getfield 9, 3, 0, 0), (113, .aload_n 0, 1, 0, 0), (114, .getfield 13, 3, 0, 0), (117, .invokestatic 218, 3, 0, 0), (120, .aload_n 0, 1, 0, 0), (121, .iconst 0, 1, 0, 0), (122, .putfield 185, 3, 0, 0), (125, .aload_n 0, 1, 0, 0), (126, .invokevirtual 49, 3, 0, 0), (129, .ireturn, 1, 0, 0)]
def P_Mo_ask : List PE := [(0, .aload_n 0, 1, 0, 0), (1, .iconst 0, 1, 0, 0), (2, .putfield 46, 3, 0, 0), (5, .iload_n 1, 1, 0, 0), (6, .ifCond .lt 18, 3, 24, 0), (9, .iload_n 1, 1, 0, 0), (10, .aload_n 0, 1, 0, 0), (11, .getfield 188, 3, 0, 0), (14, .if_icmp .gt 10, 3, 24, 0), (17, .iload_n 1, 1, 0, 0), (18, .sipush 200, 3, 0, 200), (21, .if_icmp .le 9, 3, 30, 0), (24, .aload_n 0, 1, 0, 0), (25, .iconst 1, 1, 0, 1), (26, .invokevirtual 191, 3, 0, 0), (29, .ireturn, 1, 0, 0), (30, .aload_n 0, 1, 0, 0), (31, .iload_n 1, 1, 0, 0), (32, .invokevirtual 391, 3, 0, 0), (35, .aload_n 0, 1, 0, 0), (36, .ldc_w 439, 3, 0, 0), (39, .invokevirtual 340, 3, 0, 0), (42, .istore_n 2, 1, 0, 0), (43, .aload_n 0, 1, 0, 0), (44, .iload_n 1, 1, 0, 0), (45, .iconst 0, 1, 0, 0), (46, .invokevirtual 441, 3, 0, 0), (49, .istore_n 3, 1, 0, 0), (50, .aload_n 0, 1, 0, 0), (51, .invokevirtual 399, 3, 0, 0), (54, .istore 4, 2, 0, 0), (56, .iload 4, 2, 0, 0), (58, .ifCond .eq 10, 3, 68, 0), (61, .ldc_w 444, 3, 0, 0), (64, .iload 4, 2, 0, 0), (66, .isub, 1, 0, 0), (67, .ireturn, 1, 0, 0), (68, .iconst 0, 1, 0, 0), (69, .istore 5, 2, 0, 0), (71, .iconst 0, 1, 0, 0), (72, .istore 6, 2, 0, 0), (74, .iload 6, 2, 0, 0), (76, .aload_n 0, 1, 0, 0), (77, .invokevirtual 49, 3, 0, 0), (80, .if_icmp .ge 32, 3, 112, 0), (83, .aload_n 0, 1, 0, 0), (84, .iload_n 1, 1, 0, 0), (85, .iload 6, 2, 0, 0), (87, .invokevirtual 441, 3, 0, 0), (90, .ifCond .ne 6, 3, 96, 0), (93, .goto 13, 3, 106, 0), (96, .iload_n 2, 1, 0, 0), (97, .ifCond .eq 6, 3, 103, 0), (100, .iload 6, 2, 0, 0), (102, .ireturn, 1, 0, 0), (103, .iinc 5 1, 3, 0, 1), (106, .iinc 6 1, 3, 0, 1), (109, .goto (-35), 3, 74, 0), (112, .iload_n 2, 1, 0, 0), (113, .ifCond .eq 7, 3, 120, 0), (116, .iconst (-1), 1, 0, (-1)), (117, .goto 5, 3, 122, 0), (120, .iload 5, 2, 0, 0), (122, .ireturn, 1, 0, 0)]
def P_Mo_leastRoom : List PE := [(0, .aload_n 0, 1, 0, 0), (1, .aload_n 0, 1, 0, 0), (2, .iload_n 1, 1, 0, 0), (3, .invokevirtual 209, 3, 0, 0), (6, .ifCond .ne 7, 3, 13, 0), (9, .iconst 1, 1, 0, 1), (10, .goto 19, 3, 29, 0), (13, .iload_n 2, 1, 0, 0), (14, .iconst 1, 1, 0, 1), (15, .sipush 500, 3, 0, 500), (18, .invokestatic 53, 3, 0, 0), (21, .ifCond .ne 7, 3, 28, 0), (24, .iconst 2, 1, 0, 2), (25, .goto 4, 3, 29, 0), (28, .iconst 0, 1, 0, 0), (29, .putfield 46, 3, 0, 0), (32, .aload_n 0, 1, 0, 0), (33, .getfield 46, 3, 0, 0), (36, .ifCond .le 5, 3, 41, 0), (39, .iconst 0, 1, 0, 0), (40, .ireturn, 1, 0, 0), (41, .iconst 1, 1, 0, 1), (42, .aload_n 0, 1, 0, 0), (43, .iload_n 1, 1, 0, 0), (44, .iconst 4, 1, 0, 4), (45, .invokevirtual 61, 3, 0, 0), (48, .invokestatic 84, 3, 0, 0), (51, .istore_n 3, 1, 0, 0), (52, .iload_n 3, 1, 0, 0), (53, .bipush 20, 2, 0, 20), (55, .if_icmp .gt 24, 3, 79, 0), (58, .aload_n 0, 1, 0, 0), (59, .iload_n 1, 1, 0, 0), (60, .iconst 1, 1, 0, 1), (61, .iload_n 3, 1, 0, 0), (62, .iload_n 2, 1, 0, 0), (63, .bipush 8, 2, 0, 8), (65, .invokevirtual 271, 3, 0, 0), (68, .ifCond .ne 5, 3, 73, 0), (71, .iload_n 3, 1, 0, 0), (72, .ireturn, 1, 0, 0), (73, .iinc 3 1, 3, 0, 1), (76, .goto (-24), 3, 52, 0), (79, .iconst (-1), 1, 0, (-1)), (80, .ireturn, 1, 0, 0)]
def P_Mo_bestReach : List PE := [(0, .aload_n 0, 1, 0, 0), (1, .aload_n 0, 1, 0, 0), (2, .iload_n 1, 1, 0, 0), (3, .invokevirtual 209, 3, 0, 0), (6, .ifCond .ne 7, 3, 13, 0), (9, .iconst 1, 1, 0, 1), (10, .goto 19, 3, 29, 0), (13, .iload_n 2, 1, 0, 0), (14, .iconst 1, 1, 0, 1), (15, .sipush 200, 3, 0, 200), (18, .invokestatic 53, 3, 0, 0), (21, .ifCond .ne 7, 3, 28, 0), (24, .iconst 2, 1, 0, 2), (25, .goto 4, 3, 29, 0), (28, .iconst 0, 1, 0, 0), (29, .putfield 46, 3, 0, 0), (32, .aload_n 0, 1, 0, 0), (33, .getfield 46, 3, 0, 0), (36, .ifCond .le 5, 3, 41, 0), (39, .iconst 0, 1, 0, 0), (40, .ireturn, 1, 0, 0), (41, .iconst 0, 1, 0, 0), (42, .istore_n 3, 1, 0, 0), (43, .iconst (-1), 1, 0, (-1)), (44, .istore 4, 2, 0, 0), (46, .iconst 0, 1, 0, 0), (47, .istore 5, 2, 0, 0), (49, .iload 5, 2, 0, 0), (51, .aload_n 0, 1, 0, 0), (52, .invokevirtual 49, 3, 0, 0), (55, .if_icmp .ge 39, 3, 94, 0), (58, .aload_n 0, 1, 0, 0), (59, .iload_n 1, 1, 0, 0), (60, .iconst 2, 1, 0, 2), (61, .iload 5, 2, 0, 0), (63, .iload_n 2, 1, 0, 0), (64, .bipush 6, 2, 0, 6), (66, .invokevirtual 271, 3, 0, 0), (69, .istore 6, 2, 0, 0), (71, .iload 6, 2, 0, 0), (73, .iload 4, 2, 0, 0), (75, .if_icmp .gt 6, 3, 81, 0), (78, .goto 10, 3, 88, 0), (81, .iload 5, 2, 0, 0), (83, .istore_n 3, 1, 0, 0), (84, .iload 6, 2, 0, 0), (86, .istore 4, 2, 0, 0), (88, .iinc 5 1, 3, 0, 1), (91, .goto (-42), 3, 49, 0), (94, .iload_n 3, 1, 0, 0), (95, .ireturn, 1, 0, 0)]
def P_Mo_without : List PE := [(0, .aload_n 0, 1, 0, 0), (1, .aload_n 0, 1, 0, 0), (2, .iload_n 1, 1, 0, 0), (3, .invokevirtual 209, 3, 0, 0), (6, .ifCond .ne 7, 3, 13, 0), (9, .iconst 1, 1, 0, 1), (10, .goto 19, 3, 29, 0), (13, .iload_n 2, 1, 0, 0), (14, .iconst 0, 1, 0, 0), (15, .sipush 500, 3, 0, 500), (18, .invokestatic 53, 3, 0, 0), (21, .ifCond .ne 7, 3, 28, 0), (24, .iconst 2, 1, 0, 2), (25, .goto 4, 3, 29, 0), (28, .iconst 0, 1, 0, 0), (29, .putfield 46, 3, 0, 0), (32, .aload_n 0, 1, 0, 0), (33, .getfield 46, 3, 0, 0), (36, .ifCond .le 7, 3, 43, 0), (39, .iconst 0, 1, 0, 0), (40, .goto 18, 3, 58, 0), (43, .aload_n 0, 1, 0, 0), (44, .iload_n 1, 1, 0, 0), (45, .iload_n 2, 1, 0, 0), (46, .iconst 1, 1, 0, 1), (47, .invokevirtual 275, 3, 0, 0), (50, .aload_n 0, 1, 0, 0), (51, .iload_n 1, 1, 0, 0), (52, .iload_n 2, 1, 0, 0), (53, .iconst 0, 1, 0, 0), (54, .invokevirtual 275, 3, 0, 0), (57, .isub, 1, 0, 0), (58, .ireturn, 1, 0, 0)]
def P_Law_law : List PE := [(0, .new 8, 3, 0, 0), (3, .dup, 1, 0, 0), (4, .invokespecial 77, 3, 0, 0), (7, .astore_n 1, 1, 0, 0), (8, .new 78, 3, 0, 0), (11, .dup, 1, 0, 0), (12, .invokespecial 80, 3, 0, 0), (15, .astore_n 2, 1, 0, 0), (16, .iconst 1, 1, 0, 1), (17, .newarray .long, 2, 0, 0), (19, .astore_n 3, 1, 0, 0), (20, .iconst 0, 1, 0, 0), (21, .istore 4, 2, 0, 0), (23, .iload 4, 2, 0, 0), (25, .aload_n 0, 1, 0, 0), (26, .arraylength, 1, 0, 0), (27, .bipush 6, 2, 0, 6), (29, .isub, 1, 0, 0), (30, .if_icmp .gt 1640, 3, 1670, 0), (33, .aload_n 0, 1, 0, 0), (34, .iload 4, 2, 0, 0), (36, .iaload, 1, 0, 0), (37, .bipush 31, 2, 0, 31), (39, .iand, 1, 0, 0), (40, .tableswitch 1624 0 26 #[124, 197, 253, 266, 322, 390, 458, 526, 594, 662, 730, 798, 854, 891, 959, 1039, 1052, 1120, 1176, 1244, 1327, 1340, 1408, 1476, 1544, 1600, 1611], 124, 1664, 0), (164, .aload_n 1, 1, 0, 0), (165, .aload_n 0, 1, 0, 0), (166, .iload 4, 2, 0, 0), (168, .iconst 1, 1, 0, 1), (169, .iadd, 1, 0, 0), (170, .iaload, 1, 0, 0), (171, .aload_n 0, 1, 0, 0), (172, .iload 4, 2, 0, 0), (174, .iconst 2, 1, 0, 2), (175, .iadd, 1, 0, 0), (176, .iaload, 1, 0, 0), (177, .aload_n 0, 1, 0, 0), (178, .iload 4, 2, 0, 0), (180, .iconst 3, 1, 0, 3), (181, .iadd, 1, 0, 0), (182, .iaload, 1, 0, 0), (183, .aload_n 0, 1, 0, 0), (184, .iload 4, 2, 0, 0), (186, .iconst 4, 1, 0, 4), (187, .iadd, 1, 0, 0), (188, .iaload, 1, 0, 0), (189, .aload_n 0, 1, 0, 0), (190, .iload 4, 2, 0, 0), (192, .iconst 5, 1, 0, 5), (193, .iadd, 1, 0, 0), (194, .iaload, 1, 0, 0), (195, .invokevirtual 81, 3, 0, 0), (198, .aload_n 2, 1, 0, 0), (199, .aload_n 0, 1, 0, 0), (200, .iload 4, 2, 0, 0), (202, .iconst 1, 1, 0, 1), (203, .iadd, 1, 0, 0), (204, .iaload, 1, 0, 0), (205, .aload_n 0, 1, 0, 0), (206, .iload 4, 2, 0, 0), (208, .iconst 2, 1, 0, 2), (209, .iadd, 1, 0, 0), (210, .iaload, 1, 0, 0), (211, .aload_n 0, 1, 0, 0), (212, .iload 4, 2, 0, 0), (214, .iconst 3, 1, 0, 3), (215, .iadd, 1, 0, 0), (216, .iaload, 1, 0, 0), (217, .aload_n 0, 1, 0, 0), (218, .iload 4, 2, 0, 0), (220, .iconst 4, 1, 0, 4), (221, .iadd, 1, 0, 0), (222, .iaload, 1, 0, 0), (223, .aload_n 0, 1, 0, 0), (224, .iload 4, 2, 0, 0), (226, .iconst 5, 1, 0, 5), (227, .iadd, 1, 0, 0), (228, .iaload, 1, 0, 0), (229, .invokevirtual 85, 3, 0, 0), (232, .if_icmp .eq 1432, 3, 1664, 0), (235, .iconst 0, 1, 0, 0), (236, .ireturn, 1, 0, 0), (237, .aload_n 1, 1, 0, 0), (238, .aload_n 0, 1, 0, 0), (239, .iload 4, 2, 0, 0), (241, .iconst 1, 1, 0, 1), (242, .iadd, 1, 0, 0), (243, .iaload, 1, 0, 0), (244, .aload_n 3, 1, 0, 0), (245, .invokestatic 86, 3, 0, 0), (248, .istore 5, 2, 0, 0), (250, .aload_n 2, 1, 0, 0), (251, .aload_n 0, 1, 0, 0), (252, .iload 4, 2, 0, 0), (254, .iconst 1, 1, 0, 1), (255, .iadd, 1, 0, 0), (256, .iaload, 1, 0, 0), (257, .invokevirtual 91, 3, 0, 0), (260, .istore 6, 2, 0, 0), (262, .aload_n 2, 1, 0, 0), (263, .invokevirtual 92, 3, 0, 0), (266, .iload 5, 2, 0, 0), (268, .if_icmp .eq 5, 3, 273, 0), (271, .iconst 0, 1, 0, 0), (272, .ireturn, 1, 0, 0), (273, .iload 5, 2, 0, 0), (275, .ifCond .ne 15, 3, 290, 0), (278, .aload_n 3, 1, 0, 0), (279, .iconst 0, 1, 0, 0), (280, .laload, 1, 0, 0), (281, .iload 6, 2, 0, 0), (283, .i2l, 1, 0, 0), (284, .lcmp, 1, 0, 0), (285, .ifCond .eq 5, 3, 290, 0), (288, .iconst 0, 1, 0, 0), (289, .ireturn, 1, 0, 0), (290, .goto 1374, 3, 1664, 0), (293, .aload_n 1, 1, 0, 0), (294, .invokevirtual 96, 3, 0, 0), (297, .aload_n 2, 1, 0, 0), (298, .invokevirtual 99, 3, 0, 0), (301, .if_icmp .eq 1363, 3, 1664, 0), (304, .iconst 0, 1, 0, 0), (305, .ireturn, 1, 0, 0), (306, .aload_n 1, 1, 0, 0), (307, .aload_n 0, 1, 0, 0), (308, .iload 4, 2, 0, 0), (310, .iconst 1, 1, 0, 1), (311, .iadd, 1, 0, 0), (312, .iaload, 1, 0, 0), (313, .aload_n 3, 1, 0, 0), (314, .invokestatic 100, 3, 0, 0), (317, .istore 5, 2, 0, 0), (319, .aload_n 2, 1, 0, 0), (320, .aload_n 0, 1, 0, 0), (321, .iload 4, 2, 0, 0), (323, .iconst 1, 1, 0, 1), (324, .iadd, 1, 0, 0), (325, .iaload, 1, 0, 0), (326, .invokevirtual 102, 3, 0, 0), (329, .istore 6, 2, 0, 0), (331, .aload_n 2, 1, 0, 0), (332, .invokevirtual 92, 3, 0, 0), (335, .iload 5, 2, 0, 0), (337, .if_icmp .eq 5, 3, 342, 0), (340, .iconst 0, 1, 0, 0), (341, .ireturn, 1, 0, 0), (342, .iload 5, 2, 0, 0), (344, .ifCond .ne 15, 3, 359, 0), (347, .aload_n 3, 1, 0, 0), (348, .iconst 0, 1, 0, 0), (349, .laload, 1, 0, 0), (350, .iload 6, 2, 0, 0), (352, .i2l, 1, 0, 0), (353, .lcmp, 1, 0, 0), (354, .ifCond .eq 5, 3, 359, 0), (357, .iconst 0, 1, 0, 0), (358, .ireturn, 1, 0, 0), (359, .goto 1305, 3, 1664, 0), (362, .aload_n 1, 1, 0, 0), (363, .aload_n 0, 1, 0, 0), (364, .iload 4, 2, 0, 0), (366, .iconst 1, 1, 0, 1), (367, .iadd, 1, 0, 0), (368, .iaload, 1, 0, 0), (369, .aload_n 0, 1, 0, 0), (370, .iload 4, 2, 0, 0), (372, .iconst 2, 1, 0, 2), (373, .iadd, 1, 0, 0), (374, .iaload, 1, 0, 0), (375, .aload_n 3, 1, 0, 0), (376, .invokestatic 103, 3, 0, 0), (379, .istore 5, 2, 0, 0), (381, .aload_n 2, 1, 0, 0), (382, .aload_n 0, 1, 0, 0), (383, .iload 4, 2, 0, 0), (385, .iconst 1, 1, 0, 1), (386, .iadd, 1, 0, 0), (387, .iaload, 1, 0, 0), (388, .aload_n 0, 1, 0, 0), (389, .iload 4, 2, 0, 0), (391, .iconst 2, 1, 0, 2), (392, .iadd, 1, 0, 0), (393, .iaload, 1, 0, 0), (394, .invokevirtual 106, 3, 0, 0), (397, .istore 6, 2, 0, 0), (399, .aload_n 2, 1, 0, 0), (400, .invokevirtual 92, 3, 0, 0), (403, .iload 5, 2, 0, 0), (405, .if_icmp .eq 5, 3, 410, 0), (408, .iconst 0, 1, 0, 0), (409, .ireturn, 1, 0, 0), (410, .iload 5, 2, 0, 0), (412, .ifCond .ne 15, 3, 427, 0), (415, .aload_n 3, 1, 0, 0), (416, .iconst 0, 1, 0, 0), (417, .laload, 1, 0, 0), (418, .iload 6, 2, 0, 0), (420, .i2l, 1, 0, 0), (421, .lcmp, 1, 0, 0), (422, .ifCond .eq 5, 3, 427, 0), (425, .iconst 0, 1, 0, 0), (426, .ireturn, 1, 0, 0), (427, .goto 1237, 3, 1664, 0), (430, .aload_n 1, 1, 0, 0), (431, .aload_n 0, 1, 0, 0), (432, .iload 4, 2, 0, 0), (434, .iconst 1, 1, 0, 1), (435, .iadd, 1, 0, 0), (436, .iaload, 1, 0, 0), (437, .aload_n 0, 1, 0, 0), (438, .iload 4, 2, 0, 0), (440, .iconst 2, 1, 0, 2), (441, .iadd, 1, 0, 0), (442, .iaload, 1, 0, 0), (443, .aload_n 3, 1, 0, 0), (444, .invokestatic 107, 3, 0, 0), (447, .istore 5, 2, 0, 0), (449, .aload_n 2, 1, 0, 0), (450, .aload_n 0, 1, 0, 0), (451, .iload 4, 2, 0, 0), (453, .iconst 1, 1, 0, 1), (454, .iadd, 1, 0, 0), (455, .iaload, 1, 0, 0), (456, .aload_n 0, 1, 0, 0), (457, .iload 4, 2, 0, 0), (459, .iconst 2, 1, 0, 2), (460, .iadd, 1, 0, 0), (461, .iaload, 1, 0, 0), (462, .invokevirtual 109, 3, 0, 0), (465, .istore 6, 2, 0, 0), (467, .aload_n 2, 1, 0, 0), (468, .invokevirtual 92, 3, 0, 0), (471, .iload 5, 2, 0, 0), (473, .if_icmp .eq 5, 3, 478, 0), (476, .iconst 0, 1, 0, 0), (477, .ireturn, 1, 0, 0), (478, .iload 5, 2, 0, 0), (480, .ifCond .ne 15, 3, 495, 0), (483, .aload_n 3, 1, 0, 0), (484, .iconst 0, 1, 0, 0), (485, .laload, 1, 0, 0), (486, .iload 6, 2, 0, 0), (488, .i2l, 1, 0, 0), (489, .lcmp, 1, 0, 0), (490, .ifCond .eq 5, 3, 495, 0), (493, .iconst 0, 1, 0, 0), (494, .ireturn, 1, 0, 0), (495, .goto 1169, 3, 1664, 0), (498, .aload_n 1, 1, 0, 0), (499, .aload_n 0, 1, 0, 0), (500, .iload 4, 2, 0, 0), (502, .iconst 1, 1, 0, 1), (503, .iadd, 1, 0, 0), (504, .iaload, 1, 0, 0), (505, .aload_n 0, 1, 0, 0), (506, .iload 4, 2, 0, 0), (508, .iconst 2, 1, 0, 2), (509, .iadd, 1, 0, 0), (510, .iaload, 1, 0, 0), (511, .aload_n 3, 1, 0, 0), (512, .invokestatic 110, 3, 0, 0), (515, .istore 5, 2, 0, 0), (517, .aload_n 2, 1, 0, 0), (518, .aload_n 0, 1, 0, 0), (519, .iload 4, 2, 0, 0), (521, .iconst 1, 1, 0, 1), (522, .iadd, 1, 0, 0), (523, .iaload, 1, 0, 0), (524, .aload_n 0, 1, 0, 0), (525, .iload 4, 2, 0, 0), (527, .iconst 2, 1, 0, 2), (528, .iadd, 1, 0, 0), (529, .iaload, 1, 0, 0), (530, .invokevirtual 112, 3, 0, 0), (533, .istore 6, 2, 0, 0), (535, .aload_n 2, 1, 0, 0), (536, .invokevirtual 92, 3, 0, 0), (539, .iload 5, 2, 0, 0), (541, .if_icmp .eq 5, 3, 546, 0), (544, .iconst 0, 1, 0, 0), (545, .ireturn, 1, 0, 0), (546, .iload 5, 2, 0, 0), (548, .ifCond .ne 15, 3, 563, 0), (551, .aload_n 3, 1, 0, 0), (552, .iconst 0, 1, 0, 0), (553, .laload, 1, 0, 0), (554, .iload 6, 2, 0, 0), (556, .i2l, 1, 0, 0), (557, .lcmp, 1, 0, 0), (558, .ifCond .eq 5, 3, 563, 0), (561, .iconst 0, 1, 0, 0), (562, .ireturn, 1, 0, 0), (563, .goto 1101, 3, 1664, 0), (566, .aload_n 1, 1, 0, 0), (567, .aload_n 0, 1, 0, 0), (568, .iload 4, 2, 0, 0), (570, .iconst 1, 1, 0, 1), (571, .iadd, 1, 0, 0), (572, .iaload, 1, 0, 0), (573, .aload_n 0, 1, 0, 0), (574, .iload 4, 2, 0, 0), (576, .iconst 2, 1, 0, 2), (577, .iadd, 1, 0, 0), (578, .iaload, 1, 0, 0), (579, .aload_n 3, 1, 0, 0), (580, .invokestatic 113, 3, 0, 0), (583, .istore 5, 2, 0, 0), (585, .aload_n 2, 1, 0, 0), (586, .aload_n 0, 1, 0, 0), (587, .iload 4, 2, 0, 0), (589, .iconst 1, 1, 0, 1), (590, .iadd, 1, 0, 0), (591, .iaload, 1, 0, 0), (592, .aload_n 0, 1, 0, 0), (593, .iload 4, 2, 0, 0), (595, .iconst 2, 1, 0, 2), (596, .iadd, 1, 0, 0), (597, .iaload, 1, 0, 0), (598, .invokevirtual 115, 3, 0, 0), (601, .istore 6, 2, 0, 0), (603, .aload_n 2, 1, 0, 0), (604, .invokevirtual 92, 3, 0, 0), (607, .iload 5, 2, 0, 0), (609, .if_icmp .eq 5, 3, 614, 0), (612, .iconst 0, 1, 0, 0), (613, .ireturn, 1, 0, 0), (614, .iload 5, 2, 0, 0), (616, .ifCond .ne 15, 3, 631, 0), (619, .aload_n 3, 1, 0, 0), (620, .iconst 0, 1, 0, 0), (621, .laload, 1, 0, 0), (622, .iload 6, 2, 0, 0), (624, .i2l, 1, 0, 0), (625, .lcmp, 1, 0, 0), (626, .ifCond .eq 5, 3, 631, 0), (629, .iconst 0, 1, 0, 0), (630, .ireturn, 1, 0, 0), (631, .goto 1033, 3, 1664, 0), (634, .aload_n 1, 1, 0, 0), (635, .aload_n 0, 1, 0, 0), (636, .iload 4, 2, 0, 0), (638, .iconst 1, 1, 0, 1), (639, .iadd, 1, 0, 0), (640, .iaload, 1, 0, 0), (641, .aload_n 0, 1, 0, 0), (642, .iload 4, 2, 0, 0), (644, .iconst 2, 1, 0, 2), (645, .iadd, 1, 0, 0), (646, .iaload, 1, 0, 0), (647, .aload_n 3, 1, 0, 0), (648, .invokestatic 116, 3, 0, 0), (651, .istore 5, 2, 0, 0), (653, .aload_n 2, 1, 0, 0), (654, .aload_n 0, 1, 0, 0), (655, .iload 4, 2, 0, 0), (657, .iconst 1, 1, 0, 1), (658, .iadd, 1, 0, 0), (659, .iaload, 1, 0, 0), (660, .aload_n 0, 1, 0, 0), (661, .iload 4, 2, 0, 0), (663, .iconst 2, 1, 0, 2), (664, .iadd, 1, 0, 0), (665, .iaload, 1, 0, 0), (666, .invokevirtual 118, 3, 0, 0), (669, .istore 6, 2, 0, 0), (671, .aload_n 2, 1, 0, 0), (672, .invokevirtual 92, 3, 0, 0), (675, .iload 5, 2, 0, 0), (677, .if_icmp .eq 5, 3, 682, 0), (680, .iconst 0, 1, 0, 0), (681, .ireturn, 1, 0, 0), (682, .iload 5, 2, 0, 0), (684, .ifCond .ne 15, 3, 699, 0), (687, .aload_n 3, 1, 0, 0), (688, .iconst 0, 1, 0, 0), (689, .laload, 1, 0, 0), (690, .iload 6, 2, 0, 0), (692, .i2l, 1, 0, 0), (693, .lcmp, 1, 0, 0), (694, .ifCond .eq 5, 3, 699, 0), (697, .iconst 0, 1, 0, 0), (698, .ireturn, 1, 0, 0), (699, .goto 965, 3, 1664, 0), (702, .aload_n 1, 1, 0, 0), (703, .aload_n 0, 1, 0, 0), (704, .iload 4, 2, 0, 0), (706, .iconst 1, 1, 0, 1), (707, .iadd, 1, 0, 0), (708, .iaload, 1, 0, 0), (709, .aload_n 0, 1, 0, 0), (710, .iload 4, 2, 0, 0), (712, .iconst 2, 1, 0, 2), (713, .iadd, 1, 0, 0), (714, .iaload, 1, 0, 0), (715, .aload_n 3, 1, 0, 0), (716, .invokestatic 119, 3, 0, 0), (719, .istore 5, 2, 0, 0), (721, .aload_n 2, 1, 0, 0), (722, .aload_n 0, 1, 0, 0), (723, .iload 4, 2, 0, 0), (725, .iconst 1, 1, 0, 1), (726, .iadd, 1, 0, 0), (727, .iaload, 1, 0, 0), (728, .aload_n 0, 1, 0, 0), (729, .iload 4, 2, 0, 0), (731, .iconst 2, 1, 0, 2), (732, .iadd, 1, 0, 0), (733, .iaload, 1, 0, 0), (734, .invokevirtual 121, 3, 0, 0), (737, .istore 6, 2, 0, 0), (739, .aload_n 2, 1, 0, 0), (740, .invokevirtual 92, 3, 0, 0), (743, .iload 5, 2, 0, 0), (745, .if_icmp .eq 5, 3, 750, 0), (748, .iconst 0, 1, 0, 0), (749, .ireturn, 1, 0, 0), (750, .iload 5, 2, 0, 0), (752, .ifCond .ne 15, 3, 767, 0), (755, .aload_n 3, 1, 0, 0), (756, .iconst 0, 1, 0, 0), (757, .laload, 1, 0, 0), (758, .iload 6, 2, 0, 0), (760, .i2l, 1, 0, 0), (761, .lcmp, 1, 0, 0), (762, .ifCond .eq 5, 3, 767, 0), (765, .iconst 0, 1, 0, 0), (766, .ireturn, 1, 0, 0), (767, .goto 897, 3, 1664, 0), (770, .aload_n 1, 1, 0, 0), (771, .aload_n 0, 1, 0, 0), (772, .iload 4, 2, 0, 0), (774, .iconst 1, 1, 0, 1), (775, .iadd, 1, 0, 0), (776, .iaload, 1, 0, 0), (777, .aload_n 0, 1, 0, 0), (778, .iload 4, 2, 0, 0), (780, .iconst 2, 1, 0, 2), (781, .iadd, 1, 0, 0), (782, .iaload, 1, 0, 0), (783, .aload_n 3, 1, 0, 0), (784, .invokestatic 122, 3, 0, 0), (787, .istore 5, 2, 0, 0), (789, .aload_n 2, 1, 0, 0), (790, .aload_n 0, 1, 0, 0), (791, .iload 4, 2, 0, 0), (793, .iconst 1, 1, 0, 1), (794, .iadd, 1, 0, 0), (795, .iaload, 1, 0, 0), (796, .aload_n 0, 1, 0, 0), (797, .iload 4, 2, 0, 0), (799, .iconst 2, 1, 0, 2), (800, .iadd, 1, 0, 0), (801, .iaload, 1, 0, 0), (802, .invokevirtual 124, 3, 0, 0), (805, .istore 6, 2, 0, 0), (807, .aload_n 2, 1, 0, 0), (808, .invokevirtual 92, 3, 0, 0), (811, .iload 5, 2, 0, 0), (813, .if_icmp .eq 5, 3, 818, 0), (816, .iconst 0, 1, 0, 0), (817, .ireturn, 1, 0, 0), (818, .iload 5, 2, 0, 0), (820, .ifCond .ne 15, 3, 835, 0), (823, .aload_n 3, 1, 0, 0), (824, .iconst 0, 1, 0, 0), (825, .laload, 1, 0, 0), (826, .iload 6, 2, 0, 0), (828, .i2l, 1, 0, 0), (829, .lcmp, 1, 0, 0), (830, .ifCond .eq 5, 3, 835, 0), (833, .iconst 0, 1, 0, 0), (834, .ireturn, 1, 0, 0), (835, .goto 829, 3, 1664, 0), (838, .aload_n 1, 1, 0, 0), (839, .aload_n 0, 1, 0, 0), (840, .iload 4, 2, 0, 0), (842, .iconst 1, 1, 0, 1), (843, .iadd, 1, 0, 0), (844, .iaload, 1, 0, 0), (845, .aload_n 3, 1, 0, 0), (846, .invokestatic 125, 3, 0, 0), (849, .istore 5, 2, 0, 0), (851, .aload_n 2, 1, 0, 0), (852, .aload_n 0, 1, 0, 0), (853, .iload 4, 2, 0, 0), (855, .iconst 1, 1, 0, 1), (856, .iadd, 1, 0, 0), (857, .iaload, 1, 0, 0), (858, .invokevirtual 127, 3, 0, 0), (861, .istore 6, 2, 0, 0), (863, .aload_n 2, 1, 0, 0), (864, .invokevirtual 92, 3, 0, 0), (867, .iload 5, 2, 0, 0), (869, .if_icmp .eq 5, 3, 874, 0), (872, .iconst 0, 1, 0, 0), (873, .ireturn, 1, 0, 0), (874, .iload 5, 2, 0, 0), (876, .ifCond .ne 15, 3, 891, 0), (879, .aload_n 3, 1, 0, 0), (880, .iconst 0, 1, 0, 0), (881, .laload, 1, 0, 0), (882, .iload 6, 2, 0, 0), (884, .i2l, 1, 0, 0), (885, .lcmp, 1, 0, 0), (886, .ifCond .eq 5, 3, 891, 0), (889, .iconst 0, 1, 0, 0), (890, .ireturn, 1, 0, 0), (891, .goto 773, 3, 1664, 0), (894, .aload_n 1, 1, 0, 0), (895, .aload_n 0, 1, 0, 0), (896, .iload 4, 2, 0, 0), (898, .iconst 1, 1, 0, 1), (899, .iadd, 1, 0, 0), (900, .iaload, 1, 0, 0), (901, .aload_n 0, 1, 0, 0), (902, .iload 4, 2, 0, 0), (904, .iconst 2, 1, 0, 2), (905, .iadd, 1, 0, 0), (906, .iaload, 1, 0, 0), (907, .invokevirtual 128, 3, 0, 0), (910, .aload_n 2, 1, 0, 0), (911, .aload_n 0, 1, 0, 0), (912, .iload 4, 2, 0, 0), (914, .iconst 1, 1, 0, 1), (915, .iadd, 1, 0, 0), (916, .iaload, 1, 0, 0), (917, .aload_n 0, 1, 0, 0), (918, .iload 4, 2, 0, 0), (920, .iconst 2, 1, 0, 2), (921, .iadd, 1, 0, 0), (922, .iaload, 1, 0, 0), (923, .invokevirtual 131, 3, 0, 0), (926, .if_icmp .eq 738, 3, 1664, 0), (929, .iconst 0, 1, 0, 0), (930, .ireturn, 1, 0, 0), (931, .aload_n 1, 1, 0, 0), (932, .aload_n 0, 1, 0, 0), (933, .iload 4, 2, 0, 0), (935, .iconst 1, 1, 0, 1), (936, .iadd, 1, 0, 0), (937, .iaload, 1, 0, 0), (938, .aload_n 0, 1, 0, 0), (939, .iload 4, 2, 0, 0), (941, .iconst 2, 1, 0, 2), (942, .iadd, 1, 0, 0), (943, .iaload, 1, 0, 0), (944, .aload_n 3, 1, 0, 0), (945, .invokestatic 132, 3, 0, 0), (948, .istore 5, 2, 0, 0), (950, .aload_n 2, 1, 0, 0), (951, .aload_n 0, 1, 0, 0), (952, .iload 4, 2, 0, 0), (954, .iconst 1, 1, 0, 1), (955, .iadd, 1, 0, 0), (956, .iaload, 1, 0, 0), (957, .aload_n 0, 1, 0, 0), (958, .iload 4, 2, 0, 0), (960, .iconst 2, 1, 0, 2), (961, .iadd, 1, 0, 0), (962, .iaload, 1, 0, 0), (963, .invokevirtual 134, 3, 0, 0), (966, .istore 6, 2, 0, 0), (968, .aload_n 2, 1, 0, 0), (969, .invokevirtual 92, 3, 0, 0), (972, .iload 5, 2, 0, 0), (974, .if_icmp .eq 5, 3, 979, 0), (977, .iconst 0, 1, 0, 0), (978, .ireturn, 1, 0, 0), (979, .iload 5, 2, 0, 0), (981, .ifCond .ne 15, 3, 996, 0), (984, .aload_n 3, 1, 0, 0), (985, .iconst 0, 1, 0, 0), (986, .laload, 1, 0, 0), (987, .iload 6, 2, 0, 0), (989, .i2l, 1, 0, 0), (990, .lcmp, 1, 0, 0), (991, .ifCond .eq 5, 3, 996, 0), (994, .iconst 0, 1, 0, 0), (995, .ireturn, 1, 0, 0), (996, .goto 668, 3, 1664, 0), (999, .aload_n 1, 1, 0, 0), (1000, .aload_n 0, 1, 0, 0), (1001, .iload 4, 2, 0, 0), (1003, .iconst 1, 1, 0, 1), (1004, .iadd, 1, 0, 0), (1005, .iaload, 1, 0, 0), (1006, .aload_n 0, 1, 0, 0), (1007, .iload 4, 2, 0, 0), (1009, .iconst 2, 1, 0, 2), (1010, .iadd, 1, 0, 0), (1011, .iaload, 1, 0, 0), (1012, .aload_n 0, 1, 0, 0), (1013, .iload 4, 2, 0, 0), (1015, .iconst 3, 1, 0, 3), (1016, .iadd, 1, 0, 0), (1017, .iaload, 1, 0, 0), (1018, .aload_n 3, 1, 0, 0), (1019, .invokestatic 135, 3, 0, 0), (1022, .istore 5, 2, 0, 0), (1024, .aload_n 2, 1, 0, 0), (1025, .aload_n 0, 1, 0, 0), (1026, .iload 4, 2, 0, 0), (1028, .iconst 1, 1, 0, 1), (1029, .iadd, 1, 0, 0), (1030, .iaload, 1, 0, 0), (1031, .aload_n 0, 1, 0, 0), (1032, .iload 4, 2, 0, 0), (1034, .iconst 2, 1, 0, 2), (1035, .iadd, 1, 0, 0), (1036, .iaload, 1, 0, 0), (1037, .aload_n 0, 1, 0, 0), (1038, .iload 4, 2, 0, 0), (1040, .iconst 3, 1, 0, 3), (1041, .iadd, 1, 0, 0), (1042, .iaload, 1, 0, 0), (1043, .invokevirtual 138, 3, 0, 0), (1046, .istore 6, 2, 0, 0), (1048, .aload_n 2, 1, 0, 0), (1049, .invokevirtual 92, 3, 0, 0), (1052, .iload 5, 2, 0, 0), (1054, .if_icmp .eq 5, 3, 1059, 0), (1057, .iconst 0, 1, 0, 0), (1058, .ireturn, 1, 0, 0), (1059, .iload 5, 2, 0, 0), (1061, .ifCond .ne 15, 3, 1076, 0), (1064, .aload_n 3, 1, 0, 0), (1065, .iconst 0, 1, 0, 0), (1066, .laload, 1, 0, 0), (1067, .iload 6, 2, 0, 0), (1069, .i2l, 1, 0, 0), (1070, .lcmp, 1, 0, 0), (1071, .ifCond .eq 5, 3, 1076, 0), (1074, .iconst 0, 1, 0, 0), (1075, .ireturn, 1, 0, 0), (1076, .goto 588, 3, 1664, 0), (1079, .aload_n 1, 1, 0, 0), (1080, .invokevirtual 139, 3, 0, 0), (1083, .aload_n 2, 1, 0, 0), (1084, .invokevirtual 142, 3, 0, 0), (1087, .if_icmp .eq 577, 3, 1664, 0), (1090, .iconst 0, 1, 0, 0), (1091, .ireturn, 1, 0, 0), (1092, .aload_n 1, 1, 0, 0), (1093, .aload_n 0, 1, 0, 0), (1094, .iload 4, 2, 0, 0), (1096, .iconst 1, 1, 0, 1), (1097, .iadd, 1, 0, 0), (1098, .iaload, 1, 0, 0), (1099, .aload_n 0, 1, 0, 0), (1100, .iload 4, 2, 0, 0), (1102, .iconst 2, 1, 0, 2), (1103, .iadd, 1, 0, 0), (1104, .iaload, 1, 0, 0), (1105, .aload_n 3, 1, 0, 0), (1106, .invokestatic 143, 3, 0, 0), (1109, .istore 5, 2, 0, 0), (1111, .aload_n 2, 1, 0, 0), (1112, .aload_n 0, 1, 0, 0), (1113, .iload 4, 2, 0, 0), (1115, .iconst 1, 1, 0, 1), (1116, .iadd, 1, 0, 0), (1117, .iaload, 1, 0, 0), (1118, .aload_n 0, 1, 0, 0), (1119, .iload 4, 2, 0, 0), (1121, .iconst 2, 1, 0, 2), (1122, .iadd, 1, 0, 0), (1123, .iaload, 1, 0, 0), (1124, .invokevirtual 145, 3, 0, 0), (1127, .istore 6, 2, 0, 0), (1129, .aload_n 2, 1, 0, 0), (1130, .invokevirtual 92, 3, 0, 0), (1133, .iload 5, 2, 0, 0), (1135, .if_icmp .eq 5, 3, 1140, 0), (1138, .iconst 0, 1, 0, 0), (1139, .ireturn, 1, 0, 0), (1140, .iload 5, 2, 0, 0), (1142, .ifCond .ne 15, 3, 1157, 0), (1145, .aload_n 3, 1, 0, 0), (1146, .iconst 0, 1, 0, 0), (1147, .laload, 1, 0, 0), (1148, .iload 6, 2, 0, 0), (1150, .i2l, 1, 0, 0), (1151, .lcmp, 1, 0, 0), (1152, .ifCond .eq 5, 3, 1157, 0), (1155, .iconst 0, 1, 0, 0), (1156, .ireturn, 1, 0, 0), (1157, .goto 507, 3, 1664, 0), (1160, .aload_n 1, 1, 0, 0), (1161, .aload_n 0, 1, 0, 0), (1162, .iload 4, 2, 0, 0), (1164, .iconst 1, 1, 0, 1), (1165, .iadd, 1, 0, 0), (1166, .iaload, 1, 0, 0), (1167, .aload_n 3, 1, 0, 0), (1168, .invokestatic 146, 3, 0, 0), (1171, .istore 5, 2, 0, 0), (1173, .aload_n 2, 1, 0, 0), (1174, .aload_n 0, 1, 0, 0), (1175, .iload 4, 2, 0, 0), (1177, .iconst 1, 1, 0, 1), (1178, .iadd, 1, 0, 0), (1179, .iaload, 1, 0, 0), (1180, .invokevirtual 148, 3, 0, 0), (1183, .istore 6, 2, 0, 0), (1185, .aload_n 2, 1, 0, 0), (1186, .invokevirtual 92, 3, 0, 0), (1189, .iload 5, 2, 0, 0), (1191, .if_icmp .eq 5, 3, 1196, 0), (1194, .iconst 0, 1, 0, 0), (1195, .ireturn, 1, 0, 0), (1196, .iload 5, 2, 0, 0), (1198, .ifCond .ne 15, 3, 1213, 0), (1201, .aload_n 3, 1, 0, 0), (1202, .iconst 0, 1, 0, 0), (1203, .laload, 1, 0, 0), (1204, .iload 6, 2, 0, 0), (1206, .i2l, 1, 0, 0), (1207, .lcmp, 1, 0, 0), (1208, .ifCond .eq 5, 3, 1213, 0), (1211, .iconst 0, 1, 0, 0), (1212, .ireturn, 1, 0, 0), (1213, .goto 451, 3, 1664, 0), (1216, .aload_n 1, 1, 0, 0), (1217, .aload_n 0, 1, 0, 0), (1218, .iload 4, 2, 0, 0), (1220, .iconst 1, 1, 0, 1), (1221, .iadd, 1, 0, 0), (1222, .iaload, 1, 0, 0), (1223, .aload_n 0, 1, 0, 0), (1224, .iload 4, 2, 0, 0), (1226, .iconst 2, 1, 0, 2), (1227, .iadd, 1, 0, 0), (1228, .iaload, 1, 0, 0), (1229, .aload_n 3, 1, 0, 0), (1230, .invokestatic 149, 3, 0, 0), (1233, .istore 5, 2, 0, 0), (1235, .aload_n 2, 1, 0, 0), (1236, .aload_n 0, 1, 0, 0), (1237, .iload 4, 2, 0, 0), (1239, .iconst 1, 1, 0, 1), (1240, .iadd, 1, 0, 0), (1241, .iaload, 1, 0, 0), (1242, .aload_n 0, 1, 0, 0), (1243, .iload 4, 2, 0, 0), (1245, .iconst 2, 1, 0, 2), (1246, .iadd, 1, 0, 0), (1247, .iaload, 1, 0, 0), (1248, .invokevirtual 151, 3, 0, 0), (1251, .istore 6, 2, 0, 0), (1253, .aload_n 2, 1, 0, 0), (1254, .invokevirtual 92, 3, 0, 0), (1257, .iload 5, 2, 0, 0), (1259, .if_icmp .eq 5, 3, 1264, 0), (1262, .iconst 0, 1, 0, 0), (1263, .ireturn, 1, 0, 0), (1264, .iload 5, 2, 0, 0), (1266, .ifCond .ne 15, 3, 1281, 0), (1269, .aload_n 3, 1, 0, 0), (1270, .iconst 0, 1, 0, 0), (1271, .laload, 1, 0, 0), (1272, .iload 6, 2, 0, 0), (1274, .i2l, 1, 0, 0), (1275, .lcmp, 1, 0, 0), (1276, .ifCond .eq 5, 3, 1281, 0), (1279, .iconst 0, 1, 0, 0), (1280, .ireturn, 1, 0, 0), (1281, .goto 383, 3, 1664, 0), (1284, .aload_n 1, 1, 0, 0), (1285, .aload_n 0, 1, 0, 0), (1286, .iload 4, 2, 0, 0), (1288, .iconst 1, 1, 0, 1), (1289, .iadd, 1, 0, 0), (1290, .iaload, 1, 0, 0), (1291, .aload_n 0, 1, 0, 0), (1292, .iload 4, 2, 0, 0), (1294, .iconst 2, 1, 0, 2), (1295, .iadd, 1, 0, 0), (1296, .iaload, 1, 0, 0), (1297, .ifCond .eq 7, 3, 1304, 0), (1300, .iconst 1, 1, 0, 1), (1301, .goto 4, 3, 1305, 0), (1304, .iconst 0, 1, 0, 0), (1305, .aload_n 3, 1, 0, 0), (1306, .invokestatic 152, 3, 0, 0), (1309, .istore 5, 2, 0, 0), (1311, .aload_n 2, 1, 0, 0), (1312, .aload_n 0, 1, 0, 0), (1313, .iload 4, 2, 0, 0), (1315, .iconst 1, 1, 0, 1), (1316, .iadd, 1, 0, 0), (1317, .iaload, 1, 0, 0), (1318, .aload_n 0, 1, 0, 0), (1319, .iload 4, 2, 0, 0), (1321, .iconst 2, 1, 0, 2), (1322, .iadd, 1, 0, 0), (1323, .iaload, 1, 0, 0), (1324, .ifCond .eq 7, 3, 1331, 0), (1327, .iconst 1, 1, 0, 1), (1328, .goto 4, 3, 1332, 0), (1331, .iconst 0, 1, 0, 0), (1332, .invokevirtual 155, 3, 0, 0), (1335, .lstore 6, 2, 0, 0), (1337, .aload_n 2, 1, 0, 0), (1338, .invokevirtual 92, 3, 0, 0), (1341, .iload 5, 2, 0, 0), (1343, .if_icmp .eq 5, 3, 1348, 0), (1346, .iconst 0, 1, 0, 0), (1347, .ireturn, 1, 0, 0), (1348, .iload 5, 2, 0, 0), (1350, .ifCond .ne 14, 3, 1364, 0), (1353, .aload_n 3, 1, 0, 0), (1354, .iconst 0, 1, 0, 0), (1355, .laload, 1, 0, 0), (1356, .lload 6, 2, 0, 0), (1358, .lcmp, 1, 0, 0), (1359, .ifCond .eq 5, 3, 1364, 0), (1362, .iconst 0, 1, 0, 0), (1363, .ireturn, 1, 0, 0), (1364, .goto 300, 3, 1664, 0), (1367, .aload_n 1, 1, 0, 0), (1368, .invokevirtual 156, 3, 0, 0), (1371, .aload_n 2, 1, 0, 0), (1372, .invokevirtual 159, 3, 0, 0), (1375, .if_icmp .eq 289, 3, 1664, 0), (1378, .iconst 0, 1, 0, 0), (1379, .ireturn, 1, 0, 0), (1380, .aload_n 1, 1, 0, 0), (1381, .aload_n 0, 1, 0, 0), (1382, .iload 4, 2, 0, 0), (1384, .iconst 1, 1, 0, 1), (1385, .iadd, 1, 0, 0), (1386, .iaload, 1, 0, 0), (1387, .aload_n 0, 1, 0, 0), (1388, .iload 4, 2, 0, 0), (1390, .iconst 2, 1, 0, 2), (1391, .iadd, 1, 0, 0), (1392, .iaload, 1, 0, 0), (1393, .aload_n 3, 1, 0, 0), (1394, .invokestatic 160, 3, 0, 0), (1397, .istore 5, 2, 0, 0), (1399, .aload_n 2, 1, 0, 0), (1400, .aload_n 0, 1, 0, 0), (1401, .iload 4, 2, 0, 0), (1403, .iconst 1, 1, 0, 1), (1404, .iadd, 1, 0, 0), (1405, .iaload, 1, 0, 0), (1406, .aload_n 0, 1, 0, 0), (1407, .iload 4, 2, 0, 0), (1409, .iconst 2, 1, 0, 2), (1410, .iadd, 1, 0, 0), (1411, .iaload, 1, 0, 0), (1412, .invokevirtual 162, 3, 0, 0), (1415, .istore 6, 2, 0, 0), (1417, .aload_n 2, 1, 0, 0), (1418, .invokevirtual 92, 3, 0, 0), (1421, .iload 5, 2, 0, 0), (1423, .if_icmp .eq 5, 3, 1428, 0), (1426, .iconst 0, 1, 0, 0), (1427, .ireturn, 1, 0, 0), (1428, .iload 5, 2, 0, 0), (1430, .ifCond .ne 15, 3, 1445, 0), (1433, .aload_n 3, 1, 0, 0), (1434, .iconst 0, 1, 0, 0), (1435, .laload, 1, 0, 0), (1436, .iload 6, 2, 0, 0), (1438, .i2l, 1, 0, 0), (1439, .lcmp, 1, 0, 0), (1440, .ifCond .eq 5, 3, 1445, 0), (1443, .iconst 0, 1, 0, 0), (1444, .ireturn, 1, 0, 0), (1445, .goto 219, 3, 1664, 0), (1448, .aload_n 1, 1, 0, 0), (1449, .aload_n 0, 1, 0, 0), (1450, .iload 4, 2, 0, 0), (1452, .iconst 1, 1, 0, 1), (1453, .iadd, 1, 0, 0), (1454, .iaload, 1, 0, 0), (1455, .aload_n 0, 1, 0, 0), (1456, .iload 4, 2, 0, 0), (1458, .iconst 2, 1, 0, 2), (1459, .iadd, 1, 0, 0), (1460, .iaload, 1, 0, 0), (1461, .aload_n 3, 1, 0, 0), (1462, .invokestatic 163, 3, 0, 0), (1465, .istore 5, 2, 0, 0), (1467, .aload_n 2, 1, 0, 0), (1468, .aload_n 0, 1, 0, 0), (1469, .iload 4, 2, 0, 0), (1471, .iconst 1, 1, 0, 1), (1472, .iadd, 1, 0, 0), (1473, .iaload, 1, 0, 0), (1474, .aload_n 0, 1, 0, 0), (1475, .iload 4, 2, 0, 0), (1477, .iconst 2, 1, 0, 2), (1478, .iadd, 1, 0, 0), (1479, .iaload, 1, 0, 0), (1480, .invokevirtual 165, 3, 0, 0), (1483, .istore 6, 2, 0, 0), (1485, .aload_n 2, 1, 0, 0), (1486, .invokevirtual 92, 3, 0, 0), (1489, .iload 5, 2, 0, 0), (1491, .if_icmp .eq 5, 3, 1496, 0), (1494, .iconst 0, 1, 0, 0), (1495, .ireturn, 1, 0, 0), (1496, .iload 5, 2, 0, 0), (1498, .ifCond .ne 15, 3, 1513, 0), (1501, .aload_n 3, 1, 0, 0), (1502, .iconst 0, 1, 0, 0), (1503, .laload, 1, 0, 0), (1504, .iload 6, 2, 0, 0), (1506, .i2l, 1, 0, 0), (1507, .lcmp, 1, 0, 0), (1508, .ifCond .eq 5, 3, 1513, 0), (1511, .iconst 0, 1, 0, 0), (1512, .ireturn, 1, 0, 0), (1513, .goto 151, 3, 1664, 0), (1516, .aload_n 1, 1, 0, 0), (1517, .aload_n 0, 1, 0, 0), (1518, .iload 4, 2, 0, 0), (1520, .iconst 1, 1, 0, 1), (1521, .iadd, 1, 0, 0), (1522, .iaload, 1, 0, 0), (1523, .aload_n 0, 1, 0, 0), (1524, .iload 4, 2, 0, 0), (1526, .iconst 2, 1, 0, 2), (1527, .iadd, 1, 0, 0), (1528, .iaload, 1, 0, 0), (1529, .aload_n 3, 1, 0, 0), (1530, .invokestatic 166, 3, 0, 0), (1533, .istore 5, 2, 0, 0), (1535, .aload_n 2, 1, 0, 0), (1536, .aload_n 0, 1, 0, 0), (1537, .iload 4, 2, 0, 0), (1539, .iconst 1, 1, 0, 1), (1540, .iadd, 1, 0, 0), (1541, .iaload, 1, 0, 0), (1542, .aload_n 0, 1, 0, 0), (1543, .iload 4, 2, 0, 0), (1545, .iconst 2, 1, 0, 2), (1546, .iadd, 1, 0, 0), (1547, .iaload, 1, 0, 0), (1548, .invokevirtual 168, 3, 0, 0), (1551, .istore 6, 2, 0, 0), (1553, .aload_n 2, 1, 0, 0), (1554, .invokevirtual 92, 3, 0, 0), (1557, .iload 5, 2, 0, 0), (1559, .if_icmp .eq 5, 3, 1564, 0), (1562, .iconst 0, 1, 0, 0), (1563, .ireturn, 1, 0, 0), (1564, .iload 5, 2, 0, 0), (1566, .ifCond .ne 15, 3, 1581, 0), (1569, .aload_n 3, 1, 0, 0), (1570, .iconst 0, 1, 0, 0), (1571, .laload, 1, 0, 0), (1572, .iload 6, 2, 0, 0), (1574, .i2l, 1, 0, 0), (1575, .lcmp, 1, 0, 0), (1576, .ifCond .eq 5, 3, 1581, 0), (1579, .iconst 0, 1, 0, 0), (1580, .ireturn, 1, 0, 0), (1581, .goto 83, 3, 1664, 0), (1584, .aload_n 1, 1, 0, 0), (1585, .aload_n 0, 1, 0, 0), (1586, .iload 4, 2, 0, 0), (1588, .iconst 1, 1, 0, 1), (1589, .iadd, 1, 0, 0), (1590, .iaload, 1, 0, 0), (1591, .aload_n 3, 1, 0, 0), (1592, .invokestatic 169, 3, 0, 0), (1595, .istore 5, 2, 0, 0), (1597, .aload_n 2, 1, 0, 0), (1598, .aload_n 0, 1, 0, 0), (1599, .iload 4, 2, 0, 0), (1601, .iconst 1, 1, 0, 1), (1602, .iadd, 1, 0, 0), (1603, .iaload, 1, 0, 0), (1604, .invokevirtual 171, 3, 0, 0), (1607, .istore 6, 2, 0, 0), (1609, .aload_n 2, 1, 0, 0), (1610, .invokevirtual 92, 3, 0, 0), (1613, .iload 5, 2, 0, 0), (1615, .if_icmp .eq 5, 3, 1620, 0), (1618, .iconst 0, 1, 0, 0), (1619, .ireturn, 1, 0, 0), (1620, .iload 5, 2, 0, 0), (1622, .ifCond .ne 15, 3, 1637, 0), (1625, .aload_n 3, 1, 0, 0), (1626, .iconst 0, 1, 0, 0), (1627, .laload, 1, 0, 0), (1628, .iload 6, 2, 0, 0), (1630, .i2l, 1, 0, 0), (1631, .lcmp, 1, 0, 0), (1632, .ifCond .eq 5, 3, 1637, 0), (1635, .iconst 0, 1, 0, 0), (1636, .ireturn, 1, 0, 0), (1637, .goto 27, 3, 1664, 0), (1640, .aload_n 1, 1, 0, 0), (1641, .invokevirtual 172, 3, 0, 0), (1644, .aload_n 2, 1, 0, 0), (1645, .invokevirtual 175, 3, 0, 0), (1648, .goto 16, 3, 1664, 0), (1651, .aload_n 1, 1, 0, 0), (1652, .invokevirtual 176, 3, 0, 0), (1655, .aload_n 2, 1, 0, 0), (1656, .invokevirtual 180, 3, 0, 0), (1659, .if_icmp .eq 5, 3, 1664, 0), (1662, .iconst 0, 1, 0, 0), (1663, .ireturn, 1, 0, 0), (1664, .iinc 4 6, 3, 0, 6), (1667, .goto (-1644), 3, 23, 0), (1670, .iconst 1, 1, 0, 1), (1671, .ireturn, 1, 0, 0)]
def pt (m : Nat) : List PE := (bif Nat.blt m 156 then (bif Nat.blt m 78 then (bif Nat.blt m 39 then (bif Nat.blt m 19 then (bif Nat.blt m 9 then (bif Nat.blt m 4 then (bif Nat.blt m 2 then (bif Nat.blt m 1 then P_MB_fault else P_MB_isIn) else (bif Nat.blt m 3 then P_MB_mayBecome else P_MB_commonDivisor)) else (bif Nat.blt m 6 then (bif Nat.blt m 5 then P_Tape_kindOf else P_Tape_fail) else (bif Nat.blt m 7 then P_Tape_isFine else (bif Nat.blt m 8 then P_Tape_isAtEnd else P_Tape_isNumber)))) else (bif Nat.blt m 14 then (bif Nat.blt m 11 then (bif Nat.blt m 10 then P_Acts_clear else P_Row_init) else (bif Nat.blt m 12 then P_Row_set else (bif Nat.blt m 13 then P_Row_get else P_Row_has))) else (bif Nat.blt m 16 then (bif Nat.blt m 15 then P_Row_sum else P_Row_add) else (bif Nat.blt m 17 then P_Ring_cell else (bif Nat.blt m 18 then P_Log_clear else P_Formula_clear))))) else (bif Nat.blt m 29 then (bif Nat.blt m 24 then (bif Nat.blt m 21 then (bif Nat.blt m 20 then P_Formula_strength else P_Formula_together) else (bif Nat.blt m 22 then P_Mo_bare else (bif Nat.blt m 23 then P_Mo_thrown else P_Mo_n))) else (bif Nat.blt m 26 then (bif Nat.blt m 25 then P_Mo_placeOf else P_Mo_sideOf) else (bif Nat.blt m 27 then P_Mo_queueAt else (bif Nat.blt m 28 then P_Mo_fail else P_Mo_isIn)))) else (bif Nat.blt m 34 then (bif Nat.blt m 31 then (bif Nat.blt m 30 then P_Mo_exitOf else P_Mo_wareOf) else (bif Nat.blt m 32 then P_Mo_turnByte else (bif Nat.blt m 33 then P_Mo_isFigure else P_Mo_isSmall))) else (bif Nat.blt m 36 then (bif Nat.blt m 35 then P_Mo_comingOf else P_Mo_keep) else (bif Nat.blt m 37 then P_Mo_clear else (bif Nat.blt m 38 then P_Mo_undo else P_Mo_copy)))))) else (bif Nat.blt m 58 then (bif Nat.blt m 48 then (bif Nat.blt m 43 then (bif Nat.blt m 41 then (bif Nat.blt m 40 then P_Mo_asksLate else P_Mo_writes) else (bif Nat.blt m 42 then P_Mo_areAlike else P_Mo_common)) else (bif Nat.blt m 45 then (bif Nat.blt m 44 then P_Mo_feed else P_Mo_fault) else (bif Nat.blt m 46 then P_Mo_byteAt else (bif Nat.blt m 47 then P_Mo_wrong else P_Mo_isSign)))) else (bif Nat.blt m 53 then (bif Nat.blt m 50 then (bif Nat.blt m 49 then P_Mo_ends else P_Mo_atOf) else (bif Nat.blt m 51 then P_Arrays_fill else (bif Nat.blt m 52 then P_Math_min else P_Math_max))) else (bif Nat.blt m 55 then (bif Nat.blt m 54 then P_Str_coder else P_Str_isLatin1) else (bif Nat.blt m 56 then P_Pre_checkIndex else (bif Nat.blt m 57 then P_MB_ratedBy else P_MB_takenOfOthers))))) else (bif Nat.blt m 68 then (bif Nat.blt m 63 then (bif Nat.blt m 60 then (bif Nat.blt m 59 then P_Tape_init else P_Tape_putNumber) else (bif Nat.blt m 61 then P_Tape_next else (bif Nat.blt m 62 then P_Tape_number else P_Tape_isSign))) else (bif Nat.blt m 65 then (bif Nat.blt m 64 then P_Plan_wholeLoad else P_Plan_clear) else (bif Nat.blt m 66 then P_Plan_dueIn else (bif Nat.blt m 67 then P_Plan_indexOf else P_State_isFull)))) else (bif Nat.blt m 73 then (bif Nat.blt m 70 then (bif Nat.blt m 69 then P_State_mayTakeIn else P_State_lateness) else (bif Nat.blt m 71 then P_State_urgentAt else (bif Nat.blt m 72 then P_State_payCredits else P_State_silence))) else (bif Nat.blt m 75 then (bif Nat.blt m 74 then P_Row_fill else P_Row_copyFrom) else (bif Nat.blt m 76 then P_Ring_init else (bif Nat.blt m 77 then P_Ring_items else P_Ring_reserved))))))) else (bif Nat.blt m 117 then (bif Nat.blt m 97 then (bif Nat.blt m 87 then (bif Nat.blt m 82 then (bif Nat.blt m 80 then (bif Nat.blt m 79 then P_Ring_wareAt else P_Ring_fromAt) else (bif Nat.blt m 81 then P_Ring_roundsAt else P_Ring_wentAt)) else (bif Nat.blt m 84 then (bif Nat.blt m 83 then P_Ring_heldForAt else P_Ring_itemsOf) else (bif Nat.blt m 85 then P_Ring_advance else (bif Nat.blt m 86 then P_Ring_waitedAt else P_Ring_vacate)))) else (bif Nat.blt m 92 then (bif Nat.blt m 89 then (bif Nat.blt m 88 then P_Ring_isFree else P_Ring_hold) else (bif Nat.blt m 90 then P_Ring_seat else (bif Nat.blt m 91 then P_Ring_isAs else P_Queues_init))) else (bif Nat.blt m 94 then (bif Nat.blt m 93 then P_Queues_join else P_Queues_wareOf) else (bif Nat.blt m 95 then P_Queues_dropFirst else (bif Nat.blt m 96 then P_Queues_cameOf else P_Log_init))))) else (bif Nat.blt m 107 then (bif Nat.blt m 102 then (bif Nat.blt m 99 then (bif Nat.blt m 98 then P_Log_get else P_Log_add) else (bif Nat.blt m 100 then P_Formula_init else (bif Nat.blt m 101 then P_Formula_open else P_Formula_addNumber))) else (bif Nat.blt m 104 then (bif Nat.blt m 103 then P_Formula_addPart else P_Formula_settle) else (bif Nat.blt m 105 then P_Formula_value else (bif Nat.blt m 106 then P_Formula_uses else P_Mo_init)))) else (bif Nat.blt m 112 then (bif Nat.blt m 109 then (bif Nat.blt m 108 then P_Mo_itemsAt else P_Mo_reservedOnes) else (bif Nat.blt m 110 then P_Mo_waitingOf else (bif Nat.blt m 111 then P_Mo_isPlace else P_Mo_ridesOf))) else (bif Nat.blt m 114 then (bif Nat.blt m 113 then P_Mo_isExit else P_Mo_jamAt) else (bif Nat.blt m 115 then P_Mo_mayIn else (bif Nat.blt m 116 then P_Mo_isWare else P_Mo_isSide)))))) else (bif Nat.blt m 136 then (bif Nat.blt m 126 then (bif Nat.blt m 121 then (bif Nat.blt m 119 then (bif Nat.blt m 118 then P_Mo_heldFor else P_Mo_lateOf) else (bif Nat.blt m 120 then P_Mo_urgentAt else P_Mo_dueIn)) else (bif Nat.blt m 123 then (bif Nat.blt m 122 then P_Mo_log else P_Mo_comes) else (bif Nat.blt m 124 then P_Mo_turns else (bif Nat.blt m 125 then P_Mo_logs else P_Mo_isFree)))) else (bif Nat.blt m 131 then (bif Nat.blt m 128 then (bif Nat.blt m 127 then P_Mo_goes else P_Mo_image) else (bif Nat.blt m 129 then P_Mo_back else (bif Nat.blt m 130 then P_Mo_rated else P_Mo_isOnWay))) else (bif Nat.blt m 133 then (bif Nat.blt m 132 then P_Mo_next else P_Mo_numberHere) else (bif Nat.blt m 134 then P_Str_length else (bif Nat.blt m 135 then P_Str_checkIndex else P_MB_feed))))) else (bif Nat.blt m 146 then (bif Nat.blt m 141 then (bif Nat.blt m 138 then (bif Nat.blt m 137 then P_MB_heaviest else P_MB_count) else (bif Nat.blt m 139 then P_MB_waiting else (bif Nat.blt m 140 then P_MB_coming else P_MB_log))) else (bif Nat.blt m 143 then (bif Nat.blt m 142 then P_MB_load else P_Tape_beginText) else (bif Nat.blt m 144 then P_Tape_takeIf else (bif Nat.blt m 145 then P_Tape_takeNumber else P_BeltText_takeOneMore)))) else (bif Nat.blt m 151 then (bif Nat.blt m 148 then (bif Nat.blt m 147 then P_BeltText_takeOpening else P_BeltText_operatorThere) else (bif Nat.blt m 149 then P_Question_init else (bif Nat.blt m 150 then P_Question_openOneMore else P_Question_comparisonThere))) else (bif Nat.blt m 153 then (bif Nat.blt m 152 then P_Plan_init else P_Plan_exitAt) else (bif Nat.blt m 154 then P_Plan_sideAt else (bif Nat.blt m 155 then P_State_init else P_State_ridesAt)))))))) else (bif Nat.blt m 234 then (bif Nat.blt m 195 then (bif Nat.blt m 175 then (bif Nat.blt m 165 then (bif Nat.blt m 160 then (bif Nat.blt m 158 then (bif Nat.blt m 157 then P_State_goesTo else P_State_rank) else (bif Nat.blt m 159 then P_State_comeIn else P_State_goOn)) else (bif Nat.blt m 162 then (bif Nat.blt m 161 then P_State_nearestGap else P_State_waitsAsLong) else (bif Nat.blt m 163 then P_Ring_clear else (bif Nat.blt m 164 then P_Ring_copyFrom else P_Queues_clear)))) else (bif Nat.blt m 170 then (bif Nat.blt m 167 then (bif Nat.blt m 166 then P_Queues_copyFrom else P_Queues_waitingOf) else (bif Nat.blt m 168 then P_Queues_hasSameWares else (bif Nat.blt m 169 then P_Log_copyFrom else P_Formula_copyFrom))) else (bif Nat.blt m 172 then (bif Nat.blt m 171 then P_Formula_addOperator else P_Formula_close) else (bif Nat.blt m 173 then P_Formula_end else (bif Nat.blt m 174 then P_Formula_endFact else P_Mo_count))))) else (bif Nat.blt m 185 then (bif Nat.blt m 180 then (bif Nat.blt m 177 then (bif Nat.blt m 176 then P_Mo_place else P_Mo_exit) else (bif Nat.blt m 178 then P_Mo_ware else (bif Nat.blt m 179 then P_Mo_turnWord else P_Mo_waiting))) else (bif Nat.blt m 182 then (bif Nat.blt m 181 then P_Mo_coming else P_Mo_allCome) else (bif Nat.blt m 183 then P_Mo_exitsTake else (bif Nat.blt m 184 then P_Mo_sidesGive else P_Mo_nearest)))) else (bif Nat.blt m 190 then (bif Nat.blt m 187 then (bif Nat.blt m 186 then P_Mo_push else P_Mo_shut) else (bif Nat.blt m 188 then P_Mo_change else (bif Nat.blt m 189 then P_Mo_longestJam else P_Mo_writesMoment))) else (bif Nat.blt m 192 then (bif Nat.blt m 191 then P_Mo_loadOf else P_Mo_opens) else (bif Nat.blt m 193 then P_Mo_pass else (bif Nat.blt m 194 then P_Lat_charAt else P_Law_count)))))) else (bif Nat.blt m 214 then (bif Nat.blt m 204 then (bif Nat.blt m 199 then (bif Nat.blt m 197 then (bif Nat.blt m 196 then P_Law_waiting else P_Law_coming) else (bif Nat.blt m 198 then P_Law_log else P_Law_load)) else (bif Nat.blt m 201 then (bif Nat.blt m 200 then P_MB_place else P_MB_ware) else (bif Nat.blt m 202 then P_MB_side else (bif Nat.blt m 203 then P_Tape_takeSign else P_BeltText_init)))) else (bif Nat.blt m 209 then (bif Nat.blt m 206 then (bif Nat.blt m 205 then P_BeltText_takeOwnPlace else P_BeltText_readComing) else (bif Nat.blt m 207 then P_Question_holdsAt else (bif Nat.blt m 208 then P_Plan_copyFrom else P_State_begin))) else (bif Nat.blt m 211 then (bif Nat.blt m 210 then P_State_copyFrom else P_State_jam) else (bif Nat.blt m 212 then P_State_takeOut else (bif Nat.blt m 213 then P_State_takeTurns else P_State_isAs))))) else (bif Nat.blt m 224 then (bif Nat.blt m 219 then (bif Nat.blt m 216 then (bif Nat.blt m 215 then P_Acts_init else P_Mo_isAsking) else (bif Nat.blt m 217 then P_Mo_load else (bif Nat.blt m 218 then P_Mo_heaviest else P_Mo_number))) else (bif Nat.blt m 221 then (bif Nat.blt m 220 then P_Mo_must else P_Mo_ownPlace) else (bif Nat.blt m 222 then P_Mo_goesIn else (bif Nat.blt m 223 then P_Str_charAt else P_Law_place)))) else (bif Nat.blt m 229 then (bif Nat.blt m 226 then (bif Nat.blt m 225 then P_Law_ware else P_Law_side) else (bif Nat.blt m 227 then P_MB_init else (bif Nat.blt m 228 then P_MB_image else P_MB_back))) else (bif Nat.blt m 231 then (bif Nat.blt m 230 then P_MB_exit else P_Tape_isWord) else (bif Nat.blt m 232 then P_BeltText_readExit else (bif Nat.blt m 233 then P_BeltText_readSide else P_State_step))))))) else (bif Nat.blt m 273 then (bif Nat.blt m 253 then (bif Nat.blt m 243 then (bif Nat.blt m 238 then (bif Nat.blt m 236 then (bif Nat.blt m 235 then P_State_longestJam else P_Acts_keep) else (bif Nat.blt m 237 then P_Acts_giveBack else P_Mo_gives)) else (bif Nat.blt m 240 then (bif Nat.blt m 239 then P_Mo_isWord else P_Mo_readExit) else (bif Nat.blt m 241 then P_Mo_readSide else (bif Nat.blt m 242 then P_Mo_readComing else P_Law_exit)))) else (bif Nat.blt m 248 then (bif Nat.blt m 245 then (bif Nat.blt m 244 then P_MB_push else P_MB_undo) else (bif Nat.blt m 246 then P_MB_shut else (bif Nat.blt m 247 then P_MB_change else P_MB_findAgain))) else (bif Nat.blt m 250 then (bif Nat.blt m 249 then P_Tape_takeWord else P_BeltText_partThere) else (bif Nat.blt m 251 then P_Question_partThere else (bif Nat.blt m 252 then P_State_run else P_State_runTillLost))))) else (bif Nat.blt m 263 then (bif Nat.blt m 258 then (bif Nat.blt m 255 then (bif Nat.blt m 254 then P_Mo_readWare else P_Mo_readValue) else (bif Nat.blt m 256 then P_Law_shut else (bif Nat.blt m 257 then P_Law_change else P_MB_ticks))) else (bif Nat.blt m 260 then (bif Nat.blt m 259 then P_MB_trial else P_MB_again) else (bif Nat.blt m 261 then P_MB_rate else (bif Nat.blt m 262 then P_MB_leastRoom else P_MB_bestReach)))) else (bif Nat.blt m 268 then (bif Nat.blt m 265 then (bif Nat.blt m 264 then P_MB_without else P_BeltText_readWare) else (bif Nat.blt m 266 then P_BeltText_readPart else (bif Nat.blt m 267 then P_Question_readValue else P_Law_ticks))) else (bif Nat.blt m 270 then (bif Nat.blt m 269 then P_Law_trial else P_Law_again) else (bif Nat.blt m 271 then P_Law_rate else (bif Nat.blt m 272 then P_Law_leastRoom else P_Law_bestReach)))))) else (bif Nat.blt m 292 then (bif Nat.blt m 282 then (bif Nat.blt m 277 then (bif Nat.blt m 275 then (bif Nat.blt m 274 then P_Law_without else P_BeltText_readTurns) else (bif Nat.blt m 276 then P_Question_readFact else P_BeltText_read)) else (bif Nat.blt m 279 then (bif Nat.blt m 278 then P_Question_read else P_MB_belt) else (bif Nat.blt m 280 then P_MB_ask else (bif Nat.blt m 281 then P_Law_belt else P_Law_ask)))) else (bif Nat.blt m 287 then (bif Nat.blt m 284 then (bif Nat.blt m 283 then P_Mo_turnSum else P_Mo_turnTerm) else (bif Nat.blt m 285 then P_Mo_turnPart else (bif Nat.blt m 286 then P_Mo_rankOf else P_Mo_side))) else (bif Nat.blt m 289 then (bif Nat.blt m 288 then P_Mo_reserves else P_Mo_readSum) else (bif Nat.blt m 290 then P_Mo_readTerm else (bif Nat.blt m 291 then P_Mo_readPart else P_Mo_tick))))) else (bif Nat.blt m 302 then (bif Nat.blt m 297 then (bif Nat.blt m 294 then (bif Nat.blt m 293 then P_Mo_readTurns else P_Mo_readTest) else (bif Nat.blt m 295 then P_Mo_readBoth else (bif Nat.blt m 296 then P_Mo_readFact else P_Mo_runs))) else (bif Nat.blt m 299 then (bif Nat.blt m 298 then P_Mo_layAgain else P_Mo_readLine) else (bif Nat.blt m 300 then P_Mo_readQuestion else (bif Nat.blt m 301 then P_Mo_ticks else P_Mo_trial)))) else (bif Nat.blt m 307 then (bif Nat.blt m 304 then (bif Nat.blt m 303 then P_Mo_again else P_Mo_rate) else (bif Nat.blt m 305 then P_Mo_inTrial else (bif Nat.blt m 306 then P_Mo_takenOfOthers else P_Mo_belt))) else (bif Nat.blt m 309 then (bif Nat.blt m 308 then P_Mo_ask else P_Mo_leastRoom) else (bif Nat.blt m 310 then P_Mo_bestReach else (bif Nat.blt m 311 then P_Mo_without else P_Law_law)))))))))
def swT : List (Nat × (Nat × List (Int32 × Nat))) := [(2, 1, [(0, 28), (1, 45)]), (19, 1, [((-20), 56), ((-19), 62), ((-18), 58), ((-17), 60), ((-16), 64), ((-15), 64), ((-14), 64), ((-13), 60), ((-12), 58), ((-11), 58)]), (20, 1, [((-17), 89), ((-16), 78), ((-15), 67), ((-14), 56), ((-13), 52), ((-12), 48), ((-11), 44)]), (137, 1, [(0, 80), (1, 88), (2, 96), (3, 104), (4, 112), (5, 120), (6, 128), (7, 139), (8, 150), (9, 180), (10, 194), (11, 205), (12, 216), (13, 227), (14, 235), (15, 243)]), (139, 23, [(0, 56), (1, 68), (2, 80), (3, 92), (4, 104)]), (174, 6, [(0, 84), (1, 84), (2, 84), (3, 84), (4, 84), (5, 84), (6, 91), (7, 97), (8, 102), (9, 118), (10, 124), (11, 132), (12, 140), (13, 148), (14, 153), (15, 158)]), (176, 29, [(0, 64), (1, 71), (2, 78), (3, 85), (4, 92)]), (177, 29, [(0, 60), (1, 67), (2, 74), (3, 80)]), (178, 1, [(99, 60), (104, 113), (108, 122), (114, 103), (115, 70), (119, 93)]), (199, 23, [(0, 56), (1, 68), (2, 80), (3, 92), (4, 101)]), (200, 23, [(0, 56), (1, 68), (2, 80), (3, 92), (4, 104)]), (201, 23, [(0, 92), (1, 104), (2, 116), (3, 128), (4, 140), (5, 155), (6, 167), (7, 179), (8, 188), (9, 201), (10, 214), (11, 226), (12, 238), (13, 250)]), (229, 23, [(0, 60), (1, 72), (2, 84), (3, 96), (4, 108), (5, 121)]), (258, 59, [(0, 88), (1, 110), (2, 132), (3, 143)]), (286, 30, [(5, 80), (6, 86), (7, 93), (8, 99), (9, 105), (10, 111), (11, 111), (12, 111), (13, 111)]), (311, 40, [(0, 164), (1, 237), (2, 293), (3, 306), (4, 362), (5, 430), (6, 498), (7, 566), (8, 634), (9, 702), (10, 770), (11, 838), (12, 894), (13, 931), (14, 999), (15, 1079), (16, 1092), (17, 1160), (18, 1216), (19, 1284), (20, 1367), (21, 1380), (22, 1448), (23, 1516), (24, 1584), (25, 1640), (26, 1651)])]
def fldP_0 : List (Nat × (Nat × Nat × Nat × Nat × Nat)) := []
def fldP_1 : List (Nat × (Nat × Nat × Nat × Nat × Nat)) := [(10, (1, 0, 2, 1, 2)), (19, (1, 1, 2, 4, 3)), (26, (1, 2, 2, 39, 4)), (33, (1, 3, 2, 49, 5)), (40, (1, 4, 2, 83, 6)), (47, (1, 5, 2, 133, 7)), (51, (1, 6, 2, 635, 6)), (54, (1, 7, 2, 685, 6)), (57, (1, 8, 2, 735, 5)), (60, (1, 9, 2, 769, 6)), (63, (1, 11, 0, 0, 0)), (67, (5, 0, 0, 0, 0)), (74, (2, 1, 0, 0, 0)), (88, (2, 7, 0, 0, 0)), (89, (2, 6, 0, 0, 0)), (92, (3, 0, 2, 1, 5)), (99, (5, 1, 0, 0, 0)), (102, (5, 4, 0, 0, 0)), (105, (5, 7, 0, 0, 0)), (108, (5, 12, 0, 0, 0)), (111, (6, 0, 0, 0, 0)), (114, (6, 1, 2, 1, 9)), (127, (6, 2, 2, 14, 10)), (131, (10, 2, 2, 5, 8)), (141, (6, 14, 2, 43, 8)), (144, (6, 10, 2, 35, 8)), (147, (6, 16, 2, 47, 11)), (151, (11, 2, 0, 0, 0)), (154, (7, 2, 0, 0, 0)), (155, (5, 17, 1, 0, 0)), (182, (5, 2, 2, 1, 8)), (188, (5, 3, 2, 3, 8)), (191, (6, 13, 2, 41, 8)), (201, (5, 5, 2, 5, 8)), (204, (5, 6, 2, 7, 8)), (213, (6, 15, 2, 45, 8)), (216, (5, 8, 2, 9, 8)), (219, (6, 3, 2, 21, 8)), (222, (6, 4, 2, 23, 8)), (225, (6, 5, 2, 25, 8)), (228, (6, 7, 2, 29, 8)), (231, (6, 6, 2, 27, 8)), (243, (6, 8, 2, 31, 8)), (246, (6, 9, 2, 33, 8)), (249, (6, 11, 2, 37, 8)), (256, (5, 13, 2, 17, 8)), (259, (5, 14, 2, 19, 8)), (262, (5, 15, 2, 21, 8)), (265, (5, 16, 2, 23, 8)), (345, (4, 1, 1, 0, 0)), (348, (1, 10, 1, 0, 0))]
def fldP_2 : List (Nat × (Nat × Nat × Nat × Nat × Nat)) := [(14, (2, 0, 2, 1, 8)), (20, (2, 7, 0, 0, 0)), (24, (2, 1, 0, 0, 0)), (31, (2, 2, 0, 0, 0)), (34, (2, 5, 0, 0, 0)), (37, (2, 6, 0, 0, 0)), (43, (2, 4, 0, 0, 0)), (50, (2, 3, 0, 0, 0))]
def fldP_3 : List (Nat × (Nat × Nat × Nat × Nat × Nat)) := [(12, (3, 0, 2, 1, 5)), (37, (5, 0, 0, 0, 0)), (102, (5, 1, 0, 0, 0)), (109, (5, 2, 2, 1, 8)), (121, (5, 3, 2, 3, 8)), (124, (5, 4, 0, 0, 0)), (127, (5, 5, 2, 5, 8)), (132, (5, 6, 2, 7, 8)), (135, (5, 7, 0, 0, 0)), (138, (5, 8, 2, 9, 8)), (141, (5, 9, 2, 11, 8)), (144, (5, 10, 2, 13, 8)), (147, (5, 11, 2, 15, 8)), (150, (5, 12, 0, 0, 0)), (153, (5, 13, 2, 17, 8)), (156, (5, 14, 2, 19, 8)), (159, (5, 15, 2, 21, 8)), (162, (5, 16, 2, 23, 8)), (165, (5, 17, 1, 0, 0)), (184, (5, 18, 2, 25, 12))]
def fldP_4 : List (Nat × (Nat × Nat × Nat × Nat × Nat)) := [(14, (4, 0, 2, 1, 12)), (23, (4, 2, 0, 0, 0)), (27, (4, 3, 0, 0, 0)), (41, (4, 1, 1, 0, 0)), (139, (12, 0, 2, 1, 8)), (149, (6, 1, 2, 1, 9))]
def fldP_5 : List (Nat × (Nat × Nat × Nat × Nat × Nat)) := [(14, (5, 2, 2, 1, 8)), (20, (5, 3, 2, 3, 8)), (23, (5, 5, 2, 5, 8)), (26, (5, 6, 2, 7, 8)), (29, (5, 8, 2, 9, 8)), (32, (5, 9, 2, 11, 8)), (35, (5, 10, 2, 13, 8)), (38, (5, 11, 2, 15, 8)), (41, (5, 13, 2, 17, 8)), (44, (5, 14, 2, 19, 8)), (47, (5, 15, 2, 21, 8)), (50, (5, 16, 2, 23, 8)), (56, (5, 18, 2, 25, 12)), (60, (5, 0, 0, 0, 0)), (64, (5, 1, 0, 0, 0)), (67, (5, 4, 0, 0, 0)), (70, (5, 7, 0, 0, 0)), (73, (5, 12, 0, 0, 0)), (76, (5, 17, 1, 0, 0))]
def fldP_6 : List (Nat × (Nat × Nat × Nat × Nat × Nat)) := [(12, (6, 1, 2, 1, 9)), (21, (6, 2, 2, 14, 10)), (30, (6, 3, 2, 21, 8)), (34, (6, 4, 2, 23, 8)), (37, (6, 5, 2, 25, 8)), (40, (6, 6, 2, 27, 8)), (43, (6, 7, 2, 29, 8)), (46, (6, 8, 2, 31, 8)), (49, (6, 9, 2, 33, 8)), (52, (6, 10, 2, 35, 8)), (55, (6, 11, 2, 37, 8)), (58, (6, 12, 2, 39, 8)), (61, (6, 13, 2, 41, 8)), (64, (6, 14, 2, 43, 8)), (67, (6, 15, 2, 45, 8)), (73, (6, 16, 2, 47, 11)), (77, (6, 17, 0, 0, 0)), (81, (6, 0, 0, 0, 0)), (84, (5, 0, 0, 0, 0)), (94, (5, 9, 2, 11, 8)), (101, (5, 10, 2, 13, 8)), (104, (5, 11, 2, 15, 8)), (120, (10, 2, 2, 5, 8)), (150, (5, 1, 0, 0, 0)), (159, (5, 12, 0, 0, 0)), (162, (5, 13, 2, 17, 8)), (175, (5, 14, 2, 19, 8)), (182, (5, 2, 2, 1, 8)), (207, (5, 3, 2, 3, 8)), (213, (5, 7, 0, 0, 0)), (216, (5, 8, 2, 9, 8)), (252, (5, 17, 1, 0, 0)), (256, (5, 18, 2, 25, 12)), (260, (12, 0, 2, 1, 8)), (272, (10, 1, 2, 3, 8)), (275, (5, 6, 2, 7, 8)), (278, (10, 0, 2, 1, 8)), (284, (5, 5, 2, 5, 8))]
def fldP_7 : List (Nat × (Nat × Nat × Nat × Nat × Nat)) := [(11, (7, 0, 2, 1, 16)), (18, (7, 2, 0, 0, 0)), (22, (7, 1, 0, 0, 0))]
def fldP_8 : List (Nat × (Nat × Nat × Nat × Nat × Nat)) := [(7, (8, 0, 2, 1, 14))]
def fldP_9 : List (Nat × (Nat × Nat × Nat × Nat × Nat)) := [(14, (9, 0, 2, 1, 8)), (20, (9, 1, 2, 3, 8)), (23, (9, 2, 2, 5, 8)), (26, (9, 3, 2, 7, 8)), (29, (9, 4, 2, 9, 8)), (32, (9, 5, 2, 11, 8)), (35, (9, 6, 0, 0, 0)), (39, (9, 7, 0, 0, 0))]
def fldP_10 : List (Nat × (Nat × Nat × Nat × Nat × Nat)) := [(14, (10, 0, 2, 1, 8)), (20, (10, 1, 2, 3, 8)), (23, (10, 2, 2, 5, 8))]
def fldP_11 : List (Nat × (Nat × Nat × Nat × Nat × Nat)) := [(14, (11, 0, 2, 1, 8)), (20, (11, 1, 0, 0, 0)), (24, (11, 2, 0, 0, 0))]
def fldP_12 : List (Nat × (Nat × Nat × Nat × Nat × Nat)) := [(14, (12, 0, 2, 1, 8)), (18, (12, 3, 2, 3, 8)), (21, (12, 5, 2, 5, 8)), (24, (12, 1, 2, 7, 8)), (27, (12, 2, 0, 0, 0)), (31, (12, 4, 0, 0, 0))]
def fldP_13 : List (Nat × (Nat × Nat × Nat × Nat × Nat)) := [(9, (13, 0, 2, 1, 14)), (13, (13, 1, 2, 2, 14)), (16, (13, 2, 2, 3, 14)), (19, (13, 3, 2, 4, 14)), (22, (13, 4, 2, 5, 14)), (25, (13, 8, 0, 0, 0)), (29, (13, 9, 2, 6, 14)), (33, (13, 12, 2, 7, 14)), (36, (13, 16, 2, 8, 14)), (39, (13, 25, 0, 0, 0)), (46, (13, 7, 0, 0, 0)), (143, (13, 10, 0, 0, 0)), (161, (13, 11, 0, 0, 0)), (185, (13, 6, 0, 0, 0)), (188, (13, 17, 0, 0, 0)), (222, (13, 5, 1, 0, 0)), (229, (13, 13, 0, 0, 0)), (243, (13, 14, 0, 0, 0)), (246, (13, 15, 0, 0, 0)), (279, (13, 18, 0, 0, 0)), (282, (13, 19, 0, 0, 0)), (288, (13, 21, 0, 0, 0)), (291, (13, 20, 0, 0, 0)), (294, (13, 22, 0, 0, 0)), (297, (13, 23, 0, 0, 0)), (300, (13, 26, 0, 0, 0)), (306, (13, 24, 0, 0, 0)), (402, (13, 27, 0, 0, 0))]
def fldP_14 : List (Nat × (Nat × Nat × Nat × Nat × Nat)) := []
def fldP_15 : List (Nat × (Nat × Nat × Nat × Nat × Nat)) := []
def fldP_16 : List (Nat × (Nat × Nat × Nat × Nat × Nat)) := [(9, (18, 0, 4, 0, 19)), (15, (18, 1, 3, 0, 0))]
def fldP_17 : List (Nat × (Nat × Nat × Nat × Nat × Nat)) := []
def fldP_18 : List (Nat × (Nat × Nat × Nat × Nat × Nat)) := []
def fldP (o : Nat) : List (Nat × (Nat × Nat × Nat × Nat × Nat)) := (bif Nat.blt o 9 then (bif Nat.blt o 4 then (bif Nat.blt o 2 then (bif Nat.blt o 1 then fldP_0 else fldP_1) else (bif Nat.blt o 3 then fldP_2 else fldP_3)) else (bif Nat.blt o 6 then (bif Nat.blt o 5 then fldP_4 else fldP_5) else (bif Nat.blt o 7 then fldP_6 else (bif Nat.blt o 8 then fldP_7 else fldP_8)))) else (bif Nat.blt o 14 then (bif Nat.blt o 11 then (bif Nat.blt o 10 then fldP_9 else fldP_10) else (bif Nat.blt o 12 then fldP_11 else (bif Nat.blt o 13 then fldP_12 else fldP_13))) else (bif Nat.blt o 16 then (bif Nat.blt o 15 then fldP_14 else fldP_15) else (bif Nat.blt o 17 then fldP_16 else (bif Nat.blt o 18 then fldP_17 else fldP_18)))))
def mthP_0 : List (Nat × (Nat × Nat × Nat × Nat × Nat × Nat × Nat)) := [(7, (0, 278, 1, 2, 1, 1, 6)), (15, (0, 137, 1, 2, 1, 1, 6)), (20, (0, 199, 2, 3, 1, 1, 6)), (24, (0, 229, 2, 3, 1, 1, 6)), (27, (0, 200, 2, 3, 1, 1, 6)), (30, (0, 201, 2, 3, 1, 1, 6)), (33, (0, 138, 2, 3, 1, 1, 6)), (36, (0, 139, 2, 3, 1, 1, 6)), (39, (0, 140, 2, 3, 1, 1, 6)), (42, (0, 257, 1, 3, 1, 1, 6)), (45, (0, 245, 2, 4, 1, 1, 6)), (48, (0, 246, 3, 6, 1, 1, 6)), (52, (0, 258, 2, 3, 1, 1, 6)), (55, (0, 259, 1, 3, 1, 1, 6)), (58, (0, 260, 2, 4, 1, 1, 6)), (61, (0, 141, 2, 7, 1, 1, 6)), (65, (0, 261, 2, 4, 1, 1, 6)), (68, (0, 262, 2, 6, 1, 1, 6)), (71, (0, 263, 2, 3, 1, 1, 6)), (74, (0, 279, 1, 4, 1, 1, 6)), (77, (5, 226, 0, 1, 1, 818, 188430)), (80, (5, 106, 0, 1, 1, 8, 218978)), (81, (0, 135, 5, 6, 0, 0, 0)), (85, (0, 43, 5, 8, 0, 0, 0)), (86, (1, 280, 3, 4, 1, 1, 6)), (91, (0, 306, 1, 3, 0, 0, 0)), (92, (0, 22, 0, 1, 0, 0, 0)), (96, (0, 0, 0, 1, 0, 0, 0)), (99, (0, 44, 0, 1, 0, 0, 0)), (100, (1, 194, 3, 4, 1, 1, 6)), (102, (0, 174, 1, 2, 0, 0, 0)), (103, (1, 223, 4, 5, 1, 1, 6)), (106, (0, 175, 2, 3, 0, 0, 0)), (107, (1, 242, 4, 5, 1, 1, 6)), (109, (0, 176, 2, 3, 0, 0, 0)), (110, (1, 224, 4, 5, 1, 1, 6)), (112, (0, 177, 2, 3, 0, 0, 0)), (113, (1, 225, 4, 5, 1, 1, 6)), (115, (0, 286, 2, 3, 0, 0, 0)), (116, (1, 195, 4, 5, 1, 1, 6)), (118, (0, 179, 2, 3, 0, 0, 0)), (119, (1, 196, 4, 5, 1, 1, 6)), (121, (0, 180, 2, 3, 0, 0, 0)), (122, (1, 197, 4, 5, 1, 1, 6)), (124, (0, 121, 2, 3, 0, 0, 0)), (125, (1, 267, 3, 4, 1, 1, 6)), (127, (0, 300, 1, 3, 0, 0, 0)), (128, (0, 243, 2, 3, 0, 0, 0)), (131, (0, 185, 2, 4, 0, 0, 0)), (132, (1, 255, 4, 5, 1, 1, 6)), (134, (0, 186, 2, 4, 0, 0, 0)), (135, (1, 256, 5, 6, 1, 1, 6)), (138, (0, 187, 3, 8, 0, 0, 0)), (139, (0, 244, 0, 1, 0, 0, 0)), (142, (0, 37, 0, 2, 0, 0, 0)), (143, (1, 268, 4, 5, 1, 1, 6)), (145, (0, 301, 2, 4, 0, 0, 0)), (146, (1, 269, 3, 4, 1, 1, 6)), (148, (0, 302, 1, 2, 0, 0, 0)), (149, (1, 270, 4, 5, 1, 1, 6)), (151, (0, 303, 2, 5, 0, 0, 0)), (152, (1, 198, 4, 5, 1, 1, 6)), (155, (0, 216, 2, 7, 0, 0, 0)), (156, (0, 136, 0, 3, 0, 0, 0)), (159, (0, 217, 0, 3, 0, 0, 0)), (160, (1, 271, 4, 5, 1, 1, 6)), (162, (0, 308, 2, 4, 0, 0, 0)), (163, (1, 272, 4, 5, 1, 1, 6)), (165, (0, 309, 2, 7, 0, 0, 0)), (166, (1, 273, 4, 5, 1, 1, 6)), (168, (0, 310, 2, 3, 0, 0, 0)), (169, (1, 281, 3, 4, 1, 1, 6)), (171, (0, 307, 1, 7, 0, 0, 0)), (172, (0, 227, 0, 1, 0, 0, 0)), (175, (0, 127, 0, 1, 0, 0, 0)), (176, (0, 228, 0, 1, 0, 0, 0)), (180, (0, 128, 0, 1, 0, 0, 0))]
def mthP_1 : List (Nat × (Nat × Nat × Nat × Nat × Nat × Nat × Nat)) := [(1, (2, 0, 0, 0, 0, 0, 0)), (9, (6, 58, 0, 1, 1, 2, 501)), (18, (6, 203, 0, 1, 1, 34, 8041)), (25, (6, 148, 0, 1, 1, 9, 2010)), (32, (6, 151, 0, 1, 1, 33, 8022)), (39, (6, 154, 0, 1, 1, 49, 11537)), (46, (5, 214, 0, 2, 1, 501, 115560)), (70, (0, 208, 1, 2, 0, 0, 0)), (77, (0, 59, 1, 3, 0, 0, 0)), (84, (0, 276, 2, 4, 0, 0, 0)), (93, (0, 207, 1, 2, 0, 0, 0)), (96, (0, 9, 0, 1, 0, 0, 0)), (118, (0, 76, 0, 3, 0, 0, 0)), (124, (0, 77, 0, 3, 0, 0, 0)), (136, (0, 14, 0, 6, 0, 0, 0)), (162, (1, 1, 2, 2, 0, 0, 0)), (166, (0, 78, 1, 2, 0, 0, 0)), (170, (0, 79, 1, 2, 0, 0, 0)), (173, (0, 80, 1, 2, 0, 0, 0)), (176, (0, 155, 1, 2, 0, 0, 0)), (179, (0, 82, 1, 2, 0, 0, 0)), (185, (0, 12, 1, 2, 0, 0, 0)), (194, (0, 210, 2, 5, 0, 0, 0)), (198, (0, 68, 1, 2, 0, 0, 0)), (207, (0, 83, 1, 4, 0, 0, 0)), (210, (0, 166, 1, 5, 0, 0, 0)), (234, (0, 69, 1, 2, 0, 0, 0)), (237, (0, 70, 2, 5, 0, 0, 0)), (240, (0, 157, 2, 4, 0, 0, 0)), (252, (0, 93, 2, 3, 0, 0, 0)), (268, (0, 65, 2, 6, 0, 0, 0)), (271, (0, 97, 2, 4, 0, 0, 0)), (273, (0, 235, 1, 2, 0, 0, 0)), (277, (0, 251, 2, 4, 0, 0, 0)), (281, (0, 67, 1, 2, 0, 0, 0)), (285, (0, 92, 3, 5, 0, 0, 0)), (289, (0, 11, 2, 3, 0, 0, 0)), (293, (0, 2, 2, 3, 0, 0, 0)), (296, (0, 236, 1, 3, 0, 0, 0)), (300, (0, 209, 1, 2, 0, 0, 0)), (302, (0, 234, 1, 4, 0, 0, 0)), (306, (0, 247, 0, 3, 0, 0, 0)), (309, (1, 56, 3, 4, 0, 0, 0)), (313, (0, 63, 1, 10, 0, 0, 0)), (319, (1, 3, 2, 11, 0, 0, 0)), (323, (8, 0, 2, 0, 0, 0, 0)), (328, (0, 252, 3, 6, 0, 0, 0)), (332, (0, 72, 1, 2, 0, 0, 0)), (335, (1, 57, 2, 2, 0, 0, 0)), (339, (0, 277, 2, 5, 0, 0, 0)), (341, (0, 206, 3, 5, 0, 0, 0)), (351, (0, 233, 1, 3, 0, 0, 0)), (354, (0, 213, 2, 4, 0, 0, 0))]
def mthP_2 : List (Nat × (Nat × Nat × Nat × Nat × Nat × Nat × Nat)) := [(3, (2, 0, 0, 0, 0, 0, 0)), (11, (5, 10, 1, 2, 1, 1, 500)), (27, (0, 11, 2, 3, 0, 0, 0)), (40, (0, 60, 0, 1, 0, 0, 0)), (46, (0, 12, 1, 2, 0, 0, 0)), (53, (1, 4, 1, 1, 0, 0, 0)), (56, (0, 133, 0, 1, 0, 0, 0)), (61, (0, 222, 1, 2, 0, 0, 0)), (66, (7, 0, 2, 0, 0, 0, 0)), (72, (0, 230, 1, 3, 0, 0, 0)), (76, (0, 143, 1, 2, 0, 0, 0)), (80, (0, 62, 1, 2, 0, 0, 0)), (84, (0, 5, 1, 2, 0, 0, 0)), (87, (0, 61, 0, 3, 0, 0, 0))]
def mthP_3 : List (Nat × (Nat × Nat × Nat × Nat × Nat × Nat × Nat)) := [(3, (2, 0, 0, 0, 0, 0, 0)), (11, (6, 151, 0, 1, 1, 33, 8022)), (18, (0, 64, 0, 1, 0, 0, 0)), (21, (0, 142, 1, 2, 0, 0, 0)), (29, (0, 248, 1, 2, 0, 0, 0)), (33, (0, 144, 2, 4, 0, 0, 0)), (41, (0, 202, 1, 2, 0, 0, 0)), (45, (0, 6, 0, 1, 0, 0, 0)), (49, (0, 7, 0, 1, 0, 0, 0)), (54, (0, 230, 1, 3, 0, 0, 0)), (58, (0, 231, 1, 3, 0, 0, 0)), (64, (0, 264, 1, 4, 0, 0, 0)), (69, (0, 232, 1, 3, 0, 0, 0)), (74, (0, 205, 1, 3, 0, 0, 0)), (79, (0, 274, 1, 5, 0, 0, 0)), (82, (0, 5, 1, 2, 0, 0, 0)), (86, (0, 60, 0, 1, 0, 0, 0)), (89, (0, 8, 0, 1, 0, 0, 0)), (92, (0, 61, 0, 3, 0, 0, 0)), (96, (0, 13, 2, 4, 0, 0, 0)), (105, (1, 145, 3, 3, 0, 0, 0)), (113, (0, 204, 3, 4, 0, 0, 0)), (117, (0, 11, 2, 3, 0, 0, 0)), (169, (0, 62, 1, 2, 0, 0, 0)), (173, (0, 146, 2, 3, 0, 0, 0)), (177, (0, 265, 1, 3, 0, 0, 0)), (180, (1, 147, 1, 1, 0, 0, 0)), (188, (0, 170, 1, 2, 0, 0, 0)), (193, (0, 171, 0, 1, 0, 0, 0)), (196, (0, 172, 0, 1, 0, 0, 0)), (199, (0, 100, 1, 2, 0, 0, 0)), (202, (1, 249, 1, 1, 0, 0, 0)), (205, (0, 101, 1, 2, 0, 0, 0)), (208, (0, 102, 1, 2, 0, 0, 0))]
def mthP_4 : List (Nat × (Nat × Nat × Nat × Nat × Nat × Nat × Nat)) := [(3, (2, 0, 0, 0, 0, 0, 0)), (11, (5, 99, 1, 2, 1, 8, 2004)), (20, (0, 18, 0, 1, 0, 0, 0)), (30, (0, 142, 1, 2, 0, 0, 0)), (37, (0, 230, 1, 3, 0, 0, 0)), (46, (0, 248, 1, 2, 0, 0, 0)), (50, (0, 6, 0, 1, 0, 0, 0)), (54, (0, 275, 1, 4, 0, 0, 0)), (62, (0, 170, 1, 2, 0, 0, 0)), (65, (0, 60, 0, 1, 0, 0, 0)), (68, (0, 202, 1, 2, 0, 0, 0)), (72, (0, 171, 0, 1, 0, 0, 0)), (75, (0, 173, 0, 3, 0, 0, 0)), (79, (0, 7, 0, 1, 0, 0, 0)), (82, (0, 5, 1, 2, 0, 0, 0)), (86, (0, 172, 0, 1, 0, 0, 0)), (91, (0, 62, 1, 2, 0, 0, 0)), (95, (0, 149, 2, 3, 0, 0, 0)), (99, (0, 266, 1, 3, 0, 0, 0)), (103, (1, 150, 1, 1, 0, 0, 0)), (107, (0, 100, 1, 2, 0, 0, 0)), (110, (1, 250, 1, 1, 0, 0, 0)), (113, (0, 144, 2, 4, 0, 0, 0)), (117, (0, 101, 1, 2, 0, 0, 0)), (120, (0, 102, 1, 2, 0, 0, 0)), (143, (0, 11, 2, 3, 0, 0, 0)), (155, (0, 78, 1, 2, 0, 0, 0)), (160, (0, 79, 1, 2, 0, 0, 0)), (163, (0, 80, 1, 2, 0, 0, 0)), (166, (0, 155, 1, 2, 0, 0, 0)), (169, (0, 82, 1, 2, 0, 0, 0)), (172, (0, 152, 1, 2, 0, 0, 0)), (177, (0, 153, 1, 2, 0, 0, 0)), (180, (0, 104, 0, 4, 0, 0, 0))]
def mthP_5 : List (Nat × (Nat × Nat × Nat × Nat × Nat × Nat × Nat)) := [(3, (2, 0, 0, 0, 0, 0, 0)), (11, (5, 10, 1, 2, 1, 1, 500)), (55, (5, 99, 1, 2, 1, 8, 2004)), (80, (0, 18, 0, 1, 0, 0, 0)), (83, (0, 74, 1, 2, 0, 0, 0)), (87, (0, 169, 1, 2, 0, 0, 0)), (90, (1, 66, 3, 4, 0, 0, 0)), (94, (0, 12, 1, 2, 0, 0, 0))]
def mthP_6 : List (Nat × (Nat × Nat × Nat × Nat × Nat × Nat × Nat)) := [(3, (2, 0, 0, 0, 0, 0, 0)), (11, (6, 75, 0, 1, 1, 12, 3006)), (20, (6, 91, 0, 1, 1, 6, 1503)), (27, (5, 10, 1, 2, 1, 1, 500)), (72, (6, 96, 0, 1, 1, 2, 501)), (89, (0, 162, 1, 2, 0, 0, 0)), (92, (0, 164, 0, 1, 0, 0, 0)), (97, (0, 74, 1, 2, 0, 0, 0)), (107, (0, 73, 1, 2, 0, 0, 0)), (110, (0, 17, 0, 1, 0, 0, 0)), (111, (0, 163, 1, 2, 0, 0, 0)), (114, (0, 165, 1, 2, 0, 0, 0)), (117, (0, 168, 1, 2, 0, 0, 0)), (123, (0, 11, 2, 3, 0, 0, 0)), (127, (0, 233, 1, 3, 0, 0, 0)), (131, (0, 12, 1, 2, 0, 0, 0)), (135, (0, 158, 1, 4, 0, 0, 0)), (138, (0, 84, 0, 2, 0, 0, 0)), (141, (0, 211, 1, 6, 0, 0, 0)), (144, (0, 159, 1, 6, 0, 0, 0)), (147, (0, 212, 1, 11, 0, 0, 0)), (153, (8, 0, 2, 0, 0, 0, 0)), (165, (0, 65, 2, 6, 0, 0, 0)), (168, (0, 67, 1, 2, 0, 0, 0)), (172, (0, 15, 2, 3, 0, 0, 0)), (178, (0, 92, 3, 5, 0, 0, 0)), (185, (0, 156, 3, 5, 0, 0, 0)), (189, (0, 78, 1, 2, 0, 0, 0)), (192, (0, 79, 1, 2, 0, 0, 0)), (195, (0, 85, 1, 2, 0, 0, 0)), (198, (0, 155, 1, 2, 0, 0, 0)), (201, (0, 80, 1, 2, 0, 0, 0)), (204, (0, 98, 7, 9, 0, 0, 0)), (210, (0, 86, 1, 3, 0, 0, 0)), (219, (0, 82, 1, 2, 0, 0, 0)), (222, (0, 87, 1, 3, 0, 0, 0)), (225, (0, 88, 2, 3, 0, 0, 0)), (228, (0, 69, 1, 2, 0, 0, 0)), (231, (0, 93, 2, 3, 0, 0, 0)), (234, (0, 89, 5, 7, 0, 0, 0)), (238, (0, 94, 1, 4, 0, 0, 0)), (241, (0, 160, 2, 5, 0, 0, 0)), (245, (0, 157, 2, 4, 0, 0, 0)), (248, (0, 71, 4, 6, 0, 0, 0)), (265, (0, 70, 2, 5, 0, 0, 0)), (268, (0, 104, 0, 4, 0, 0, 0)), (281, (0, 81, 1, 2, 0, 0, 0)), (287, (0, 210, 2, 5, 0, 0, 0)), (290, (0, 90, 1, 5, 0, 0, 0)), (294, (0, 68, 1, 2, 0, 0, 0)), (297, (0, 167, 2, 4, 0, 0, 0)), (301, (0, 105, 1, 2, 0, 0, 0)), (304, (0, 161, 2, 5, 0, 0, 0)), (308, (0, 95, 2, 3, 0, 0, 0))]
def mthP_7 : List (Nat × (Nat × Nat × Nat × Nat × Nat × Nat × Nat)) := [(3, (2, 0, 0, 0, 0, 0, 0)), (17, (6, 154, 0, 1, 1, 49, 11537)), (25, (0, 209, 1, 2, 0, 0, 0)), (29, (7, 0, 2, 0, 0, 0, 0))]
def mthP_8 : List (Nat × (Nat × Nat × Nat × Nat × Nat × Nat × Nat)) := [(1, (2, 0, 0, 0, 0, 0, 0)), (13, (1, 50, 2, 4, 0, 0, 0)), (19, (7, 0, 2, 0, 0, 0, 0)), (25, (3, 0, 5, 0, 0, 0, 0))]
def mthP_9 : List (Nat × (Nat × Nat × Nat × Nat × Nat × Nat × Nat)) := [(3, (2, 0, 0, 0, 0, 0, 0)), (11, (5, 10, 1, 2, 1, 1, 500)), (42, (0, 73, 1, 2, 0, 0, 0)), (45, (0, 74, 1, 2, 0, 0, 0)), (49, (0, 16, 1, 3, 0, 0, 0)), (53, (0, 12, 1, 2, 0, 0, 0)), (56, (0, 15, 2, 3, 0, 0, 0)), (60, (0, 11, 2, 3, 0, 0, 0))]
def mthP_10 : List (Nat × (Nat × Nat × Nat × Nat × Nat × Nat × Nat)) := [(3, (2, 0, 0, 0, 0, 0, 0)), (11, (5, 10, 1, 2, 1, 1, 500)), (26, (0, 73, 1, 2, 0, 0, 0)), (29, (0, 74, 1, 2, 0, 0, 0)), (33, (0, 12, 1, 2, 0, 0, 0)), (37, (0, 11, 2, 3, 0, 0, 0)), (41, (8, 0, 2, 0, 0, 0, 0)), (47, (0, 93, 2, 3, 0, 0, 0))]
def mthP_11 : List (Nat × (Nat × Nat × Nat × Nat × Nat × Nat × Nat)) := [(3, (2, 0, 0, 0, 0, 0, 0)), (11, (5, 10, 1, 2, 1, 1, 500)), (27, (0, 74, 1, 2, 0, 0, 0)), (31, (0, 12, 1, 2, 0, 0, 0)), (35, (0, 11, 2, 3, 0, 0, 0)), (39, (7, 0, 2, 0, 0, 0, 0))]
def mthP_12 : List (Nat × (Nat × Nat × Nat × Nat × Nat × Nat × Nat)) := [(1, (2, 0, 0, 0, 0, 0, 0)), (11, (5, 10, 1, 2, 1, 1, 500)), (34, (0, 74, 1, 2, 0, 0, 0)), (38, (0, 13, 2, 4, 0, 0, 0)), (42, (0, 11, 2, 3, 0, 0, 0)), (46, (1, 19, 1, 1, 0, 0, 0)), (50, (0, 103, 1, 2, 0, 0, 0)), (53, (0, 100, 1, 2, 0, 0, 0)), (56, (8, 0, 2, 0, 0, 0, 0)), (62, (0, 12, 1, 2, 0, 0, 0)), (65, (1, 20, 3, 3, 0, 0, 0))]
def mthP_13 : List (Nat × (Nat × Nat × Nat × Nat × Nat × Nat × Nat)) := [(3, (2, 0, 0, 0, 0, 0, 0)), (42, (1, 21, 2, 4, 0, 0, 0)), (49, (0, 23, 0, 1, 0, 0, 0)), (53, (1, 28, 3, 3, 0, 0, 0)), (57, (0, 24, 2, 3, 0, 0, 0)), (61, (0, 25, 2, 3, 0, 0, 0)), (64, (0, 26, 2, 3, 0, 0, 0)), (67, (0, 30, 2, 3, 0, 0, 0)), (70, (0, 34, 2, 3, 0, 0, 0)), (73, (0, 120, 1, 5, 0, 0, 0)), (77, (0, 122, 2, 4, 0, 0, 0)), (81, (0, 29, 2, 3, 0, 0, 0)), (84, (8, 0, 2, 0, 0, 0, 0)), (89, (7, 0, 2, 0, 0, 0, 0)), (92, (0, 114, 1, 2, 0, 0, 0)), (95, (0, 124, 2, 4, 0, 0, 0)), (99, (0, 36, 1, 3, 0, 0, 0)), (103, (0, 125, 1, 2, 0, 0, 0)), (107, (0, 126, 2, 6, 0, 0, 0)), (110, (0, 117, 1, 4, 0, 0, 0)), (113, (0, 184, 1, 4, 0, 0, 0)), (116, (0, 215, 1, 2, 0, 0, 0)), (119, (0, 285, 1, 2, 0, 0, 0)), (122, (0, 237, 2, 4, 0, 0, 0)), (125, (0, 181, 0, 3, 0, 0, 0)), (128, (0, 123, 0, 3, 0, 0, 0)), (131, (0, 182, 0, 4, 0, 0, 0)), (134, (0, 183, 0, 4, 0, 0, 0)), (137, (0, 287, 0, 7, 0, 0, 0)), (140, (0, 291, 0, 2, 0, 0, 0)), (146, (0, 31, 0, 1, 0, 0, 0)), (149, (0, 282, 0, 4, 0, 0, 0)), (152, (1, 32, 1, 1, 0, 0, 0)), (155, (1, 33, 1, 1, 0, 0, 0)), (158, (0, 178, 2, 3, 0, 0, 0)), (164, (0, 118, 1, 2, 0, 0, 0)), (167, (0, 119, 1, 4, 0, 0, 0)), (170, (0, 284, 0, 4, 0, 0, 0)), (173, (0, 283, 0, 2, 0, 0, 0)), (176, (0, 107, 1, 4, 0, 0, 0)), (179, (0, 108, 0, 3, 0, 0, 0)), (182, (0, 109, 1, 5, 0, 0, 0)), (191, (0, 27, 1, 2, 0, 0, 0)), (194, (0, 110, 1, 2, 0, 0, 0)), (197, (0, 111, 1, 2, 0, 0, 0)), (200, (0, 112, 1, 2, 0, 0, 0)), (203, (0, 113, 1, 4, 0, 0, 0)), (206, (0, 115, 1, 2, 0, 0, 0)), (209, (0, 116, 1, 2, 0, 0, 0)), (212, (0, 35, 0, 2, 0, 0, 0)), (215, (0, 296, 1, 3, 0, 0, 0)), (218, (1, 38, 2, 3, 0, 0, 0)), (226, (0, 188, 0, 3, 0, 0, 0)), (232, (0, 40, 1, 2, 0, 0, 0)), (235, (0, 39, 0, 3, 0, 0, 0)), (239, (0, 189, 2, 6, 0, 0, 0)), (249, (0, 41, 2, 4, 0, 0, 0)), (252, (0, 297, 0, 4, 0, 0, 0)), (255, (0, 129, 2, 3, 0, 0, 0)), (258, (0, 130, 2, 6, 0, 0, 0)), (263, (0, 190, 1, 5, 0, 0, 0)), (267, (1, 42, 2, 10, 0, 0, 0)), (271, (0, 304, 5, 8, 0, 0, 0)), (275, (0, 305, 3, 6, 0, 0, 0)), (285, (0, 45, 1, 2, 0, 0, 0)), (303, (0, 131, 0, 2, 0, 0, 0)), (309, (0, 133, 0, 1, 0, 0, 0)), (314, (0, 222, 1, 2, 0, 0, 0)), (318, (0, 47, 1, 2, 0, 0, 0)), (321, (0, 46, 1, 2, 0, 0, 0)), (324, (0, 192, 0, 1, 0, 0, 0)), (328, (0, 132, 2, 5, 0, 0, 0)), (331, (0, 220, 3, 6, 0, 0, 0)), (335, (0, 218, 2, 4, 0, 0, 0)), (340, (0, 238, 1, 4, 0, 0, 0)), (344, (0, 288, 0, 1, 0, 0, 0)), (347, (0, 219, 1, 2, 0, 0, 0)), (364, (0, 290, 0, 2, 0, 0, 0)), (367, (0, 289, 0, 1, 0, 0, 0)), (372, (0, 239, 0, 4, 0, 0, 0)), (377, (0, 253, 0, 3, 0, 0, 0)), (380, (0, 240, 0, 6, 0, 0, 0)), (384, (0, 241, 0, 6, 0, 0, 0)), (388, (0, 292, 0, 3, 0, 0, 0)), (391, (0, 191, 1, 2, 0, 0, 0)), (396, (0, 298, 0, 1, 0, 0, 0)), (399, (0, 48, 0, 1, 0, 0, 0)), (413, (0, 49, 3, 5, 0, 0, 0)), (418, (0, 221, 0, 1, 0, 0, 0)), (421, (0, 295, 0, 4, 0, 0, 0)), (424, (0, 293, 0, 3, 0, 0, 0)), (427, (0, 254, 0, 2, 0, 0, 0)), (432, (0, 294, 0, 3, 0, 0, 0)), (441, (0, 299, 2, 4, 0, 0, 0))]
def mthP_14 : List (Nat × (Nat × Nat × Nat × Nat × Nat × Nat × Nat)) := []
def mthP_15 : List (Nat × (Nat × Nat × Nat × Nat × Nat × Nat × Nat)) := []
def mthP_16 : List (Nat × (Nat × Nat × Nat × Nat × Nat × Nat × Nat)) := [(335, (0, 53, 0, 1, 0, 0, 0)), (492, (0, 54, 0, 1, 0, 0, 0)), (495, (1, 193, 2, 2, 0, 0, 0)), (1059, (1, 55, 3, 3, 0, 0, 0))]
def mthP_17 : List (Nat × (Nat × Nat × Nat × Nat × Nat × Nat × Nat)) := [(9, (1, 134, 2, 2, 0, 0, 0))]
def mthP_18 : List (Nat × (Nat × Nat × Nat × Nat × Nat × Nat × Nat)) := []
def mthP (o : Nat) : List (Nat × (Nat × Nat × Nat × Nat × Nat × Nat × Nat)) := (bif Nat.blt o 9 then (bif Nat.blt o 4 then (bif Nat.blt o 2 then (bif Nat.blt o 1 then mthP_0 else mthP_1) else (bif Nat.blt o 3 then mthP_2 else mthP_3)) else (bif Nat.blt o 6 then (bif Nat.blt o 5 then mthP_4 else mthP_5) else (bif Nat.blt o 7 then mthP_6 else (bif Nat.blt o 8 then mthP_7 else mthP_8)))) else (bif Nat.blt o 14 then (bif Nat.blt o 11 then (bif Nat.blt o 10 then mthP_9 else mthP_10) else (bif Nat.blt o 12 then mthP_11 else (bif Nat.blt o 13 then mthP_12 else mthP_13))) else (bif Nat.blt o 16 then (bif Nat.blt o 15 then mthP_14 else mthP_15) else (bif Nat.blt o 17 then mthP_16 else (bif Nat.blt o 18 then mthP_17 else mthP_18)))))
def cstP_0 : List (Nat × PV) := []
def cstP_1 : List (Nat × PV) := [(317, pL 2329089562800), (340, pI (-1000000000))]
def cstP_2 : List (Nat × PV) := [(65, pI 1000000)]
def cstP_3 : List (Nat × PV) := [(27, pR 18 1), (52, pR 18 4), (62, pR 18 21), (67, pR 18 17), (72, pR 18 2), (77, pR 18 18), (130, pR 18 19), (211, pR 18 3), (213, pR 18 16), (215, pR 18 20), (217, pR 18 14), (219, pR 18 7), (221, pR 18 8)]
def cstP_4 : List (Nat × PV) := [(35, pR 18 9), (44, pR 18 5), (58, pR 18 0), (60, pR 18 11), (89, pR 18 10), (123, pR 18 12), (125, pR 18 21), (127, pR 18 6), (129, pR 18 15), (131, pR 18 13), (133, pR 18 7), (135, pR 18 4), (137, pR 18 17)]
def cstP_5 : List (Nat × PV) := [(98, pL 2329089562800)]
def cstP_6 : List (Nat × PV) := []
def cstP_7 : List (Nat × PV) := []
def cstP_8 : List (Nat × PV) := []
def cstP_9 : List (Nat × PV) := []
def cstP_10 : List (Nat × PV) := []
def cstP_11 : List (Nat × PV) := []
def cstP_12 : List (Nat × PV) := []
def cstP_13 : List (Nat × PV) := [(32, pI 198396), (261, pL 2329089562800), (327, pI 1000000), (338, pR 18 19), (350, pR 18 3), (352, pR 18 16), (354, pR 18 20), (356, pR 18 14), (358, pR 18 7), (360, pR 18 8), (362, pR 18 17), (370, pR 18 4), (375, pR 18 21), (383, pR 18 2), (387, pR 18 18), (394, pR 18 1), (405, pR 18 12), (407, pR 18 6), (409, pR 18 15), (411, pR 18 13), (416, pR 18 10), (430, pR 18 0), (435, pR 18 11), (437, pR 18 9), (439, pR 18 5), (444, pI (-1000000000))]
def cstP_14 : List (Nat × PV) := []
def cstP_15 : List (Nat × PV) := []
def cstP_16 : List (Nat × PV) := []
def cstP_17 : List (Nat × PV) := []
def cstP_18 : List (Nat × PV) := []
def cstP (o : Nat) : List (Nat × PV) := (bif Nat.blt o 9 then (bif Nat.blt o 4 then (bif Nat.blt o 2 then (bif Nat.blt o 1 then cstP_0 else cstP_1) else (bif Nat.blt o 3 then cstP_2 else cstP_3)) else (bif Nat.blt o 6 then (bif Nat.blt o 5 then cstP_4 else cstP_5) else (bif Nat.blt o 7 then cstP_6 else (bif Nat.blt o 8 then cstP_7 else cstP_8)))) else (bif Nat.blt o 14 then (bif Nat.blt o 11 then (bif Nat.blt o 10 then cstP_9 else cstP_10) else (bif Nat.blt o 12 then cstP_11 else (bif Nat.blt o 13 then cstP_12 else cstP_13))) else (bif Nat.blt o 16 then (bif Nat.blt o 15 then cstP_14 else cstP_15) else (bif Nat.blt o 17 then cstP_16 else (bif Nat.blt o 18 then cstP_17 else cstP_18)))))
def gstP_0 : List (Nat × PV) := []
def gstP_1 : List (Nat × PV) := []
def gstP_2 : List (Nat × PV) := []
def gstP_3 : List (Nat × PV) := []
def gstP_4 : List (Nat × PV) := []
def gstP_5 : List (Nat × PV) := []
def gstP_6 : List (Nat × PV) := []
def gstP_7 : List (Nat × PV) := []
def gstP_8 : List (Nat × PV) := []
def gstP_9 : List (Nat × PV) := []
def gstP_10 : List (Nat × PV) := []
def gstP_11 : List (Nat × PV) := []
def gstP_12 : List (Nat × PV) := []
def gstP_13 : List (Nat × PV) := []
def gstP_14 : List (Nat × PV) := []
def gstP_15 : List (Nat × PV) := []
def gstP_16 : List (Nat × PV) := [(38, pI 1), (1053, pR 20 0)]
def gstP_17 : List (Nat × PV) := []
def gstP_18 : List (Nat × PV) := []
def gstP (o : Nat) : List (Nat × PV) := (bif Nat.blt o 9 then (bif Nat.blt o 4 then (bif Nat.blt o 2 then (bif Nat.blt o 1 then gstP_0 else gstP_1) else (bif Nat.blt o 3 then gstP_2 else gstP_3)) else (bif Nat.blt o 6 then (bif Nat.blt o 5 then gstP_4 else gstP_5) else (bif Nat.blt o 7 then gstP_6 else (bif Nat.blt o 8 then gstP_7 else gstP_8)))) else (bif Nat.blt o 14 then (bif Nat.blt o 11 then (bif Nat.blt o 10 then gstP_9 else gstP_10) else (bif Nat.blt o 12 then gstP_11 else (bif Nat.blt o 13 then gstP_12 else gstP_13))) else (bif Nat.blt o 16 then (bif Nat.blt o 15 then gstP_14 else gstP_15) else (bif Nat.blt o 17 then gstP_16 else (bif Nat.blt o 18 then gstP_17 else gstP_18)))))
def nclP_0 : List (Nat × (Nat × Nat)) := [(8, (1, 12)), (78, (13, 28))]
def nclP_1 : List (Nat × (Nat × Nat)) := [(7, (2, 8)), (16, (3, 1)), (23, (4, 4)), (30, (5, 19)), (37, (6, 18)), (44, (7, 3)), (81, (102, 6)), (159, (101, 6))]
def nclP_2 : List (Nat × (Nat × Nat)) := [(9, (8, 1))]
def nclP_3 : List (Nat × (Nat × Nat)) := [(9, (5, 19))]
def nclP_4 : List (Nat × (Nat × Nat)) := [(9, (12, 6))]
def nclP_5 : List (Nat × (Nat × Nat)) := [(9, (8, 1)), (53, (12, 6))]
def nclP_6 : List (Nat × (Nat × Nat)) := [(9, (9, 8)), (18, (10, 3)), (25, (8, 1)), (70, (11, 3))]
def nclP_7 : List (Nat × (Nat × Nat)) := [(9, (6, 18))]
def nclP_8 : List (Nat × (Nat × Nat)) := []
def nclP_9 : List (Nat × (Nat × Nat)) := [(9, (8, 1))]
def nclP_10 : List (Nat × (Nat × Nat)) := [(9, (8, 1))]
def nclP_11 : List (Nat × (Nat × Nat)) := [(9, (8, 1))]
def nclP_12 : List (Nat × (Nat × Nat)) := [(7, (8, 1))]
def nclP_13 : List (Nat × (Nat × Nat)) := []
def nclP_14 : List (Nat × (Nat × Nat)) := []
def nclP_15 : List (Nat × (Nat × Nat)) := []
def nclP_16 : List (Nat × (Nat × Nat)) := []
def nclP_17 : List (Nat × (Nat × Nat)) := []
def nclP_18 : List (Nat × (Nat × Nat)) := []
def nclP (o : Nat) : List (Nat × (Nat × Nat)) := (bif Nat.blt o 9 then (bif Nat.blt o 4 then (bif Nat.blt o 2 then (bif Nat.blt o 1 then nclP_0 else nclP_1) else (bif Nat.blt o 3 then nclP_2 else nclP_3)) else (bif Nat.blt o 6 then (bif Nat.blt o 5 then nclP_4 else nclP_5) else (bif Nat.blt o 7 then nclP_6 else (bif Nat.blt o 8 then nclP_7 else nclP_8)))) else (bif Nat.blt o 14 then (bif Nat.blt o 11 then (bif Nat.blt o 10 then nclP_9 else nclP_10) else (bif Nat.blt o 12 then nclP_11 else (bif Nat.blt o 13 then nclP_12 else nclP_13))) else (bif Nat.blt o 16 then (bif Nat.blt o 15 then nclP_14 else nclP_15) else (bif Nat.blt o 17 then nclP_16 else (bif Nat.blt o 18 then nclP_17 else nclP_18)))))
def miL : List (Nat × Nat × Nat × Nat × Nat) := [(1, 1, 0, 0, 11), (1, 2, 1, 0, 11), (1, 3, 1, 0, 11), (1, 11, 0, 0, 11), (2, 1, 0, 0, 11), (2, 2, 0, 0, 11), (2, 1, 1, 0, 11), (2, 1, 1, 0, 11), (2, 1, 1, 0, 11), (7, 1, 0, 0, 11), (8, 2, 0, 0, 11), (8, 3, 0, 0, 11), (8, 2, 0, 0, 11), (8, 4, 1, 0, 11), (8, 6, 0, 0, 11), (8, 3, 0, 0, 11), (9, 3, 0, 0, 11), (11, 1, 0, 0, 11), (12, 1, 0, 0, 11), (12, 1, 0, 0, 11), (12, 3, 0, 0, 11), (13, 4, 0, 0, 11), (13, 1, 0, 0, 11), (13, 1, 0, 0, 11), (13, 3, 0, 0, 11), (13, 3, 0, 0, 11), (13, 3, 0, 0, 11), (13, 2, 0, 0, 11), (13, 3, 1, 0, 11), (13, 3, 0, 0, 11), (13, 3, 0, 0, 11), (13, 1, 0, 0, 11), (13, 1, 1, 0, 11), (13, 1, 1, 0, 11), (13, 3, 0, 0, 11), (13, 2, 0, 0, 11), (13, 3, 0, 0, 11), (13, 2, 0, 0, 11), (13, 3, 0, 0, 11), (13, 3, 1, 0, 11), (13, 2, 0, 0, 11), (13, 4, 1, 0, 11), (13, 10, 0, 0, 11), (13, 8, 0, 0, 11), (13, 1, 0, 0, 11), (13, 2, 0, 0, 11), (13, 2, 0, 0, 11), (13, 2, 1, 0, 11), (13, 1, 0, 0, 11), (13, 5, 0, 0, 11), (14, 4, 0, 0, 11), (15, 2, 0, 0, 11), (15, 2, 0, 0, 11), (16, 1, 3, 0, 11), (16, 1, 1, 0, 11), (18, 3, 0, 0, 11), (1, 4, 0, 0, 12), (1, 2, 0, 0, 12), (2, 1, 0, 0, 12), (2, 3, 0, 0, 12), (2, 1, 0, 0, 12), (2, 3, 0, 0, 12), (2, 2, 1, 0, 12), (5, 10, 0, 0, 12), (5, 1, 0, 0, 12), (5, 6, 0, 0, 12), (5, 4, 0, 0, 12), (6, 2, 1, 0, 12), (6, 2, 0, 0, 12), (6, 2, 0, 0, 12), (6, 5, 0, 0, 12), (6, 6, 0, 0, 12), (6, 2, 0, 0, 12), (8, 2, 0, 0, 12), (8, 2, 0, 0, 12), (9, 1, 0, 0, 12), (9, 3, 0, 0, 12), (9, 3, 0, 0, 12), (9, 2, 0, 0, 12), (9, 2, 0, 0, 12), (9, 2, 0, 0, 12), (9, 2, 0, 0, 12), (9, 2, 0, 0, 12), (9, 4, 0, 0, 12), (9, 2, 0, 0, 12), (9, 2, 0, 0, 12), (9, 3, 0, 0, 12), (9, 3, 1, 0, 12), (9, 3, 0, 0, 12), (9, 7, 0, 0, 12), (9, 5, 1, 0, 12), (10, 1, 0, 0, 12), (10, 5, 0, 0, 12), (10, 3, 0, 0, 12), (10, 4, 0, 0, 12), (10, 3, 0, 0, 12), (11, 1, 0, 0, 12), (11, 4, 0, 0, 12), (11, 9, 0, 0, 12), (12, 2, 0, 0, 12), (12, 2, 0, 0, 12), (12, 2, 0, 0, 12), (12, 2, 0, 0, 12), (12, 2, 0, 0, 12), (12, 4, 0, 0, 12), (12, 2, 1, 0, 12), (13, 1, 0, 0, 12), (13, 4, 0, 0, 12), (13, 3, 0, 0, 12), (13, 5, 0, 0, 12), (13, 2, 1, 0, 12), (13, 2, 0, 0, 12), (13, 2, 1, 0, 12), (13, 4, 0, 0, 12), (13, 2, 0, 0, 12), (13, 2, 1, 0, 12), (13, 2, 1, 0, 12), (13, 4, 0, 0, 12), (13, 2, 0, 0, 12), (13, 4, 0, 0, 12), (13, 5, 0, 0, 12), (13, 3, 0, 0, 12), (13, 4, 1, 0, 12), (13, 3, 0, 0, 12), (13, 4, 0, 0, 12), (13, 2, 1, 0, 12), (13, 6, 0, 0, 12), (13, 1, 0, 0, 12), (13, 1, 1, 0, 12), (13, 3, 0, 0, 12), (13, 6, 1, 0, 12), (13, 2, 0, 0, 12), (13, 5, 0, 0, 12), (16, 1, 0, 0, 12), (16, 2, 0, 0, 12), (1, 6, 0, 0, 13), (1, 3, 0, 0, 13), (1, 2, 0, 0, 13), (1, 3, 0, 0, 13), (1, 3, 0, 0, 13), (1, 3, 0, 0, 13), (1, 7, 0, 0, 13), (2, 2, 0, 0, 13), (2, 2, 0, 0, 13), (2, 4, 0, 0, 13), (3, 3, 0, 0, 13), (3, 3, 0, 0, 13), (3, 1, 0, 0, 13), (4, 1, 0, 0, 13), (4, 3, 0, 0, 13), (4, 1, 0, 0, 13), (5, 1, 0, 0, 13), (5, 2, 0, 0, 13), (5, 2, 0, 0, 13), (6, 1, 0, 0, 13), (6, 2, 0, 0, 13), (6, 5, 1, 0, 13), (6, 4, 0, 0, 13), (6, 4, 0, 0, 13), (6, 6, 0, 0, 13), (6, 5, 0, 0, 13), (6, 5, 1, 0, 13), (9, 2, 0, 0, 13), (9, 2, 0, 0, 13), (10, 1, 0, 0, 13), (10, 2, 0, 0, 13), (10, 5, 0, 0, 13), (10, 4, 1, 0, 13), (11, 2, 0, 0, 13), (12, 2, 0, 0, 13), (12, 2, 0, 0, 13), (12, 1, 0, 0, 13), (12, 1, 0, 0, 13), (12, 3, 0, 0, 13), (13, 2, 0, 0, 13), (13, 3, 0, 0, 13), (13, 3, 0, 0, 13), (13, 3, 0, 0, 13), (13, 3, 0, 0, 13), (13, 3, 0, 0, 13), (13, 3, 0, 0, 13), (13, 3, 0, 0, 13), (13, 4, 0, 0, 13), (13, 4, 0, 0, 13), (13, 4, 0, 0, 13), (13, 4, 0, 0, 13), (13, 4, 0, 0, 13), (13, 8, 0, 0, 13), (13, 3, 0, 0, 13), (13, 6, 0, 0, 13), (13, 5, 0, 0, 13), (13, 2, 0, 0, 13), (13, 1, 0, 0, 13), (17, 2, 2, 0, 13), (0, 4, 0, 0, 14), (0, 5, 0, 0, 14), (0, 5, 0, 0, 14), (0, 5, 0, 0, 14), (0, 5, 0, 0, 14), (1, 3, 0, 0, 14), (1, 3, 0, 0, 14), (1, 3, 0, 0, 14), (2, 2, 0, 0, 14), (3, 1, 0, 0, 14), (3, 4, 0, 0, 14), (3, 3, 0, 0, 14), (4, 5, 1, 0, 14), (5, 2, 0, 0, 14), (6, 2, 0, 0, 14), (6, 2, 0, 0, 14), (6, 5, 0, 0, 14), (6, 6, 0, 0, 14), (6, 11, 0, 0, 14), (6, 4, 1, 0, 14), (7, 2, 0, 0, 14), (13, 2, 1, 0, 14), (13, 7, 0, 0, 14), (13, 3, 0, 0, 14), (13, 4, 0, 0, 14), (13, 2, 0, 0, 14), (13, 6, 0, 0, 14), (13, 1, 0, 0, 14), (16, 2, 2, 0, 14), (0, 5, 0, 0, 15), (0, 5, 0, 0, 15), (0, 5, 0, 0, 15), (1, 1, 0, 0, 15), (1, 1, 0, 0, 15), (1, 1, 1, 0, 15), (1, 3, 0, 0, 15), (2, 3, 1, 0, 15), (3, 3, 0, 0, 15), (3, 3, 0, 0, 15), (6, 3, 0, 0, 15), (6, 4, 0, 0, 15), (7, 2, 0, 0, 15), (7, 3, 0, 0, 15), (13, 4, 0, 0, 15), (13, 4, 1, 0, 15), (13, 4, 0, 0, 15), (13, 6, 0, 0, 15), (13, 6, 0, 0, 15), (0, 5, 0, 0, 16), (1, 3, 0, 0, 16), (1, 1, 0, 0, 16), (1, 4, 0, 0, 16), (1, 6, 0, 0, 16), (1, 3, 0, 0, 16), (2, 2, 0, 0, 16), (3, 1, 0, 0, 16), (4, 1, 0, 0, 16), (6, 4, 0, 0, 16), (6, 6, 0, 0, 16), (13, 3, 0, 0, 16), (13, 2, 0, 0, 16), (0, 5, 0, 0, 17), (0, 6, 0, 0, 17), (1, 3, 0, 0, 17), (1, 3, 0, 0, 17), (1, 3, 0, 0, 17), (1, 4, 0, 0, 17), (1, 4, 0, 0, 17), (1, 6, 0, 0, 17), (1, 3, 0, 0, 17), (3, 4, 0, 0, 17), (3, 3, 0, 0, 17), (4, 3, 0, 0, 17), (0, 4, 0, 0, 18), (0, 5, 0, 0, 18), (0, 4, 0, 0, 18), (0, 5, 0, 0, 18), (0, 5, 0, 0, 18), (0, 5, 0, 0, 18), (0, 5, 0, 0, 18), (3, 5, 0, 0, 18), (4, 4, 1, 0, 18), (3, 4, 0, 0, 19), (4, 5, 0, 0, 19), (1, 2, 0, 0, 20), (1, 4, 0, 0, 20), (0, 4, 0, 0, 21), (0, 4, 0, 0, 21), (13, 4, 0, 1, 54), (13, 2, 0, 1, 54), (13, 4, 0, 1, 54), (13, 2, 0, 0, 55), (13, 3, 0, 0, 56), (13, 7, 0, 0, 56), (13, 1, 0, 2, 56), (13, 1, 0, 2, 56), (13, 2, 0, 2, 56), (13, 2, 0, 0, 57), (13, 3, 0, 0, 57), (13, 3, 1, 3, 57), (13, 3, 1, 3, 57), (13, 4, 1, 3, 57), (13, 3, 0, 0, 58), (13, 4, 0, 0, 58), (13, 1, 0, 0, 58), (13, 4, 1, 0, 58), (13, 3, 0, 0, 59), (13, 4, 0, 0, 59), (13, 2, 0, 0, 59), (13, 5, 0, 0, 59), (13, 8, 0, 0, 59), (13, 6, 0, 0, 59), (13, 3, 0, 0, 59), (13, 7, 0, 0, 59), (13, 4, 0, 0, 60), (13, 7, 0, 0, 60), (13, 3, 0, 0, 60), (0, 8, 1, 0, 61)]
def ownM (m : Nat) : Nat := (bif Nat.blt m 156 then (bif Nat.blt m 78 then (bif Nat.blt m 39 then (bif Nat.blt m 19 then (bif Nat.blt m 9 then (bif Nat.blt m 4 then 1 else 2) else (bif Nat.blt m 14 then (bif Nat.blt m 11 then (bif Nat.blt m 10 then 7 else 8) else 8) else (bif Nat.blt m 16 then 8 else (bif Nat.blt m 17 then 9 else (bif Nat.blt m 18 then 11 else 12))))) else (bif Nat.blt m 29 then (bif Nat.blt m 24 then (bif Nat.blt m 21 then 12 else 13) else 13) else 13)) else (bif Nat.blt m 58 then (bif Nat.blt m 48 then 13 else (bif Nat.blt m 53 then (bif Nat.blt m 50 then 13 else (bif Nat.blt m 51 then 14 else 15)) else (bif Nat.blt m 55 then 16 else (bif Nat.blt m 56 then 18 else 1)))) else (bif Nat.blt m 68 then (bif Nat.blt m 63 then 2 else (bif Nat.blt m 65 then 5 else (bif Nat.blt m 66 then 5 else (bif Nat.blt m 67 then 5 else 6)))) else (bif Nat.blt m 73 then 6 else (bif Nat.blt m 75 then 8 else 9))))) else (bif Nat.blt m 117 then (bif Nat.blt m 97 then (bif Nat.blt m 87 then 9 else (bif Nat.blt m 92 then (bif Nat.blt m 89 then 9 else (bif Nat.blt m 90 then 9 else (bif Nat.blt m 91 then 9 else 10))) else (bif Nat.blt m 94 then 10 else (bif Nat.blt m 95 then 10 else (bif Nat.blt m 96 then 10 else 11))))) else (bif Nat.blt m 107 then (bif Nat.blt m 102 then (bif Nat.blt m 99 then 11 else 12) else (bif Nat.blt m 104 then 12 else (bif Nat.blt m 105 then 12 else (bif Nat.blt m 106 then 12 else 13)))) else 13)) else (bif Nat.blt m 136 then (bif Nat.blt m 126 then 13 else (bif Nat.blt m 131 then 13 else (bif Nat.blt m 133 then 13 else (bif Nat.blt m 134 then 16 else (bif Nat.blt m 135 then 16 else 1))))) else (bif Nat.blt m 146 then (bif Nat.blt m 141 then 1 else (bif Nat.blt m 143 then (bif Nat.blt m 142 then 1 else 2) else (bif Nat.blt m 144 then 2 else (bif Nat.blt m 145 then 2 else 3)))) else (bif Nat.blt m 151 then (bif Nat.blt m 148 then 3 else 4) else (bif Nat.blt m 153 then 5 else (bif Nat.blt m 154 then 5 else 6))))))) else (bif Nat.blt m 234 then (bif Nat.blt m 195 then (bif Nat.blt m 175 then (bif Nat.blt m 165 then (bif Nat.blt m 160 then 6 else (bif Nat.blt m 162 then 6 else (bif Nat.blt m 163 then 9 else (bif Nat.blt m 164 then 9 else 10)))) else (bif Nat.blt m 170 then (bif Nat.blt m 167 then 10 else (bif Nat.blt m 168 then 10 else (bif Nat.blt m 169 then 11 else 12))) else (bif Nat.blt m 172 then 12 else (bif Nat.blt m 173 then 12 else (bif Nat.blt m 174 then 12 else 13))))) else (bif Nat.blt m 185 then 13 else (bif Nat.blt m 190 then 13 else (bif Nat.blt m 192 then 13 else (bif Nat.blt m 193 then 13 else (bif Nat.blt m 194 then 17 else 0)))))) else (bif Nat.blt m 214 then (bif Nat.blt m 204 then (bif Nat.blt m 199 then 0 else (bif Nat.blt m 201 then 1 else (bif Nat.blt m 202 then 1 else (bif Nat.blt m 203 then 2 else 3)))) else (bif Nat.blt m 209 then (bif Nat.blt m 206 then 3 else (bif Nat.blt m 207 then 4 else (bif Nat.blt m 208 then 5 else 6))) else 6)) else (bif Nat.blt m 224 then (bif Nat.blt m 219 then (bif Nat.blt m 216 then (bif Nat.blt m 215 then 7 else 13) else 13) else (bif Nat.blt m 221 then 13 else (bif Nat.blt m 222 then 13 else (bif Nat.blt m 223 then 16 else 0)))) else (bif Nat.blt m 229 then (bif Nat.blt m 226 then 0 else 1) else (bif Nat.blt m 231 then (bif Nat.blt m 230 then 1 else 2) else (bif Nat.blt m 232 then 3 else (bif Nat.blt m 233 then 3 else 6))))))) else (bif Nat.blt m 273 then (bif Nat.blt m 253 then (bif Nat.blt m 243 then (bif Nat.blt m 238 then (bif Nat.blt m 236 then (bif Nat.blt m 235 then 6 else 7) else (bif Nat.blt m 237 then 7 else 13)) else (bif Nat.blt m 240 then 13 else (bif Nat.blt m 241 then 13 else (bif Nat.blt m 242 then 13 else 0)))) else (bif Nat.blt m 248 then 1 else (bif Nat.blt m 250 then (bif Nat.blt m 249 then 2 else 3) else (bif Nat.blt m 251 then 4 else 6)))) else (bif Nat.blt m 263 then (bif Nat.blt m 258 then (bif Nat.blt m 255 then 13 else (bif Nat.blt m 256 then 0 else (bif Nat.blt m 257 then 0 else 1))) else 1) else (bif Nat.blt m 268 then (bif Nat.blt m 265 then (bif Nat.blt m 264 then 1 else 3) else (bif Nat.blt m 266 then 3 else (bif Nat.blt m 267 then 4 else 0))) else 0))) else (bif Nat.blt m 292 then (bif Nat.blt m 282 then (bif Nat.blt m 277 then (bif Nat.blt m 275 then (bif Nat.blt m 274 then 0 else 3) else (bif Nat.blt m 276 then 4 else 3)) else (bif Nat.blt m 279 then (bif Nat.blt m 278 then 4 else 1) else (bif Nat.blt m 280 then 1 else 0))) else 13) else (bif Nat.blt m 302 then 13 else (bif Nat.blt m 307 then 13 else (bif Nat.blt m 309 then 13 else (bif Nat.blt m 310 then 13 else (bif Nat.blt m 311 then 13 else 0)))))))))
def rkM (m : Nat) : Nat := (bif Nat.blt m 156 then (bif Nat.blt m 78 then (bif Nat.blt m 39 then (bif Nat.blt m 19 then (bif Nat.blt m 9 then (bif Nat.blt m 4 then (bif Nat.blt m 2 then (bif Nat.blt m 1 then 0 else 1) else (bif Nat.blt m 3 then 1 else 0)) else (bif Nat.blt m 6 then 0 else 1)) else (bif Nat.blt m 14 then (bif Nat.blt m 11 then 0 else (bif Nat.blt m 12 then 0 else (bif Nat.blt m 13 then 0 else 1))) else 0)) else (bif Nat.blt m 29 then (bif Nat.blt m 24 then 0 else (bif Nat.blt m 26 then 0 else (bif Nat.blt m 27 then 0 else (bif Nat.blt m 28 then 0 else 1)))) else (bif Nat.blt m 34 then (bif Nat.blt m 31 then 0 else (bif Nat.blt m 32 then 0 else 1)) else 0))) else (bif Nat.blt m 58 then (bif Nat.blt m 48 then (bif Nat.blt m 43 then (bif Nat.blt m 41 then (bif Nat.blt m 40 then 1 else 0) else (bif Nat.blt m 42 then 1 else 0)) else (bif Nat.blt m 45 then 0 else (bif Nat.blt m 46 then 0 else (bif Nat.blt m 47 then 0 else 1)))) else (bif Nat.blt m 53 then 0 else (bif Nat.blt m 55 then (bif Nat.blt m 54 then 3 else 1) else 0))) else (bif Nat.blt m 68 then (bif Nat.blt m 63 then (bif Nat.blt m 60 then 0 else (bif Nat.blt m 61 then 0 else (bif Nat.blt m 62 then 0 else 1))) else (bif Nat.blt m 65 then 0 else (bif Nat.blt m 66 then 0 else (bif Nat.blt m 67 then 0 else 1)))) else 0))) else (bif Nat.blt m 117 then (bif Nat.blt m 97 then (bif Nat.blt m 87 then 0 else (bif Nat.blt m 92 then (bif Nat.blt m 89 then (bif Nat.blt m 88 then 1 else 0) else (bif Nat.blt m 90 then 0 else (bif Nat.blt m 91 then 1 else 0))) else 0)) else (bif Nat.blt m 107 then (bif Nat.blt m 102 then 0 else (bif Nat.blt m 104 then 0 else (bif Nat.blt m 105 then 0 else (bif Nat.blt m 106 then 1 else 0)))) else (bif Nat.blt m 112 then (bif Nat.blt m 109 then 0 else (bif Nat.blt m 110 then 0 else (bif Nat.blt m 111 then 1 else 0))) else (bif Nat.blt m 114 then (bif Nat.blt m 113 then 1 else 0) else (bif Nat.blt m 115 then 0 else 1))))) else (bif Nat.blt m 136 then (bif Nat.blt m 126 then (bif Nat.blt m 121 then 0 else (bif Nat.blt m 123 then (bif Nat.blt m 122 then 0 else 1) else (bif Nat.blt m 124 then 0 else (bif Nat.blt m 125 then 0 else 1)))) else (bif Nat.blt m 131 then (bif Nat.blt m 128 then 0 else (bif Nat.blt m 129 then 1 else (bif Nat.blt m 130 then 0 else 1))) else 0)) else 0))) else (bif Nat.blt m 234 then (bif Nat.blt m 195 then (bif Nat.blt m 175 then (bif Nat.blt m 165 then (bif Nat.blt m 160 then (bif Nat.blt m 158 then (bif Nat.blt m 157 then 1 else 0) else 0) else (bif Nat.blt m 162 then (bif Nat.blt m 161 then 0 else 1) else 0)) else (bif Nat.blt m 170 then (bif Nat.blt m 167 then 0 else (bif Nat.blt m 168 then 1 else 0)) else 0)) else (bif Nat.blt m 185 then 0 else (bif Nat.blt m 190 then 0 else (bif Nat.blt m 192 then 0 else (bif Nat.blt m 193 then 0 else (bif Nat.blt m 194 then 2 else 0)))))) else (bif Nat.blt m 214 then (bif Nat.blt m 204 then 0 else (bif Nat.blt m 209 then (bif Nat.blt m 206 then 0 else (bif Nat.blt m 207 then 1 else 0)) else (bif Nat.blt m 211 then 0 else (bif Nat.blt m 212 then 0 else (bif Nat.blt m 213 then 0 else 1))))) else (bif Nat.blt m 224 then (bif Nat.blt m 219 then (bif Nat.blt m 216 then (bif Nat.blt m 215 then 0 else 1) else 0) else (bif Nat.blt m 221 then 0 else (bif Nat.blt m 222 then 0 else (bif Nat.blt m 223 then 2 else 0)))) else (bif Nat.blt m 229 then (bif Nat.blt m 226 then 0 else (bif Nat.blt m 227 then 0 else (bif Nat.blt m 228 then 0 else 1))) else (bif Nat.blt m 231 then (bif Nat.blt m 230 then 0 else 1) else 0))))) else (bif Nat.blt m 273 then (bif Nat.blt m 253 then (bif Nat.blt m 243 then (bif Nat.blt m 238 then 0 else (bif Nat.blt m 240 then (bif Nat.blt m 239 then 1 else 0) else 0)) else 0) else 0) else (bif Nat.blt m 292 then (bif Nat.blt m 282 then (bif Nat.blt m 277 then (bif Nat.blt m 275 then 0 else (bif Nat.blt m 276 then 1 else 0)) else 0) else 0) else (bif Nat.blt m 302 then (bif Nat.blt m 297 then (bif Nat.blt m 294 then (bif Nat.blt m 293 then 0 else 1) else (bif Nat.blt m 295 then 1 else (bif Nat.blt m 296 then 1 else 0))) else (bif Nat.blt m 299 then 0 else (bif Nat.blt m 300 then 1 else 0))) else (bif Nat.blt m 307 then 0 else (bif Nat.blt m 309 then 0 else (bif Nat.blt m 310 then 0 else (bif Nat.blt m 311 then 0 else 1)))))))))
def rgM (m : Nat) : Nat := (bif Nat.blt m 156 then 0 else (bif Nat.blt m 234 then 0 else (bif Nat.blt m 273 then 0 else (bif Nat.blt m 292 then (bif Nat.blt m 282 then 0 else (bif Nat.blt m 287 then (bif Nat.blt m 284 then 1 else (bif Nat.blt m 285 then 1 else 0)) else (bif Nat.blt m 289 then (bif Nat.blt m 288 then 0 else 2) else (bif Nat.blt m 290 then 2 else (bif Nat.blt m 291 then 2 else 0))))) else (bif Nat.blt m 302 then (bif Nat.blt m 297 then (bif Nat.blt m 294 then (bif Nat.blt m 293 then 0 else 3) else (bif Nat.blt m 295 then 3 else (bif Nat.blt m 296 then 3 else 0))) else 0) else 0)))))
def alM (m : Nat) : Bool := (bif Nat.blt m 156 then (bif Nat.blt m 78 then (bif Nat.blt m 39 then (bif Nat.blt m 19 then (bif Nat.blt m 9 then false else (bif Nat.blt m 14 then (bif Nat.blt m 11 then (bif Nat.blt m 10 then false else true) else false) else false)) else false) else (bif Nat.blt m 58 then false else (bif Nat.blt m 68 then (bif Nat.blt m 63 then (bif Nat.blt m 60 then (bif Nat.blt m 59 then true else false) else false) else false) else (bif Nat.blt m 73 then false else (bif Nat.blt m 75 then false else (bif Nat.blt m 76 then true else false)))))) else (bif Nat.blt m 117 then (bif Nat.blt m 97 then (bif Nat.blt m 87 then false else (bif Nat.blt m 92 then (bif Nat.blt m 89 then false else (bif Nat.blt m 90 then false else (bif Nat.blt m 91 then false else true))) else (bif Nat.blt m 94 then false else (bif Nat.blt m 95 then false else (bif Nat.blt m 96 then false else true))))) else (bif Nat.blt m 107 then (bif Nat.blt m 102 then (bif Nat.blt m 99 then false else (bif Nat.blt m 100 then true else false)) else (bif Nat.blt m 104 then false else (bif Nat.blt m 105 then false else (bif Nat.blt m 106 then false else true)))) else false)) else (bif Nat.blt m 136 then false else (bif Nat.blt m 146 then (bif Nat.blt m 141 then (bif Nat.blt m 138 then (bif Nat.blt m 137 then false else true) else true) else (bif Nat.blt m 143 then (bif Nat.blt m 142 then true else false) else false)) else (bif Nat.blt m 151 then (bif Nat.blt m 148 then false else (bif Nat.blt m 149 then true else false)) else (bif Nat.blt m 153 then (bif Nat.blt m 152 then true else false) else (bif Nat.blt m 154 then false else (bif Nat.blt m 155 then true else false)))))))) else (bif Nat.blt m 234 then (bif Nat.blt m 195 then (bif Nat.blt m 175 then false else (bif Nat.blt m 185 then false else (bif Nat.blt m 190 then false else (bif Nat.blt m 192 then false else (bif Nat.blt m 193 then false else (bif Nat.blt m 194 then false else true)))))) else (bif Nat.blt m 214 then (bif Nat.blt m 204 then (bif Nat.blt m 199 then true else (bif Nat.blt m 201 then true else (bif Nat.blt m 202 then true else (bif Nat.blt m 203 then false else true)))) else false) else (bif Nat.blt m 224 then (bif Nat.blt m 219 then (bif Nat.blt m 216 then (bif Nat.blt m 215 then true else false) else false) else (bif Nat.blt m 221 then false else (bif Nat.blt m 222 then false else (bif Nat.blt m 223 then false else true)))) else (bif Nat.blt m 229 then (bif Nat.blt m 226 then true else (bif Nat.blt m 227 then true else false)) else (bif Nat.blt m 231 then (bif Nat.blt m 230 then true else false) else false))))) else (bif Nat.blt m 273 then (bif Nat.blt m 253 then (bif Nat.blt m 243 then (bif Nat.blt m 238 then false else (bif Nat.blt m 240 then false else (bif Nat.blt m 241 then false else (bif Nat.blt m 242 then false else true)))) else (bif Nat.blt m 248 then (bif Nat.blt m 245 then false else (bif Nat.blt m 246 then true else (bif Nat.blt m 247 then true else false))) else false)) else (bif Nat.blt m 263 then (bif Nat.blt m 258 then (bif Nat.blt m 255 then false else true) else true) else (bif Nat.blt m 268 then (bif Nat.blt m 265 then (bif Nat.blt m 264 then true else false) else (bif Nat.blt m 266 then false else (bif Nat.blt m 267 then false else true))) else true))) else (bif Nat.blt m 292 then (bif Nat.blt m 282 then (bif Nat.blt m 277 then (bif Nat.blt m 275 then (bif Nat.blt m 274 then true else false) else false) else (bif Nat.blt m 279 then (bif Nat.blt m 278 then false else true) else true)) else false) else (bif Nat.blt m 302 then false else (bif Nat.blt m 307 then false else (bif Nat.blt m 309 then false else (bif Nat.blt m 310 then false else (bif Nat.blt m 311 then false else true)))))))))
def mcM (m : Nat) : Nat := (bif Nat.blt m 156 then (bif Nat.blt m 78 then (bif Nat.blt m 39 then (bif Nat.blt m 19 then (bif Nat.blt m 9 then 0 else (bif Nat.blt m 14 then (bif Nat.blt m 11 then (bif Nat.blt m 10 then 0 else 1) else 0) else 0)) else 0) else (bif Nat.blt m 58 then 0 else (bif Nat.blt m 68 then (bif Nat.blt m 63 then (bif Nat.blt m 60 then (bif Nat.blt m 59 then 2 else 0) else 0) else 0) else (bif Nat.blt m 73 then 0 else (bif Nat.blt m 75 then 0 else (bif Nat.blt m 76 then 12 else 0)))))) else (bif Nat.blt m 117 then (bif Nat.blt m 97 then (bif Nat.blt m 87 then 0 else (bif Nat.blt m 92 then (bif Nat.blt m 89 then 0 else (bif Nat.blt m 90 then 0 else (bif Nat.blt m 91 then 0 else 6))) else (bif Nat.blt m 94 then 0 else (bif Nat.blt m 95 then 0 else (bif Nat.blt m 96 then 0 else 2))))) else (bif Nat.blt m 107 then (bif Nat.blt m 102 then (bif Nat.blt m 99 then 0 else (bif Nat.blt m 100 then 8 else 0)) else (bif Nat.blt m 104 then 0 else (bif Nat.blt m 105 then 0 else (bif Nat.blt m 106 then 0 else 8)))) else 0)) else (bif Nat.blt m 136 then 0 else (bif Nat.blt m 146 then (bif Nat.blt m 141 then (bif Nat.blt m 138 then (bif Nat.blt m 137 then 0 else 1) else 1) else (bif Nat.blt m 143 then (bif Nat.blt m 142 then 1 else 0) else 0)) else (bif Nat.blt m 151 then (bif Nat.blt m 148 then 0 else (bif Nat.blt m 149 then 9 else 0)) else (bif Nat.blt m 153 then (bif Nat.blt m 152 then 33 else 0) else (bif Nat.blt m 154 then 0 else (bif Nat.blt m 155 then 49 else 0)))))))) else (bif Nat.blt m 234 then (bif Nat.blt m 195 then (bif Nat.blt m 175 then 0 else (bif Nat.blt m 185 then 0 else (bif Nat.blt m 190 then 0 else (bif Nat.blt m 192 then 0 else (bif Nat.blt m 193 then 0 else (bif Nat.blt m 194 then 0 else 1)))))) else (bif Nat.blt m 214 then (bif Nat.blt m 204 then (bif Nat.blt m 199 then 1 else (bif Nat.blt m 201 then 1 else (bif Nat.blt m 202 then 1 else (bif Nat.blt m 203 then 0 else 34)))) else 0) else (bif Nat.blt m 224 then (bif Nat.blt m 219 then (bif Nat.blt m 216 then (bif Nat.blt m 215 then 501 else 0) else 0) else (bif Nat.blt m 221 then 0 else (bif Nat.blt m 222 then 0 else (bif Nat.blt m 223 then 0 else 1)))) else (bif Nat.blt m 229 then (bif Nat.blt m 226 then 1 else (bif Nat.blt m 227 then 818 else 0)) else (bif Nat.blt m 231 then (bif Nat.blt m 230 then 1 else 0) else 0))))) else (bif Nat.blt m 273 then (bif Nat.blt m 253 then (bif Nat.blt m 243 then (bif Nat.blt m 238 then 0 else (bif Nat.blt m 240 then 0 else (bif Nat.blt m 241 then 0 else (bif Nat.blt m 242 then 0 else 1)))) else (bif Nat.blt m 248 then (bif Nat.blt m 245 then 0 else (bif Nat.blt m 246 then 1 else (bif Nat.blt m 247 then 1 else 0))) else 0)) else (bif Nat.blt m 263 then (bif Nat.blt m 258 then (bif Nat.blt m 255 then 0 else 1) else 1) else (bif Nat.blt m 268 then (bif Nat.blt m 265 then (bif Nat.blt m 264 then 1 else 0) else (bif Nat.blt m 266 then 0 else (bif Nat.blt m 267 then 0 else 1))) else 1))) else (bif Nat.blt m 292 then (bif Nat.blt m 282 then (bif Nat.blt m 277 then (bif Nat.blt m 275 then (bif Nat.blt m 274 then 1 else 0) else 0) else (bif Nat.blt m 279 then (bif Nat.blt m 278 then 0 else 1) else 1)) else 0) else (bif Nat.blt m 302 then 0 else (bif Nat.blt m 307 then 0 else (bif Nat.blt m 309 then 0 else (bif Nat.blt m 310 then 0 else (bif Nat.blt m 311 then 0 else 601024)))))))))
def msM (m : Nat) : Nat := (bif Nat.blt m 156 then (bif Nat.blt m 78 then (bif Nat.blt m 39 then (bif Nat.blt m 19 then (bif Nat.blt m 9 then 0 else (bif Nat.blt m 14 then (bif Nat.blt m 11 then (bif Nat.blt m 10 then 0 else 500) else 0) else 0)) else 0) else (bif Nat.blt m 58 then 0 else (bif Nat.blt m 68 then (bif Nat.blt m 63 then (bif Nat.blt m 60 then (bif Nat.blt m 59 then 501 else 0) else 0) else 0) else (bif Nat.blt m 73 then 0 else (bif Nat.blt m 75 then 0 else (bif Nat.blt m 76 then 3006 else 0)))))) else (bif Nat.blt m 117 then (bif Nat.blt m 97 then (bif Nat.blt m 87 then 0 else (bif Nat.blt m 92 then (bif Nat.blt m 89 then 0 else (bif Nat.blt m 90 then 0 else (bif Nat.blt m 91 then 0 else 1503))) else (bif Nat.blt m 94 then 0 else (bif Nat.blt m 95 then 0 else (bif Nat.blt m 96 then 0 else 501))))) else (bif Nat.blt m 107 then (bif Nat.blt m 102 then (bif Nat.blt m 99 then 0 else (bif Nat.blt m 100 then 2004 else 0)) else (bif Nat.blt m 104 then 0 else (bif Nat.blt m 105 then 0 else (bif Nat.blt m 106 then 0 else 218978)))) else 0)) else (bif Nat.blt m 136 then 0 else (bif Nat.blt m 146 then (bif Nat.blt m 141 then (bif Nat.blt m 138 then (bif Nat.blt m 137 then 0 else 6) else 6) else (bif Nat.blt m 143 then (bif Nat.blt m 142 then 6 else 0) else 0)) else (bif Nat.blt m 151 then (bif Nat.blt m 148 then 0 else (bif Nat.blt m 149 then 2010 else 0)) else (bif Nat.blt m 153 then (bif Nat.blt m 152 then 8022 else 0) else (bif Nat.blt m 154 then 0 else (bif Nat.blt m 155 then 11537 else 0)))))))) else (bif Nat.blt m 234 then (bif Nat.blt m 195 then (bif Nat.blt m 175 then 0 else (bif Nat.blt m 185 then 0 else (bif Nat.blt m 190 then 0 else (bif Nat.blt m 192 then 0 else (bif Nat.blt m 193 then 0 else (bif Nat.blt m 194 then 0 else 6)))))) else (bif Nat.blt m 214 then (bif Nat.blt m 204 then (bif Nat.blt m 199 then 6 else (bif Nat.blt m 201 then 6 else (bif Nat.blt m 202 then 6 else (bif Nat.blt m 203 then 0 else 8041)))) else 0) else (bif Nat.blt m 224 then (bif Nat.blt m 219 then (bif Nat.blt m 216 then (bif Nat.blt m 215 then 115560 else 0) else 0) else (bif Nat.blt m 221 then 0 else (bif Nat.blt m 222 then 0 else (bif Nat.blt m 223 then 0 else 6)))) else (bif Nat.blt m 229 then (bif Nat.blt m 226 then 6 else (bif Nat.blt m 227 then 188430 else 0)) else (bif Nat.blt m 231 then (bif Nat.blt m 230 then 6 else 0) else 0))))) else (bif Nat.blt m 273 then (bif Nat.blt m 253 then (bif Nat.blt m 243 then (bif Nat.blt m 238 then 0 else (bif Nat.blt m 240 then 0 else (bif Nat.blt m 241 then 0 else (bif Nat.blt m 242 then 0 else 6)))) else (bif Nat.blt m 248 then (bif Nat.blt m 245 then 0 else (bif Nat.blt m 246 then 6 else (bif Nat.blt m 247 then 6 else 0))) else 0)) else (bif Nat.blt m 263 then (bif Nat.blt m 258 then (bif Nat.blt m 255 then 0 else 6) else 6) else (bif Nat.blt m 268 then (bif Nat.blt m 265 then (bif Nat.blt m 264 then 6 else 0) else (bif Nat.blt m 266 then 0 else (bif Nat.blt m 267 then 0 else 6))) else 6))) else (bif Nat.blt m 292 then (bif Nat.blt m 282 then (bif Nat.blt m 277 then (bif Nat.blt m 275 then (bif Nat.blt m 274 then 6 else 0) else 0) else (bif Nat.blt m 279 then (bif Nat.blt m 278 then 0 else 6) else 6)) else 0) else (bif Nat.blt m 302 then 0 else (bif Nat.blt m 307 then 0 else (bif Nat.blt m 309 then 0 else (bif Nat.blt m 310 then 0 else (bif Nat.blt m 311 then 0 else 7293034)))))))))
def hdT : List (Nat × Nat × Int32) := [(194, 1, 1), (195, 1, 1), (196, 1, 1), (197, 1, 1), (198, 1, 1), (223, 1, 1), (224, 1, 1), (225, 1, 1), (242, 1, 1), (255, 1, 1), (255, 2, 2), (256, 1, 1), (256, 2, 2), (267, 2, 1), (268, 1, 1), (268, 2, 2), (269, 1, 1), (270, 1, 1), (271, 1, 1), (271, 2, 2), (272, 1, 1), (272, 2, 2), (273, 1, 1), (273, 2, 2), (280, 2, 1), (281, 2, 1)]
def layS : List (Nat × Nat) := [(6, 18), (9, 8), (8, 1), (14, 40), (8, 1), (14, 40), (8, 1), (14, 40), (8, 1), (14, 40), (8, 1), (14, 40), (8, 1), (14, 40), (10, 3), (8, 1), (14, 120), (8, 1), (14, 120), (8, 1), (14, 6), (8, 1), (14, 6), (8, 1), (14, 6), (8, 1), (14, 6), (8, 1), (14, 6), (8, 1), (14, 6), (8, 1), (14, 6), (8, 1), (14, 6), (8, 1), (14, 6), (8, 1), (14, 6), (8, 1), (14, 6), (8, 1), (14, 6), (8, 1), (14, 6), (8, 1), (14, 8), (11, 3), (8, 1), (14, 280)]
def layP : List (Nat × Nat) := [(5, 19), (8, 1), (14, 6), (8, 1), (14, 6), (8, 1), (14, 8), (8, 1), (14, 8), (8, 1), (14, 6), (8, 1), (14, 6), (8, 1), (14, 6), (8, 1), (14, 6), (8, 1), (14, 12), (8, 1), (14, 12), (8, 1), (14, 12), (8, 1), (14, 12), (12, 6), (8, 1), (14, 8), (8, 1), (14, 64), (8, 1), (14, 64), (8, 1), (14, 500)]
def layQ : List (Nat × Nat) := [(4, 4), (12, 6), (8, 1), (14, 8), (8, 1), (14, 64), (8, 1), (14, 64), (8, 1), (14, 200)]
def lay0 : List (Nat × Nat) := [(1, 12), (2, 8), (8, 1), (14, 500), (3, 1)] ++ (layP ++ (layQ ++ (layP ++ (layS ++ ([(7, 3), (16, 10)] ++ (layS ++ (layS ++ (layS ++ (layS ++ (layS ++ (layS ++ (layS ++ (layS ++ (layS ++ (layS ++ (layS ++ (layS ++ (layP ++ (layS ++ [(13, 28), (14, 1434), (14, 1434), (14, 1434), (14, 1434), (14, 14340), (14, 6), (14, 198396), (14, 500), (15, 1)])))))))))))))))))))
def tyA (a : Nat) : Nat := (lay0.getD a (0, 0)).1
def ln (a : Nat) : Nat := (lay0.getD a (0, 0)).2
def strT : List (List Nat) := [[97, 110, 100], [98, 101, 108, 116], [99, 111, 109, 101, 115], [99, 114, 101, 100, 105, 116], [101, 120, 105, 116], [102, 105, 114, 115, 116], [102, 114, 111, 109], [104, 101, 108, 100], [108, 97, 116, 101], [109, 97, 110, 121], [110, 111, 116], [111, 114], [112, 108, 97, 99, 101], [114, 105, 100, 101, 115], [114, 111, 111, 109], [114, 111, 117, 110, 100], [115, 104, 97, 114, 101], [115, 105, 100, 101], [116, 117, 114, 110, 115], [117, 114, 103, 101, 110, 116], [119, 97, 105, 116, 115], [119, 97, 114, 101]]
def sln (k : Nat) : Nat := (strT.getD k []).length
def sch (k j : Nat) : Nat := (strT.getD k []).getD j 0
def fkT : List (List (Nat × Nat)) := [[], [(2, 1), (2, 4), (2, 39), (2, 49), (2, 83), (2, 133), (2, 635), (2, 685), (2, 735), (2, 769), (1, 0), (0, 0)], [(2, 1), (0, 0), (0, 0), (0, 0), (0, 0), (0, 0), (0, 0), (0, 0)], [(2, 1)], [(2, 1), (1, 0), (0, 0), (0, 0)], [(0, 0), (0, 0), (2, 1), (2, 3), (0, 0), (2, 5), (2, 7), (0, 0), (2, 9), (2, 11), (2, 13), (2, 15), (0, 0), (2, 17), (2, 19), (2, 21), (2, 23), (1, 0), (2, 25)], [(0, 0), (2, 1), (2, 14), (2, 21), (2, 23), (2, 25), (2, 27), (2, 29), (2, 31), (2, 33), (2, 35), (2, 37), (2, 39), (2, 41), (2, 43), (2, 45), (2, 47), (0, 0)], [(2, 1), (0, 0), (0, 0)], [(2, 1)], [(2, 1), (2, 3), (2, 5), (2, 7), (2, 9), (2, 11), (0, 0), (0, 0)], [(2, 1), (2, 3), (2, 5)], [(2, 1), (0, 0), (0, 0)], [(2, 1), (2, 7), (0, 0), (2, 3), (0, 0), (2, 5)], [(2, 1), (2, 2), (2, 3), (2, 4), (2, 5), (1, 0), (0, 0), (0, 0), (0, 0), (2, 6), (0, 0), (0, 0), (2, 7), (0, 0), (0, 0), (0, 0), (2, 8), (0, 0), (0, 0), (0, 0), (0, 0), (0, 0), (0, 0), (0, 0), (0, 0), (0, 0), (0, 0), (0, 0)]]
def psw (m pc : Nat) : Bool := (Nat.beq m 226 && Nat.beq pc 119) || (Nat.beq m 311 && Nat.beq pc 20)
end
section
/-- every reference slot of a made object is set (no object under way) -/
def fkA (c k : Nat) : Nat × Nat := (fkT.getD c []).getD k (0, 0)
def isRf (a k : Nat) : Bool := (Nat.beq (tyA a) 16 && Nat.blt k 10) || Nat.beq (fkA (tyA a) k).1 2
def rof (a k : Nat) : Nat := bif Nat.beq (tyA a) 16 then 1 + 50 * k else (fkA (tyA a) k).2
def setOK (M : Mem) (a : Nat) : Bool := (List.range (bif Nat.beq (tyA a) 16 then 10 else (fkT.getD (tyA a) []).length)).all fun k => !(isRf a k) || decide (M a k = 1)
def setA (na : Nat) (M : Mem) : Bool := (List.range na).all fun a => setOK M a
def enX (al : Nat) (X : PX) : PX := bif Nat.beq al 0 then X else (X.1, X.2.1, X.2.2.1, 0, 0, X.2.2.2.2.2)
def bkX (al : Bool) (mc ms : Nat) (X X' : PX) : PX := bif al then (X'.1, X'.2.1, X'.2.2.1, X.2.2.2.1 + mc, X.2.2.2.2.1 + ms, X.2.2.2.2.2) else X'
def hdF : List (Nat × Nat × Int32) → Nat → Nat → Option Int32
  | [], _, _ => none
  | (a, b, c) :: l, m, e => bif Nat.beq a m && Nat.beq b e then some c else hdF l m e
/-- behind a call -/
def kRet (ph al : Bool) (m mc ms nx : Nat) (K : KT) (ls r : List PV) (X : PX) (q : PRs) : Option PRs := match q.1 with
  | .inl none => K nx ls r q.2.1 (bkX al mc ms X q.2.2)
  | .inl (some v) => K nx ls (v :: r) q.2.1 (bkX al mc ms X q.2.2)
  | .inr e => bif ph then (match hdF hdT m e with
    | some c => some (.inl (some (pI c)), q.2.1, bkX al mc ms X q.2.2)
    | none => none) else none
def kCall (ph : Bool) (cl : Nat → Nat → List PV → Mem → PX → Option PRs) (m lv : Nat) (K : KT) (nx : Nat) (w : Nat × Nat × Nat × Nat × Nat × Nat × Nat) (as ls r : List PV) (M : Mem) (X : PX) : Option PRs :=
  bif Nat.ble (wg r) 8 && Nat.ble (plen (expd as)) w.2.2.2.1 then (bif Nat.beq w.2.2.2.2.1 0 then (bif Nat.beq (rgM w.2.1) 0 then (cl w.2.1 0 (padl w.2.2.2.1 (expd as)) M X).bind (kRet ph (alM m) m 0 0 nx K ls r X)
    else bif Nat.beq (rgM w.2.1) (rgM m) then (bif Nat.blt lv 40 then (cl w.2.1 (lv + 1) (padl w.2.2.2.1 (expd as)) M X).bind (kRet ph (alM m) m 0 0 nx K ls r X) else none)
    else (cl w.2.1 0 (padl w.2.2.2.1 (expd as)) M X).bind (kRet ph (alM m) m 0 0 nx K ls r X))
  else bif alM m then (if X.2.2.2.1 + w.2.2.2.2.2.1 ≤ mcM m ∧ X.2.2.2.2.1 + w.2.2.2.2.2.2 ≤ msM m then (cl w.2.1 0 (padl w.2.2.2.1 (expd as)) M (enX 1 X)).bind (kRet ph (alM m) m w.2.2.2.2.2.1 w.2.2.2.2.2.2 nx K ls r X) else none)
  else none) else none
/-- the tag of a receiver by the method's owner -/
def otg (o : Nat) : Nat := bif Nat.beq o 16 then 18 else o
/-- one step -/
def stp (ph : Bool) (cl : Nat → Nat → List PV → Mem → PX → Option PRs) (m lv : Nat) (K : KT) (e : PE) (ls st : List PV) (M : Mem) (X : PX) : Option PRs :=
  match e.2.1 with
  | .iconst _ => K (e.1 + e.2.2.1) ls (pI e.2.2.2.2 :: st) M X
  | .bipush _ => K (e.1 + e.2.2.1) ls (pI e.2.2.2.2 :: st) M X
  | .sipush _ => K (e.1 + e.2.2.1) ls (pI e.2.2.2.2 :: st) M X
  | .lconst k => K (e.1 + e.2.2.1) ls (pL (bif Nat.beq k.val 0 then 0 else 1) :: st) M X
  | .ldc i => (lkp (cstP (ownM m)) i).bind fun v => K (e.1 + e.2.2.1) ls (v :: st) M X
  | .ldc_w i => (lkp (cstP (ownM m)) i).bind fun v => K (e.1 + e.2.2.1) ls (v :: st) M X
  | .ldc2_w i => (lkp (cstP (ownM m)) i).bind fun v => K (e.1 + e.2.2.1) ls (v :: st) M X
  | .iload_n i => u1 [nth ls i.val] fun x _ => K (e.1 + e.2.2.1) ls (pI x :: st) M X
  | .iload i => u1 [nth ls i] fun x _ => K (e.1 + e.2.2.1) ls (pI x :: st) M X
  | .lload_n i => ul1 [nth ls i.val] fun x _ => K (e.1 + e.2.2.1) ls (pL x :: st) M X
  | .lload i => ul1 [nth ls i] fun x _ => K (e.1 + e.2.2.1) ls (pL x :: st) M X
  | .aload_n i => ur1 [nth ls i.val] fun c a _ => bif Nat.beq c 0 then none else K (e.1 + e.2.2.1) ls (pR c a :: st) M X
  | .aload i => ur1 [nth ls i] fun c a _ => bif Nat.beq c 0 then none else K (e.1 + e.2.2.1) ls (pR c a :: st) M X
  | .istore_n i => u1 st fun x r => bif Nat.blt i.val (plen ls) then K (e.1 + e.2.2.1) (st1 ls i.val (pI x)) r M X else none
  | .istore i => u1 st fun x r => bif Nat.blt i (plen ls) then K (e.1 + e.2.2.1) (st1 ls i (pI x)) r M X else none
  | .lstore_n i => ul1 st fun x r => bif Nat.blt (i.val + 1) (plen ls) then K (e.1 + e.2.2.1) (st2 ls i.val (pL x)) r M X else none
  | .lstore i => ul1 st fun x r => bif Nat.blt (i + 1) (plen ls) then K (e.1 + e.2.2.1) (st2 ls i (pL x)) r M X else none
  | .astore_n i => ur1 st fun c a r => bif Nat.blt i.val (plen ls) then K (e.1 + e.2.2.1) (st1 ls i.val (pR c a)) r M X else none
  | .astore i => ur1 st fun c a r => bif Nat.blt i (plen ls) then K (e.1 + e.2.2.1) (st1 ls i (pR c a)) r M X else none
  | .iinc i _ => u1 [nth ls i] fun x _ => bif Nat.blt i (plen ls) then K (e.1 + e.2.2.1) (st1 ls i (pI (x + e.2.2.2.2))) st M X else none
  | .iadd => u2 st fun x y r => K (e.1 + e.2.2.1) ls (pI (x + y) :: r) M X
  | .isub => u2 st fun x y r => K (e.1 + e.2.2.1) ls (pI (x - y) :: r) M X
  | .imul => u2 st fun x y r => K (e.1 + e.2.2.1) ls (pI (x * y) :: r) M X
  | .iand => u2 st fun x y r => K (e.1 + e.2.2.1) ls (pI (x &&& y) :: r) M X
  | .ior => u2 st fun x y r => K (e.1 + e.2.2.1) ls (pI (x ||| y) :: r) M X
  | .ishl => u2 st fun x y r => K (e.1 + e.2.2.1) ls (pI (x <<< (y &&& 31)) :: r) M X
  | .ishr => u2 st fun x y r => K (e.1 + e.2.2.1) ls (pI (x >>> (y &&& 31)) :: r) M X
  | .irem => u2 st fun x y r => if y = 0 then none else K (e.1 + e.2.2.1) ls (pI (x - x / y * y) :: r) M X
  | .ineg => u1 st fun x r => K (e.1 + e.2.2.1) ls (pI (-x) :: r) M X
  | .i2c => u1 st fun x r => K (e.1 + e.2.2.1) ls (pI (x.toUInt32 % 65536).toInt32 :: r) M X
  | .i2l => u1 st fun x r => K (e.1 + e.2.2.1) ls (pL x.toInt64 :: r) M X
  | .ladd => ul2 st fun x y r => K (e.1 + e.2.2.1) ls (pL (x + y) :: r) M X
  | .ldiv => ul2 st fun x y r => if y = 0 then none else K (e.1 + e.2.2.1) ls (pL (x / y) :: r) M X
  | .lrem => ul2 st fun x y r => if y = 0 then none else K (e.1 + e.2.2.1) ls (pL (x - x / y * y) :: r) M X
  | .lcmp => ul2 st fun x y r => K (e.1 + e.2.2.1) ls (pI (lg_cmp x y) :: r) M X
  | .dup => utop st fun v r => K (e.1 + e.2.2.1) ls (v :: v :: r) M X
  | .dup2 => uir st fun c a x r => K (e.1 + e.2.2.1) ls (pI x :: pR c a :: pI x :: pR c a :: r) M X
  | .pop => utop st fun _ r => K (e.1 + e.2.2.1) ls r M X
  | .goto _ => K e.2.2.2.1 ls st M X
  | .ifCond c _ => u1 st fun x r => cnd c x 0 (K e.2.2.2.1 ls r M X) (K (e.1 + e.2.2.1) ls r M X)
  | .if_icmp c _ => u2 st fun x y r => cnd c x y (K e.2.2.2.1 ls r M X) (K (e.1 + e.2.2.1) ls r M X)
  | .ifnull _ => ur1 st fun c _ r => bif Nat.beq c 6 then K (e.1 + e.2.2.1) ls r M X else none
  | .ifnonnull _ => ur1 st fun c _ r => bif Nat.beq c 6 then K e.2.2.2.1 ls r M X else none
  | .tableswitch _ _ _ _ => u1 st fun x r => (lkp swT m).bind fun t => bif Nat.beq t.1 e.1 then sw (fun pc => K pc ls r M X) x e.2.2.2.1 t.2 else none
  | .lookupswitch _ _ => u1 st fun x r => (lkp swT m).bind fun t => bif Nat.beq t.1 e.1 then sw (fun pc => K pc ls r M X) x e.2.2.2.1 t.2 else none
  | .getstatic i => (lkp (gstP (ownM m)) i).bind fun v => K (e.1 + e.2.2.1) ls (v :: st) M X
  | .getfield i => ur1 st fun c a r => (lkp (fldP (ownM m)) i).bind fun f => bif Nat.beq f.1 c then (bif Nat.blt f.2.2.1 2 then K (e.1 + e.2.2.1) ls (pI (M a f.2.1) :: r) M X
      else bif Nat.beq f.2.2.1 2 then (bif ph then K (e.1 + e.2.2.1) ls (pR f.2.2.2.2 (a + f.2.2.2.1) :: r) M X else if M a f.2.1 = 1 then K (e.1 + e.2.2.1) ls (pR f.2.2.2.2 (a + f.2.2.2.1) :: r) M X else none)
      else bif Nat.beq f.2.2.1 3 then K (e.1 + e.2.2.1) ls (pI 0 :: r) M X
      else bif Nat.beq f.2.2.1 4 then K (e.1 + e.2.2.1) ls (pR f.2.2.2.2 a :: r) M X else none) else none
  | .putfield i => (lkp (fldP (ownM m)) i).bind fun f => bif Nat.beq f.2.2.1 0 then (uir st fun c a v r => bif Nat.beq f.1 c then K (e.1 + e.2.2.1) ls r (upM M a f.2.1 v) X else none)
      else bif Nat.beq f.2.2.1 1 then (uir st fun c a v r => bif Nat.beq f.1 c then (if rOK 1 v = true then K (e.1 + e.2.2.1) ls r (upM M a f.2.1 v) X else none) else none)
      else bif Nat.beq f.2.2.1 2 then (urr st fun c a d b r => bif !ph && Nat.beq f.1 c && Nat.beq f.2.2.2.2 d then (if b = a + f.2.2.2.1 then K (e.1 + e.2.2.1) ls r (upM M a f.2.1 1) X else none) else none)
      else none
  | .iaload => uir st fun c a i r => bif Nat.beq c 14 then (if inB i (ln a) = true then K (e.1 + e.2.2.1) ls (pI (M a i.toNatClampNeg) :: r) M X else none)
      else bif Nat.beq c 17 then (if inB i X.2.2.2.2.2 = true then K (e.1 + e.2.2.1) ls (pI (M 900 i.toNatClampNeg) :: r) M X else none) else none
  | .baload => uir st fun c a i r => bif Nat.beq c 19 then (if inB i (sln a) = true then K (e.1 + e.2.2.1) ls (pI (Int32.ofNat (sch a i.toNatClampNeg)) :: r) M X else none) else none
  | .iastore => uiir st fun c a i v r => bif Nat.beq c 14 then (if inB i (ln a) = true then K (e.1 + e.2.2.1) ls r (upM M a i.toNatClampNeg v) X else none) else none
  | .laload => uir st fun c a i r => bif Nat.beq c 15 then (if inB i (ln a) = true then K (e.1 + e.2.2.1) ls (pL X.1 :: r) M X else none) else none
  | .lastore => ulir st fun c a i v r => bif Nat.beq c 15 then (if inB i (ln a) = true then K (e.1 + e.2.2.1) ls r M (v, X.2) else none) else none
  | .aaload => uir st fun c a i r => bif ph && Nat.beq c 16 then (if inB i 10 = true then K (e.1 + e.2.2.1) ls (pR 6 (a + 1 + 50 * i.toNatClampNeg) :: r) M X else none) else none
  | .aastore => urir st fun c a i d b r => bif !ph && Nat.beq c 16 && Nat.beq d 6 then (if inB i 10 = true ∧ b = a + 1 + 50 * i.toNatClampNeg then K (e.1 + e.2.2.1) ls r (upM M a i.toNatClampNeg 1) X else none) else none
  | .arraylength => ur1 st fun c a r => bif Nat.beq c 14 || Nat.beq c 16 then K (e.1 + e.2.2.1) ls (pI (Int32.ofNat (ln a)) :: r) M X
      else bif Nat.beq c 19 then K (e.1 + e.2.2.1) ls (pI (Int32.ofNat (sln a)) :: r) M X
      else bif Nat.beq c 17 then K (e.1 + e.2.2.1) ls (pI (Int32.ofNat X.2.2.2.2.2) :: r) M X else none
  | .new i => (lkp (nclP (ownM m)) i).bind fun t => bif Nat.blt 100 t.1 then (bif ph && alM m && Nat.ble (wg st) 8 then (if X.2.2.2.1 + 1 ≤ mcM m ∧ X.2.2.2.2.1 + 6 ≤ msM m then some (.inr (t.1 - 100), M, X.1, X.2.1, X.2.2.1 + 1, X.2.2.2.1 + 1, X.2.2.2.2.1 + 6, X.2.2.2.2.2) else none) else none)
      else bif !ph && alM m then (if tyA X.2.1 = t.1 ∧ X.2.1 = X.2.2.1 ∧ X.2.2.2.1 + 1 ≤ mcM m ∧ X.2.2.2.2.1 + t.2 ≤ msM m then K (e.1 + e.2.2.1) ls (pR t.1 X.2.1 :: st) (nlM M X.2.1) (X.1, X.2.1 + 1, X.2.2.1 + 1, X.2.2.2.1 + 1, X.2.2.2.2.1 + t.2, X.2.2.2.2.2) else none) else none
  | .newarray ty => u1 st fun n r => bif !ph && alM m then (match ty with
      | .int => if tyA X.2.1 = 14 ∧ X.2.1 = X.2.2.1 ∧ ¬ n < 0 ∧ n.toNatClampNeg = ln X.2.1 ∧ X.2.2.2.1 + 1 ≤ mcM m ∧ X.2.2.2.2.1 + ln X.2.1 ≤ msM m then K (e.1 + e.2.2.1) ls (pR 14 X.2.1 :: r) (nlM M X.2.1) (X.1, X.2.1 + 1, X.2.2.1 + 1, X.2.2.2.1 + 1, X.2.2.2.2.1 + ln X.2.1, X.2.2.2.2.2) else none
      | .long => if tyA X.2.1 = 15 ∧ X.2.1 = X.2.2.1 ∧ ¬ n < 0 ∧ n.toNatClampNeg = ln X.2.1 ∧ X.2.2.2.1 + 1 ≤ mcM m ∧ X.2.2.2.2.1 + ln X.2.1 ≤ msM m then K (e.1 + e.2.2.1) ls (pR 15 X.2.1 :: r) (nlM M X.2.1) (0, X.2.1 + 1, X.2.2.1 + 1, X.2.2.2.1 + 1, X.2.2.2.2.1 + ln X.2.1, X.2.2.2.2.2) else none
      | _ => none) else none
  | .anewarray _ => u1 st fun n r => bif !ph && alM m then (if tyA X.2.1 = 16 ∧ X.2.1 = X.2.2.1 ∧ ¬ n < 0 ∧ n.toNatClampNeg = 10 ∧ X.2.2.2.1 + 1 ≤ mcM m ∧ X.2.2.2.2.1 + 10 ≤ msM m then K (e.1 + e.2.2.1) ls (pR 16 X.2.1 :: r) (nlM M X.2.1) (X.1, X.2.1 + 1, X.2.2.1 + 1, X.2.2.2.1 + 1, X.2.2.2.2.1 + 10, X.2.2.2.2.2) else none) else none
  | .ireturn => u1 st fun x r => ue r (if rOK (rkM m) x = true then some (.inl (some (pI x)), M, X) else none)
  | .lreturn => ul1 st fun x r => ue r (some (.inl (some (pL x)), M, X))
  | .return_ => ue st (some (.inl none, M, X))
  | .invokevirtual i => (lkp (mthP (ownM m)) i).bind fun w => (popn w.2.2.1 [] st).bind fun q => ur1 q.2 fun c a r => bif Nat.beq w.1 0 && Nat.beq c (otg (ownM w.2.1)) then kCall ph cl m lv K (e.1 + e.2.2.1) w (pR c a :: q.1) ls r M X else none
  | .invokespecial i => (lkp (mthP (ownM m)) i).bind fun w => (popn w.2.2.1 [] st).bind fun q => ur1 q.2 fun c a r => bif Nat.beq c 0 || Nat.blt 16 c then none else bif Nat.beq w.1 2 then (bif Nat.ble (wg r) 8 then K (e.1 + e.2.2.1) ls r M X else none) else bif Nat.blt 4 w.1 && Nat.blt w.1 7 then kCall ph cl m lv K (e.1 + e.2.2.1) w (pR c a :: q.1) ls r M X else none
  | .invokestatic i => (lkp (mthP (ownM m)) i).bind fun w => bif Nat.beq w.1 3 then (ucp st fun c a sp d b dp n r => bif Nat.beq c 14 && Nat.beq d 14 && Nat.ble (wg r) 8 then (if ¬ sp < 0 ∧ ¬ dp < 0 ∧ ¬ n < 0 ∧ sp.toNatClampNeg + n.toNatClampNeg ≤ ln a ∧ dp.toNatClampNeg + n.toNatClampNeg ≤ ln b then K (e.1 + e.2.2.1) ls r (cpM M a sp.toNatClampNeg b dp.toNatClampNeg n.toNatClampNeg) X else none) else none)
      else bif Nat.beq w.1 1 then (popn w.2.2.1 [] st).bind fun q => kCall ph cl m lv K (e.1 + e.2.2.1) w q.1 ls q.2 M X else bif Nat.beq w.1 7 then (u2 st fun x y r => bif Nat.ble (wg r) 8 then K (e.1 + e.2.2.1) ls (pI (if y < x then y else x) :: r) M X else none) else bif Nat.beq w.1 8 then (u2 st fun x y r => bif Nat.ble (wg r) 8 then K (e.1 + e.2.2.1) ls (pI (if x < y then y else x) :: r) M X else none) else none
  | _ => none
def stA (cl : Bool → Nat → Nat → List PV → Mem → PX → Option PRs) (K : Bool → KT) (ph : Bool) (m lv pc : Nat) (ls st : List PV) (M : Mem) (X : PX) : Option PRs :=
  bif !ph && psw m pc then (if setA X.2.1 M = true then K true pc ls st M X else none)
  else (lkp (pt m) pc).bind fun e => stp ph (cl ph) m lv (K ph) (pc, e) ls st M X
def run : Nat → Bool → Nat → Nat → KT
  | 0, _, _, _, _, _, _, _, _ => none
  | n + 1, ph, m, lv, pc, ls, st, M, X => stA (fun ph m' lv' as M X => run n ph m' lv' 0 as [] M X) (fun ph => run n ph m lv) ph m lv pc ls st M X
/-- in the long run F says what b says -/
def CR {β : Type} (F : Nat → Option β) (b : Option β) : Prop := ∀ r, b = some r → ∃ n, ∀ k, n ≤ k → F k = some r
theorem cr_no {β : Type} {F : Nat → Option β} : CR F none := fun _ h => by cases h
theorem cr_cs {β : Type} {b : Option β} : CR (fun _ => b) b := fun _ h => ⟨0, fun _ _ => h⟩
theorem cr_bind {α β : Type} {F : Nat → Option α} {a : Option α} {G : Nat → α → Option β} {g : α → Option β} (h : CR F a) (k : ∀ v, CR (fun n => G n v) (g v)) : CR (fun n => (F n).bind (G n)) (a.bind g) := by
  intro r hr
  cases ha : a with
  | none => rw [ha] at hr; cases hr
  | some v =>
    rw [ha] at hr
    obtain ⟨n1, h1⟩ := h v ha
    obtain ⟨n2, h2⟩ := k v r hr
    exact ⟨max n1 n2, fun j hj => by show (F j).bind (G j) = some r; rw [h1 j (by omega)]; exact h2 j (by omega)⟩
theorem cr_b0 {α β : Type} {a : Option α} {G : Nat → α → Option β} {g : α → Option β} (k : ∀ v, CR (fun n => G n v) (g v)) : CR (fun n => a.bind (G n)) (a.bind g) := cr_bind cr_cs k
theorem cr_bf {β : Type} {b : Bool} {F G : Nat → Option β} {f g : Option β} (h : CR F f) (k : CR G g) : CR (fun n => bif b then F n else G n) (bif b then f else g) := by cases b <;> assumption
theorem cr_it {β : Type} {c : Prop} [Decidable c] {F G : Nat → Option β} {f g : Option β} (h : CR F f) (k : CR G g) : CR (fun n => if c then F n else G n) (if c then f else g) := by
  by_cases hc : c
  · simpa [hc] using h
  · simpa [hc] using k
theorem cr_cn {β : Type} {c : ClassFile.Cond} {x y : Int32} {F G : Nat → Option β} {f g : Option β} (h : CR F f) (k : CR G g) : CR (fun n => cnd c x y (F n) (G n)) (cnd c x y f g) := by
  cases c <;> unfold cnd <;> dsimp only <;> first | exact cr_it h k | exact cr_it k h
theorem cr_sw {β : Type} {K : Nat → Nat → Option β} {k : Nat → Option β} (h : ∀ p, CR (fun n => K n p) (k p)) {x : Int32} {d : Nat} : ∀ l : List (Int32 × Nat), CR (fun n => sw (K n) x d l) (sw k x d l)
  | [] => h d
  | (v, t) :: r => cr_it (h t) (cr_sw h r)
theorem cr_u1 {β : Type} {st : List PV} {F : Nat → Int32 → List PV → Option β} {f : Int32 → List PV → Option β} (h : ∀ x r, CR (fun n => F n x r) (f x r)) : CR (fun n => u1 st (F n)) (u1 st f) := by
  unfold u1; split <;> first | exact h _ _ | exact cr_no
theorem cr_u2 {β : Type} {st : List PV} {F : Nat → Int32 → Int32 → List PV → Option β} {f : Int32 → Int32 → List PV → Option β} (h : ∀ x y r, CR (fun n => F n x y r) (f x y r)) : CR (fun n => u2 st (F n)) (u2 st f) := by
  unfold u2; split <;> first | exact h _ _ _ | exact cr_no
theorem cr_ul1 {β : Type} {st : List PV} {F : Nat → Int64 → List PV → Option β} {f : Int64 → List PV → Option β} (h : ∀ x r, CR (fun n => F n x r) (f x r)) : CR (fun n => ul1 st (F n)) (ul1 st f) := by
  unfold ul1; split <;> first | exact h _ _ | exact cr_no
theorem cr_ul2 {β : Type} {st : List PV} {F : Nat → Int64 → Int64 → List PV → Option β} {f : Int64 → Int64 → List PV → Option β} (h : ∀ x y r, CR (fun n => F n x y r) (f x y r)) : CR (fun n => ul2 st (F n)) (ul2 st f) := by
  unfold ul2; split <;> first | exact h _ _ _ | exact cr_no
theorem cr_ur1 {β : Type} {st : List PV} {F : Nat → Nat → Nat → List PV → Option β} {f : Nat → Nat → List PV → Option β} (h : ∀ x y r, CR (fun n => F n x y r) (f x y r)) : CR (fun n => ur1 st (F n)) (ur1 st f) := by
  unfold ur1; split <;> first | exact h _ _ _ | exact cr_no
theorem cr_uir {β : Type} {st : List PV} {F : Nat → Nat → Nat → Int32 → List PV → Option β} {f : Nat → Nat → Int32 → List PV → Option β} (h : ∀ x y z r, CR (fun n => F n x y z r) (f x y z r)) : CR (fun n => uir st (F n)) (uir st f) := by
  unfold uir; split <;> first | exact h _ _ _ _ | exact cr_no
theorem cr_uiir {β : Type} {st : List PV} {F : Nat → Nat → Nat → Int32 → Int32 → List PV → Option β} {f : Nat → Nat → Int32 → Int32 → List PV → Option β} (h : ∀ x y z w r, CR (fun n => F n x y z w r) (f x y z w r)) : CR (fun n => uiir st (F n)) (uiir st f) := by
  unfold uiir; split <;> first | exact h _ _ _ _ _ | exact cr_no
theorem cr_ulir {β : Type} {st : List PV} {F : Nat → Nat → Nat → Int32 → Int64 → List PV → Option β} {f : Nat → Nat → Int32 → Int64 → List PV → Option β} (h : ∀ x y z w r, CR (fun n => F n x y z w r) (f x y z w r)) : CR (fun n => ulir st (F n)) (ulir st f) := by
  unfold ulir; split <;> first | exact h _ _ _ _ _ | exact cr_no
theorem cr_urir {β : Type} {st : List PV} {F : Nat → Nat → Nat → Int32 → Nat → Nat → List PV → Option β} {f : Nat → Nat → Int32 → Nat → Nat → List PV → Option β} (h : ∀ x y z w v r, CR (fun n => F n x y z w v r) (f x y z w v r)) : CR (fun n => urir st (F n)) (urir st f) := by
  unfold urir; split <;> first | exact h _ _ _ _ _ _ | exact cr_no
theorem cr_urr {β : Type} {st : List PV} {F : Nat → Nat → Nat → Nat → Nat → List PV → Option β} {f : Nat → Nat → Nat → Nat → List PV → Option β} (h : ∀ x y z w r, CR (fun n => F n x y z w r) (f x y z w r)) : CR (fun n => urr st (F n)) (urr st f) := by
  unfold urr; split <;> first | exact h _ _ _ _ _ | exact cr_no
theorem cr_ucp {β : Type} {st : List PV} {F : Nat → Nat → Nat → Int32 → Nat → Nat → Int32 → Int32 → List PV → Option β} {f : Nat → Nat → Int32 → Nat → Nat → Int32 → Int32 → List PV → Option β} (h : ∀ a b c d e g i r, CR (fun n => F n a b c d e g i r) (f a b c d e g i r)) : CR (fun n => ucp st (F n)) (ucp st f) := by
  unfold ucp; split <;> first | exact h _ _ _ _ _ _ _ _ | exact cr_no
theorem cr_utop {β : Type} {st : List PV} {F : Nat → PV → List PV → Option β} {f : PV → List PV → Option β} (h : ∀ x r, CR (fun n => F n x r) (f x r)) : CR (fun n => utop st (F n)) (utop st f) := by
  unfold utop; split <;> first | exact h _ _ | exact cr_no
theorem cr_ue {β : Type} {st : List PV} {F : Nat → Option β} {f : Option β} (h : CR F f) : CR (fun n => ue st (F n)) (ue st f) := by
  unfold ue; split <;> first | exact h | exact cr_no
section STPCR
variable {ph : Bool} {m lv : Nat} {clF : Nat → Nat → Nat → List PV → Mem → PX → Option PRs} {cl : Nat → Nat → List PV → Mem → PX → Option PRs} {KF : Nat → KT} {K : KT}
theorem kRet_CR {al : Bool} {mc ms nx : Nat} {ls r : List PV} {X : PX} (hK : ∀ pc ls st M X, CR (fun n => KF n pc ls st M X) (K pc ls st M X)) (q : PRs) : CR (fun n => kRet ph al m mc ms nx (KF n) ls r X q) (kRet ph al m mc ms nx K ls r X q) := by
  obtain ⟨o, M', X'⟩ := q
  rcases o with (_ | v) | e
  · exact hK _ _ _ _ _
  · exact hK _ _ _ _ _
  · exact cr_cs
theorem kCall_CR (hcl : ∀ m' lv' as M X, CR (fun n => clF n m' lv' as M X) (cl m' lv' as M X)) (hK : ∀ pc ls st M X, CR (fun n => KF n pc ls st M X) (K pc ls st M X)) {nx : Nat} {w : Nat × Nat × Nat × Nat × Nat × Nat × Nat} {as ls r : List PV} {M : Mem} {X : PX} :
    CR (fun n => kCall ph (clF n) m lv (KF n) nx w as ls r M X) (kCall ph cl m lv K nx w as ls r M X) := by
  unfold kCall
  refine cr_bf (cr_bf (cr_bf (cr_bind (hcl _ _ _ _ _) fun q => kRet_CR hK q) (cr_bf (cr_bf (cr_bind (hcl _ _ _ _ _) fun q => kRet_CR hK q) cr_no) (cr_bind (hcl _ _ _ _ _) fun q => kRet_CR hK q))) (cr_bf (cr_it (cr_bind (hcl _ _ _ _ _) fun q => kRet_CR hK q) cr_no) cr_no)) cr_no
set_option maxHeartbeats 4000000 in
theorem stp_CR (hcl : ∀ m' lv' as M X, CR (fun n => clF n m' lv' as M X) (cl m' lv' as M X)) (hK : ∀ pc ls st M X, CR (fun n => KF n pc ls st M X) (K pc ls st M X)) {e : PE} {ls st : List PV} {M : Mem} {X : PX} :
    CR (fun n => stp ph (clF n) m lv (KF n) e ls st M X) (stp ph cl m lv K e ls st M X) := by
  obtain ⟨pc, i, len, tg, cv⟩ := e
  cases i <;> unfold stp <;> dsimp only <;> (try exact cr_no) <;>
    (repeat' first
      | exact hK _ _ _ _ _
      | exact cr_no
      | exact kCall_CR hcl hK
      | exact cr_cs
      | refine cr_u1 fun _ _ => ?_
      | refine cr_u2 fun _ _ _ => ?_
      | refine cr_ul1 fun _ _ => ?_
      | refine cr_ul2 fun _ _ _ => ?_
      | refine cr_ur1 fun _ _ _ => ?_
      | refine cr_uir fun _ _ _ _ => ?_
      | refine cr_uiir fun _ _ _ _ _ => ?_
      | refine cr_ulir fun _ _ _ _ _ => ?_
      | refine cr_urir fun _ _ _ _ _ _ => ?_
      | refine cr_urr fun _ _ _ _ _ => ?_
      | refine cr_ucp fun _ _ _ _ _ _ _ _ => ?_
      | refine cr_utop fun _ _ => ?_
      | refine cr_ue ?_
      | refine cr_sw (fun _ => ?_) _
      | refine cr_b0 fun _ => ?_
      | refine cr_bf ?_ ?_
      | refine cr_it ?_ ?_
      | refine cr_cn ?_ ?_
      | (rename_i ty _ _; cases ty <;> dsimp only)
      | (rename_i ty; cases ty <;> dsimp only))
end STPCR
/-- the answer of a run of whatever length -/
noncomputable def ev (ph : Bool) (m lv : Nat) : KT := fun pc ls st M X => by
  classical
  exact if h : ∃ n r, ∀ k, n ≤ k → run k ph m lv pc ls st M X = some r then some (h.choose_spec.choose) else none
theorem run_mono : ∀ (n : Nat) {ph : Bool} {m lv pc : Nat} {ls st : List PV} {M : Mem} {X : PX} {r : PRs}, run n ph m lv pc ls st M X = some r → run (n + 1) ph m lv pc ls st M X = some r := by
  intro n
  induction n with
  | zero => intro _ _ _ _ _ _ _ _ _ h; cases h
  | succ n ih =>
    intro ph m lv pc ls st M X r h
    have key : CR (fun _ => stA (fun ph m' lv' as M X => run (n + 1) ph m' lv' 0 as [] M X) (fun ph => run (n + 1) ph m lv) ph m lv pc ls st M X) (stA (fun ph m' lv' as M X => run n ph m' lv' 0 as [] M X) (fun ph => run n ph m lv) ph m lv pc ls st M X) := by
      unfold stA
      refine cr_bf (cr_it (fun r h => ⟨0, fun _ _ => ih h⟩) cr_no) (cr_b0 fun e => ?_)
      exact stp_CR (clF := fun _ m' lv' as M X => run (n + 1) ph m' lv' 0 as [] M X) (KF := fun _ => run (n + 1) ph m lv) (fun _ _ _ _ _ r h => ⟨0, fun _ _ => ih h⟩) (fun _ _ _ _ _ r h => ⟨0, fun _ _ => ih h⟩)
    obtain ⟨k, hk⟩ := key r h
    exact hk k (Nat.le_refl k)
theorem run_le {n k : Nat} (h : n ≤ k) {ph : Bool} {m lv pc : Nat} {ls st : List PV} {M : Mem} {X : PX} {r : PRs} (hr : run n ph m lv pc ls st M X = some r) : run k ph m lv pc ls st M X = some r := by
  obtain ⟨d, rfl⟩ := Nat.le.dest h
  clear h
  induction d with
  | zero => exact hr
  | succ d ih => exact run_mono _ ih
theorem ev_run {n : Nat} {ph : Bool} {m lv pc : Nat} {ls st : List PV} {M : Mem} {X : PX} {r : PRs} (hr : run n ph m lv pc ls st M X = some r) : ev ph m lv pc ls st M X = some r := by
  have h : ∃ n r, ∀ k, n ≤ k → run k ph m lv pc ls st M X = some r := ⟨n, r, fun k hk => run_le hk hr⟩
  unfold ev
  rw [dif_pos h]
  have h2 := h.choose_spec.choose_spec
  have h3 := h2 (max n h.choose) (by omega)
  rw [run_le (by omega : n ≤ max n h.choose) hr] at h3
  exact h3.symm
theorem run_ev {ph : Bool} {m lv pc : Nat} {ls st : List PV} {M : Mem} {X : PX} {r : PRs} (hr : ev ph m lv pc ls st M X = some r) : ∃ n, ∀ k, n ≤ k → run k ph m lv pc ls st M X = some r := by
  unfold ev at hr
  split at hr
  next h =>
    cases hr
    exact ⟨h.choose, h.choose_spec.choose_spec⟩
  next => cases hr
theorem ev_CR {ph : Bool} {m lv pc : Nat} {ls st : List PV} {M : Mem} {X : PX} : CR (fun n => run n ph m lv pc ls st M X) (ev ph m lv pc ls st M X) := fun _ h => run_ev h
/-- what a call comes to -/
noncomputable abbrev evc (ph : Bool) (m lv : Nat) (as : List PV) (M : Mem) (X : PX) : Option PRs := ev ph m lv 0 as [] M X
theorem ev_eq (ph : Bool) (m lv pc : Nat) (ls st : List PV) (M : Mem) (X : PX) : ev ph m lv pc ls st M X = stA evc (fun ph => ev ph m lv) ph m lv pc ls st M X := by
  have key : CR (fun n => run (n + 1) ph m lv pc ls st M X) (stA evc (fun ph => ev ph m lv) ph m lv pc ls st M X) := by
    show CR (fun n => stA (fun ph m' lv' as M X => run n ph m' lv' 0 as [] M X) (fun ph => run n ph m lv) ph m lv pc ls st M X) _
    unfold stA
    refine cr_bf (cr_it ev_CR cr_no) (cr_b0 fun e => ?_)
    exact stp_CR (clF := fun n m' lv' as M X => run n ph m' lv' 0 as [] M X) (KF := fun n => run n ph m lv) (fun _ _ _ _ _ => ev_CR) (fun _ _ _ _ _ => ev_CR)
  have back : ∀ n r, run n ph m lv pc ls st M X = some r → stA evc (fun ph => ev ph m lv) ph m lv pc ls st M X = some r := by
    intro n r h
    cases n with
    | zero => cases h
    | succ n =>
      have k2 : CR (fun _ => stA evc (fun ph => ev ph m lv) ph m lv pc ls st M X) (stA (fun ph m' lv' as M X => run n ph m' lv' 0 as [] M X) (fun ph => run n ph m lv) ph m lv pc ls st M X) := by
        unfold stA
        refine cr_bf (cr_it (fun r h => ⟨0, fun _ _ => ev_run h⟩) cr_no) (cr_b0 fun e => ?_)
        exact stp_CR (clF := fun _ => evc ph) (KF := fun _ => ev ph m lv) (fun _ _ _ _ _ r h => ⟨0, fun _ _ => ev_run h⟩) (fun _ _ _ _ _ r h => ⟨0, fun _ _ => ev_run h⟩)
      obtain ⟨j, hj⟩ := k2 r h
      exact hj j (Nat.le_refl j)
  cases hx : stA evc (fun ph => ev ph m lv) ph m lv pc ls st M X with
  | some r =>
    obtain ⟨n, hn⟩ := key r hx
    exact ev_run (hn n (Nat.le_refl n))
  | none =>
    cases hy : ev ph m lv pc ls st M X with
    | none => rfl
    | some r =>
      obtain ⟨n, hn⟩ := run_ev hy
      have h := back n r (hn n (Nat.le_refl n))
      rw [hx] at h
      cases h
/-- ahead to the next stops -/
noncomputable def evk (stop : Nat → Bool) (ph : Bool) (m lv : Nat) : Nat → KT
  | 0, pc, ls, st, M, X => ev ph m lv pc ls st M X
  | n + 1, pc, ls, st, M, X => stA evc (fun ph' pc' ls' st' M' X' => bif stop pc' then ev ph' m lv pc' ls' st' M' X' else evk stop ph' m lv n pc' ls' st' M' X') ph m lv pc ls st M X
theorem evk_eq (stop : Nat → Bool) : ∀ (n : Nat) (ph : Bool) (m lv pc : Nat) (ls st : List PV) (M : Mem) (X : PX), ev ph m lv pc ls st M X = evk stop ph m lv n pc ls st M X := by
  intro n
  induction n with
  | zero => intros; rfl
  | succ n ih =>
    intro ph m lv pc ls st M X
    rw [ev_eq]
    show _ = stA evc (fun ph' pc' ls' st' M' X' => bif stop pc' then ev ph' m lv pc' ls' st' M' X' else evk stop ph' m lv n pc' ls' st' M' X') ph m lv pc ls st M X
    congr 1
    funext ph' pc' ls' st' M' X'
    rw [← ih]
    cases stop pc' <;> rfl
end
section
/-! ===== BEGIN words of one list among another's, by their places ===== -/
theorem goodIn_r {big : List Cond} (ws : List Cond) (ps : List Nat) (hp : ws = ps.filterMap (fun i => big[i]?)) (h : ws.all goodWord = true) : GoodIn big ws := by
  intro w hw
  have h1 := List.all_eq_true.mp h w hw
  rw [hp] at hw
  obtain ⟨i, -, hi⟩ := List.mem_filterMap.mp hw
  have hm : w ∈ big := by first | exact List.mem_of_getElem? hi | exact List.getElem?_mem hi
  exact ⟨hm, good_of_word h1⟩
theorem goodIn_app {big a b : List Cond} (ha : GoodIn big a) (hb : GoodIn big b) : GoodIn big (a ++ b) := fun w h => (List.mem_append.mp h).elim (ha w) (hb w)
theorem goodIn_ca {big a b : List Cond} {c : Cond} (ha : GoodIn big (c :: a)) (hb : GoodIn big b) : GoodIn big (c :: (a ++ b)) := fun w h => (List.mem_cons.mp h).elim (fun e => ha w (List.mem_cons.mpr (Or.inl e))) (fun h => (List.mem_append.mp h).elim (fun h => ha w (List.mem_cons.mpr (Or.inr h))) (hb w))
theorem goodIn_sub {big ws : List Cond} (hm : ∀ w ∈ ws, w ∈ big) (h : ws.all goodWord = true) : GoodIn big ws := fun w hw => ⟨hm w hw, good_of_word (List.all_eq_true.mp h w hw)⟩
/-! ===== END ===== -/

/-! ===== BEGIN exceptions that leave a method, and their catching by the caller (launches without stack traces) ===== -/
section VXA
/-! The laws vx_back, vx_callV, vx_callS, vx_callSW, vx_throw0, vx_throwS follow proofs of the library, with one case more: JvmDerived/Free/Laws.lean (Back.of_free), Shelf42/LK1.lean (callV, callS), Shelf/KitTraced.lean (throwNew0V, throwNewS). -/
/-- where a method has thrown q: the class by its name, the cell, what was written, the world -/
def vx_T (XC : String → State → State → Prop) (st : State) (q : Addr) (t : State) (mc ms : Nat) (free : Addr → Prop) : Prop :=
  ∃ (E : String) (ce : Cell) (L : List Loc), XC E st t ∧ t.heap[q]? = some ce ∧ ce.vm = .none ∧ st.vm.findClass E = some ce.cls ∧ st.WarmedH t.vm ∧ st.sameButNew ({ t with vm := st.vm } : State) L mc ms ∧ ∀ z ∈ L, free z.base
def vx_Q (Qc : Array Value → State → Outcome → State → Prop) (XC : String → State → State → Prop) (mc ms : Nat) (free : Addr → Prop) : Array Value → State → Outcome → State → Prop := fun a st o t =>
  (Qc a st o t ∧ ∃ L, FrameEnd st o t L mc ms ∧ ∀ q ∈ L, free q.base) ∨ ∃ q, o = .threw q ∧ vx_T XC st q t mc ms free
/-- a callee that returns or throws -/
def vx_Met (l : Launch) (y : MethodName) (ws : List Cond) (rm : Room) (Pc : Array Value → State → Prop) (Qc : Array Value → State → Outcome → State → Prop) (XC : String → State → State → Prop) (mc ms : Nat) (free : Addr → Prop) : Prop :=
  MetFree l y (headSpec ws rm) Pc (fun _ _ _ _ _ => True) (vx_Q Qc XC mc ms free)
def vx_Post (XC : String → State → State → Prop) (mc ms : Nat) (free : Addr → Prop) : Pt → Array Value → Addr → Pt → Prop := fun A a q B =>
  ∃ (g : JFrame) (mk : MethodId) (t : State) (L : List Loc) (E : String) (ce : Cell), B.U.heap = t.heap ∧ B.U.vm = t.vm ∧ XC E (A.U.calling g mk a) t ∧ t.heap[q]? = some ce ∧ ce.vm = .none ∧ A.U.vm.findClass E = some ce.cls ∧ B.locs = A.locs ++ L ∧ (∀ z ∈ L, free z.base) ∧ B.cells = A.cells + mc ∧ B.slots = A.slots + ms
def vx_Back (l : Launch) (R : Room) (p : Program) (e : Env) (below : List Frame) (s : State) (sargs : Array Value) (y : MethodName) (len W9 : Nat)
    (Pre : Pt → Array Value → Prop) (Post : Pt → Array Value → Option Value → Pt → Prop) (PostX : Pt → Array Value → Addr → Pt → Prop) : Prop :=
  ∀ (m : MethodId) (meth : Method) (c : Code) (A : Pt) (g : JFrame) (ig : Instr) (mk : MethodId) (a : Array Value),
    Stand p l e R s m sargs below meth c A.U A.locs A.cells A.slots → g.method = m → g.locals.size = c.maxLocals → decode c.code g.pc = .ok (ig, len) →
    2 * g.monitorRoom + (g.stack.map fun v => v.category).sum ≤ W9 → A.U.methodNamed? y = some mk → Pre A a →
    (∃ (v : Option Value) (B : Pt), Stand p l e R s m sargs below meth c B.U B.locs B.cells B.slots ∧ Post A a v B ∧
      Steps p.tables e below (doInvoke e (A.U.setTop g) [] mk a).1 (B.U.setTop { g with pc := g.pc + len, stack := v.toList ++ g.stack })) ∨
    (∃ (q : Addr) (B : Pt), Stand p l e R s m sargs below meth c B.U B.locs B.cells B.slots ∧ PostX A a q B ∧
      Steps p.tables e below (doInvoke e (A.U.setTop g) [] mk a).1 ((B.U.setTop g).pushFrame (.throwing q)))
section Payer
variable {l : Launch} {R : Room} {p : Program} {e : Env} {below : List Frame} {s : State} {sargs : Array Value} {y : MethodName} {len W9 : Nat}
theorem vx_back {ws : List Cond} {rm : Room} {Pc : Array Value → State → Prop} {Qc : Array Value → State → Outcome → State → Prop} {XC : String → State → State → Prop} {mc ms : Nat} {free : Addr → Prop} {bytes : ByteArray} {maxL : Nat} {ret : Option FieldType}
    (hM : vx_Met l y ws rm Pc Qc XC mc ms free) (hblind : FrameBlind Pc) (hrc : rm.cells = mc) (hrs : rm.slots = ms)
    (hframes : rm.frames + 1 ≤ R.frames) (hlocals : W9 + (maxL + 11) + rm.locals ≤ R.locals)
    (hws : ∀ w ∈ ws, ∀ a' U, s.WarmedH U.vm → w.before a' U = true) (hcode : Cond.code y bytes maxL ret ∈ ws) (hinit : ∀ a' U, s.WarmedH U.vm → (Cond.initialized y.cls).before a' U = true) :
    vx_Back l R p e below s sargs y len W9 (PreOf R mc ms Pc) (PostOf Qc mc ms free) (vx_Post XC mc ms free) := by
  intro m meth c A g ig mk a X hg hsize hdg hW hn hp
  have h1 : (headSpec ws rm).pre.before a A.U = true := atoms_intro fun w hw => hws w hw _ _ X.warmed
  have h2 : (Cond.code y bytes maxL ret).before a A.U = true := hws _ hcode _ _ X.warmed
  have h3 : (Cond.initialized y.cls).before a A.U = true := hinit _ _ X.warmed
  have h4 : A.cells + (headSpec ws rm).room.cells ≤ R.cells := by rw [show (headSpec ws rm).room.cells = mc from hrc]; exact hp.1
  have h5 : A.slots + (headSpec ws rm).room.slots ≤ R.slots := by rw [show (headSpec ws rm).room.slots = ms from hrs]; exact hp.2.1
  have hPc : Pc a (A.U.calling g mk a) := hblind _ _ _ _ hp.2.2
  obtain ⟨U, Ls, c0, s0⟩ := A
  dsimp only [Pt.U, Pt.locs, Pt.cells, Pt.slots] at h1 h2 h3 h4 h5 X hn hPc ⊢
  obtain ⟨methY, cY, hmY, hcY, -, hlY, -, -, -, -⟩ := Cond.code_spec hn h2
  obtain ⟨kY, hkY, -⟩ := className_of_methodNamed hn
  have hinitY : kY.init = .initialized := Cond.initialized_spec (findClass_of_methodNamed hn) hkY h3
  have h : At U g.method c below := by rw [hg]; exact X.here
  have hlocals9 : W9 + (maxL + 11) + (headSpec ws rm).room.locals ≤ R.locals := hlocals
  have happ : (headSpec ws rm).appliesLoose y e.platform (U.calling g mk a) = true :=
    Spec.appliesLoose_calling (g := g) h hdg hn hkY hinitY
      (X.room_calling (g := g) (R' := (headSpec ws rm).room) hsize hmY hcY hframes (by rw [hlY]; omega) h4 h5) h1
  obtain ⟨mid, hmid⟩ := h.above
  have hfr : (U.setTop g).frames = (.java g :: mid) ++ below := by rw [State.frames_setTop' g h.top, hmid]; rfl
  obtain ⟨o, s₂, hsteps, -, hend, hq⟩ := Steps.callFree hM p X.admits X.cas X.clock (acts := []) hfr happ hPc trivial
  have hq' : vx_Q Qc XC mc ms free a (U.calling g mk a) o s₂ := hq
  rw [State.frames_setTop' g h.top] at hend
  obtain ⟨g₀, hg0⟩ := Option.isSome_iff_exists.mp h.top
  obtain ⟨r, hr⟩ := State.topJava?_eq_some.mp hg0
  have hr' : (({ U with heap := s₂.heap, slotsUsed := s₂.slotsUsed } : State).setVm s₂.vm).frames = .java g₀ :: r := hr
  rcases hq' with ⟨hqc, L, hfe, hL⟩ | ⟨q, rfl, E, ce, L, hx, hce, hcv, hcl, hW₂, hsm, hL⟩
  · obtain ⟨⟨v, rfl⟩, hW₂, e2, q2, q3, q4, q5, q6⟩ := id hfe
    have e3 : s₂ = ({ (U.calling g mk a).setFrames s₂.frames with heap := s₂.heap, slotsUsed := s₂.slotsUsed } : State).setVm s₂.vm := by
      have : s₂ = ({ s₂ with vm := (U.calling g mk a).vm } : State).setVm s₂.vm := rfl
      rw [e2] at this
      exact this
    obtain ⟨c₂, i₂, len₂, hc₂, hd₂, hf₂⟩ := hend
    have hW' : U.WarmedH s₂.vm := hW₂
    have hcc : c₂ = c := by
      have h1 : s₂.code? g.method = U.code? g.method := by
        rw [State.code?_eq, State.code?_eq, hW'.alike.method?]
      exact Option.some.inj (hc₂.symm.trans (h1.trans h.code))
    subst hcc
    have hlen : len₂ = len := by rw [hdg] at hd₂; cases hd₂; rfl
    subst hlen
    have hs₂ : s₂ = (({ U with heap := s₂.heap, slotsUsed := s₂.slotsUsed } : State).setVm s₂.vm).setTop { g with pc := g.pc + len₂, stack := v.toList ++ g.stack } := by
      refine e3.trans ?_
      rw [hf₂, State.calling_eq h.top, State.setFrames_setFrames, State.setTop_of_frames _ hr', hr]
      rfl
    have hsame : U.sameButNew ({ U with heap := s₂.heap, slotsUsed := s₂.slotsUsed } : State) L mc ms := by
      refine ⟨?_, q2, q3, q4, q5, q6⟩
      obtain ⟨t, ht, -⟩ := State.frames_cons hr
      show ({ U with heap := s₂.heap, slotsUsed := s₂.slotsUsed } : State) = { U.setFrames U.frames with heap := s₂.heap, slotsUsed := s₂.slotsUsed }
      rw [State.setFrames_self ht]
    subst hg
    refine Or.inl ⟨v, ⟨(({ U with heap := s₂.heap, slotsUsed := s₂.slotsUsed } : State).setVm s₂.vm), Ls ++ L, c0 + mc, s0 + ms⟩,
      ⟨X.admits, X.cas, X.clock, X.frames, X.room, X.hears, X.method, X.code, (X.here.setHeapUsed s₂.heap s₂.slotsUsed).setVm hW'.alike, X.tail, State.WarmedH.trans X.warmed hW', X.limits, X.bytes, X.same.trans (hsame.setVm s.vm)⟩,
      ⟨g, mk, s₂, L, rfl, rfl, hqc, rfl, hL, rfl, rfl⟩, ?_⟩
    show Steps p.tables e below _ ((({ U with heap := s₂.heap, slotsUsed := s₂.slotsUsed } : State).setVm s₂.vm).setTop { g with pc := g.pc + len₂, stack := v.toList ++ g.stack })
    rw [← hs₂]
    exact hsteps
  · obtain ⟨e2, q2, q3, q4, q5, q6⟩ := id hsm
    have e3 : s₂ = ({ (U.calling g mk a).setFrames s₂.frames with heap := s₂.heap, slotsUsed := s₂.slotsUsed } : State).setVm s₂.vm := by
      have : s₂ = ({ s₂ with vm := (U.calling g mk a).vm } : State).setVm s₂.vm := rfl
      rw [e2] at this
      exact this
    have hf₂ : s₂.frames = .throwing q :: .java g :: U.frames.tail := hend
    have hW' : U.WarmedH s₂.vm := hW₂
    have hs₂ : s₂ = ((({ U with heap := s₂.heap, slotsUsed := s₂.slotsUsed } : State).setVm s₂.vm).setTop g).pushFrame (.throwing q) := by
      refine e3.trans ?_
      rw [hf₂, State.calling_eq h.top, State.setFrames_setFrames, State.pushFrame, State.frames_setTop _ hr', State.setTop_of_frames _ hr', State.setFrames_setFrames, hr]
      rfl
    have hsame : U.sameButNew ({ U with heap := s₂.heap, slotsUsed := s₂.slotsUsed } : State) L mc ms := by
      refine ⟨?_, q2, q3, q4, q5, q6⟩
      obtain ⟨t, ht, -⟩ := State.frames_cons hr
      show ({ U with heap := s₂.heap, slotsUsed := s₂.slotsUsed } : State) = { U.setFrames U.frames with heap := s₂.heap, slotsUsed := s₂.slotsUsed }
      rw [State.setFrames_self ht]
    subst hg
    refine Or.inr ⟨q, ⟨(({ U with heap := s₂.heap, slotsUsed := s₂.slotsUsed } : State).setVm s₂.vm), Ls ++ L, c0 + mc, s0 + ms⟩,
      ⟨X.admits, X.cas, X.clock, X.frames, X.room, X.hears, X.method, X.code, (X.here.setHeapUsed s₂.heap s₂.slotsUsed).setVm hW'.alike, X.tail, State.WarmedH.trans X.warmed hW', X.limits, X.bytes, X.same.trans (hsame.setVm s.vm)⟩,
      ⟨g, mk, s₂, L, E, ce, rfl, rfl, hx, hce, hcv, hcl, rfl, hL, rfl, rfl⟩, ?_⟩
    show Steps p.tables e below _ (((({ U with heap := s₂.heap, slotsUsed := s₂.slotsUsed } : State).setVm s₂.vm).setTop g).pushFrame (.throwing q))
    rw [← hs₂]
    exact hsteps
end Payer
section Calls
variable {p : Program} {l : Launch} {e : Env} {R : Room} {s : State} {m : MethodId} {args : Array Value} {below : List Frame} {meth : Method} {c : Code} {T : State} {locs : List Loc} {cells slots : Nat}
theorem vx_callV (X : Stand p l e R s m args below meth c T locs cells slots) (hexec : p.tables.exec = Jvm.exec) {own C : String} {index : Nat} {y : MethodName} {bytes : ByteArray} {maxL : Nat} {ret : Option FieldType}
    (hown : s.vm.findClass own = some m.cls) (hlink : (Cond.methodLink own index y).before args s = true) (hinst : (Cond.instanceMethod y).before args s = true) (hsel : (Cond.selects C y y).before args s = true)
    (hcode : (Cond.code y bytes maxL ret).before args s = true) (hy : y.cls ≠ "java/lang/invoke/MethodHandle" ∧ y.cls ≠ "java/lang/invoke/VarHandle")
    {W9 : Nat} {Pre : Pt → Array Value → Prop} {Post : Pt → Array Value → Option Value → Pt → Prop} {PostX : Pt → Array Value → Addr → Pt → Prop} (hK : vx_Back l R p e below s args y 3 W9 Pre Post PostX)
    {b : Addr} {cellB : Cell} (hcell : T.heap[b]? = some cellB) (hobj : cellB.vm.isStatics = false) (hcls : s.vm.findClass C = some cellB.cls)
    {g : JFrame} (hg : g.method = m) (hsize : g.locals.size = c.maxLocals) {argsL rest : List Value} (hlen : ∀ sig, parseMethodDescriptor y.desc = some sig → argsL.length = sig.parameters.length)
    (hstack : g.stack = argsL.reverse ++ .ref b :: rest) (hW : 2 * g.monitorRoom + (rest.map fun v => v.category).sum ≤ W9) (hdg : decode c.code g.pc = .ok (.invokevirtual index, 3))
    (hpre : ∀ vm₁, s.WarmedH vm₁ → Pre ⟨T.setVm vm₁, locs, cells, slots⟩ (Value.ref b :: argsL).toArray) :
    (∃ (v : Option Value) (vm₁ : Vm) (B : Pt), s.WarmedH vm₁ ∧ Stand p l e R s m args below meth c B.U B.locs B.cells B.slots ∧ Post ⟨T.setVm vm₁, locs, cells, slots⟩ (Value.ref b :: argsL).toArray v B ∧
      ∀ target, Steps p.tables e below (B.U.setTop { g with pc := g.pc + 3, stack := v.toList ++ rest }) target → Steps p.tables e below (T.setTop g) target) ∨
    (∃ (q : Addr) (vm₁ : Vm) (B : Pt), s.WarmedH vm₁ ∧ Stand p l e R s m args below meth c B.U B.locs B.cells B.slots ∧ PostX ⟨T.setVm vm₁, locs, cells, slots⟩ (Value.ref b :: argsL).toArray q B ∧
      Steps p.tables e below (T.setTop g) ((B.U.setTop { g with stack := rest }).pushFrame (.throwing q))) := by
  obtain ⟨mk, methM, hnamed, hmethM, hstM, habM⟩ := Cond.instanceMethod_spec hinst
  obtain ⟨methM', cM, hmethM', -, -, -, -, -, -, hsigM⟩ := Cond.code_spec hnamed hcode
  cases hmethM.symm.trans hmethM'
  obtain ⟨c2, r2, m2, q1, q2, q3, q4, kP, hkP, hkPi⟩ := Cond.selects_spec hsel
  cases hcls.symm.trans q1
  cases (State.methodFound?_of_named hnamed hy).symm.trans q2
  cases hnamed.symm.trans q3
  have hselP : selectMethod e.platform s.vm cellB.cls mk = .method mk := by rw [Launch.admits_selectMethod X.admits]; exact q4
  obtain ⟨vm₁, X₁, hstep₁⟩ := X.invokevirtual hexec hown hlink hnamed hmethM hstM hkP hkPi hy (a := b) (cell := cellB) hcell
    (fun z h => by rw [h] at hobj; cases hobj) hselP hmethM habM hkP hkPi (g := g) hg (argsL := argsL) (rest := rest) (hlen _ hsigM) hstack hdg
  rcases hK m meth c ⟨T.setVm vm₁, locs, cells, slots⟩ { g with stack := rest } (.invokevirtual index) mk (Value.ref b :: argsL).toArray X₁ hg hsize hdg hW (X₁.named hnamed) (hpre vm₁ X₁.warmed) with ⟨v, B, X', hpost, hsteps⟩ | ⟨q, B, X', hpost, hsteps⟩
  · exact Or.inl ⟨v, vm₁, B, X₁.warmed, X', hpost, fun target h => hstep₁ _ fun acts => by rw [doInvoke_state]; exact hsteps.trans h⟩
  · exact Or.inr ⟨q, vm₁, B, X₁.warmed, X', hpost, hstep₁ _ fun acts => by rw [doInvoke_state]; exact hsteps⟩
theorem vx_callS (X : Stand p l e R s m args below meth c T locs cells slots) (hexec : p.tables.exec = Jvm.exec) {own : String} {index : Nat} {y : MethodName} {bytes : ByteArray} {maxL : Nat} {ret : Option FieldType}
    (hown : s.vm.findClass own = some m.cls) (hlink : (Cond.methodLink own index y).before args s = true) (hstat : (Cond.static y).before args s = true) (hinit : (Cond.initialized y.cls).before args s = true)
    (hcode : (Cond.code y bytes maxL ret).before args s = true) (hy : y.cls ≠ "java/lang/invoke/MethodHandle" ∧ y.cls ≠ "java/lang/invoke/VarHandle")
    {W9 : Nat} {Pre : Pt → Array Value → Prop} {Post : Pt → Array Value → Option Value → Pt → Prop} {PostX : Pt → Array Value → Addr → Pt → Prop} (hK : vx_Back l R p e below s args y 3 W9 Pre Post PostX)
    {g : JFrame} (hg : g.method = m) (hsize : g.locals.size = c.maxLocals) {argsL rest : List Value} (hlen : ∀ sig, parseMethodDescriptor y.desc = some sig → argsL.length = sig.parameters.length)
    (hstack : g.stack = argsL.reverse ++ rest) (hW : 2 * g.monitorRoom + (rest.map fun v => v.category).sum ≤ W9) (hdg : decode c.code g.pc = .ok (.invokestatic index, 3))
    (hpre : ∀ vm₁, s.WarmedH vm₁ → Pre ⟨T.setVm vm₁, locs, cells, slots⟩ argsL.toArray) :
    (∃ (v : Option Value) (vm₁ : Vm) (B : Pt), s.WarmedH vm₁ ∧ Stand p l e R s m args below meth c B.U B.locs B.cells B.slots ∧ Post ⟨T.setVm vm₁, locs, cells, slots⟩ argsL.toArray v B ∧
      ∀ target, Steps p.tables e below (B.U.setTop { g with pc := g.pc + 3, stack := v.toList ++ rest }) target → Steps p.tables e below (T.setTop g) target) ∨
    (∃ (q : Addr) (vm₁ : Vm) (B : Pt), s.WarmedH vm₁ ∧ Stand p l e R s m args below meth c B.U B.locs B.cells B.slots ∧ PostX ⟨T.setVm vm₁, locs, cells, slots⟩ argsL.toArray q B ∧
      Steps p.tables e below (T.setTop g) ((B.U.setTop { g with stack := rest }).pushFrame (.throwing q))) := by
  obtain ⟨mk, hnamed⟩ := Cond.code_named hcode
  obtain ⟨methM, cM, hmethM, -, -, -, -, -, -, hsigM⟩ := Cond.code_spec hnamed hcode
  have hstatic : methM.isStatic = true := Cond.static_spec hnamed hmethM hstat
  obtain ⟨kP, hkP, -⟩ := className_of_methodNamed hnamed
  have hinitP : kP.init = .initialized := Cond.initialized_spec (findClass_of_methodNamed hnamed) hkP hinit
  obtain ⟨vm₁, X₁, hstep₁⟩ := X.invokestatic hexec hown hlink hnamed hmethM hstatic hkP hinitP hy (g := g) hg (argsL := argsL) (rest := rest) (hlen _ hsigM) hstack hdg
  rcases hK m meth c ⟨T.setVm vm₁, locs, cells, slots⟩ { g with stack := rest } (.invokestatic index) mk argsL.toArray X₁ hg hsize hdg hW (X₁.named hnamed) (hpre vm₁ X₁.warmed) with ⟨v, B, X', hpost, hsteps⟩ | ⟨q, B, X', hpost, hsteps⟩
  · exact Or.inl ⟨v, vm₁, B, X₁.warmed, X', hpost, fun target h => hstep₁ _ fun acts => by rw [doInvoke_state]; exact hsteps.trans h⟩
  · exact Or.inr ⟨q, vm₁, B, X₁.warmed, X', hpost, hstep₁ _ fun acts => by rw [doInvoke_state]; exact hsteps⟩
end Calls
theorem vx_cls {s : State} {T : State} {vm₁ : Vm} {E : String} {k : ClassId} (hW : s.WarmedH vm₁) (h : (T.setVm vm₁).vm.findClass E = some k) : s.vm.findClass E = some k := by
  have h1 : vm₁.findClass E = some k := h
  rw [hW.alike.findClass] at h1
  exact h1
/-- the method's frame g, with q thrown over it -/
def vx_W (p : Program) (l : Launch) (e : Env) (R : Room) (s : State) (m : MethodId) (args : Array Value) (below : List Frame) (meth : Method) (c : Code) (H : Heap) (locs : List Loc) (cells slots : Nat) (Q : State → Prop) (g : JFrame) (q : Addr) : Prop :=
  ∀ T : State, T.heap = H → Stand p l e R s m args below meth c T locs cells slots → ∃ t, Steps p.tables e below ((T.setTop g).pushFrame (.throwing q)) t ∧ Q t
def vx_Run (p : Program) (l : Launch) (e : Env) (R : Room) (s : State) (m : MethodId) (args : Array Value) (below : List Frame) (meth : Method) (c : Code) (H : Heap) (locs : List Loc) (cells slots mc ms : Nat) (g : JFrame) (rest : List Value) (Qa : State → Outcome → State → Prop) (XC : String → State → State → Prop) (free : Addr → Prop) : Prop :=
  ∀ T : State, T.heap = H → Stand p l e R s m args below meth c T locs cells slots →
    (∃ (v : Option Value) (st₀ t T' : State) (L : List Loc), st₀.heap = H ∧ Stand p l e R s m args below meth c T' (locs ++ L) (cells + mc) (slots + ms) ∧ (∀ q ∈ L, free q.base) ∧ T'.heap = t.heap ∧ T'.vm = t.vm ∧ Qa st₀ (.returned v) t ∧
      Goes p e below T g T' { g with pc := g.pc + 3, stack := v.toList ++ rest }) ∨
    (∃ (q : Addr) (st₀ t T' : State) (L : List Loc) (E : String) (ce : Cell), st₀.heap = H ∧ Stand p l e R s m args below meth c T' (locs ++ L) (cells + mc) (slots + ms) ∧ (∀ z ∈ L, free z.base) ∧ T'.heap = t.heap ∧ T'.vm = t.vm ∧ XC E st₀ t ∧ t.heap[q]? = some ce ∧ ce.vm = .none ∧ s.vm.findClass E = some ce.cls ∧
      Steps p.tables e below (T.setTop g) ((T'.setTop { g with stack := rest }).pushFrame (.throwing q)))
def vx_X {S : Type} (px : S → Prop) (B : String → S → State → Prop) (A : Nat → Prop) : String → State → State → Prop := fun E st t => ∃ u : S, px u ∧ B E u t ∧ va_F A st t
section Runs
variable {p : Program} {l : Launch} {e : Env} {R : Room} {s : State} {m : MethodId} {args : Array Value} {below : List Frame} {meth : Method} {c : Code} {H : Heap} {locs : List Loc} {cells slots : Nat}
variable {y : MethodName} {bytes cc : ByteArray} {maxL nL mc ms n index : Nat} {ret : Option FieldType} {ws : List Cond} {rm : Room} {Pc : Array Value → State → Prop} {Qc : Array Value → State → Outcome → State → Prop} {XC : String → State → State → Prop} {free : Addr → Prop} {Ts : List Cond} {own C : String} {b : Addr} {As rest : List Value} {g : JFrame}
theorem vx_callBack (cb : CallB R s args own index y bytes maxL ret ws rm mc ms n) (hM : vx_Met l y ws rm Pc Qc XC mc ms free) (hbl : FrameBlind Pc) : vx_Back l R p e below s args y 3 8 (PreOf R mc ms Pc) (PostOf Qc mc ms free) (vx_Post XC mc ms free) := by
  obtain ⟨hrc, hrs, hfr, hlo, hws, hcw, -, hini, -⟩ := cb
  exact vx_back (bytes := bytes) (maxL := maxL) (ret := ret) hM hbl hrc hrs hfr hlo hws hcw (fun a' U hW => word_at hW (Or.inl (by first | rfl | simp [Cond.onTables, Cond.keeps, Cond.steady])) hini)
theorem vx_runV (S : CallFix p m c cc nL s args Ts own) (hM : vx_Met l y ws rm Pc Qc XC mc ms free) (cw : CallW R s args own C index y bytes maxL ret ws rm mc ms n) (hp : PreV s H C b Pc As)
    (hg : g.method = m) (hn : As.length = n) (hsize : g.locals.size = nL) (hstack : g.stack = As.reverse ++ .ref b :: rest) (hW : 2 * g.monitorRoom + (rest.map fun v => v.category).sum ≤ 8) (hdg : decode cc g.pc = .ok (.invokevirtual index, 3)) (hf : cells + mc ≤ R.cells ∧ slots + ms ≤ R.slots) :
    vx_Run p l e R s m args below meth c H locs cells slots mc ms g rest (Qc (Value.ref b :: As).toArray) XC free := by
  have hK : vx_Back l R p e below s args y 3 8 (PreOf R mc ms Pc) (PostOf Qc mc ms free) (vx_Post XC mc ms free) := vx_callBack cw.1 hM hp.1
  obtain ⟨⟨-, -, -, -, -, -, hcode, -, hy, hlen, hl⟩, hin, hse⟩ := cw
  obtain ⟨hx, hb, hml, ho, -⟩ := S
  obtain ⟨-, ⟨cellB, hcB, hoB, hclB⟩, hPc⟩ := hp
  intro T hT X
  rcases vx_callV X hx (C := C) (bytes := bytes) (maxL := maxL) (ret := ret) ho hl hin hse hcode hy hK (by rw [hT]; exact hcB) hoB hclB hg (hsize.trans hml.symm) (argsL := As) (rest := rest) (fun sig h => hn.trans (hlen sig h)) hstack hW (by rw [hb]; exact hdg)
    (fun vm₁ hW₁ => ⟨hf.1, hf.2, hPc (T.setVm vm₁) hT hW₁⟩) with ⟨v, vm₁, ⟨U', l2, c2, s2⟩, hW₁, X', ⟨g', mk, t, L, e1, e2, hq, h1, hL, h2, h3⟩, st⟩ | ⟨q, vm₁, ⟨U', l2, c2, s2⟩, hW₁, X', ⟨g', mk, t, L, E, ce, e1, e2, hq, hce, hcv, hcl, h1, hL, h2, h3⟩, st⟩
  · dsimp only [Pt.U, Pt.locs, Pt.cells, Pt.slots] at X' e1 e2 h1 h2 h3 st
    subst h1; subst h2; subst h3
    exact Or.inl ⟨v, (T.setVm vm₁).calling g' mk (Value.ref b :: As).toArray, t, U', L, hT, X', hL, e1, e2, hq, st⟩
  · dsimp only [Pt.U, Pt.locs, Pt.cells, Pt.slots] at X' e1 e2 h1 h2 h3 st hcl
    subst h1; subst h2; subst h3
    exact Or.inr ⟨q, (T.setVm vm₁).calling g' mk (Value.ref b :: As).toArray, t, U', L, E, ce, hT, X', hL, e1, e2, hq, hce, hcv, vx_cls hW₁ hcl, st⟩
theorem vx_runS (S : CallFix p m c cc nL s args Ts own) (hM : vx_Met l y ws rm Pc Qc XC mc ms free) (cw : CallB R s args own index y bytes maxL ret ws rm mc ms n ∧ (Cond.static y).before args s = true) (hp : PreS s H Pc As)
    (hg : g.method = m) (hn : As.length = n) (hsize : g.locals.size = nL) (hstack : g.stack = As.reverse ++ rest) (hW : 2 * g.monitorRoom + (rest.map fun v => v.category).sum ≤ 8) (hdg : decode cc g.pc = .ok (.invokestatic index, 3)) (hf : cells + mc ≤ R.cells ∧ slots + ms ≤ R.slots) :
    vx_Run p l e R s m args below meth c H locs cells slots mc ms g rest (Qc As.toArray) XC free := by
  have hK : vx_Back l R p e below s args y 3 8 (PreOf R mc ms Pc) (PostOf Qc mc ms free) (vx_Post XC mc ms free) := vx_callBack cw.1 hM hp.1
  obtain ⟨⟨-, -, -, -, -, -, hcode, hini, hy, hlen, hl⟩, hstt⟩ := cw
  obtain ⟨hx, hb, hml, ho, -⟩ := S
  intro T hT X
  rcases vx_callS X hx (bytes := bytes) (maxL := maxL) (ret := ret) ho hl hstt hini hcode hy hK hg (hsize.trans hml.symm) (argsL := As) (rest := rest) (fun sig h => hn.trans (hlen sig h)) hstack hW (by rw [hb]; exact hdg)
    (fun vm₁ hW₁ => ⟨hf.1, hf.2, hp.2 (T.setVm vm₁) hT hW₁⟩) with ⟨v, vm₁, ⟨U', l2, c2, s2⟩, hW₁, X', ⟨g', mk, t, L, e1, e2, hq, h1, hL, h2, h3⟩, st⟩ | ⟨q, vm₁, ⟨U', l2, c2, s2⟩, hW₁, X', ⟨g', mk, t, L, E, ce, e1, e2, hq, hce, hcv, hcl, h1, hL, h2, h3⟩, st⟩
  · dsimp only [Pt.U, Pt.locs, Pt.cells, Pt.slots] at X' e1 e2 h1 h2 h3 st
    subst h1; subst h2; subst h3
    exact Or.inl ⟨v, (T.setVm vm₁).calling g' mk As.toArray, t, U', L, hT, X', hL, e1, e2, hq, st⟩
  · dsimp only [Pt.U, Pt.locs, Pt.cells, Pt.slots] at X' e1 e2 h1 h2 h3 st hcl
    subst h1; subst h2; subst h3
    exact Or.inr ⟨q, (T.setVm vm₁).calling g' mk As.toArray, t, U', L, E, ce, hT, X', hL, e1, e2, hq, hce, hcv, vx_cls hW₁ hcl, st⟩
end Runs
section Rows
variable {p : Program} {l : Launch} {e : Env} {R : Room} {s : State} {m : MethodId} {args : Array Value} {below : List Frame} {meth : Method} {c : Code} {H : Heap} {locs : List Loc} {cells slots : Nat} {Q : State → Prop}
variable {mc ms : Nat} {free : Addr → Prop} {A0 A1 : Nat → Prop} {H0 : Heap} {a : Array Value} {pc : Nat} {ls : Array Slot} {st0 rest : List Value}
theorem vx_keep {st₀ t T' : State} {L : List Loc} (h0 : st₀.heap = H) (e1 : T'.heap = t.heap) (hS : va_S A0 H0 H locs) (hA : ∀ q, q < H.size → A1 q → A0 q) (hf : ∀ q, free q → A0 q) (hL : ∀ q ∈ L, free q.base) (hF : va_F A1 st₀ t) :
    H.size ≤ T'.heap.size ∧ (∀ q : Nat, q < H.size → ¬ A1 q → T'.heap[q]? = H[q]?) ∧ va_S A0 H0 T'.heap (locs ++ L) := by
  obtain ⟨hz, hk⟩ := hF
  rw [h0] at hz hk
  exact ⟨by rw [e1]; exact hz, fun q h1 h2 => by rw [e1]; exact hk q h1 h2,
    ⟨Nat.le_trans hS.1 (by rw [e1]; exact hz), fun q h1 h2 => by rw [e1, hk q (Nat.lt_of_lt_of_le h1 hS.1) (fun z => h2 (hA q (Nat.lt_of_lt_of_le h1 hS.1) z))]; exact hS.2.1 q h1 h2, fun q hq => by
      rcases List.mem_append.mp hq with h | h
      · exact hS.2.2 q h
      · exact hf _ (hL q h)⟩⟩
theorem vx_calli {S SX : Type} {post : Int32 → S → Prop} {px : SX → Prop} {B : S → State → Prop} {BX : String → SX → State → Prop} {AX : Nat → Prop} (hr : vx_Run p l e R s m args below meth c H locs cells slots mc ms (F0 m pc ls st0) rest (va_Qi post B A1 a) (vx_X px BX AX) free) (hS : va_S A0 H0 H locs) (hA : ∀ q, q < H.size → A1 q → A0 q) (hf : ∀ q, free q → A0 q) (hAX : ∀ q, q < H.size → AX q → A0 q)
    (kx : ∀ (E : String) (ce : Cell) (q9 : Addr) (u : SX) (t : State) (H1 : Heap) (locs1 : List Loc), t.heap = H1 → s.vm.Alike t.vm → px u → BX E u t → H.size ≤ H1.size → (∀ q : Nat, q < H.size → ¬ AX q → H1[q]? = H[q]?) → va_S A0 H0 H1 locs1 → H1[q9]? = some ce → ce.vm = .none → s.vm.findClass E = some ce.cls → vx_W p l e R s m args below meth c H1 locs1 (cells + mc) (slots + ms) Q (F0 m pc ls rest) q9)
    (kk : ∀ (r : Int32) (u : S) (t : State) (H1 : Heap) (locs1 : List Loc), t.heap = H1 → s.vm.Alike t.vm → post r u → B u t → H.size ≤ H1.size → (∀ q : Nat, q < H.size → ¬ A1 q → H1[q]? = H[q]?) → va_S A0 H0 H1 locs1 → W p l e R s m args below meth c H1 locs1 (cells + mc) (slots + ms) Q (F0 m (pc + 3) ls (.int r :: rest))) : W p l e R s m args below meth c H locs cells slots Q (F0 m pc ls st0) := by
  intro T hT X
  rcases hr T hT X with ⟨v, st₀, t, T', L, h0, X', hL, e1, e2, ⟨⟨r, u, hv, hp, hb⟩, hF⟩, st⟩ | ⟨q, st₀, t, T', L, E, ce, h0, X', hL, e1, e2, ⟨u, hp, hb, hF⟩, hce, hcv, hcl, st⟩
  · cases hv
    obtain ⟨k1, k2, k3⟩ := vx_keep h0 e1 hS hA hf hL hF
    obtain ⟨t2, a1, b1⟩ := kk r u t T'.heap (locs ++ L) e1.symm (by rw [← e2]; exact X'.warmed.alike) hp hb k1 k2 k3 T' rfl X'
    exact ⟨t2, st t2 a1, b1⟩
  · obtain ⟨k1, k2, k3⟩ := vx_keep h0 e1 hS hAX hf hL hF
    obtain ⟨t2, a1, b1⟩ := kx E ce q u t T'.heap (locs ++ L) e1.symm (by rw [← e2]; exact X'.warmed.alike) hp hb k1 k2 k3 (by rw [e1]; exact hce) hcv hcl T' rfl X'
    exact ⟨t2, st.trans a1, b1⟩
theorem vx_calll {S SX : Type} {post : Int64 → S → Prop} {px : SX → Prop} {B : S → State → Prop} {BX : String → SX → State → Prop} {AX : Nat → Prop} (hr : vx_Run p l e R s m args below meth c H locs cells slots mc ms (F0 m pc ls st0) rest (va_Ql post B A1 a) (vx_X px BX AX) free) (hS : va_S A0 H0 H locs) (hA : ∀ q, q < H.size → A1 q → A0 q) (hf : ∀ q, free q → A0 q) (hAX : ∀ q, q < H.size → AX q → A0 q)
    (kx : ∀ (E : String) (ce : Cell) (q9 : Addr) (u : SX) (t : State) (H1 : Heap) (locs1 : List Loc), t.heap = H1 → s.vm.Alike t.vm → px u → BX E u t → H.size ≤ H1.size → (∀ q : Nat, q < H.size → ¬ AX q → H1[q]? = H[q]?) → va_S A0 H0 H1 locs1 → H1[q9]? = some ce → ce.vm = .none → s.vm.findClass E = some ce.cls → vx_W p l e R s m args below meth c H1 locs1 (cells + mc) (slots + ms) Q (F0 m pc ls rest) q9)
    (kk : ∀ (r : Int64) (u : S) (t : State) (H1 : Heap) (locs1 : List Loc), t.heap = H1 → s.vm.Alike t.vm → post r u → B u t → H.size ≤ H1.size → (∀ q : Nat, q < H.size → ¬ A1 q → H1[q]? = H[q]?) → va_S A0 H0 H1 locs1 → W p l e R s m args below meth c H1 locs1 (cells + mc) (slots + ms) Q (F0 m (pc + 3) ls (.long r :: rest))) : W p l e R s m args below meth c H locs cells slots Q (F0 m pc ls st0) := by
  intro T hT X
  rcases hr T hT X with ⟨v, st₀, t, T', L, h0, X', hL, e1, e2, ⟨⟨r, u, hv, hp, hb⟩, hF⟩, st⟩ | ⟨q, st₀, t, T', L, E, ce, h0, X', hL, e1, e2, ⟨u, hp, hb, hF⟩, hce, hcv, hcl, st⟩
  · cases hv
    obtain ⟨k1, k2, k3⟩ := vx_keep h0 e1 hS hA hf hL hF
    obtain ⟨t2, a1, b1⟩ := kk r u t T'.heap (locs ++ L) e1.symm (by rw [← e2]; exact X'.warmed.alike) hp hb k1 k2 k3 T' rfl X'
    exact ⟨t2, st t2 a1, b1⟩
  · obtain ⟨k1, k2, k3⟩ := vx_keep h0 e1 hS hAX hf hL hF
    obtain ⟨t2, a1, b1⟩ := kx E ce q u t T'.heap (locs ++ L) e1.symm (by rw [← e2]; exact X'.warmed.alike) hp hb k1 k2 k3 (by rw [e1]; exact hce) hcv hcl T' rfl X'
    exact ⟨t2, st.trans a1, b1⟩
theorem vx_callf {S SX : Type} {post : UInt32 → S → Prop} {px : SX → Prop} {B : S → State → Prop} {BX : String → SX → State → Prop} {AX : Nat → Prop} (hr : vx_Run p l e R s m args below meth c H locs cells slots mc ms (F0 m pc ls st0) rest (va_Qf post B A1 a) (vx_X px BX AX) free) (hS : va_S A0 H0 H locs) (hA : ∀ q, q < H.size → A1 q → A0 q) (hf : ∀ q, free q → A0 q) (hAX : ∀ q, q < H.size → AX q → A0 q)
    (kx : ∀ (E : String) (ce : Cell) (q9 : Addr) (u : SX) (t : State) (H1 : Heap) (locs1 : List Loc), t.heap = H1 → s.vm.Alike t.vm → px u → BX E u t → H.size ≤ H1.size → (∀ q : Nat, q < H.size → ¬ AX q → H1[q]? = H[q]?) → va_S A0 H0 H1 locs1 → H1[q9]? = some ce → ce.vm = .none → s.vm.findClass E = some ce.cls → vx_W p l e R s m args below meth c H1 locs1 (cells + mc) (slots + ms) Q (F0 m pc ls rest) q9)
    (kk : ∀ (r : UInt32) (u : S) (t : State) (H1 : Heap) (locs1 : List Loc), t.heap = H1 → s.vm.Alike t.vm → post r u → B u t → H.size ≤ H1.size → (∀ q : Nat, q < H.size → ¬ A1 q → H1[q]? = H[q]?) → va_S A0 H0 H1 locs1 → W p l e R s m args below meth c H1 locs1 (cells + mc) (slots + ms) Q (F0 m (pc + 3) ls (.float r :: rest))) : W p l e R s m args below meth c H locs cells slots Q (F0 m pc ls st0) := by
  intro T hT X
  rcases hr T hT X with ⟨v, st₀, t, T', L, h0, X', hL, e1, e2, ⟨⟨r, u, hv, hp, hb⟩, hF⟩, st⟩ | ⟨q, st₀, t, T', L, E, ce, h0, X', hL, e1, e2, ⟨u, hp, hb, hF⟩, hce, hcv, hcl, st⟩
  · cases hv
    obtain ⟨k1, k2, k3⟩ := vx_keep h0 e1 hS hA hf hL hF
    obtain ⟨t2, a1, b1⟩ := kk r u t T'.heap (locs ++ L) e1.symm (by rw [← e2]; exact X'.warmed.alike) hp hb k1 k2 k3 T' rfl X'
    exact ⟨t2, st t2 a1, b1⟩
  · obtain ⟨k1, k2, k3⟩ := vx_keep h0 e1 hS hAX hf hL hF
    obtain ⟨t2, a1, b1⟩ := kx E ce q u t T'.heap (locs ++ L) e1.symm (by rw [← e2]; exact X'.warmed.alike) hp hb k1 k2 k3 (by rw [e1]; exact hce) hcv hcl T' rfl X'
    exact ⟨t2, st.trans a1, b1⟩
theorem vx_calld {S SX : Type} {post : UInt64 → S → Prop} {px : SX → Prop} {B : S → State → Prop} {BX : String → SX → State → Prop} {AX : Nat → Prop} (hr : vx_Run p l e R s m args below meth c H locs cells slots mc ms (F0 m pc ls st0) rest (va_Qd post B A1 a) (vx_X px BX AX) free) (hS : va_S A0 H0 H locs) (hA : ∀ q, q < H.size → A1 q → A0 q) (hf : ∀ q, free q → A0 q) (hAX : ∀ q, q < H.size → AX q → A0 q)
    (kx : ∀ (E : String) (ce : Cell) (q9 : Addr) (u : SX) (t : State) (H1 : Heap) (locs1 : List Loc), t.heap = H1 → s.vm.Alike t.vm → px u → BX E u t → H.size ≤ H1.size → (∀ q : Nat, q < H.size → ¬ AX q → H1[q]? = H[q]?) → va_S A0 H0 H1 locs1 → H1[q9]? = some ce → ce.vm = .none → s.vm.findClass E = some ce.cls → vx_W p l e R s m args below meth c H1 locs1 (cells + mc) (slots + ms) Q (F0 m pc ls rest) q9)
    (kk : ∀ (r : UInt64) (u : S) (t : State) (H1 : Heap) (locs1 : List Loc), t.heap = H1 → s.vm.Alike t.vm → post r u → B u t → H.size ≤ H1.size → (∀ q : Nat, q < H.size → ¬ A1 q → H1[q]? = H[q]?) → va_S A0 H0 H1 locs1 → W p l e R s m args below meth c H1 locs1 (cells + mc) (slots + ms) Q (F0 m (pc + 3) ls (.double r :: rest))) : W p l e R s m args below meth c H locs cells slots Q (F0 m pc ls st0) := by
  intro T hT X
  rcases hr T hT X with ⟨v, st₀, t, T', L, h0, X', hL, e1, e2, ⟨⟨r, u, hv, hp, hb⟩, hF⟩, st⟩ | ⟨q, st₀, t, T', L, E, ce, h0, X', hL, e1, e2, ⟨u, hp, hb, hF⟩, hce, hcv, hcl, st⟩
  · cases hv
    obtain ⟨k1, k2, k3⟩ := vx_keep h0 e1 hS hA hf hL hF
    obtain ⟨t2, a1, b1⟩ := kk r u t T'.heap (locs ++ L) e1.symm (by rw [← e2]; exact X'.warmed.alike) hp hb k1 k2 k3 T' rfl X'
    exact ⟨t2, st t2 a1, b1⟩
  · obtain ⟨k1, k2, k3⟩ := vx_keep h0 e1 hS hAX hf hL hF
    obtain ⟨t2, a1, b1⟩ := kx E ce q u t T'.heap (locs ++ L) e1.symm (by rw [← e2]; exact X'.warmed.alike) hp hb k1 k2 k3 (by rw [e1]; exact hce) hcv hcl T' rfl X'
    exact ⟨t2, st.trans a1, b1⟩
theorem vx_callv {S SX : Type} {post : S → Prop} {px : SX → Prop} {B : S → State → Prop} {BX : String → SX → State → Prop} {AX : Nat → Prop} (hr : vx_Run p l e R s m args below meth c H locs cells slots mc ms (F0 m pc ls st0) rest (va_Qv post B A1 a) (vx_X px BX AX) free) (hS : va_S A0 H0 H locs) (hA : ∀ q, q < H.size → A1 q → A0 q) (hf : ∀ q, free q → A0 q) (hAX : ∀ q, q < H.size → AX q → A0 q)
    (kx : ∀ (E : String) (ce : Cell) (q9 : Addr) (u : SX) (t : State) (H1 : Heap) (locs1 : List Loc), t.heap = H1 → s.vm.Alike t.vm → px u → BX E u t → H.size ≤ H1.size → (∀ q : Nat, q < H.size → ¬ AX q → H1[q]? = H[q]?) → va_S A0 H0 H1 locs1 → H1[q9]? = some ce → ce.vm = .none → s.vm.findClass E = some ce.cls → vx_W p l e R s m args below meth c H1 locs1 (cells + mc) (slots + ms) Q (F0 m pc ls rest) q9)
    (kk : ∀ (u : S) (t : State) (H1 : Heap) (locs1 : List Loc), t.heap = H1 → s.vm.Alike t.vm → post u → B u t → H.size ≤ H1.size → (∀ q : Nat, q < H.size → ¬ A1 q → H1[q]? = H[q]?) → va_S A0 H0 H1 locs1 → W p l e R s m args below meth c H1 locs1 (cells + mc) (slots + ms) Q (F0 m (pc + 3) ls (rest))) : W p l e R s m args below meth c H locs cells slots Q (F0 m pc ls st0) := by
  intro T hT X
  rcases hr T hT X with ⟨v, st₀, t, T', L, h0, X', hL, e1, e2, ⟨⟨u, hv, hp, hb⟩, hF⟩, st⟩ | ⟨q, st₀, t, T', L, E, ce, h0, X', hL, e1, e2, ⟨u, hp, hb, hF⟩, hce, hcv, hcl, st⟩
  · cases hv
    obtain ⟨k1, k2, k3⟩ := vx_keep h0 e1 hS hA hf hL hF
    obtain ⟨t2, a1, b1⟩ := kk u t T'.heap (locs ++ L) e1.symm (by rw [← e2]; exact X'.warmed.alike) hp hb k1 k2 k3 T' rfl X'
    exact ⟨t2, st t2 a1, b1⟩
  · obtain ⟨k1, k2, k3⟩ := vx_keep h0 e1 hS hAX hf hL hF
    obtain ⟨t2, a1, b1⟩ := kx E ce q u t T'.heap (locs ++ L) e1.symm (by rw [← e2]; exact X'.warmed.alike) hp hb k1 k2 k3 (by rw [e1]; exact hce) hcv hcl T' rfl X'
    exact ⟨t2, st.trans a1, b1⟩
/-- caught by the row x of this method's table; the rows ahead don't take it -/
theorem vx_catch {own name : String} {E : String} {ce : Cell} {q : Addr} (hown : s.vm.findClass own = some m.cls) (pre : List ExceptionTableEntry) (x : ExceptionTableEntry) (suf : List ExceptionTableEntry) (hsplit : c.exceptionTable.toList = pre ++ x :: suf)
    (hpass : ∀ z ∈ pre, covers z pc = false ∨ (z.catchType ≠ 0 ∧ ∃ nm : String, (Cond.classLink own z.catchType nm).before args s = true ∧ va_Nc E nm s)) (hx : covers x pc = true) (h0 : x.catchType ≠ 0)
    (hlink : (Cond.classLink own x.catchType name).before args s = true) (hcast : (Cond.castable E name).before args s = true) (hcell : H[q]? = some ce) (hv : ce.vm = .none) (hcl : s.vm.findClass E = some ce.cls)
    (kk : W p l e R s m args below meth c H locs cells slots Q (F0 m x.handlerPc ls [.ref q])) : vx_W p l e R s m args below meth c H locs cells slots Q (F0 m pc ls rest) q := by
  intro T hT X
  have hpl : e.platform.magicAccessors = ({} : Platform).magicAccessors := by rw [X.admits.platform]
  obtain ⟨c3, c4, hc3, hc4, hasg⟩ := Cond.castable_spec hcast
  cases Option.some.inj (hc3.symm.trans hcl)
  obtain ⟨c5, hc5, hcl5⟩ := Cond.classLink_spec hown hlink e.platform hpl
  cases Option.some.inj (hc4.symm.trans hc5)
  obtain ⟨vm', X', st⟩ := X.thenCaughtThrough q (g := F0 m pc ls rest) rfl (Steps.refl _) (by rw [hT]; exact hcell) (by rw [hv]; rfl) (by obtain ⟨k9, h9, -⟩ := Vm.findClass_spec hcl; exact ⟨k9, h9⟩) pre x suf hsplit
    (fun z hz => by
      rcases hpass z hz with h | ⟨hz0, nm, hl1, hn1⟩
      · exact Or.inl h
      · obtain ⟨c6, hc6, hcl6⟩ := Cond.classLink_spec hown hl1 e.platform hpl
        obtain ⟨a8, b8, h1, h2, h3⟩ := hn1
        cases Option.some.inj (h1.symm.trans hcl)
        cases Option.some.inj (h2.symm.trans hc6)
        exact Or.inr ⟨hz0, _, hcl6, h3⟩) hx (Or.inr ⟨h0, c4, hcl5, hasg⟩)
  obtain ⟨t, a1, b1⟩ := kk (T.setVm vm') hT X'
  exact ⟨t, st.trans a1, b1⟩
end Rows
section Ends
variable {p : Program} {l : Launch} {e : Env} {R : Room} {s : State} {m : MethodId} {args : Array Value} {below : List Frame} {meth : Method} {c : Code} {H : Heap} {locs : List Loc} {cells slots : Nat} {Q : State → Prop}
variable {mc ms : Nat} {free : Addr → Prop} {A0 A1 : Nat → Prop} {H0 : Heap} {a : Array Value} {ls : Array Slot} {st0 rest : List Value}
variable {Qc : Array Value → State → Outcome → State → Prop} {XC : String → State → State → Prop}
/-- what a body that may throw owes at its end -/
def vx_MQ (below : List Frame) (Qc : Array Value → State → Outcome → State → Prop) (XC : String → State → State → Prop) (a : Array Value) (s : State) (mc ms : Nat) (free : Addr → Prop) : State → Prop := fun t =>
  ∃ o, t.status = .running ∧ Ended t below o ∧ vx_Q Qc XC mc ms free a s o t
theorem vx_ret {g : JFrame} {mc ms : Nat} (k : W p l e R s m args below meth c H locs cells slots (MQ below Qc args s mc ms free) g) : W p l e R s m args below meth c H locs cells slots (vx_MQ below Qc XC args s mc ms free) g := by
  intro T hT X
  obtain ⟨t, a1, o, b1, b2, b3, b4⟩ := k T hT X
  exact ⟨t, a1, o, b1, b2, Or.inl ⟨b3, b4⟩⟩
/-- not caught here: it goes on to the caller -/
theorem vx_widen {g : JFrame} {q : Addr} {k n : Nat} (h1 : cells ≤ k) (h2 : slots ≤ n) (kk : vx_W p l e R s m args below meth c H locs k n Q g q) : vx_W p l e R s m args below meth c H locs cells slots Q g q := fun T hT X => kk T hT (stand_widen X h1 h2)
theorem vx_out {pc : Nat} {E : String} {ce : Cell} {q : Addr} {mc ms : Nat} (hout : ∀ x ∈ c.exceptionTable.toList, covers x pc = false) (hlocks : meth.locks = false) (hcell : H[q]? = some ce) (hv : ce.vm = .none) (hcl : s.vm.findClass E = some ce.cls)
    (hx : ∀ t : State, t.heap = H → s.vm.Alike t.vm → XC E s t) (hf : ∀ z ∈ locs, free z.base) (hc : cells ≤ mc) (hs : slots ≤ ms) :
    vx_W p l e R s m args below meth c H locs cells slots (vx_MQ below Qc XC args s mc ms free) (F0 m pc ls rest) q := by
  intro T hT X
  obtain ⟨st1, hrun, hend, hW, hsm⟩ := X.leaveThrown q (g := F0 m pc ls rest) rfl rfl rfl hout hlocks
  have hcell9 : (T.setFrames (.throwing q :: below)).heap[q]? = some ce := by
    show T.heap[q]? = some ce
    rw [hT]; exact hcell
  exact ⟨_, st1, .threw q, hrun, hend, Or.inr ⟨q, rfl, E, ce, locs, hx _ hT hW.alike, hcell9, hv, hcl, hW, hsm.mono hc hs, hf⟩⟩
theorem vx_frame {U : State} {k n : Nat} (h : s.sameButNew ({ U with vm := s.vm } : State) locs k n) : s.heap.size ≤ U.heap.size ∧ ∀ q : Nat, q < s.heap.size → (∀ z ∈ locs, z.base ≠ q) → U.heap[q]? = s.heap[q]? := by
  obtain ⟨-, h2, -, -, -, h6⟩ := h
  refine ⟨h2, fun q hq hz => ?_⟩
  obtain ⟨c9, e1, e2, e3, e4⟩ := h6 q _ (Array.getElem?_eq_getElem hq)
  have hs : c9.slots = (s.heap[q]).slots := Array.ext_getElem? fun i => e4 i fun hm => hz _ hm rfl
  have h9 : c9 = s.heap[q] := by
    rw [hs] at e2
    exact e2
  have e5 : U.heap[q]? = some c9 := e1
  rw [e5, h9, Array.getElem?_eq_getElem hq]
/-- the words of a throw but the four that speak of the heap -/
def vx_no (w : Cond) : Bool := decide (w ≠ .isRef (.static Bundle.tN "UNASSIGNED_STACK" Bundle.steD)) && decide (w ≠ .isRef (.static Bundle.tN "SUPPRESSED_SENTINEL" Bundle.listD)) && decide (w ≠ .laysStatic Bundle.tN "UNASSIGNED_STACK" Bundle.steD) && decide (w ≠ .laysStatic Bundle.tN "SUPPRESSED_SENTINEL" Bundle.listD)
def vx_at0 (own : String) (ic : Nat) (X : String) (names : List String) : List Cond := (Bundle.ownAtoms0 own ic X names).filter vx_no
def vx_atS (own : String) (ic : Nat) (X : String) (names : List String) : List Cond := (Bundle.ownAtoms own ic X names).filter vx_no
/-- a word that the tables alone decide, or a good one -/
def vx_ot (w : Cond) : Bool := w.onTables || goodWord w
theorem vx_ot_at {args a' : Array Value} {s U : State} {w : Cond} (hW : s.WarmedH U.vm) (hvm : s.vm = U.vm) (hg : vx_ot w = true) (h : w.before args s = true) : w.before a' U = true := by
  simp only [vx_ot, Bool.or_eq_true] at hg
  rcases hg with hg | hg
  · exact va_tabs hg hvm h
  · exact word_at hW (good_of_word hg) h
/-- a list's words: the good ones out of the method's own list, the others by premises of their own -/
theorem vx_hat {args : Array Value} {s : State} {L B : List Cond} (h1 : ∀ w ∈ L.filter goodWord, w.before args s = true) (h2 : ∀ w ∈ L.filter (fun w => !goodWord w), w ∈ B) (h3 : ∀ w ∈ B, w.before args s = true) : ∀ w ∈ L, w.before args s = true := by
  intro w hw
  by_cases g : goodWord w = true
  · exact h1 w (List.mem_filter.mpr ⟨hw, g⟩)
  · refine h3 w (h2 w (List.mem_filter.mpr ⟨hw, ?_⟩))
    show (!goodWord w) = true
    cases hgw : goodWord w
    · rfl
    · exact absurd hgw g
theorem vx_c {args : Array Value} {s : State} {w : Cond} {B : List Cond} (h : w.before args s = true) (t : ∀ w ∈ B, w.before args s = true) : ∀ w' ∈ w :: B, w'.before args s = true := fun w' h' => (List.mem_cons.mp h').elim (fun e => by rw [e]; exact h) (t w')
theorem vx_n {args : Array Value} {s : State} : ∀ w ∈ ([] : List Cond), w.before args s = true := fun _ h => nomatch h
theorem vx_own {args : Array Value} {s : State} {L : List Cond} (h1 : ∀ w ∈ L.filter vx_no, w.before args s = true)
    (hU : (Cond.isRef (.static Bundle.tN "UNASSIGNED_STACK" Bundle.steD)).before args s = true) (hN : (Cond.isRef (.static Bundle.tN "SUPPRESSED_SENTINEL" Bundle.listD)).before args s = true)
    (lU : (Cond.laysStatic Bundle.tN "UNASSIGNED_STACK" Bundle.steD).before args s = true) (lN : (Cond.laysStatic Bundle.tN "SUPPRESSED_SENTINEL" Bundle.listD).before args s = true) : ∀ w ∈ L, w.before args s = true := by
  intro w hw
  by_cases e1 : w = .isRef (.static Bundle.tN "UNASSIGNED_STACK" Bundle.steD)
  · rw [e1]; exact hU
  · by_cases e2 : w = .isRef (.static Bundle.tN "SUPPRESSED_SENTINEL" Bundle.listD)
    · rw [e2]; exact hN
    · by_cases e3 : w = .laysStatic Bundle.tN "UNASSIGNED_STACK" Bundle.steD
      · rw [e3]; exact lU
      · by_cases e4 : w = .laysStatic Bundle.tN "SUPPRESSED_SENTINEL" Bundle.listD
        · rw [e4]; exact lN
        · exact h1 w (List.mem_filter.mpr ⟨hw, by unfold vx_no; rw [decide_eq_true e1, decide_eq_true e2, decide_eq_true e3, decide_eq_true e4]; rfl⟩)
/-- where a static field lies, its class's statics cell in H -/
def vx_L (C n d : String) (A : Nat → Prop) (U : State) (H : Heap) : Prop := ∃ (c : ClassId) (k : Class) (i : Nat) (f : Field) (a : Nat) (cell : Cell), U.vm.findClass C = some c ∧ U.fieldFound? C n d = some (c, k, i, f) ∧ f.isStatic = true ∧ k.statics = some a ∧ H[a]? = some cell ∧ cell.vm.isStatics = true ∧ cell.cls = c ∧ f.slot < cell.slots.size ∧ k.staticTypes[f.slot]? = some f.type ∧ ¬ A a
theorem vx_L.moved {C n d : String} {A : Nat → Prop} {u U : State} {H : Heap} (hvm : u.vm.Alike U.vm) (h : vx_L C n d A u H) : vx_L C n d A U H := by
  obtain ⟨c, k, i, f, a, cell, h1, h2, h3, h4, h5, h6, h7, h8, h9, h10⟩ := h
  obtain ⟨k', hi', he⟩ := State.fieldFound?_setVm hvm h2
  exact ⟨c, k', i, f, a, cell, by rw [hvm.findClass]; exact h1, hi', h3, by rw [he]; exact h4, h5, h6, h7, h8, by rw [he]; exact h9, h10⟩
theorem vx_L.kept {C n d : String} {A : Nat → Prop} {U : State} {H H1 : Heap} (h : vx_L C n d A U H) (hq : ∀ a : Nat, a < H.size → ¬ A a → H1[a]? = H[a]?) : vx_L C n d A U H1 := by
  obtain ⟨c, k, i, f, a, cell, h1, h2, h3, h4, h5, h6, h7, h8, h9, h10⟩ := h
  exact ⟨c, k, i, f, a, cell, h1, h2, h3, h4, by rw [hq a (Array.getElem?_eq_some_iff.mp h5).1 h10]; exact h5, h6, h7, h8, h9, h10⟩
theorem vx_L.narrow {C n d : String} {A B : Nat → Prop} {U : State} {H : Heap} (h : vx_L C n d A U H) (hAB : ∀ q, B q → A q) : vx_L C n d B U H := by
  obtain ⟨c, k, i, f, a, cell, h1, h2, h3, h4, h5, h6, h7, h8, h9, h10⟩ := h
  exact ⟨c, k, i, f, a, cell, h1, h2, h3, h4, h5, h6, h7, h8, h9, fun z => h10 (hAB _ z)⟩
theorem vx_L.word {C n d : String} {A : Nat → Prop} {s : State} {args : Array Value} (h : vx_L C n d A s s.heap) : (Cond.laysStatic C n d).before args s = true := by
  obtain ⟨c, k, i, f, a, cell, h1, h2, h3, h4, h5, h6, h7, h8, h9, -⟩ := h
  show (Cond.laysStatic C n d).holds args s none s [] = true
  exact Cond.laysStatic_of h1 h2 h3 h4 h5 h6 h7 h8 h9
/-- .. and what it holds: null or some reference -/
def vx_Zq (C n d : String) (A : Nat → Prop) (U : State) (H : Heap) : Prop := va_Zq C n d A U H ∧ vx_L C n d A U H
theorem vx_Zq.moved {C n d : String} {A : Nat → Prop} {u U : State} {H : Heap} (hvm : u.vm.Alike U.vm) (h : vx_Zq C n d A u H) : vx_Zq C n d A U H := ⟨va_Zq.moved hvm h.1, vx_L.moved hvm h.2⟩
theorem vx_Zq.kept {C n d : String} {A : Nat → Prop} {U : State} {H H1 : Heap} (h : vx_Zq C n d A U H) (hq : ∀ a : Nat, a < H.size → ¬ A a → H1[a]? = H[a]?) : vx_Zq C n d A U H1 := ⟨va_Zq.kept h.1 hq, vx_L.kept h.2 hq⟩
theorem vx_Zq.narrow {C n d : String} {A B : Nat → Prop} {U : State} {H : Heap} (h : vx_Zq C n d A U H) (hAB : ∀ q, B q → A q) : vx_Zq C n d B U H := ⟨va_Zq.narrow h.1 hAB, vx_L.narrow h.2 hAB⟩
theorem vx_Zqof {args : Array Value} {s : State} {C n d : String} {A : Nat → Prop} (hl : (Cond.laysStatic C n d).before args s = true) (hini : (Cond.initialized C).before args s = true) (h : (Cond.isRef (.static C n d)).before args s = true) (hA : ∀ a : Nat, a < s.heap.size → ¬ A a) : vx_Zq C n d A s s.heap := by
  refine ⟨va_Zqof hl hini h hA, ?_⟩
  obtain ⟨c, k, i, f, a, cell, h1, h2, h3, h4, h5, h6, h7, h8, h9⟩ := Cond.laysStatic_spec hl
  exact ⟨c, k, i, f, a, cell, h1, h2, h3, h4, h5, h6, h7, h8, h9, hA a (Array.getElem?_eq_some_iff.mp h5).1⟩
theorem vx_isRef {C n d : String} {v : Value} {A : Nat → Prop} {s : State} {args : Array Value} (h : va_Z C n d v A s s.heap) (hv : v.isRef = true) : (Cond.isRef (.static C n d)).before args s = true := by
  obtain ⟨cf, kf, fi, f, a, cell, h1, h2, h3, h4, h5, h6, h7, -⟩ := h
  have he : (Term.static C n d).eval args s none [] s = some v := by
    simp [Term.eval, State.fieldNamed?, h1, h2, h4, h5, h6, h7]
  simp only [Cond.before, Cond.holds, Cond.value, he]
  cases v <;> simp_all [Value.isRef]
theorem vx_isRefq {C n d : String} {A : Nat → Prop} {s : State} {args : Array Value} (h : va_Zq C n d A s s.heap) : (Cond.isRef (.static C n d)).before args s = true := by
  rcases h with h | ⟨t, h⟩
  · exact vx_isRef h rfl
  · exact vx_isRef h rfl
/-- the same frame, seen from here: as if the method were called anew in this heap -/
theorem vx_rebase {T : State} (X : Stand p l e R s m args below meth c T locs cells slots) {R' : Room} (hf : R'.frames ≤ R.frames) (hl : R'.locals ≤ R.locals) (hc : cells + R'.cells ≤ R.cells) (hs : slots + R'.slots ≤ R.slots) :
    Stand p l e R' ((T.setVm s.vm).setFrames (.invoking m args :: below)) m args below meth c T [] 0 0 := by
  have htop : (T.setVm s.vm).topJava?.isSome := X.here.top
  have hF : ((T.setVm s.vm).setFrames (.invoking m args :: below)).frames = .invoking m args :: below := State.frames_setFrames _ (State.cur_lt_of_top htop)
  obtain ⟨g₀, hg0⟩ := Option.isSome_iff_exists.mp htop
  obtain ⟨r, hr⟩ := State.topJava?_eq_some.mp hg0
  have hl9 : e.platform.stackLimits (T.setVm s.vm).me = e.platform.stackLimits s.me := X.limits
  have hb9 : (T.setVm s.vm).me.stackBytes = s.me.stackBytes := X.bytes
  refine ⟨X.admits, X.cas, X.clock, hF, ?_, X.hears, X.method, X.code, X.here, X.tail, X.warmed, ?_, ?_, ?_⟩
  · have h := X.room
    have hU : ((T.setVm s.vm).setFrames (.invoking m args :: below)).localsInUse = s.localsInUse := by
      rw [State.localsInUse_invoking hF (meth := meth) (c := c) X.method X.code, State.localsInUse_invoking X.frames X.method X.code]
    simp only [State.hasRoom, Bool.and_eq_true, decide_eq_true_eq] at h ⊢
    obtain ⟨⟨⟨⟨h1, h2, h3, h4, h5, h6⟩, h7⟩, h8⟩, h9⟩ := h
    rw [X.frames, List.length_cons] at h2 h3
    have q1 := X.heapSize
    have q2 := X.used
    simp only [hF, hU, List.length_cons, State.stackLimits_setFrames, State.stackBytes_setFrames, hl9, hb9]
    refine ⟨⟨⟨⟨by omega, by omega, by omega, by omega, by omega, h6⟩, ?_⟩, ?_⟩, X.book⟩
    · show T.heap.size + R'.cells ≤ e.platform.maxCells
      omega
    · show T.slotsUsed + R'.slots ≤ e.platform.maxSlots
      omega
  · rw [State.stackLimits_setFrames]; rfl
  · rw [State.stackBytes_setFrames]; rfl
  · refine ⟨?_, Nat.le_refl _, Nat.le_refl _, ?_, ?_, fun a c9 h9 => ⟨c9, h9, rfl, rfl, fun _ _ => rfl⟩⟩
    · obtain ⟨t, ht, -⟩ := State.frames_cons hr
      show T.setVm s.vm = { ((T.setVm s.vm).setFrames (.invoking m args :: below)).setFrames (T.setVm s.vm).frames with heap := T.heap, slotsUsed := T.slotsUsed }
      rw [State.setFrames_setFrames, State.setFrames_self ht]
      rfl
    · show T.slotsUsed = T.slotsUsed + ((T.heap.toList.drop T.heap.size).map (·.slots.size)).sum
      rw [List.drop_eq_nil_of_le (Nat.le_of_eq Array.length_toList)]
      rfl
    · show ((T.heap.toList.drop T.heap.size).map (·.slots.size)).sum ≤ 0
      rw [List.drop_eq_nil_of_le (Nat.le_of_eq Array.length_toList)]
      exact Nat.le_refl _
/-- 'throw new E()': new; dup; invokespecial; athrow -/
theorem vx_throw0 {cc : ByteArray} {pc : Nat} (hexec : p.tables.exec = Jvm.exec) (hb : c.code = cc) (hl : l.stackTraces = false) {own cls : String} {names : List String} {ik ic mc ms : Nat} {A : Nat → Prop}
    (hown : s.vm.findClass own = some m.cls) (hcls : Bundle.fit cls = true) (hnames : ∀ n ∈ names, Bundle.fit n = true)
    (hk : (Cond.classLink own ik cls).before args s = true) (hini : (Cond.initialized cls).before args s = true) (hat : ∀ w ∈ vx_at0 own ic cls names, w.before args s = true)
    (hgood : ∀ w ∈ Cond.classLink own ik cls :: Cond.initialized cls :: vx_at0 own ic cls names, vx_ot w = true)
    (hU : vx_Zq Bundle.tN "UNASSIGNED_STACK" Bundle.steD A s s.heap) (hN : vx_Zq Bundle.tN "SUPPRESSED_SENTINEL" Bundle.listD A s s.heap) (hS : va_S A s.heap H locs) (hsize : ls.size = c.maxLocals)
    (d0 : decode cc pc = .ok (.new ik, 3)) (d3 : decode cc (pc + 3) = .ok (.dup, 1)) (d4 : decode cc (pc + 4) = .ok (.invokespecial ic, 3)) (d7 : decode cc (pc + 7) = .ok (.athrow, 1))
    (hout : ∀ x ∈ c.exceptionTable.toList, covers x (pc + 7) = false)
    (hRframes : names.length + 3 < R.frames) (hRlocals : (rest.map fun v => v.category).sum + (13 * (names.length + 1) + 42) ≤ R.locals) (hRcells : cells + 1 ≤ R.cells) (hRslots : slots + 6 ≤ R.slots) (hlocks : meth.locks = false)
    (hx : ∀ t : State, s.vm.Alike t.vm → H.size ≤ t.heap.size → (∀ q : Nat, q < H.size → t.heap[q]? = H[q]?) → XC cls s t)
    (hf : ∀ z ∈ locs, free z.base) (hc : cells + 1 ≤ mc) (hs : slots + 6 ≤ ms) :
    W p l e R s m args below meth c H locs cells slots (vx_MQ below Qc XC args s mc ms free) (F0 m pc ls rest) := by
  intro T hT X
  have htr : e.platform.stackTraces = false := (show e.platform.stackTraces = l.stackTraces by rw [X.admits.platform]).trans hl
  have Y := vx_rebase X (R' := { frames := R.frames, locals := R.locals, cells := 1, slots := 6 }) (Nat.le_refl _) (Nat.le_refl _) hRcells hRslots
  obtain ⟨s', hA⟩ : ∃ z, z = (T.setVm s.vm).setFrames (.invoking m args :: below) := ⟨_, rfl⟩
  rw [← hA] at Y
  have hvm : s'.vm = s.vm := by rw [hA]; rfl
  have hhp : s'.heap = H := by rw [hA]; exact hT
  have hW0 : s.WarmedH s'.vm := by rw [hvm]; exact State.WarmedH.refl s
  have hat' : ∀ w ∈ vx_at0 own ic cls names, w.before args s' = true := fun w hw => vx_ot_at hW0 hvm.symm (hgood w (List.mem_cons_of_mem _ (List.mem_cons_of_mem _ hw))) (hat w hw)
  have hk' : (Cond.classLink own ik cls).before args s' = true := vx_ot_at hW0 hvm.symm (hgood _ List.mem_cons_self) hk
  have hini' : (Cond.initialized cls).before args s' = true := vx_ot_at hW0 hvm.symm (hgood _ (List.mem_cons_of_mem _ List.mem_cons_self)) hini
  have hU' : vx_Zq Bundle.tN "UNASSIGNED_STACK" Bundle.steD A s' s'.heap := by rw [hhp]; exact vx_Zq.moved hW0.alike (hU.kept hS.2.1)
  have hN' : vx_Zq Bundle.tN "SUPPRESSED_SENTINEL" Bundle.listD A s' s'.heap := by rw [hhp]; exact vx_Zq.moved hW0.alike (hN.kept hS.2.1)
  have h : ∀ w ∈ Bundle.ownAtoms0 own ic cls names, w.before args s' = true := vx_own hat' (vx_isRefq hU'.1) (vx_isRefq hN'.1) hU'.2.word hN'.2.word
  have hown' : s'.vm.findClass own = some m.cls := by rw [hvm]; exact hown
  have hins : (Cond.instantiable cls 6).before args s' = true := h _ (by simp [Bundle.ownAtoms0])
  obtain ⟨vm₁, cX, kX, hfX, hkX, -, -, X₁, st1⟩ := Y.newCold hexec (own := own) (C := cls) (index := ik) (n := 6) hown' hk' hins hini'
    (g := F0 m pc ls rest) rfl (by rw [hb]; exact d0) (Nat.le_refl _) (Nat.le_refl _)
  generalize hT1 : (T.setVm vm₁).pushCell { cls := cX, slots := kX.instanceTypes.map defaultValue, vm := .none } = T1 at X₁ st1
  have hcat : (Value.ref T.heap.size).category = 1 := rfl
  have hcellA : T1.heap[T.heap.size]? = some (freshCell cX kX) := by rw [← hT1]; exact State.heap_pushCell_size _ _
  have d3' : decode c.code (pc + 3) = .ok (.dup, 1) := by rw [hb]; exact d3
  obtain ⟨U, hsteps, hrun, hend, hW, hsame, ce, hce, hO⟩ := X₁.ctorThrow0 hexec htr (own := own) (cls := cls) (names := names) (ic := ic) hown' hcls hnames h (fun x hx => nomatch hx) hfX hkX hcellA (by rw [hhp, hT]; exact Nat.le_refl _)
    (g := { method := m, pc := pc + 4, locals := ls, stack := .ref T.heap.size :: .ref T.heap.size :: rest, locked := none }) rfl hsize rfl rfl (rest := rest) rfl
    (by rw [hb]; exact d4) (by rw [hb]; exact d7) hout hRframes (by simp only [List.map_cons, List.sum_cons, hcat]; omega) hlocks
  obtain ⟨f1, f2⟩ := vx_frame hsame
  rw [hhp] at f1 f2
  have hWs : s.WarmedH U.vm := State.WarmedH.trans hW0 hW
  have hcl : s.vm.findClass cls = some ce.cls := by
    have h9 := hO.cls
    rw [hvm] at h9
    exact h9
  have hall : s.sameButNew ({ U with vm := s.vm } : State) locs mc ms := by
    subst hA
    obtain ⟨e1, e2⟩ := hsame
    rw [State.setFrames_setFrames] at e1
    have h2 : (T.setVm s.vm).sameButNew ({ U with vm := s.vm } : State) [] (0 + 1) (0 + 6) := ⟨e1, e2⟩
    have h3 := X.same.trans h2
    rw [List.append_nil] at h3
    exact h3.mono hc hs
  refine ⟨U, ?_, .threw T.heap.size, hrun, hend, Or.inr ⟨T.heap.size, rfl, cls, ce, locs, hx U hWs.alike f1 (fun q hq => f2 q hq (fun z hz => nomatch hz)), hce, hO.vm, hcl, hWs, hall, hf⟩⟩
  refine st1 _ ?_
  show Steps p.tables e below (T1.setTop { method := m, pc := pc + 3, locals := ls, stack := .ref T.heap.size :: rest, locked := none }) _
  jvm_step X₁.here [X₁.here.top, hexec, d3', Value.category]
  exact hsteps
/-- 'throw new E("text")': new; dup; ldc; invokespecial; athrow -/
theorem vx_throwS {cc : ByteArray} {pc : Nat} (hexec : p.tables.exec = Jvm.exec) (hb : c.code = cc) (hl : l.stackTraces = false) {own cls text : String} {names : List String} {ik is ic mc ms sa : Nat} {A : Nat → Prop}
    (hown : s.vm.findClass own = some m.cls) (hcls : Bundle.fit cls = true) (hnames : ∀ n ∈ names, Bundle.fit n = true)
    (hk : (Cond.classLink own ik cls).before args s = true) (hini : (Cond.initialized cls).before args s = true) (hstr : vk_R own is text sa s) (hat : ∀ w ∈ vx_atS own ic cls names, w.before args s = true)
    (hgood : ∀ w ∈ Cond.classLink own ik cls :: Cond.initialized cls :: vx_atS own ic cls names, vx_ot w = true)
    (hU : vx_Zq Bundle.tN "UNASSIGNED_STACK" Bundle.steD A s s.heap) (hN : vx_Zq Bundle.tN "SUPPRESSED_SENTINEL" Bundle.listD A s s.heap) (hS : va_S A s.heap H locs) (hsize : ls.size = c.maxLocals)
    (d0 : decode cc pc = .ok (.new ik, 3)) (d3 : decode cc (pc + 3) = .ok (.dup, 1)) (d4 : decode cc (pc + 4) = .ok (.ldc is, 2)) (d6 : decode cc (pc + 6) = .ok (.invokespecial ic, 3)) (d9 : decode cc (pc + 9) = .ok (.athrow, 1))
    (hout : ∀ x ∈ c.exceptionTable.toList, covers x (pc + 9) = false)
    (hRframes : names.length + 3 < R.frames) (hRlocals : (rest.map fun v => v.category).sum + (13 * (names.length + 1) + 43) ≤ R.locals) (hRcells : cells + 1 ≤ R.cells) (hRslots : slots + 6 ≤ R.slots) (hlocks : meth.locks = false)
    (hx : ∀ t : State, s.vm.Alike t.vm → H.size ≤ t.heap.size → (∀ q : Nat, q < H.size → t.heap[q]? = H[q]?) → XC cls s t)
    (hf : ∀ z ∈ locs, free z.base) (hc : cells + 1 ≤ mc) (hs : slots + 6 ≤ ms) :
    W p l e R s m args below meth c H locs cells slots (vx_MQ below Qc XC args s mc ms free) (F0 m pc ls rest) := by
  intro T hT X
  have htr : e.platform.stackTraces = false := (show e.platform.stackTraces = l.stackTraces by rw [X.admits.platform]).trans hl
  have Y := vx_rebase X (R' := { frames := R.frames, locals := R.locals, cells := 1, slots := 6 }) (Nat.le_refl _) (Nat.le_refl _) hRcells hRslots
  obtain ⟨s', hA⟩ : ∃ z, z = (T.setVm s.vm).setFrames (.invoking m args :: below) := ⟨_, rfl⟩
  rw [← hA] at Y
  have hvm : s'.vm = s.vm := by rw [hA]; rfl
  have hhp : s'.heap = H := by rw [hA]; exact hT
  have hW0 : s.WarmedH s'.vm := by rw [hvm]; exact State.WarmedH.refl s
  have hat' : ∀ w ∈ vx_atS own ic cls names, w.before args s' = true := fun w hw => vx_ot_at hW0 hvm.symm (hgood w (List.mem_cons_of_mem _ (List.mem_cons_of_mem _ hw))) (hat w hw)
  have hk' : (Cond.classLink own ik cls).before args s' = true := vx_ot_at hW0 hvm.symm (hgood _ List.mem_cons_self) hk
  have hini' : (Cond.initialized cls).before args s' = true := vx_ot_at hW0 hvm.symm (hgood _ (List.mem_cons_of_mem _ List.mem_cons_self)) hini
  have hU' : vx_Zq Bundle.tN "UNASSIGNED_STACK" Bundle.steD A s' s'.heap := by rw [hhp]; exact vx_Zq.moved hW0.alike (hU.kept hS.2.1)
  have hN' : vx_Zq Bundle.tN "SUPPRESSED_SENTINEL" Bundle.listD A s' s'.heap := by rw [hhp]; exact vx_Zq.moved hW0.alike (hN.kept hS.2.1)
  have h : ∀ w ∈ Bundle.ownAtoms own ic cls names, w.before args s' = true := vx_own hat' (vx_isRefq hU'.1) (vx_isRefq hN'.1) hU'.2.word hN'.2.word
  have hown' : s'.vm.findClass own = some m.cls := by rw [hvm]; exact hown
  have hins : (Cond.instantiable cls 6).before args s' = true := h _ (by simp [Bundle.ownAtoms])
  obtain ⟨vm₁, cX, kX, hfX, hkX, -, -, X₁, st1⟩ := Y.newCold hexec (own := own) (C := cls) (index := ik) (n := 6) hown' hk' hins hini'
    (g := F0 m pc ls rest) rfl (by rw [hb]; exact d0) (Nat.le_refl _) (Nat.le_refl _)
  generalize hT1 : (T.setVm vm₁).pushCell { cls := cX, slots := kX.instanceTypes.map defaultValue, vm := .none } = T1 at X₁ st1
  have hcat : (Value.ref T.heap.size).category = 1 := rfl
  have hcellA : T1.heap[T.heap.size]? = some (freshCell cX kX) := by rw [← hT1]; exact State.heap_pushCell_size _ _
  have d3' : decode c.code (pc + 3) = .ok (.dup, 1) := by rw [hb]; exact d3
  have d4' : decode c.code (pc + 4) = .ok (.ldc is, 2) := by rw [hb]; exact d4
  have hstr' : vk_R own is text sa s' := vk_R.warm hW0 hstr
  obtain ⟨U, hsteps, hrun, hend, hW, hsame, ce, hce, hO⟩ := X₁.ctorThrowS hexec htr (own := own) (cls := cls) (names := names) (ic := ic) hown' hcls hnames h (fun x hx => nomatch hx) hfX hkX hcellA (by rw [hhp, hT]; exact Nat.le_refl _) (msg := .ref sa) rfl
    (g := { method := m, pc := pc + 6, locals := ls, stack := .ref sa :: .ref T.heap.size :: .ref T.heap.size :: rest, locked := none }) rfl hsize rfl rfl (rest := rest) rfl
    (by rw [hb]; exact d6) (by rw [hb]; exact d9) hout hRframes (by simp only [List.map_cons, List.sum_cons, hcat]; omega) hlocks
  obtain ⟨f1, f2⟩ := vx_frame hsame
  rw [hhp] at f1 f2
  have hWs : s.WarmedH U.vm := State.WarmedH.trans hW0 hW
  have hcl : s.vm.findClass cls = some ce.cls := by
    have h9 := hO.cls
    rw [hvm] at h9
    exact h9
  have hall : s.sameButNew ({ U with vm := s.vm } : State) locs mc ms := by
    subst hA
    obtain ⟨e1, e2⟩ := hsame
    rw [State.setFrames_setFrames] at e1
    have h2 : (T.setVm s.vm).sameButNew ({ U with vm := s.vm } : State) [] (0 + 1) (0 + 6) := ⟨e1, e2⟩
    have h3 := X.same.trans h2
    rw [List.append_nil] at h3
    exact h3.mono hc hs
  refine ⟨U, ?_, .threw T.heap.size, hrun, hend, Or.inr ⟨T.heap.size, rfl, cls, ce, locs, hx U hWs.alike f1 (fun q hq => f2 q hq (fun z hz => nomatch hz)), hce, hO.vm, hcl, hWs, hall, hf⟩⟩
  refine st1 _ ?_
  show Steps p.tables e below (T1.setTop { method := m, pc := pc + 3, locals := ls, stack := .ref T.heap.size :: rest, locked := none }) _
  jvm_step X₁.here [X₁.here.top, hexec, d3', Value.category]
  exact X₁.ldcString hexec (own := own) (text := text) (index := is) (a := sa) hown' hstr'.1 hstr'.2
    (g := { method := m, pc := pc + 4, locals := ls, stack := .ref T.heap.size :: .ref T.heap.size :: rest, locked := none }) rfl d4' _ hsteps
/-- 'throw new E("text")', the text by a wide index -/
theorem vx_throwSW {cc : ByteArray} {pc : Nat} (hexec : p.tables.exec = Jvm.exec) (hb : c.code = cc) (hl : l.stackTraces = false) {own cls text : String} {names : List String} {ik is ic mc ms sa : Nat} {A : Nat → Prop}
    (hown : s.vm.findClass own = some m.cls) (hcls : Bundle.fit cls = true) (hnames : ∀ n ∈ names, Bundle.fit n = true)
    (hk : (Cond.classLink own ik cls).before args s = true) (hini : (Cond.initialized cls).before args s = true) (hstr : vk_R own is text sa s) (hat : ∀ w ∈ vx_atS own ic cls names, w.before args s = true)
    (hgood : ∀ w ∈ Cond.classLink own ik cls :: Cond.initialized cls :: vx_atS own ic cls names, vx_ot w = true)
    (hU : vx_Zq Bundle.tN "UNASSIGNED_STACK" Bundle.steD A s s.heap) (hN : vx_Zq Bundle.tN "SUPPRESSED_SENTINEL" Bundle.listD A s s.heap) (hS : va_S A s.heap H locs) (hsize : ls.size = c.maxLocals)
    (d0 : decode cc pc = .ok (.new ik, 3)) (d3 : decode cc (pc + 3) = .ok (.dup, 1)) (d4 : decode cc (pc + 4) = .ok (.ldc_w is, 3)) (d7 : decode cc (pc + 7) = .ok (.invokespecial ic, 3)) (d10 : decode cc (pc + 10) = .ok (.athrow, 1))
    (hout : ∀ x ∈ c.exceptionTable.toList, covers x (pc + 10) = false)
    (hRframes : names.length + 3 < R.frames) (hRlocals : (rest.map fun v => v.category).sum + (13 * (names.length + 1) + 43) ≤ R.locals) (hRcells : cells + 1 ≤ R.cells) (hRslots : slots + 6 ≤ R.slots) (hlocks : meth.locks = false)
    (hx : ∀ t : State, s.vm.Alike t.vm → H.size ≤ t.heap.size → (∀ q : Nat, q < H.size → t.heap[q]? = H[q]?) → XC cls s t)
    (hf : ∀ z ∈ locs, free z.base) (hc : cells + 1 ≤ mc) (hs : slots + 6 ≤ ms) :
    W p l e R s m args below meth c H locs cells slots (vx_MQ below Qc XC args s mc ms free) (F0 m pc ls rest) := by
  intro T hT X
  have htr : e.platform.stackTraces = false := (show e.platform.stackTraces = l.stackTraces by rw [X.admits.platform]).trans hl
  have Y := vx_rebase X (R' := { frames := R.frames, locals := R.locals, cells := 1, slots := 6 }) (Nat.le_refl _) (Nat.le_refl _) hRcells hRslots
  obtain ⟨s', hA⟩ : ∃ z, z = (T.setVm s.vm).setFrames (.invoking m args :: below) := ⟨_, rfl⟩
  rw [← hA] at Y
  have hvm : s'.vm = s.vm := by rw [hA]; rfl
  have hhp : s'.heap = H := by rw [hA]; exact hT
  have hW0 : s.WarmedH s'.vm := by rw [hvm]; exact State.WarmedH.refl s
  have hat' : ∀ w ∈ vx_atS own ic cls names, w.before args s' = true := fun w hw => vx_ot_at hW0 hvm.symm (hgood w (List.mem_cons_of_mem _ (List.mem_cons_of_mem _ hw))) (hat w hw)
  have hk' : (Cond.classLink own ik cls).before args s' = true := vx_ot_at hW0 hvm.symm (hgood _ List.mem_cons_self) hk
  have hini' : (Cond.initialized cls).before args s' = true := vx_ot_at hW0 hvm.symm (hgood _ (List.mem_cons_of_mem _ List.mem_cons_self)) hini
  have hU' : vx_Zq Bundle.tN "UNASSIGNED_STACK" Bundle.steD A s' s'.heap := by rw [hhp]; exact vx_Zq.moved hW0.alike (hU.kept hS.2.1)
  have hN' : vx_Zq Bundle.tN "SUPPRESSED_SENTINEL" Bundle.listD A s' s'.heap := by rw [hhp]; exact vx_Zq.moved hW0.alike (hN.kept hS.2.1)
  have h : ∀ w ∈ Bundle.ownAtoms own ic cls names, w.before args s' = true := vx_own hat' (vx_isRefq hU'.1) (vx_isRefq hN'.1) hU'.2.word hN'.2.word
  have hown' : s'.vm.findClass own = some m.cls := by rw [hvm]; exact hown
  have hins : (Cond.instantiable cls 6).before args s' = true := h _ (by simp [Bundle.ownAtoms])
  obtain ⟨vm₁, cX, kX, hfX, hkX, -, -, X₁, st1⟩ := Y.newCold hexec (own := own) (C := cls) (index := ik) (n := 6) hown' hk' hins hini'
    (g := F0 m pc ls rest) rfl (by rw [hb]; exact d0) (Nat.le_refl _) (Nat.le_refl _)
  generalize hT1 : (T.setVm vm₁).pushCell { cls := cX, slots := kX.instanceTypes.map defaultValue, vm := .none } = T1 at X₁ st1
  have hcat : (Value.ref T.heap.size).category = 1 := rfl
  have hcellA : T1.heap[T.heap.size]? = some (freshCell cX kX) := by rw [← hT1]; exact State.heap_pushCell_size _ _
  have d3' : decode c.code (pc + 3) = .ok (.dup, 1) := by rw [hb]; exact d3
  have d4' : decode c.code (pc + 4) = .ok (.ldc_w is, 3) := by rw [hb]; exact d4
  have hstr' : vk_R own is text sa s' := vk_R.warm hW0 hstr
  obtain ⟨U, hsteps, hrun, hend, hW, hsame, ce, hce, hO⟩ := X₁.ctorThrowS hexec htr (own := own) (cls := cls) (names := names) (ic := ic) hown' hcls hnames h (fun x hx => nomatch hx) hfX hkX hcellA (by rw [hhp, hT]; exact Nat.le_refl _) (msg := .ref sa) rfl
    (g := { method := m, pc := pc + 7, locals := ls, stack := .ref sa :: .ref T.heap.size :: .ref T.heap.size :: rest, locked := none }) rfl hsize rfl rfl (rest := rest) rfl
    (by rw [hb]; exact d7) (by rw [hb]; exact d10) hout hRframes (by simp only [List.map_cons, List.sum_cons, hcat]; omega) hlocks
  obtain ⟨f1, f2⟩ := vx_frame hsame
  rw [hhp] at f1 f2
  have hWs : s.WarmedH U.vm := State.WarmedH.trans hW0 hW
  have hcl : s.vm.findClass cls = some ce.cls := by
    have h9 := hO.cls
    rw [hvm] at h9
    exact h9
  have hall : s.sameButNew ({ U with vm := s.vm } : State) locs mc ms := by
    subst hA
    obtain ⟨e1, e2⟩ := hsame
    rw [State.setFrames_setFrames] at e1
    have h2 : (T.setVm s.vm).sameButNew ({ U with vm := s.vm } : State) [] (0 + 1) (0 + 6) := ⟨e1, e2⟩
    have h3 := X.same.trans h2
    rw [List.append_nil] at h3
    exact h3.mono hc hs
  refine ⟨U, ?_, .threw T.heap.size, hrun, hend, Or.inr ⟨T.heap.size, rfl, cls, ce, locs, hx U hWs.alike f1 (fun q hq => f2 q hq (fun z hz => nomatch hz)), hce, hO.vm, hcl, hWs, hall, hf⟩⟩
  refine st1 _ ?_
  show Steps p.tables e below (T1.setTop { method := m, pc := pc + 3, locals := ls, stack := .ref T.heap.size :: rest, locked := none }) _
  jvm_step X₁.here [X₁.here.top, hexec, d3', Value.category]
  exact X₁.ldcStringW hexec (own := own) (text := text) (index := is) (a := sa) hown' hstr'.1 hstr'.2
    (g := { method := m, pc := pc + 4, locals := ls, stack := .ref T.heap.size :: .ref T.heap.size :: rest, locked := none }) rfl d4' _ hsteps
end Ends
section Bodies
variable {l : Launch}
theorem vx_ofW {y : MethodName} {ws ws' : List Cond} {rm : Room} {Pc : Array Value → State → Prop} {Qc : Array Value → State → Outcome → State → Prop} {XC : String → State → State → Prop} {mc ms : Nat} {free : Addr → Prop} {cc : ByteArray} {maxL : Nat} {ret : Option FieldType}
    (hy : plainName y.cls = true) (hw : ws = Cond.code y cc maxL ret :: ws')
    (body : ∀ p e s m args below meth c s₁, BodyLoose p l y (headSpec ws rm) cc maxL ret e s m args below meth c s₁ → c.maxLocals = maxL → (∀ x ∈ c.exceptionTable.toList, False) → Pc args s →
      W p l e (headSpec ws rm).room s m args below meth c s.heap [] 0 0 (vx_MQ below Qc XC args s mc ms free) (entryFrame m args maxL)) : vx_Met l y ws rm Pc Qc XC mc ms free := by
  refine MetFree.of_bodyS (code := cc) (maxLocals := maxL) (ret := ret) hy ?_ ?_
  · intro args s m h hn
    obtain ⟨meth, c, h1, h2, h3, h4, h5, h6, -, -⟩ := Cond.code_spec hn (atoms_spec (ws := ws) h _ (by rw [hw]; exact List.mem_cons_self))
    exact ⟨meth, c, h1, h2, h3, h4, h5, h6⟩
  · intro p e s m args below meth c s₁ B hml hP _
    have hh0 : s₁.heap = s.heap := by rw [B.state]; rfl
    have ht : ∀ x ∈ c.exceptionTable.toList, False := by
      obtain ⟨meth9, c9, h1, h2, -, -, -, -, h7, -⟩ := Cond.code_spec B.named (atoms_spec (ws := ws) B.pre _ (by rw [hw]; exact List.mem_cons_self))
      cases Option.some.inj (h1.symm.trans B.method)
      cases Option.some.inj (h2.symm.trans (Stand.of_body B).code)
      intro x hx
      rw [Array.isEmpty_iff.mp h7] at hx
      cases hx
    obtain ⟨t, a1, o, b1, b2, b3⟩ := body p e s m args below meth c s₁ B hml ht hP s₁ hh0 (Stand.of_body B)
    exact ⟨t, o, a1, b1, b2, b3⟩
/-- the table of a body with handlers -/
theorem vx_table {p : Program} {x y : MethodName} {S : Spec} {cc bytes : ByteArray} {maxL maxL' : Nat} {ret ret' : Option FieldType} {e : Env} {s s₁ : State} {m : MethodId} {args : Array Value} {below : List Frame} {meth : Method} {c : Code} {hh : List (Nat × Nat × Nat × Nat)}
    (B : BodyLoose p l y S cc maxL ret e s m args below meth c s₁) (h : (Cond.codeWith y bytes maxL' ret' hh).before args s = true) : c.exceptionTable.toList = tableOf hh := by
  obtain ⟨m9, meth9, c9, hn9, h1, h2, -, -, h6, -⟩ := Cond.codeWith_spec h
  cases Option.some.inj (hn9.symm.trans B.named)
  cases Option.some.inj (h1.symm.trans B.method)
  cases Option.some.inj (h2.symm.trans (Stand.of_body B).code)
  rw [← h6, table_eq]
end Bodies
end VXA
/-! ===== END ===== -/
/-! ===== BEGIN a static call of a method with an exception table ===== -/
section VXS
variable {p : Program} {l : Launch} {e : Env} {R : Room} {s : State} {m : MethodId} {args : Array Value} {below : List Frame} {meth : Method} {c : Code} {T : State} {H : Heap} {locs : List Loc} {cells slots : Nat}
abbrev vx_CSW (R : Room) (s : State) (args : Array Value) (own : String) (index : Nat) (y : MethodName) (bytes : ByteArray) (maxL : Nat) (ret : Option FieldType) (hh : List (Nat × Nat × Nat × Nat)) (ws : List Cond) (rm : Room) (mc ms n : Nat) : Prop :=
  (rm.cells = mc ∧ rm.slots = ms ∧ rm.frames + 1 ≤ R.frames ∧ 8 + (maxL + 11) + rm.locals ≤ R.locals ∧ (∀ w ∈ ws, ∀ (a' : Array Value) (U : State), s.WarmedH U.vm → w.before a' U = true) ∧ Cond.codeWith y bytes maxL ret hh ∈ ws) ∧
  (Cond.codeWith y bytes maxL ret hh).before args s = true ∧ (Cond.initialized y.cls).before args s = true ∧ (y.cls ≠ "java/lang/invoke/MethodHandle" ∧ y.cls ≠ "java/lang/invoke/VarHandle") ∧
  (∀ sig, parseMethodDescriptor y.desc = some sig → n = sig.parameters.length) ∧ (Cond.methodLink own index y).before args s = true ∧ (Cond.static y).before args s = true
theorem vx_cwSW {own : String} {index maxL mc ms : Nat} {y : MethodName} {bytes : ByteArray} {ret : Option FieldType} {hh : List (Nat × Nat × Nat × Nat)} {Ts ws ws' : List Cond} {rm : Room} (n : Nat) (ht : ∀ w ∈ Ts, w.before args s = true) (hT : GoodIn Ts (va_wsS own index y ws)) (hw : ws = Cond.codeWith y bytes maxL ret hh :: ws') (hrc : rm.cells = mc) (hrs : rm.slots = ms)
    (hd : y.cls ≠ "java/lang/invoke/MethodHandle" ∧ y.cls ≠ "java/lang/invoke/VarHandle" ∧ (parseMethodDescriptor y.desc).map (fun d => d.parameters.length) = some n) (hR : rm.frames + 1 ≤ R.frames ∧ 8 + (maxL + 11) + rm.locals ≤ R.locals) :
    vx_CSW R s args own index y bytes maxL ret hh ws rm mc ms n := by
  have ok : ∀ w ∈ va_wsS own index y ws, w.before args s = true := fun w h => ht w (hT w h).1
  have hG : GoodIn Ts ws := fun w h => hT w (by unfold va_wsS; exact List.mem_append_right _ h)
  have hc : Cond.codeWith y bytes maxL ret hh ∈ ws := by rw [hw]; exact List.mem_cons_self
  refine ⟨⟨hrc, hrs, hR.1, hR.2, pay_in ht hG, hc⟩, ht _ (hG _ hc).1, ok _ (by simp [va_wsS]), ⟨hd.1, hd.2.1⟩, fun sig h => ?_, ok _ (by simp [va_wsS]), ok _ (by simp [va_wsS])⟩
  have h2 := hd.2.2
  rw [h] at h2
  exact (Option.some.inj h2).symm
theorem vx_callSW (X : Stand p l e R s m args below meth c T locs cells slots) (hexec : p.tables.exec = Jvm.exec) {own : String} {index : Nat} {y : MethodName} {bytes : ByteArray} {maxL : Nat} {ret : Option FieldType} {hh : List (Nat × Nat × Nat × Nat)}
    (hown : s.vm.findClass own = some m.cls) (hlink : (Cond.methodLink own index y).before args s = true) (hstat : (Cond.static y).before args s = true) (hinit : (Cond.initialized y.cls).before args s = true)
    (hcode : (Cond.codeWith y bytes maxL ret hh).before args s = true) (hy : y.cls ≠ "java/lang/invoke/MethodHandle" ∧ y.cls ≠ "java/lang/invoke/VarHandle")
    {W9 : Nat} {Pre : Pt → Array Value → Prop} {Post : Pt → Array Value → Option Value → Pt → Prop} (hK : Back l R p e below s args y 3 W9 Pre Post)
    {g : JFrame} (hg : g.method = m) (hsize : g.locals.size = c.maxLocals) {argsL rest : List Value} (hlen : ∀ sig, parseMethodDescriptor y.desc = some sig → argsL.length = sig.parameters.length)
    (hstack : g.stack = argsL.reverse ++ rest) (hW : 2 * g.monitorRoom + (rest.map fun v => v.category).sum ≤ W9) (hdg : decode c.code g.pc = .ok (.invokestatic index, 3))
    (hpre : ∀ vm₁, s.WarmedH vm₁ → Pre ⟨T.setVm vm₁, locs, cells, slots⟩ argsL.toArray) :
    ∃ (v : Option Value) (vm₁ : Vm) (B : Pt), s.WarmedH vm₁ ∧ Stand p l e R s m args below meth c B.U B.locs B.cells B.slots ∧ Post ⟨T.setVm vm₁, locs, cells, slots⟩ argsL.toArray v B ∧
      ∀ target, Steps p.tables e below (B.U.setTop { g with pc := g.pc + 3, stack := v.toList ++ rest }) target → Steps p.tables e below (T.setTop g) target := by
  obtain ⟨mk, methM, cM, hnamed, hmethM, -, -, -, -, -, -, hsigM⟩ := Cond.codeWith_spec hcode
  have hstatic : methM.isStatic = true := Cond.static_spec hnamed hmethM hstat
  obtain ⟨kP, hkP, -⟩ := className_of_methodNamed hnamed
  have hinitP : kP.init = .initialized := Cond.initialized_spec (findClass_of_methodNamed hnamed) hkP hinit
  obtain ⟨vm₁, X₁, hstep₁⟩ := X.invokestatic hexec hown hlink hnamed hmethM hstatic hkP hinitP hy (g := g) hg (argsL := argsL) (rest := rest) (hlen _ hsigM) hstack hdg
  obtain ⟨v, B, X', hpost, hsteps⟩ := hK m meth c ⟨T.setVm vm₁, locs, cells, slots⟩ { g with stack := rest } (.invokestatic index) mk argsL.toArray X₁ hg hsize hdg hW (X₁.named hnamed) (hpre vm₁ X₁.warmed)
  exact ⟨v, vm₁, B, X₁.warmed, X', hpost, fun target h => hstep₁ _ fun acts => by rw [doInvoke_state]; exact hsteps.trans h⟩
theorem vx_runSW {y : MethodName} {bytes cc : ByteArray} {maxL nL mc ms n index : Nat} {ret : Option FieldType} {hh : List (Nat × Nat × Nat × Nat)} {ws : List Cond} {rm : Room} {Pc : Array Value → State → Prop} {Qc : Array Value → State → Outcome → State → Prop} {free : Addr → Prop} {Ts : List Cond} {own : String} {As rest : List Value} {g : JFrame}
    (S : CallFix p m c cc nL s args Ts own) (hM : Met l y ws rm Pc Qc mc ms free) (cw : vx_CSW R s args own index y bytes maxL ret hh ws rm mc ms n) (hp : PreS s H Pc As)
    (hg : g.method = m) (hn : As.length = n) (hsize : g.locals.size = nL) (hstack : g.stack = As.reverse ++ rest) (hW : 2 * g.monitorRoom + (rest.map fun v => v.category).sum ≤ 8) (hdg : decode cc g.pc = .ok (.invokestatic index, 3)) (hf : cells + mc ≤ R.cells ∧ slots + ms ≤ R.slots) :
    va_Run p l e R s m args below meth c H locs cells slots mc ms g rest (Qc As.toArray) (free) := by
  obtain ⟨⟨hrc, hrs, hfr, hlo, hws, hcw⟩, hcode, hini, hy, hlen, hl, hstt⟩ := cw
  have hK : Back l R p e below s args y 3 8 (PreOf R mc ms Pc) (PostOf Qc mc ms free) := va_backW (hh := hh) (bytes := bytes) (maxL := maxL) (ret := ret) hM hp.1 hrc hrs hfr hlo hws hcw (fun a' U hW => word_at hW (Or.inl (by first | rfl | simp [Cond.onTables, Cond.keeps, Cond.steady])) hini)
  obtain ⟨hx, hb, hml, ho, -⟩ := S
  intro T hT X
  obtain ⟨v, vm₁, ⟨U', l2, c2, s2⟩, hW₁, X', ⟨g', mk, t, L, e1, e2, hq, h1, hL, h2, h3⟩, st⟩ := vx_callSW X hx (hh := hh) (bytes := bytes) (maxL := maxL) (ret := ret) ho hl hstt hini hcode hy hK hg (hsize.trans hml.symm) (argsL := As) (rest := rest) (fun sig h => hn.trans (hlen sig h)) hstack hW (by rw [hb]; exact hdg)
    (fun vm₁ hW₁ => ⟨hf.1, hf.2, hp.2 (T.setVm vm₁) hT hW₁⟩)
  dsimp only [Pt.U, Pt.locs, Pt.cells, Pt.slots] at X' e1 e2 h1 h2 h3 st
  subst h1; subst h2; subst h3
  exact ⟨v, (T.setVm vm₁).calling g' mk As.toArray, t, U', L, hT, X', hL, e1, e2, hq, st⟩
/-- not caught here, past rows that name other classes: it goes on to the caller -/
theorem vx_outP {p : Program} {l : Launch} {e : Env} {R : Room} {s : State} {m : MethodId} {args : Array Value} {below : List Frame} {meth : Method} {c : Code} {H : Heap} {locs : List Loc} {cells slots : Nat} {free : Addr → Prop} {ls : Array Slot} {rest : List Value} {Qc : Array Value → State → Outcome → State → Prop} {XC : String → State → State → Prop}
    {pc : Nat} {own E : String} {ce : Cell} {q : Addr} {mc ms : Nat} (hown : s.vm.findClass own = some m.cls) (hlocks : meth.locks = false)
    (hpass : ∀ z ∈ c.exceptionTable.toList, covers z pc = false ∨ (z.catchType ≠ 0 ∧ ∃ nm : String, (Cond.classLink own z.catchType nm).before args s = true ∧ va_Nc E nm s)) (hcell : H[q]? = some ce) (hv : ce.vm = .none) (hcl : s.vm.findClass E = some ce.cls)
    (hx : ∀ t : State, t.heap = H → s.vm.Alike t.vm → XC E s t) (hf : ∀ z ∈ locs, free z.base) (hc : cells ≤ mc) (hs : slots ≤ ms) :
    vx_W p l e R s m args below meth c H locs cells slots (vx_MQ below Qc XC args s mc ms free) (F0 m pc ls rest) q := by
  intro T hT X
  have hpl : e.platform.magicAccessors = ({} : Platform).magicAccessors := by rw [X.admits.platform]
  obtain ⟨vm', hW', X', st⟩ := X.outThrough hlocks q (g := F0 m pc ls rest) rfl rfl rfl (cell := ce) (by rw [hT]; exact hcell) (by rw [hv]; rfl)
    (by obtain ⟨k9, h9, -⟩ := Vm.findClass_spec hcl; exact ⟨k9, h9⟩) (fun z hz => by
      rcases hpass z hz with h | ⟨hz0, nm, hl1, hn1⟩
      · exact Or.inl h
      · obtain ⟨c6, hc6, hcl6⟩ := Cond.classLink_spec hown hl1 e.platform hpl
        obtain ⟨a8, b8, h1, h2, h3⟩ := hn1
        cases Option.some.inj (h1.symm.trans hcl)
        cases Option.some.inj (h2.symm.trans hc6)
        exact Or.inr ⟨hz0, _, hcl6, h3⟩)
  obtain ⟨g₀, hfr⟩ := X'.frames_eq
  have hcell9 : ((T.setVm vm').setFrames (.throwing q :: below)).heap[q]? = some ce := by
    show T.heap[q]? = some ce
    rw [hT]; exact hcell
  have hend : Ended ((T.setVm vm').setFrames (.throwing q :: below)) below (.threw q) := State.frames_setFrames _ (State.cur_lt_of_frames hfr)
  refine ⟨(T.setVm vm').setFrames (.throwing q :: below), ?_, .threw q, X'.here.running, hend, Or.inr ⟨q, rfl, E, ce, locs, hx _ hT (X'.ends _).1.alike, hcell9, hv, hcl, (X'.ends _).1, (X'.ends _).2.mono hc hs, hf⟩⟩
  rw [X.pushThrowing_eq]
  exact st
/-- a thing of a world lies in the heap -/
theorem vx_lt {D : va_G} {cl : List vw_C} {ws : va_W} {H1 : Heap} (h : va_P D cl ws H1) {k : Nat} {q : Nat × va_E} (hk : ws[k]? = some q) : q.1 < H1.size := (h k q hk).lt
end VXS
/-! ===== END ===== -/
/-! ===== BEGIN methods with a table of their own: called by a name, returning or throwing ===== -/
section VXH
/-! vx_backW, vx_callVX, vx_callSX, vx_callVW, vx_runVW, vx_runVX, vx_runSX, vx_ofWH follow the same proofs as their sisters above (Free/Laws.lean, Shelf42/LK1.lean); vx_outP calls Shelf42/NT130.lean (outThrough). -/
section
variable {l : Launch} {R : Room} {p : Program} {e : Env} {below : List Frame} {s : State} {sargs : Array Value} {y : MethodName} {len W9 : Nat}
theorem vx_backW {ws : List Cond} {rm : Room} {Pc : Array Value → State → Prop} {Qc : Array Value → State → Outcome → State → Prop} {XC : String → State → State → Prop} {mc ms : Nat} {free : Addr → Prop} {bytes : ByteArray} {maxL : Nat} {ret : Option FieldType} {hh : List (Nat × Nat × Nat × Nat)}
    (hM : vx_Met l y ws rm Pc Qc XC mc ms free) (hblind : FrameBlind Pc) (hrc : rm.cells = mc) (hrs : rm.slots = ms)
    (hframes : rm.frames + 1 ≤ R.frames) (hlocals : W9 + (maxL + 11) + rm.locals ≤ R.locals)
    (hws : ∀ w ∈ ws, ∀ a' U, s.WarmedH U.vm → w.before a' U = true) (hcode : Cond.codeWith y bytes maxL ret hh ∈ ws) (hinit : ∀ a' U, s.WarmedH U.vm → (Cond.initialized y.cls).before a' U = true) :
    vx_Back l R p e below s sargs y len W9 (PreOf R mc ms Pc) (PostOf Qc mc ms free) (vx_Post XC mc ms free) := by
  intro m meth c A g ig mk a X hg hsize hdg hW hn hp
  have h1 : (headSpec ws rm).pre.before a A.U = true := atoms_intro fun w hw => hws w hw _ _ X.warmed
  have h2 : (Cond.codeWith y bytes maxL ret hh).before a A.U = true := hws _ hcode _ _ X.warmed
  have h3 : (Cond.initialized y.cls).before a A.U = true := hinit _ _ X.warmed
  have h4 : A.cells + (headSpec ws rm).room.cells ≤ R.cells := by rw [show (headSpec ws rm).room.cells = mc from hrc]; exact hp.1
  have h5 : A.slots + (headSpec ws rm).room.slots ≤ R.slots := by rw [show (headSpec ws rm).room.slots = ms from hrs]; exact hp.2.1
  have hPc : Pc a (A.U.calling g mk a) := hblind _ _ _ _ hp.2.2
  obtain ⟨U, Ls, c0, s0⟩ := A
  dsimp only [Pt.U, Pt.locs, Pt.cells, Pt.slots] at h1 h2 h3 h4 h5 X hn hPc ⊢
  obtain ⟨m9, methY, cY, hn9, hmY, hcY, -, hlY, -⟩ := Cond.codeWith_spec h2
  cases Option.some.inj (hn9.symm.trans hn)
  obtain ⟨kY, hkY, -⟩ := className_of_methodNamed hn
  have hinitY : kY.init = .initialized := Cond.initialized_spec (findClass_of_methodNamed hn) hkY h3
  have h : At U g.method c below := by rw [hg]; exact X.here
  have hlocals9 : W9 + (maxL + 11) + (headSpec ws rm).room.locals ≤ R.locals := hlocals
  have happ : (headSpec ws rm).appliesLoose y e.platform (U.calling g mk a) = true :=
    Spec.appliesLoose_calling (g := g) h hdg hn hkY hinitY
      (X.room_calling (g := g) (R' := (headSpec ws rm).room) hsize hmY hcY hframes (by rw [hlY]; omega) h4 h5) h1
  obtain ⟨mid, hmid⟩ := h.above
  have hfr : (U.setTop g).frames = (.java g :: mid) ++ below := by rw [State.frames_setTop' g h.top, hmid]; rfl
  obtain ⟨o, s₂, hsteps, -, hend, hq⟩ := Steps.callFree hM p X.admits X.cas X.clock (acts := []) hfr happ hPc trivial
  have hq' : vx_Q Qc XC mc ms free a (U.calling g mk a) o s₂ := hq
  rw [State.frames_setTop' g h.top] at hend
  obtain ⟨g₀, hg0⟩ := Option.isSome_iff_exists.mp h.top
  obtain ⟨r, hr⟩ := State.topJava?_eq_some.mp hg0
  have hr' : (({ U with heap := s₂.heap, slotsUsed := s₂.slotsUsed } : State).setVm s₂.vm).frames = .java g₀ :: r := hr
  rcases hq' with ⟨hqc, L, hfe, hL⟩ | ⟨q, rfl, E, ce, L, hx, hce, hcv, hcl, hW₂, hsm, hL⟩
  · obtain ⟨⟨v, rfl⟩, hW₂, e2, q2, q3, q4, q5, q6⟩ := id hfe
    have e3 : s₂ = ({ (U.calling g mk a).setFrames s₂.frames with heap := s₂.heap, slotsUsed := s₂.slotsUsed } : State).setVm s₂.vm := by
      have : s₂ = ({ s₂ with vm := (U.calling g mk a).vm } : State).setVm s₂.vm := rfl
      rw [e2] at this
      exact this
    obtain ⟨c₂, i₂, len₂, hc₂, hd₂, hf₂⟩ := hend
    have hW' : U.WarmedH s₂.vm := hW₂
    have hcc : c₂ = c := by
      have h1 : s₂.code? g.method = U.code? g.method := by
        rw [State.code?_eq, State.code?_eq, hW'.alike.method?]
      exact Option.some.inj (hc₂.symm.trans (h1.trans h.code))
    subst hcc
    have hlen : len₂ = len := by rw [hdg] at hd₂; cases hd₂; rfl
    subst hlen
    have hs₂ : s₂ = (({ U with heap := s₂.heap, slotsUsed := s₂.slotsUsed } : State).setVm s₂.vm).setTop { g with pc := g.pc + len₂, stack := v.toList ++ g.stack } := by
      refine e3.trans ?_
      rw [hf₂, State.calling_eq h.top, State.setFrames_setFrames, State.setTop_of_frames _ hr', hr]
      rfl
    have hsame : U.sameButNew ({ U with heap := s₂.heap, slotsUsed := s₂.slotsUsed } : State) L mc ms := by
      refine ⟨?_, q2, q3, q4, q5, q6⟩
      obtain ⟨t, ht, -⟩ := State.frames_cons hr
      show ({ U with heap := s₂.heap, slotsUsed := s₂.slotsUsed } : State) = { U.setFrames U.frames with heap := s₂.heap, slotsUsed := s₂.slotsUsed }
      rw [State.setFrames_self ht]
    subst hg
    refine Or.inl ⟨v, ⟨(({ U with heap := s₂.heap, slotsUsed := s₂.slotsUsed } : State).setVm s₂.vm), Ls ++ L, c0 + mc, s0 + ms⟩,
      ⟨X.admits, X.cas, X.clock, X.frames, X.room, X.hears, X.method, X.code, (X.here.setHeapUsed s₂.heap s₂.slotsUsed).setVm hW'.alike, X.tail, State.WarmedH.trans X.warmed hW', X.limits, X.bytes, X.same.trans (hsame.setVm s.vm)⟩,
      ⟨g, mk, s₂, L, rfl, rfl, hqc, rfl, hL, rfl, rfl⟩, ?_⟩
    show Steps p.tables e below _ ((({ U with heap := s₂.heap, slotsUsed := s₂.slotsUsed } : State).setVm s₂.vm).setTop { g with pc := g.pc + len₂, stack := v.toList ++ g.stack })
    rw [← hs₂]
    exact hsteps
  · obtain ⟨e2, q2, q3, q4, q5, q6⟩ := id hsm
    have e3 : s₂ = ({ (U.calling g mk a).setFrames s₂.frames with heap := s₂.heap, slotsUsed := s₂.slotsUsed } : State).setVm s₂.vm := by
      have : s₂ = ({ s₂ with vm := (U.calling g mk a).vm } : State).setVm s₂.vm := rfl
      rw [e2] at this
      exact this
    have hf₂ : s₂.frames = .throwing q :: .java g :: U.frames.tail := hend
    have hW' : U.WarmedH s₂.vm := hW₂
    have hs₂ : s₂ = ((({ U with heap := s₂.heap, slotsUsed := s₂.slotsUsed } : State).setVm s₂.vm).setTop g).pushFrame (.throwing q) := by
      refine e3.trans ?_
      rw [hf₂, State.calling_eq h.top, State.setFrames_setFrames, State.pushFrame, State.frames_setTop _ hr', State.setTop_of_frames _ hr', State.setFrames_setFrames, hr]
      rfl
    have hsame : U.sameButNew ({ U with heap := s₂.heap, slotsUsed := s₂.slotsUsed } : State) L mc ms := by
      refine ⟨?_, q2, q3, q4, q5, q6⟩
      obtain ⟨t, ht, -⟩ := State.frames_cons hr
      show ({ U with heap := s₂.heap, slotsUsed := s₂.slotsUsed } : State) = { U.setFrames U.frames with heap := s₂.heap, slotsUsed := s₂.slotsUsed }
      rw [State.setFrames_self ht]
    subst hg
    refine Or.inr ⟨q, ⟨(({ U with heap := s₂.heap, slotsUsed := s₂.slotsUsed } : State).setVm s₂.vm), Ls ++ L, c0 + mc, s0 + ms⟩,
      ⟨X.admits, X.cas, X.clock, X.frames, X.room, X.hears, X.method, X.code, (X.here.setHeapUsed s₂.heap s₂.slotsUsed).setVm hW'.alike, X.tail, State.WarmedH.trans X.warmed hW', X.limits, X.bytes, X.same.trans (hsame.setVm s.vm)⟩,
      ⟨g, mk, s₂, L, E, ce, rfl, rfl, hx, hce, hcv, hcl, rfl, hL, rfl, rfl⟩, ?_⟩
    show Steps p.tables e below _ (((({ U with heap := s₂.heap, slotsUsed := s₂.slotsUsed } : State).setVm s₂.vm).setTop g).pushFrame (.throwing q))
    rw [← hs₂]
    exact hsteps
end
variable {p : Program} {l : Launch} {e : Env} {R : Room} {s : State} {m : MethodId} {args : Array Value} {below : List Frame} {meth : Method} {c : Code} {T : State} {H : Heap} {locs : List Loc} {cells slots : Nat}
theorem vx_callVX (X : Stand p l e R s m args below meth c T locs cells slots) (hexec : p.tables.exec = Jvm.exec) {own C : String} {index : Nat} {y : MethodName} {bytes : ByteArray} {maxL : Nat} {ret : Option FieldType} {hh : List (Nat × Nat × Nat × Nat)}
    (hown : s.vm.findClass own = some m.cls) (hlink : (Cond.methodLink own index y).before args s = true) (hinst : (Cond.instanceMethod y).before args s = true) (hsel : (Cond.selects C y y).before args s = true)
    (hcode : (Cond.codeWith y bytes maxL ret hh).before args s = true) (hy : y.cls ≠ "java/lang/invoke/MethodHandle" ∧ y.cls ≠ "java/lang/invoke/VarHandle")
    {W9 : Nat} {Pre : Pt → Array Value → Prop} {Post : Pt → Array Value → Option Value → Pt → Prop} {PostX : Pt → Array Value → Addr → Pt → Prop} (hK : vx_Back l R p e below s args y 3 W9 Pre Post PostX)
    {b : Addr} {cellB : Cell} (hcell : T.heap[b]? = some cellB) (hobj : cellB.vm.isStatics = false) (hcls : s.vm.findClass C = some cellB.cls)
    {g : JFrame} (hg : g.method = m) (hsize : g.locals.size = c.maxLocals) {argsL rest : List Value} (hlen : ∀ sig, parseMethodDescriptor y.desc = some sig → argsL.length = sig.parameters.length)
    (hstack : g.stack = argsL.reverse ++ .ref b :: rest) (hW : 2 * g.monitorRoom + (rest.map fun v => v.category).sum ≤ W9) (hdg : decode c.code g.pc = .ok (.invokevirtual index, 3))
    (hpre : ∀ vm₁, s.WarmedH vm₁ → Pre ⟨T.setVm vm₁, locs, cells, slots⟩ (Value.ref b :: argsL).toArray) :
    (∃ (v : Option Value) (vm₁ : Vm) (B : Pt), s.WarmedH vm₁ ∧ Stand p l e R s m args below meth c B.U B.locs B.cells B.slots ∧ Post ⟨T.setVm vm₁, locs, cells, slots⟩ (Value.ref b :: argsL).toArray v B ∧
      ∀ target, Steps p.tables e below (B.U.setTop { g with pc := g.pc + 3, stack := v.toList ++ rest }) target → Steps p.tables e below (T.setTop g) target) ∨
    (∃ (q : Addr) (vm₁ : Vm) (B : Pt), s.WarmedH vm₁ ∧ Stand p l e R s m args below meth c B.U B.locs B.cells B.slots ∧ PostX ⟨T.setVm vm₁, locs, cells, slots⟩ (Value.ref b :: argsL).toArray q B ∧
      Steps p.tables e below (T.setTop g) ((B.U.setTop { g with stack := rest }).pushFrame (.throwing q))) := by
  obtain ⟨mk, methM, hnamed, hmethM, hstM, habM⟩ := Cond.instanceMethod_spec hinst
  obtain ⟨m8, methM', cM, hn8, hmethM', -, -, -, -, -, -, hsigM⟩ := Cond.codeWith_spec hcode
  cases Option.some.inj (hn8.symm.trans hnamed)
  cases hmethM.symm.trans hmethM'
  obtain ⟨c2, r2, m2, q1, q2, q3, q4, kP, hkP, hkPi⟩ := Cond.selects_spec hsel
  cases hcls.symm.trans q1
  cases (State.methodFound?_of_named hnamed hy).symm.trans q2
  cases hnamed.symm.trans q3
  have hselP : selectMethod e.platform s.vm cellB.cls mk = .method mk := by rw [Launch.admits_selectMethod X.admits]; exact q4
  obtain ⟨vm₁, X₁, hstep₁⟩ := X.invokevirtual hexec hown hlink hnamed hmethM hstM hkP hkPi hy (a := b) (cell := cellB) hcell
    (fun z h => by rw [h] at hobj; cases hobj) hselP hmethM habM hkP hkPi (g := g) hg (argsL := argsL) (rest := rest) (hlen _ hsigM) hstack hdg
  rcases hK m meth c ⟨T.setVm vm₁, locs, cells, slots⟩ { g with stack := rest } (.invokevirtual index) mk (Value.ref b :: argsL).toArray X₁ hg hsize hdg hW (X₁.named hnamed) (hpre vm₁ X₁.warmed) with ⟨v, B, X', hpost, hsteps⟩ | ⟨q, B, X', hpost, hsteps⟩
  · exact Or.inl ⟨v, vm₁, B, X₁.warmed, X', hpost, fun target h => hstep₁ _ fun acts => by rw [doInvoke_state]; exact hsteps.trans h⟩
  · exact Or.inr ⟨q, vm₁, B, X₁.warmed, X', hpost, hstep₁ _ fun acts => by rw [doInvoke_state]; exact hsteps⟩
theorem vx_callSX (X : Stand p l e R s m args below meth c T locs cells slots) (hexec : p.tables.exec = Jvm.exec) {own : String} {index : Nat} {y : MethodName} {bytes : ByteArray} {maxL : Nat} {ret : Option FieldType} {hh : List (Nat × Nat × Nat × Nat)}
    (hown : s.vm.findClass own = some m.cls) (hlink : (Cond.methodLink own index y).before args s = true) (hstat : (Cond.static y).before args s = true) (hinit : (Cond.initialized y.cls).before args s = true)
    (hcode : (Cond.codeWith y bytes maxL ret hh).before args s = true) (hy : y.cls ≠ "java/lang/invoke/MethodHandle" ∧ y.cls ≠ "java/lang/invoke/VarHandle")
    {W9 : Nat} {Pre : Pt → Array Value → Prop} {Post : Pt → Array Value → Option Value → Pt → Prop} {PostX : Pt → Array Value → Addr → Pt → Prop} (hK : vx_Back l R p e below s args y 3 W9 Pre Post PostX)
    {g : JFrame} (hg : g.method = m) (hsize : g.locals.size = c.maxLocals) {argsL rest : List Value} (hlen : ∀ sig, parseMethodDescriptor y.desc = some sig → argsL.length = sig.parameters.length)
    (hstack : g.stack = argsL.reverse ++ rest) (hW : 2 * g.monitorRoom + (rest.map fun v => v.category).sum ≤ W9) (hdg : decode c.code g.pc = .ok (.invokestatic index, 3))
    (hpre : ∀ vm₁, s.WarmedH vm₁ → Pre ⟨T.setVm vm₁, locs, cells, slots⟩ argsL.toArray) :
    (∃ (v : Option Value) (vm₁ : Vm) (B : Pt), s.WarmedH vm₁ ∧ Stand p l e R s m args below meth c B.U B.locs B.cells B.slots ∧ Post ⟨T.setVm vm₁, locs, cells, slots⟩ argsL.toArray v B ∧
      ∀ target, Steps p.tables e below (B.U.setTop { g with pc := g.pc + 3, stack := v.toList ++ rest }) target → Steps p.tables e below (T.setTop g) target) ∨
    (∃ (q : Addr) (vm₁ : Vm) (B : Pt), s.WarmedH vm₁ ∧ Stand p l e R s m args below meth c B.U B.locs B.cells B.slots ∧ PostX ⟨T.setVm vm₁, locs, cells, slots⟩ argsL.toArray q B ∧
      Steps p.tables e below (T.setTop g) ((B.U.setTop { g with stack := rest }).pushFrame (.throwing q))) := by
  obtain ⟨mk, methM, cM, hnamed, hmethM, -, -, -, -, -, -, hsigM⟩ := Cond.codeWith_spec hcode
  have hstatic : methM.isStatic = true := Cond.static_spec hnamed hmethM hstat
  obtain ⟨kP, hkP, -⟩ := className_of_methodNamed hnamed
  have hinitP : kP.init = .initialized := Cond.initialized_spec (findClass_of_methodNamed hnamed) hkP hinit
  obtain ⟨vm₁, X₁, hstep₁⟩ := X.invokestatic hexec hown hlink hnamed hmethM hstatic hkP hinitP hy (g := g) hg (argsL := argsL) (rest := rest) (hlen _ hsigM) hstack hdg
  rcases hK m meth c ⟨T.setVm vm₁, locs, cells, slots⟩ { g with stack := rest } (.invokestatic index) mk argsL.toArray X₁ hg hsize hdg hW (X₁.named hnamed) (hpre vm₁ X₁.warmed) with ⟨v, B, X', hpost, hsteps⟩ | ⟨q, B, X', hpost, hsteps⟩
  · exact Or.inl ⟨v, vm₁, B, X₁.warmed, X', hpost, fun target h => hstep₁ _ fun acts => by rw [doInvoke_state]; exact hsteps.trans h⟩
  · exact Or.inr ⟨q, vm₁, B, X₁.warmed, X', hpost, hstep₁ _ fun acts => by rw [doInvoke_state]; exact hsteps⟩
theorem vx_callVW (X : Stand p l e R s m args below meth c T locs cells slots) (hexec : p.tables.exec = Jvm.exec) {own C : String} {index : Nat} {y : MethodName} {bytes : ByteArray} {maxL : Nat} {ret : Option FieldType} {hh : List (Nat × Nat × Nat × Nat)}
    (hown : s.vm.findClass own = some m.cls) (hlink : (Cond.methodLink own index y).before args s = true) (hinst : (Cond.instanceMethod y).before args s = true) (hsel : (Cond.selects C y y).before args s = true)
    (hcode : (Cond.codeWith y bytes maxL ret hh).before args s = true) (hy : y.cls ≠ "java/lang/invoke/MethodHandle" ∧ y.cls ≠ "java/lang/invoke/VarHandle")
    {W9 : Nat} {Pre : Pt → Array Value → Prop} {Post : Pt → Array Value → Option Value → Pt → Prop} (hK : Back l R p e below s args y 3 W9 Pre Post)
    {b : Addr} {cellB : Cell} (hcell : T.heap[b]? = some cellB) (hobj : cellB.vm.isStatics = false) (hcls : s.vm.findClass C = some cellB.cls)
    {g : JFrame} (hg : g.method = m) (hsize : g.locals.size = c.maxLocals) {argsL rest : List Value} (hlen : ∀ sig, parseMethodDescriptor y.desc = some sig → argsL.length = sig.parameters.length)
    (hstack : g.stack = argsL.reverse ++ .ref b :: rest) (hW : 2 * g.monitorRoom + (rest.map fun v => v.category).sum ≤ W9) (hdg : decode c.code g.pc = .ok (.invokevirtual index, 3))
    (hpre : ∀ vm₁, s.WarmedH vm₁ → Pre ⟨T.setVm vm₁, locs, cells, slots⟩ (Value.ref b :: argsL).toArray) :
    ∃ (v : Option Value) (vm₁ : Vm) (B : Pt), s.WarmedH vm₁ ∧ Stand p l e R s m args below meth c B.U B.locs B.cells B.slots ∧ Post ⟨T.setVm vm₁, locs, cells, slots⟩ (Value.ref b :: argsL).toArray v B ∧
      ∀ target, Steps p.tables e below (B.U.setTop { g with pc := g.pc + 3, stack := v.toList ++ rest }) target → Steps p.tables e below (T.setTop g) target := by
  obtain ⟨mk, methM, hnamed, hmethM, hstM, habM⟩ := Cond.instanceMethod_spec hinst
  obtain ⟨m8, methM', cM, hn8, hmethM', -, -, -, -, -, -, hsigM⟩ := Cond.codeWith_spec hcode
  cases Option.some.inj (hn8.symm.trans hnamed)
  cases hmethM.symm.trans hmethM'
  obtain ⟨c2, r2, m2, q1, q2, q3, q4, kP, hkP, hkPi⟩ := Cond.selects_spec hsel
  cases hcls.symm.trans q1
  cases (State.methodFound?_of_named hnamed hy).symm.trans q2
  cases hnamed.symm.trans q3
  have hselP : selectMethod e.platform s.vm cellB.cls mk = .method mk := by rw [Launch.admits_selectMethod X.admits]; exact q4
  obtain ⟨vm₁, X₁, hstep₁⟩ := X.invokevirtual hexec hown hlink hnamed hmethM hstM hkP hkPi hy (a := b) (cell := cellB) hcell
    (fun z h => by rw [h] at hobj; cases hobj) hselP hmethM habM hkP hkPi (g := g) hg (argsL := argsL) (rest := rest) (hlen _ hsigM) hstack hdg
  obtain ⟨v, B, X', hpost, hsteps⟩ := hK m meth c ⟨T.setVm vm₁, locs, cells, slots⟩ { g with stack := rest } (.invokevirtual index) mk (Value.ref b :: argsL).toArray X₁ hg hsize hdg hW (X₁.named hnamed) (hpre vm₁ X₁.warmed)
  exact ⟨v, vm₁, B, X₁.warmed, X', hpost, fun target h => hstep₁ _ fun acts => by rw [doInvoke_state]; exact hsteps.trans h⟩
abbrev vx_CVW (R : Room) (s : State) (args : Array Value) (own C : String) (index : Nat) (y : MethodName) (bytes : ByteArray) (maxL : Nat) (ret : Option FieldType) (hh : List (Nat × Nat × Nat × Nat)) (ws : List Cond) (rm : Room) (mc ms n : Nat) : Prop :=
  (rm.cells = mc ∧ rm.slots = ms ∧ rm.frames + 1 ≤ R.frames ∧ 8 + (maxL + 11) + rm.locals ≤ R.locals ∧ (∀ w ∈ ws, ∀ (a' : Array Value) (U : State), s.WarmedH U.vm → w.before a' U = true) ∧ Cond.codeWith y bytes maxL ret hh ∈ ws) ∧
  (Cond.codeWith y bytes maxL ret hh).before args s = true ∧ (Cond.initialized y.cls).before args s = true ∧ (y.cls ≠ "java/lang/invoke/MethodHandle" ∧ y.cls ≠ "java/lang/invoke/VarHandle") ∧
  (∀ sig, parseMethodDescriptor y.desc = some sig → n = sig.parameters.length) ∧ (Cond.methodLink own index y).before args s = true ∧ (Cond.instanceMethod y).before args s = true ∧ (Cond.selects C y y).before args s = true
theorem vx_cwVW {own C : String} {index maxL mc ms : Nat} {y : MethodName} {bytes : ByteArray} {ret : Option FieldType} {hh : List (Nat × Nat × Nat × Nat)} {Ts ws ws' : List Cond} {rm : Room} (n : Nat) (ht : ∀ w ∈ Ts, w.before args s = true) (hT : GoodIn Ts (wsV own index C y ws)) (hw : ws = Cond.codeWith y bytes maxL ret hh :: ws') (hrc : rm.cells = mc) (hrs : rm.slots = ms)
    (hd : y.cls = C ∧ y.cls ≠ "java/lang/invoke/MethodHandle" ∧ y.cls ≠ "java/lang/invoke/VarHandle" ∧ (parseMethodDescriptor y.desc).map (fun d => d.parameters.length) = some n) (hR : rm.frames + 1 ≤ R.frames ∧ 8 + (maxL + 11) + rm.locals ≤ R.locals) :
    vx_CVW R s args own C index y bytes maxL ret hh ws rm mc ms n := by
  obtain ⟨hC, hd⟩ := hd
  subst hC
  have ok : ∀ w ∈ wsV own index y.cls y ws, w.before args s = true := fun w h => ht w (hT w h).1
  have hG : GoodIn Ts ws := fun w h => hT w (by unfold wsV; exact List.mem_append_right _ h)
  have hc : Cond.codeWith y bytes maxL ret hh ∈ ws := by rw [hw]; exact List.mem_cons_self
  refine ⟨⟨hrc, hrs, hR.1, hR.2, pay_in ht hG, hc⟩, ht _ (hG _ hc).1, ok _ (by simp [wsV]), ⟨hd.1, hd.2.1⟩, fun sig h => ?_, ok _ (by simp [wsV]), ok _ (by simp [wsV]), ok _ (by simp [wsV])⟩
  have h2 := hd.2.2
  rw [h] at h2
  exact (Option.some.inj h2).symm
theorem vx_runVW {y : MethodName} {bytes cc : ByteArray} {maxL nL mc ms n index : Nat} {ret : Option FieldType} {hh : List (Nat × Nat × Nat × Nat)} {ws : List Cond} {rm : Room} {Pc : Array Value → State → Prop} {Qc : Array Value → State → Outcome → State → Prop} {free : Addr → Prop} {Ts : List Cond} {own C : String} {b : Addr} {As rest : List Value} {g : JFrame}
    (S : CallFix p m c cc nL s args Ts own) (hM : Met l y ws rm Pc Qc mc ms free) (cw : vx_CVW R s args own C index y bytes maxL ret hh ws rm mc ms n) (hp : PreV s H C b Pc As)
    (hg : g.method = m) (hn : As.length = n) (hsize : g.locals.size = nL) (hstack : g.stack = As.reverse ++ .ref b :: rest) (hW : 2 * g.monitorRoom + (rest.map fun v => v.category).sum ≤ 8) (hdg : decode cc g.pc = .ok (.invokevirtual index, 3)) (hf : cells + mc ≤ R.cells ∧ slots + ms ≤ R.slots) :
    va_Run p l e R s m args below meth c H locs cells slots mc ms g rest (Qc (Value.ref b :: As).toArray) free := by
  obtain ⟨⟨hrc, hrs, hfr, hlo, hws, hcw⟩, hcode, hini, hy, hlen, hl, hin, hse⟩ := cw
  have hK : Back l R p e below s args y 3 8 (PreOf R mc ms Pc) (PostOf Qc mc ms free) := va_backW (hh := hh) (bytes := bytes) (maxL := maxL) (ret := ret) hM hp.1 hrc hrs hfr hlo hws hcw (fun a' U hW => word_at hW (Or.inl (by first | rfl | simp [Cond.onTables, Cond.keeps, Cond.steady])) hini)
  obtain ⟨hx, hb, hml, ho, -⟩ := S
  obtain ⟨-, ⟨cellB, hcB, hoB, hclB⟩, hPc⟩ := hp
  intro T hT X
  obtain ⟨v, vm₁, ⟨U', l2, c2, s2⟩, hW₁, X', ⟨g', mk, t, L, e1, e2, hq, h1, hL, h2, h3⟩, st⟩ := vx_callVW X hx (C := C) (hh := hh) (bytes := bytes) (maxL := maxL) (ret := ret) ho hl hin hse hcode hy hK (by rw [hT]; exact hcB) hoB hclB hg (hsize.trans hml.symm) (argsL := As) (rest := rest) (fun sig h => hn.trans (hlen sig h)) hstack hW (by rw [hb]; exact hdg)
    (fun vm₁ hW₁ => ⟨hf.1, hf.2, hPc (T.setVm vm₁) hT hW₁⟩)
  dsimp only [Pt.U, Pt.locs, Pt.cells, Pt.slots] at X' e1 e2 h1 h2 h3 st
  subst h1; subst h2; subst h3
  exact ⟨v, (T.setVm vm₁).calling g' mk (Value.ref b :: As).toArray, t, U', L, hT, X', hL, e1, e2, hq, st⟩
section
variable {y : MethodName} {bytes cc : ByteArray} {maxL nL mc ms n index : Nat} {ret : Option FieldType} {ws : List Cond} {rm : Room} {Pc : Array Value → State → Prop} {Qc : Array Value → State → Outcome → State → Prop} {XC : String → State → State → Prop} {free : Addr → Prop} {Ts : List Cond} {own C : String} {b : Addr} {As rest : List Value} {g : JFrame}
theorem vx_runVX {hh : List (Nat × Nat × Nat × Nat)} (S : CallFix p m c cc nL s args Ts own) (hM : vx_Met l y ws rm Pc Qc XC mc ms free) (cw : vx_CVW R s args own C index y bytes maxL ret hh ws rm mc ms n) (hp : PreV s H C b Pc As)
    (hg : g.method = m) (hn : As.length = n) (hsize : g.locals.size = nL) (hstack : g.stack = As.reverse ++ .ref b :: rest) (hW : 2 * g.monitorRoom + (rest.map fun v => v.category).sum ≤ 8) (hdg : decode cc g.pc = .ok (.invokevirtual index, 3)) (hf : cells + mc ≤ R.cells ∧ slots + ms ≤ R.slots) :
    vx_Run p l e R s m args below meth c H locs cells slots mc ms g rest (Qc (Value.ref b :: As).toArray) XC free := by
  obtain ⟨⟨hrc, hrs, hfr, hlo, hws, hcw⟩, hcode, hini, hy, hlen, hl, hin, hse⟩ := cw
  have hK : vx_Back l R p e below s args y 3 8 (PreOf R mc ms Pc) (PostOf Qc mc ms free) (vx_Post XC mc ms free) := vx_backW (hh := hh) (bytes := bytes) (maxL := maxL) (ret := ret) hM hp.1 hrc hrs hfr hlo hws hcw (fun a' U hW => word_at hW (Or.inl (by first | rfl | simp [Cond.onTables, Cond.keeps, Cond.steady])) hini)
  obtain ⟨hx, hb, hml, ho, -⟩ := S
  obtain ⟨-, ⟨cellB, hcB, hoB, hclB⟩, hPc⟩ := hp
  intro T hT X
  rcases vx_callVX X hx (C := C) (hh := hh) (bytes := bytes) (maxL := maxL) (ret := ret) ho hl hin hse hcode hy hK (by rw [hT]; exact hcB) hoB hclB hg (hsize.trans hml.symm) (argsL := As) (rest := rest) (fun sig h => hn.trans (hlen sig h)) hstack hW (by rw [hb]; exact hdg)
    (fun vm₁ hW₁ => ⟨hf.1, hf.2, hPc (T.setVm vm₁) hT hW₁⟩) with ⟨v, vm₁, ⟨U', l2, c2, s2⟩, hW₁, X', ⟨g', mk, t, L, e1, e2, hq, h1, hL, h2, h3⟩, st⟩ | ⟨q, vm₁, ⟨U', l2, c2, s2⟩, hW₁, X', ⟨g', mk, t, L, E, ce, e1, e2, hq, hce, hcv, hcl, h1, hL, h2, h3⟩, st⟩
  · dsimp only [Pt.U, Pt.locs, Pt.cells, Pt.slots] at X' e1 e2 h1 h2 h3 st
    subst h1; subst h2; subst h3
    exact Or.inl ⟨v, (T.setVm vm₁).calling g' mk (Value.ref b :: As).toArray, t, U', L, hT, X', hL, e1, e2, hq, st⟩
  · dsimp only [Pt.U, Pt.locs, Pt.cells, Pt.slots] at X' e1 e2 h1 h2 h3 st hcl
    subst h1; subst h2; subst h3
    exact Or.inr ⟨q, (T.setVm vm₁).calling g' mk (Value.ref b :: As).toArray, t, U', L, E, ce, hT, X', hL, e1, e2, hq, hce, hcv, vx_cls hW₁ hcl, st⟩
theorem vx_runSX {hh : List (Nat × Nat × Nat × Nat)} (S : CallFix p m c cc nL s args Ts own) (hM : vx_Met l y ws rm Pc Qc XC mc ms free) (cw : vx_CSW R s args own index y bytes maxL ret hh ws rm mc ms n) (hp : PreS s H Pc As)
    (hg : g.method = m) (hn : As.length = n) (hsize : g.locals.size = nL) (hstack : g.stack = As.reverse ++ rest) (hW : 2 * g.monitorRoom + (rest.map fun v => v.category).sum ≤ 8) (hdg : decode cc g.pc = .ok (.invokestatic index, 3)) (hf : cells + mc ≤ R.cells ∧ slots + ms ≤ R.slots) :
    vx_Run p l e R s m args below meth c H locs cells slots mc ms g rest (Qc As.toArray) XC free := by
  obtain ⟨⟨hrc, hrs, hfr, hlo, hws, hcw⟩, hcode, hini, hy, hlen, hl, hstt⟩ := cw
  have hK : vx_Back l R p e below s args y 3 8 (PreOf R mc ms Pc) (PostOf Qc mc ms free) (vx_Post XC mc ms free) := vx_backW (hh := hh) (bytes := bytes) (maxL := maxL) (ret := ret) hM hp.1 hrc hrs hfr hlo hws hcw (fun a' U hW => word_at hW (Or.inl (by first | rfl | simp [Cond.onTables, Cond.keeps, Cond.steady])) hini)
  obtain ⟨hx, hb, hml, ho, -⟩ := S
  intro T hT X
  rcases vx_callSX X hx (hh := hh) (bytes := bytes) (maxL := maxL) (ret := ret) ho hl hstt hini hcode hy hK hg (hsize.trans hml.symm) (argsL := As) (rest := rest) (fun sig h => hn.trans (hlen sig h)) hstack hW (by rw [hb]; exact hdg)
    (fun vm₁ hW₁ => ⟨hf.1, hf.2, hp.2 (T.setVm vm₁) hT hW₁⟩) with ⟨v, vm₁, ⟨U', l2, c2, s2⟩, hW₁, X', ⟨g', mk, t, L, e1, e2, hq, h1, hL, h2, h3⟩, st⟩ | ⟨q, vm₁, ⟨U', l2, c2, s2⟩, hW₁, X', ⟨g', mk, t, L, E, ce, e1, e2, hq, hce, hcv, hcl, h1, hL, h2, h3⟩, st⟩
  · dsimp only [Pt.U, Pt.locs, Pt.cells, Pt.slots] at X' e1 e2 h1 h2 h3 st
    subst h1; subst h2; subst h3
    exact Or.inl ⟨v, (T.setVm vm₁).calling g' mk As.toArray, t, U', L, hT, X', hL, e1, e2, hq, st⟩
  · dsimp only [Pt.U, Pt.locs, Pt.cells, Pt.slots] at X' e1 e2 h1 h2 h3 st hcl
    subst h1; subst h2; subst h3
    exact Or.inr ⟨q, (T.setVm vm₁).calling g' mk As.toArray, t, U', L, E, ce, hT, X', hL, e1, e2, hq, hce, hcv, vx_cls hW₁ hcl, st⟩
end
end VXH
theorem vx_ofWH {l : Launch} {y : MethodName} {ws ws' : List Cond} {rm : Room} {Pc : Array Value → State → Prop} {Qc : Array Value → State → Outcome → State → Prop} {XC : String → State → State → Prop} {mc ms : Nat} {free : Addr → Prop} {cc : ByteArray} {maxL : Nat} {ret : Option FieldType} {hh : List (Nat × Nat × Nat × Nat)}
    (hy : plainName y.cls = true) (hw : ws = Cond.codeWith y cc maxL ret hh :: ws')
    (body : ∀ p e s m args below meth c s₁, BodyLoose p l y (headSpec ws rm) cc maxL ret e s m args below meth c s₁ → c.maxLocals = maxL → Pc args s →
      W p l e (headSpec ws rm).room s m args below meth c s.heap [] 0 0 (vx_MQ below Qc XC args s mc ms free) (entryFrame m args maxL)) : vx_Met l y ws rm Pc Qc XC mc ms free := by
  refine MetFree.of_bodyS (code := cc) (maxLocals := maxL) (ret := ret) hy ?_ ?_
  · intro args s m h hn
    obtain ⟨m9, meth, c, hn9, h1, h2, h3, h4, -, h5, h6, -⟩ := Cond.codeWith_spec (atoms_spec (ws := ws) h _ (by rw [hw]; exact List.mem_cons_self))
    cases hn.symm.trans hn9
    exact ⟨meth, c, h1, h2, h3, h4, h5, h6⟩
  · intro p e s m args below meth c s₁ B hml hP _
    have hh0 : s₁.heap = s.heap := by rw [B.state]; rfl
    obtain ⟨t, a1, o, b1, b2, b3⟩ := body p e s m args below meth c s₁ B hml hP s₁ hh0 (Stand.of_body B)
    exact ⟨t, o, a1, b1, b2, b3⟩
/-! ===== END ===== -/
end
section
/-! what a small state says of the machine's -/
/-- b0, class numbers, slots, the three array classes, the Strings and their bytes, a carried reference, the script -/
abbrev EG : Type := Nat × (Nat → ClassId) × (Nat → Nat → Nat) × ClassId × ClassId × ClassId × (Nat → Nat) × (Nat → Nat) × Value × Nat × (Nat → Int32) × Nat
def gb (G : EG) : Nat := G.1
def gD (G : EG) : va_G := (G.2.1, G.2.2.1)
def gI (G : EG) : ClassId := G.2.2.2.1
def gL (G : EG) : ClassId := G.2.2.2.2.1
def gS (G : EG) : ClassId := G.2.2.2.2.2.1
def gK (G : EG) : Nat → Nat := G.2.2.2.2.2.2.1
def gV (G : EG) : Nat → Nat := G.2.2.2.2.2.2.2.1
def gU (G : EG) : Value := G.2.2.2.2.2.2.2.2.1
def gC (G : EG) : Nat := G.2.2.2.2.2.2.2.2.2.1
def gX (G : EG) : Nat → Int32 := G.2.2.2.2.2.2.2.2.2.2.1
def gN (G : EG) : Nat := G.2.2.2.2.2.2.2.2.2.2.2
def gA (G : EG) : Nat → Prop := fun q => gb G ≤ q
def tvG (G : EG) (v : PV) : Value := match v with
  | .inl x => .int x
  | .inr (.inl x) => .long x
  | .inr (.inr (c, a)) => bif Nat.beq c 17 then .ref (gC G) else bif Nat.beq c 18 then .ref (gK G a) else bif Nat.beq c 19 then .ref (gV G a) else bif Nat.beq c 20 then gU G else .ref (gb G + a)
def okR (na c a : Nat) : Prop := (c ≤ 16 → a < na ∧ tyA a = c) ∧ (c = 17 → a = 0) ∧ (c = 18 ∨ c = 19 → a < 22) ∧ c ≤ 20
def okV (na : Nat) (v : PV) : Prop := match v with
  | .inr (.inr (c, a)) => c ≠ 0 → okR na c a
  | _ => True
def nfT (t : Nat) : Nat := (fkT.getD t []).length
def kcT : List Nat := [0, 11, 10, 1, 5, 4, 9, 0, 8, 7, 6, 3, 2, 12]
def kci (t : Nat) : Nat := kcT.getD t 0
def fvM (G : EG) (M : Mem) (a t k : Nat) : Value := bif Nat.beq (fkA t k).1 2 then (if M a k = 1 then .ref (gb G + (a + (fkA t k).2)) else .null) else .int (M a k)
def cvM (G : EG) (M : Mem) (a : Nat) : Nat → Option Nat := fun j => if M a j = 1 then some (gb G + (a + 1 + 50 * j)) else none
def ceM (G : EG) (M : Mem) (X : PX) (a : Nat) : va_E :=
  bif Nat.beq (tyA a) 14 then .inl (gI G, ln a, .inl (fun j => M a j))
  else bif Nat.beq (tyA a) 15 then .inl (gL G, ln a, .inr (.inl (fun _ => X.1)))
  else bif Nat.beq (tyA a) 16 then .inl (gS G, 10, .inr (.inr (.inr (.inr (cvM G M a)))))
  else .inr (kci (tyA a), (List.range (nfT (tyA a))).map (fvM G M a (tyA a)))
def wsM (G : EG) (M : Mem) (X : PX) : va_W := (List.range X.2.1).map fun a => (gb G + a, ceM G M X a)
/-- a reference that is set names a cell that is there -/
def rfOK (M : Mem) (na : Nat) : Prop := ∀ a k, a < na → isRf a k = true → M a k = 1 → a + rof a k < na
def HR (G : EG) (M : Mem) (X : PX) (H : Heap) : Prop := va_P (gD G) vwCl (wsM G M X) H ∧ (X.2.1 = X.2.2.1 → H.size = gb G + X.2.2.1) ∧ X.2.1 ≤ X.2.2.1 ∧ (∀ j, j < X.2.2.2.2.2 → M 900 j = gX G j) ∧ rfOK M X.2.1 ∧ X.2.2.2.2.2 = gN G
theorem wsM_at {G : EG} {M : Mem} {X : PX} {a : Nat} (h : a < X.2.1) : (wsM G M X)[a]? = some (gb G + a, ceM G M X a) := by
  unfold wsM
  rw [List.getElem?_map, List.getElem?_range h]
  rfl
theorem wsM_D {G : EG} {M : Mem} {X : PX} : va_D (gA G) (wsM G M X) := by
  have key : ∀ (k : Nat) (q : Nat × va_E), (wsM G M X)[k]? = some q → q.1 = gb G + k := by
    intro k q h
    unfold wsM at h
    rw [List.getElem?_map] at h
    cases hk : (List.range X.2.1)[k]? with
    | none => rw [hk] at h; cases h
    | some j =>
      rw [hk] at h
      have : j = k := by
        have := List.getElem?_eq_some_iff.mp hk
        obtain ⟨h1, h2⟩ := this
        rw [List.getElem_range] at h2
        exact h2.symm
      subst this
      cases h
      rfl
  refine ⟨fun i j p q hi hj hpq => ?_, fun k q hk => ?_⟩
  · rw [key i p hi, key j q hj] at hpq
    omega
  · rw [key k q hk]
    exact Nat.le_add_right _ _
theorem map_set {α : Type} (f g : Nat → α) (n a : Nat) (v : α) (h1 : g a = v) (h2 : ∀ i, i ≠ a → g i = f i) : ((List.range n).map f).set a v = (List.range n).map g := by
  apply List.ext_getElem?
  intro i
  rw [List.getElem?_set]
  by_cases hi : a = i
  · subst hi
    by_cases hl : a < n
    · simp [hl, h1]
    · simp [hl]
  · rw [if_neg hi, List.getElem?_map, List.getElem?_map]
    by_cases hl : i < n
    · rw [List.getElem?_range hl]
      simp [h2 i (Ne.symm hi)]
    · rw [List.getElem?_eq_none (by simpa using hl)]
      rfl
/-- a world with one cell changed -/
theorem wsM_set {G : EG} {M M' : Mem} {X : PX} {a : Nat} {e : va_E} (h1 : ceM G M' X a = e) (h2 : ∀ i, i ≠ a → ceM G M' X i = ceM G M X i) : (wsM G M X).set a (gb G + a, e) = wsM G M' X :=
  map_set _ _ _ _ _ (by rw [h1]) fun i hi => by rw [h2 i hi]
theorem wsM_setX {G : EG} {M : Mem} {X X' : PX} {a : Nat} {e : va_E} (hn : X'.2.1 = X.2.1) (h1 : ceM G M X' a = e) (h2 : ∀ i, i ≠ a → ceM G M X' i = ceM G M X i) : (wsM G M X).set a (gb G + a, e) = wsM G M X' := by
  unfold wsM
  rw [hn]
  exact map_set _ _ _ _ _ (by rw [h1]) fun i hi => by rw [h2 i hi]
theorem wsM_push {G : EG} {M M' : Mem} {X X' : PX} {e : va_E} (hn : X'.2.1 = X.2.1 + 1) (h1 : ceM G M' X' X.2.1 = e) (h2 : ∀ i, i < X.2.1 → ceM G M' X' i = ceM G M X i) : wsM G M X ++ [(gb G + X.2.1, e)] = wsM G M' X' := by
  unfold wsM
  rw [hn, List.range_succ, List.map_append]
  congr 1
  · exact List.map_congr_left fun i hi => by rw [h2 i (List.mem_range.mp hi)]
  · simp [h1]
theorem upM_ne {M : Mem} {a k : Nat} {v : Int32} {b : Nat} (h : b ≠ a) (j : Nat) : upM M a k v b j = M b j := by
  unfold upM; rw [if_neg (fun q => h q.1)]
theorem upM_self {M : Mem} {a k : Nat} {v : Int32} : upM M a k v a k = v := by
  unfold upM; rw [if_pos ⟨rfl, rfl⟩]
theorem upM_nk {M : Mem} {a k : Nat} {v : Int32} {j : Nat} (h : j ≠ k) : upM M a k v a j = M a j := by
  unfold upM; rw [if_neg (fun q => h q.2)]
theorem fvM_ne {G : EG} {M : Mem} {a k : Nat} {v : Int32} {b : Nat} (h : b ≠ a) (t : Nat) : fvM G (upM M a k v) b t = fvM G M b t := by
  funext j
  unfold fvM
  rw [upM_ne h]
theorem ceM_ne {G : EG} {M : Mem} {X : PX} {a k : Nat} {v : Int32} {b : Nat} (h : b ≠ a) : ceM G (upM M a k v) X b = ceM G M X b := by
  have e : cvM G (upM M a k v) b = cvM G M b := by funext j; unfold cvM; rw [upM_ne h]
  unfold ceM
  rw [fvM_ne h, e]
  congr 1
  · congr 1; congr 1; congr 1; congr 1; funext j; exact upM_ne h j
theorem tyA_lt {a : Nat} (h : tyA a ≠ 0) : a < 829 := by
  rcases Nat.lt_or_ge a 829 with q | q
  · exact q
  · exfalso
    apply h
    unfold tyA
    rw [List.getD_eq_getElem?_getD, List.getElem?_eq_none]
    · rfl
    · show lay0.length ≤ a
      have : lay0.length = 829 := by decide +kernel
      omega
theorem nbeq_f {a b : Nat} (h : a ≠ b) : Nat.beq a b = false := by
  cases hb : Nat.beq a b with
  | false => rfl
  | true => exact absurd (Nat.eq_of_beq_eq_true hb) h
theorem nbeq_t {a b : Nat} (h : Nat.beq a b = true) : a = b := Nat.eq_of_beq_eq_true h
theorem nbeq_n {a b : Nat} (h : Nat.beq a b = false) : a ≠ b := fun e => by subst e; rw [Nat.beq_refl] at h; cases h
theorem ceM_i {G : EG} {M : Mem} {X : PX} {a : Nat} (h : tyA a = 14) : ceM G M X a = .inl (gI G, ln a, .inl (fun j => M a j)) := by unfold ceM; rw [h]; rfl
theorem ceM_l {G : EG} {M : Mem} {X : PX} {a : Nat} (h : tyA a = 15) : ceM G M X a = .inl (gL G, ln a, .inr (.inl (fun _ => X.1))) := by unfold ceM; rw [h]; rfl
theorem ceM_s {G : EG} {M : Mem} {X : PX} {a : Nat} (h : tyA a = 16) : ceM G M X a = .inl (gS G, 10, .inr (.inr (.inr (.inr (cvM G M a))))) := by unfold ceM; rw [h]; rfl
theorem ceM_o {G : EG} {M : Mem} {X : PX} {a t : Nat} (h : tyA a = t) (h2 : t ≤ 13) : ceM G M X a = .inr (kci t, (List.range (nfT t)).map (fvM G M a t)) := by
  unfold ceM
  rw [h]
  have e1 : Nat.beq t 14 = false := nbeq_f (by omega)
  have e2 : Nat.beq t 15 = false := nbeq_f (by omega)
  have e3 : Nat.beq t 16 = false := nbeq_f (by omega)
  rw [e1, e2, e3]
  rfl
theorem HR.P {G : EG} {M : Mem} {X : PX} {H : Heap} (h : HR G M X H) : va_P (gD G) vwCl (wsM G M X) H := h.1
theorem rf_up {M : Mem} {na a k : Nat} {v : Int32} (h : rfOK M na) (hr : isRf a k = true → a + rof a k < na) : rfOK (upM M a k v) na := by
  intro b j hb hj h1
  by_cases e : b = a ∧ j = k
  · obtain ⟨rfl, rfl⟩ := e
    exact hr hj
  · unfold upM at h1
    rw [if_neg e] at h1
    exact h b j hb hj h1
theorem rf_nl {M : Mem} {na : Nat} (h : rfOK M na) : rfOK (nlM M na) (na + 1) := by
  intro b j hb hj h1
  unfold nlM at h1
  by_cases e : b = na
  · rw [if_pos e] at h1; cases h1
  · rw [if_neg e] at h1
    have := h b j (by omega) hj h1
    omega
theorem rf_cp {M : Mem} {na s sp d dp n : Nat} (h : rfOK M na) (ht : tyA d = 14) : rfOK (cpM M s sp d dp n) na := by
  intro b j hb hj h1
  by_cases e : b = d
  · subst e
    exfalso
    unfold isRf fkA at hj
    rw [ht] at hj
    cases hj
  · unfold cpM at h1
    rw [if_neg (fun q => e q.1)] at h1
    exact h b j hb hj h1
theorem set_iff {M : Mem} {na : Nat} : setA na M = true ↔ ∀ a k, a < na → isRf a k = true → M a k = 1 := by
  unfold setA
  rw [List.all_eq_true]
  constructor
  · intro h a k ha hk
    have h1 := h a (List.mem_range.mpr ha)
    unfold setOK at h1
    rw [List.all_eq_true] at h1
    have hl : k < (bif Nat.beq (tyA a) 16 then 10 else (fkT.getD (tyA a) []).length) := by
      unfold isRf at hk
      cases hb : Nat.beq (tyA a) 16 with
      | true =>
        have e : tyA a = 16 := nbeq_t hb
        rw [hb] at hk
        simp only [Bool.true_and, Bool.or_eq_true] at hk
        rcases hk with hk | hk
        · exact Nat.le_of_ble_eq_true hk
        · rw [e] at hk; cases hk
      | false =>
        rw [hb] at hk
        simp only [Bool.false_and, Bool.false_or] at hk
        show k < (fkT.getD (tyA a) []).length
        rcases Nat.lt_or_ge k (fkT.getD (tyA a) []).length with q | q
        · exact q
        · exfalso
          unfold fkA at hk
          rw [List.getD_eq_getElem?_getD, List.getElem?_eq_none q] at hk
          cases hk
    have h2 := h1 k (List.mem_range.mpr hl)
    rw [hk] at h2
    simpa using h2
  · intro h a ha
    unfold setOK
    rw [List.all_eq_true]
    intro k _
    cases hr : isRf a k with
    | false => rfl
    | true => simpa using h a k (List.mem_range.mp ha) hr
theorem set_up {M : Mem} {na a k : Nat} {v : Int32} (h : setA na M = true) (hr : isRf a k = false) : setA na (upM M a k v) = true := by
  rw [set_iff] at h ⊢
  intro b j hb hj
  unfold upM
  split
  · next e =>
    obtain ⟨rfl, rfl⟩ := e
    rw [hr] at hj; cases hj
  · exact h b j hb hj
theorem set_cp {M : Mem} {na s sp d dp n : Nat} (h : setA na M = true) (ht : tyA d = 14) : setA na (cpM M s sp d dp n) = true := by
  rw [set_iff] at h ⊢
  intro b j hb hj
  unfold cpM
  split
  · next e =>
    obtain ⟨rfl, -⟩ := e
    exfalso
    unfold isRf fkA at hj
    rw [ht] at hj
    cases hj
  · exact h b j hb hj
theorem nrf_i {a k : Nat} (h : tyA a = 14) : isRf a k = false := by unfold isRf fkA; rw [h]; rfl
theorem nrf_o {a k t kd : Nat} (h : tyA a = t) (h2 : t ≤ 13) (hk : (fkA t k).1 = kd) (h3 : kd ≠ 2) : isRf a k = false := by
  unfold isRf
  rw [h, hk, nbeq_f (by omega : t ≠ 16), nbeq_f h3]
  rfl
/-- behind a store of an int in a cell of ours -/
theorem HR_up {G : EG} {M : Mem} {X : PX} {H H1 : Heap} {a k : Nat} {v : Int32} (h : HR G M X H) (ht : tyA a ≠ 0) (hr : isRf a k = true → a + rof a k < X.2.1) (hP : va_P (gD G) vwCl (wsM G (upM M a k v) X) H1) (hz : H1.size = H.size) : HR G (upM M a k v) X H1 :=
  ⟨hP, fun q => by rw [hz]; exact h.2.1 q, h.2.2.1, fun j hj => by rw [upM_ne (by have := tyA_lt ht; omega)]; exact h.2.2.2.1 j hj, rf_up h.2.2.2.2.1 hr, h.2.2.2.2.2⟩
/-! undoing the readers of the stack -/
theorem u1_inv {β : Type} {st : List PV} {f : Int32 → List PV → Option β} {r : β} (h : u1 st f = some r) : ∃ x q, st = pI x :: q ∧ f x q = some r := by
  unfold u1 at h; split at h <;> first | exact ⟨_, _, rfl, h⟩ | cases h
theorem u2_inv {β : Type} {st : List PV} {f : Int32 → Int32 → List PV → Option β} {r : β} (h : u2 st f = some r) : ∃ x y q, st = pI y :: pI x :: q ∧ f x y q = some r := by
  unfold u2 at h; split at h <;> first | exact ⟨_, _, _, rfl, h⟩ | cases h
theorem ul1_inv {β : Type} {st : List PV} {f : Int64 → List PV → Option β} {r : β} (h : ul1 st f = some r) : ∃ x q, st = pL x :: q ∧ f x q = some r := by
  unfold ul1 at h; split at h <;> first | exact ⟨_, _, rfl, h⟩ | cases h
theorem ul2_inv {β : Type} {st : List PV} {f : Int64 → Int64 → List PV → Option β} {r : β} (h : ul2 st f = some r) : ∃ x y q, st = pL y :: pL x :: q ∧ f x y q = some r := by
  unfold ul2 at h; split at h <;> first | exact ⟨_, _, _, rfl, h⟩ | cases h
theorem ur1_inv {β : Type} {st : List PV} {f : Nat → Nat → List PV → Option β} {r : β} (h : ur1 st f = some r) : ∃ c a q, st = pR c a :: q ∧ f c a q = some r := by
  unfold ur1 at h; split at h <;> first | exact ⟨_, _, _, rfl, h⟩ | cases h
theorem uir_inv {β : Type} {st : List PV} {f : Nat → Nat → Int32 → List PV → Option β} {r : β} (h : uir st f = some r) : ∃ c a x q, st = pI x :: pR c a :: q ∧ f c a x q = some r := by
  unfold uir at h; split at h <;> first | exact ⟨_, _, _, _, rfl, h⟩ | cases h
theorem uiir_inv {β : Type} {st : List PV} {f : Nat → Nat → Int32 → Int32 → List PV → Option β} {r : β} (h : uiir st f = some r) : ∃ c a i v q, st = pI v :: pI i :: pR c a :: q ∧ f c a i v q = some r := by
  unfold uiir at h; split at h <;> first | exact ⟨_, _, _, _, _, rfl, h⟩ | cases h
theorem ulir_inv {β : Type} {st : List PV} {f : Nat → Nat → Int32 → Int64 → List PV → Option β} {r : β} (h : ulir st f = some r) : ∃ c a i v q, st = pL v :: pI i :: pR c a :: q ∧ f c a i v q = some r := by
  unfold ulir at h; split at h <;> first | exact ⟨_, _, _, _, _, rfl, h⟩ | cases h
theorem urir_inv {β : Type} {st : List PV} {f : Nat → Nat → Int32 → Nat → Nat → List PV → Option β} {r : β} (h : urir st f = some r) : ∃ c a i d b q, st = pR d b :: pI i :: pR c a :: q ∧ f c a i d b q = some r := by
  unfold urir at h; split at h <;> first | exact ⟨_, _, _, _, _, _, rfl, h⟩ | cases h
theorem urr_inv {β : Type} {st : List PV} {f : Nat → Nat → Nat → Nat → List PV → Option β} {r : β} (h : urr st f = some r) : ∃ c a d b q, st = pR d b :: pR c a :: q ∧ f c a d b q = some r := by
  unfold urr at h; split at h <;> first | exact ⟨_, _, _, _, _, rfl, h⟩ | cases h
theorem ucp_inv {β : Type} {st : List PV} {f : Nat → Nat → Int32 → Nat → Nat → Int32 → Int32 → List PV → Option β} {r : β} (h : ucp st f = some r) : ∃ c a sp d b dp n q, st = pI n :: pI dp :: pR d b :: pI sp :: pR c a :: q ∧ f c a sp d b dp n q = some r := by
  unfold ucp at h; split at h <;> first | exact ⟨_, _, _, _, _, _, _, _, rfl, h⟩ | cases h
theorem utop_inv {β : Type} {st : List PV} {f : PV → List PV → Option β} {r : β} (h : utop st f = some r) : ∃ v q, st = v :: q ∧ (∀ x, v ≠ pL x) ∧ f v q = some r := by
  unfold utop at h; split at h
  · exact ⟨_, _, rfl, (fun x q => (by cases q)), h⟩
  · exact ⟨_, _, rfl, (fun x q => (by cases q)), h⟩
  · cases h
theorem ue_inv {β : Type} {st : List PV} {b : Option β} {r : β} (h : ue st b = some r) : st = [] ∧ b = some r := by
  unfold ue at h; split at h <;> first | exact ⟨rfl, h⟩ | cases h
theorem bif_inv {β : Type} {b : Bool} {x : Option β} {r : β} (h : (bif b then x else none) = some r) : b = true ∧ x = some r := by
  cases b
  · cases h
  · exact ⟨rfl, h⟩
theorem bif_ninv {β : Type} {b : Bool} {x : Option β} {r : β} (h : (bif b then none else x) = some r) : b = false ∧ x = some r := by
  cases b
  · exact ⟨rfl, h⟩
  · cases h
theorem ite_inv {β : Type} {c : Prop} [Decidable c] {x : Option β} {r : β} (h : (if c then x else none) = some r) : c ∧ x = some r := by
  by_cases hc : c
  · rw [if_pos hc] at h; exact ⟨hc, h⟩
  · rw [if_neg hc] at h; cases h
theorem ite_ninv {β : Type} {c : Prop} [Decidable c] {x : Option β} {r : β} (h : (if c then none else x) = some r) : ¬ c ∧ x = some r := by
  by_cases hc : c
  · rw [if_pos hc] at h; cases h
  · rw [if_neg hc] at h; exact ⟨hc, h⟩
theorem bind_inv {α β : Type} {a : Option α} {f : α → Option β} {r : β} (h : a.bind f = some r) : ∃ v, a = some v ∧ f v = some r := by cases a <;> first | cases h | exact ⟨_, rfl, h⟩
end
section
/-! the layout, by count -/
theorem lay_len : lay0.length = 829 := by decide +kernel
theorem ty_one (t b : Nat) (ht : t ≠ 0) (h : (List.range 829).all (fun a => !(Nat.beq (tyA a) t) || Nat.beq a b) = true) {a : Nat} (ha : tyA a = t) : a = b := by
  have h1 := List.all_eq_true.mp h a (List.mem_range.mpr (tyA_lt (by rw [ha]; exact ht)))
  rw [ha, Nat.beq_refl] at h1
  exact nbeq_t (by simpa using h1)
theorem long_one {a : Nat} (h : tyA a = 15) : a = 828 := ty_one 15 828 (by decide) (by decide +kernel) h
theorem acts_one {a : Nat} (h : tyA a = 16) : a = 134 := ty_one 16 134 (by decide) (by decide +kernel) h
theorem st_at : ∀ {k : Nat}, k < 10 → tyA (134 + 1 + 50 * k) = 6 := by
  have h : (List.range 10).all (fun k => Nat.beq (tyA (134 + 1 + 50 * k)) 6) = true := by decide +kernel
  intro k hk
  exact nbeq_t (List.all_eq_true.mp h k (List.mem_range.mpr hk))
end
section
/-! one instruction after the other -/
section FRA
variable {p : Program} {l : Launch} {e : Env} {R : Room} {s : State} {m : MethodId} {args : Array Value} {below : List Frame} {meth : Method} {c : Code} {Q : State → Prop} {cc : ByteArray} {G : EG} {mi lv nL : Nat} {ph : Bool} {cl : Nat → Nat → List PV → Mem → PX → Option PRs} {K : KT} {r0 : PRs} {pc tg : Nat} {cv : Int32} {L st : List PV} {ls : Array Slot} {M : Mem} {X : PX} {H : Heap} {locs : List Loc}
def cX (mi : Nat) (X : PX) : Nat := bif alM mi then X.2.2.2.1 else 0
def sX (mi : Nat) (X : PX) : Nat := bif alM mi then X.2.2.2.2.1 else 0
def gv (v : PV) : Prop := match v with
  | .inr (.inr (k, _)) => k ≠ 0
  | _ => True
theorem nth_out : ∀ (L : List PV) (i : Nat), plen L ≤ i → nth L i = p0
  | [], _, _ => rfl
  | _ :: _, 0, h => absurd h (Nat.not_succ_le_zero _)
  | _ :: L, i + 1, h => nth_out L i (Nat.le_of_succ_le_succ h)
def LRl (G : EG) (n : Nat) (ls : Array Slot) (L : List PV) : Prop := plen L = n ∧ ls.size = n ∧ lv_wf ls ∧ ∀ i v, nth L i = v → gv v → ls[i]? = some (.val (tvG G v))
def FI (G : EG) (s : State) (H : Heap) (locs : List Loc) (ph : Bool) (n : Nat) (M : Mem) (X : PX) (ls : Array Slot) (L st : List PV) : Prop :=
  HR G M X H ∧ (ph = true → setA X.2.1 M = true) ∧ va_S (gA G) s.heap H locs ∧ LRl G n ls L ∧ (∀ i, okV X.2.1 (nth L i)) ∧ (∀ v ∈ st, okV X.2.1 v ∧ gv v) ∧ (gU G = .null ∨ ∃ q, gU G = .ref q)
def IHK (p : Program) (l : Launch) (e : Env) (R : Room) (s : State) (m : MethodId) (args : Array Value) (below : List Frame) (meth : Method) (c : Code) (Q : State → Prop) (G : EG) (mi nL : Nat) (ph : Bool) (K : KT) (r0 : PRs) : Prop :=
  ∀ (pc : Nat) (L st : List PV) (M : Mem) (X : PX) (H : Heap) (locs : List Loc) (ls : Array Slot), K pc L st M X = some r0 → FI G s H locs ph nL M X ls L st → W p l e R s m args below meth c H locs (cX mi X) (sX mi X) Q (F0 m pc ls ((st).map (tvG G)))
theorem fi_st {st' : List PV} (fi : FI G s H locs ph nL M X ls L st) (h : ∀ v ∈ st', okV X.2.1 v ∧ gv v) : FI G s H locs ph nL M X ls L st' := ⟨fi.1, fi.2.1, fi.2.2.1, fi.2.2.2.1, fi.2.2.2.2.1, h, fi.2.2.2.2.2.2⟩
theorem fi_tl {v : PV} (fi : FI G s H locs ph nL M X ls L (v :: st)) : FI G s H locs ph nL M X ls L st := fi_st fi fun w hw => fi.2.2.2.2.2.1 w (List.mem_cons_of_mem _ hw)
theorem fi_hd {v : PV} (fi : FI G s H locs ph nL M X ls L (v :: st)) : okV X.2.1 v ∧ gv v := fi.2.2.2.2.2.1 v List.mem_cons_self
theorem fi_push {v : PV} (fi : FI G s H locs ph nL M X ls L st) (h : okV X.2.1 v ∧ gv v) : FI G s H locs ph nL M X ls L (v :: st) := fi_st fi fun w hw => by
  rcases List.mem_cons.mp hw with rfl | hw
  · exact h
  · exact fi.2.2.2.2.2.1 w hw
theorem fi_I {x : Int32} (fi : FI G s H locs ph nL M X ls L st) : FI G s H locs ph nL M X ls L (pI x :: st) := fi_push fi ⟨trivial, trivial⟩
theorem fi_L {x : Int64} (fi : FI G s H locs ph nL M X ls L st) : FI G s H locs ph nL M X ls L (pL x :: st) := fi_push fi ⟨trivial, trivial⟩
theorem fi_R {k a : Nat} (fi : FI G s H locs ph nL M X ls L st) (h0 : k ≠ 0) (h : okR X.2.1 k a) : FI G s H locs ph nL M X ls L (pR k a :: st) := fi_push fi ⟨fun _ => h, h0⟩
theorem fi_lr (fi : FI G s H locs ph nL M X ls L st) : LRl G nL ls L := fi.2.2.2.1
theorem fi_ok {k a : Nat} (fi : FI G s H locs ph nL M X ls L (pR k a :: st)) : k ≠ 0 ∧ okR X.2.1 k a := ⟨(fi_hd fi).2, (fi_hd fi).1 (fi_hd fi).2⟩
theorem fi_nth {k a i : Nat} (fi : FI G s H locs ph nL M X ls L st) (h : nth L i = pR k a) (h0 : k ≠ 0) : okR X.2.1 k a := by
  have h1 := fi.2.2.2.2.1 i
  rw [h] at h1
  exact h1 h0
theorem lr_at {i : Nat} {v : PV} (h : LRl G nL ls L) (hv : nth L i = v) (hg : gv v) : ls[i]? = some (.val (tvG G v)) := h.2.2.2 i v hv hg
theorem tv_r {k a : Nat} (hU : gU G = .null ∨ ∃ q, gU G = .ref q) (h : k ≤ 20) : (k = 20 ∧ tvG G (pR k a) = gU G) ∨ ∃ q, tvG G (pR k a) = .ref q := by
  show (k = 20 ∧ (bif Nat.beq k 17 then Value.ref (gC G) else bif Nat.beq k 18 then .ref (gK G a) else bif Nat.beq k 19 then .ref (gV G a) else bif Nat.beq k 20 then gU G else .ref (gb G + a)) = gU G) ∨ ∃ q, (bif Nat.beq k 17 then Value.ref (gC G) else bif Nat.beq k 18 then .ref (gK G a) else bif Nat.beq k 19 then .ref (gV G a) else bif Nat.beq k 20 then gU G else .ref (gb G + a)) = .ref q
  by_cases h1 : k = 17
  · subst h1; exact Or.inr ⟨_, rfl⟩
  rw [nbeq_f h1]
  by_cases h2 : k = 18
  · subst h2; exact Or.inr ⟨_, rfl⟩
  rw [nbeq_f h2]
  by_cases h3 : k = 19
  · subst h3; exact Or.inr ⟨_, rfl⟩
  rw [nbeq_f h3]
  by_cases h4 : k = 20
  · subst h4; exact Or.inl ⟨rfl, rfl⟩
  rw [nbeq_f h4]
  exact Or.inr ⟨_, rfl⟩
theorem tv_ref {k a : Nat} (h : k ≤ 16) : tvG G (pR k a) = .ref (gb G + a) := by
  show (bif Nat.beq k 17 then Value.ref (gC G) else bif Nat.beq k 18 then .ref (gK G a) else bif Nat.beq k 19 then .ref (gV G a) else bif Nat.beq k 20 then gU G else .ref (gb G + a)) = _
  rw [nbeq_f (by omega), nbeq_f (by omega), nbeq_f (by omega), nbeq_f (by omega)]
  rfl
theorem plen_pset : ∀ (L : List PV) (i : Nat) (v : PV), plen (pset L i v) = plen L
  | [], _, _ => rfl
  | _ :: _, 0, _ => rfl
  | _ :: L, i + 1, v => congrArg (· + 1) (plen_pset L i v)
theorem nth_pset : ∀ (L : List PV) (i : Nat) (v : PV) (j : Nat), i < plen L → nth (pset L i v) j = if j = i then v else nth L j
  | [], _, _, _, h => absurd h (Nat.not_lt_zero _)
  | _ :: _, 0, _, 0, _ => rfl
  | _ :: _, 0, _, j + 1, _ => by simp [pset, nth]
  | _ :: _, i + 1, _, 0, _ => by simp [pset, nth]
  | _ :: L, i + 1, v, j + 1, h => by
    have h1 := nth_pset L i v j (Nat.lt_of_succ_lt_succ h)
    simp only [pset, nth, h1, Nat.add_right_cancel_iff]
theorem plen_kll (L : List PV) (i : Nat) : plen (kll L i) = plen L := by
  unfold kll; split
  · rfl
  · split
    · exact plen_pset _ _ _
    · rfl
theorem nth_kll (L : List PV) (i j : Nat) (hi : i < plen L + 1) : nth (kll L i) j = nth L j ∨ (nth (kll L i) j = p0 ∧ j + 1 = i ∧ ∃ x, nth L j = pL x) := by
  unfold kll; split
  · exact Or.inl rfl
  · next k =>
    split
    · next x hx =>
      rw [nth_pset _ _ _ _ (Nat.lt_of_succ_lt_succ hi)]
      by_cases hj : j = k
      · subst hj; rw [if_pos rfl]; exact Or.inr ⟨rfl, rfl, x, hx⟩
      · rw [if_neg hj]; exact Or.inl rfl
    · exact Or.inl rfl
theorem kll_long (L : List PV) (i j : Nat) (hi : i < plen L + 1) {x : Int64} (hj : j + 1 = i) (h : nth L j = pL x) : nth (kll L i) j = p0 := by
  subst hj
  show nth (match nth L j with | .inr (.inl _) => pset L j p0 | _ => L) j = p0
  rw [h]
  show nth (pset L j p0) j = p0
  rw [nth_pset _ _ _ _ (Nat.lt_of_succ_lt_succ hi), if_pos rfl]
def lvL (G : EG) (n : Nat) (L : List PV) : List (Nat × Value) := (List.range n).filterMap fun i => match nth L i with
  | .inr (.inr (0, _)) => none
  | v => some (i, tvG G v)
theorem lvL_mem {n i : Nat} {v : PV} (hi : i < n) (hv : nth L i = v) (hg : gv v) : (i, tvG G v) ∈ lvL G n L := by
  refine List.mem_filterMap.mpr ⟨i, List.mem_range.mpr hi, ?_⟩
  rw [hv]
  rcases v with x | x | ⟨k, a⟩
  · rfl
  · rfl
  · cases k with
    | zero => exact absurd rfl hg
    | succ k => rfl
theorem lvL_of {n : Nat} {q : Nat × Value} (h : q ∈ lvL G n L) : q.1 < n ∧ ∃ v, nth L q.1 = v ∧ gv v ∧ q.2 = tvG G v := by
  obtain ⟨i, hi, hq⟩ := List.mem_filterMap.mp h
  have hi := List.mem_range.mp hi
  split at hq
  · cases hq
  · next v0 hn =>
    cases hq
    refine ⟨hi, _, rfl, ?_, rfl⟩
    rcases hv : nth L i with x | x | ⟨k, a⟩
    · trivial
    · trivial
    · intro hk
      exact hn a (by rw [hv, show k = 0 from hk])
theorem lr_has (h : LRl G nL ls L) : lv_has ls nL (lvL G nL L) := ⟨h.2.1, h.2.2.1, fun q hq => by
  obtain ⟨-, v, h1, h2, h3⟩ := lvL_of hq
  rw [h3]
  exact h.2.2.2 q.1 v h1 h2⟩
theorem cat_tv {na : Nat} {v : PV} (hU : gU G = .null ∨ ∃ q, gU G = .ref q) (hg : gv v) (hok : okV na v) : (tvG G v).category = 2 ↔ ∃ x, v = pL x := by
  rcases v with x | x | ⟨k, a⟩
  · exact ⟨fun h => (by cases h), fun ⟨_, h⟩ => (by cases h)⟩
  · exact ⟨fun _ => ⟨x, rfl⟩, fun _ => rfl⟩
  · refine ⟨fun h => ?_, fun ⟨_, h⟩ => (by cases h)⟩
    rcases tv_r (a := a) hU (hok hg).2.2.2 with ⟨-, e⟩ | ⟨q, e⟩
    · have h : (tvG G (pR k a)).category = 2 := h
      rw [e] at h
      rcases hU with e2 | ⟨q, e2⟩ <;> (rw [e2] at h; cases h)
    · have h : (tvG G (pR k a)).category = 2 := h
      rw [e] at h
      cases h
/-- behind a store of one slot -/
theorem lr_st1 {i : Nat} {v : PV} {ls' : Array Slot} (fi : FI G s H locs ph nL M X ls L st) (hi : i < plen L) (h : lv_has ls' nL ((i, tvG G v) :: (lvL G nL L).filter (fun q => !(q.1 == i) && !(q.1 + 1 == i && q.2.category == 2)))) : LRl G nL ls' (st1 L i v) := by
  have hn : plen L = nL := (fi_lr fi).1
  refine ⟨by unfold st1; rw [plen_pset, plen_kll]; exact hn, h.1, h.2.1, fun j w hj hg => ?_⟩
  have e1 : nth (st1 L i v) j = if j = i then v else nth (kll L i) j := nth_pset _ _ _ _ (by rw [plen_kll]; exact hi)
  rw [e1] at hj
  by_cases hji : j = i
  · rw [if_pos hji] at hj
    subst hji; subst hj
    exact h.2.2 _ List.mem_cons_self
  · rw [if_neg hji] at hj
    rcases nth_kll L i j (by omega) with e2 | ⟨e2, -, -⟩
    · rw [e2] at hj
      have hjn : j < nL := by
        rcases Nat.lt_or_ge j nL with q | q
        · exact q
        · exfalso
          rw [← hn] at q
          rw [nth_out _ _ q] at hj
          rw [← hj] at hg
          exact hg rfl
      have hm := lvL_mem (G := G) hjn hj hg
      refine h.2.2 (j, tvG G w) (List.mem_cons_of_mem _ (List.mem_filter.mpr ⟨hm, ?_⟩))
      have c1 : (j == i) = false := by simpa using hji
      by_cases hj1 : j + 1 = i
      · have c2 : ((tvG G w).category == 2) = false := by
          cases hb : (tvG G w).category == 2 with
          | false => rfl
          | true =>
            exfalso
            obtain ⟨x, hx⟩ := (cat_tv fi.2.2.2.2.2.2 hg (by rw [← hj]; exact fi.2.2.2.2.1 j)).mp (by simpa using hb)
            rw [hx] at hj
            rw [kll_long L i j (by omega) hj1 hj] at e2
            rw [hj] at e2
            cases e2
        simp [c1, c2]
      · have c2 : (j + 1 == i) = false := by simpa using hj1
        simp [c1, c2]
    · rw [e2] at hj
      rw [← hj] at hg
      exact absurd rfl hg
theorem lr_st2 {i : Nat} {v : PV} {ls' : Array Slot} (fi : FI G s H locs ph nL M X ls L st) (hi : i + 1 < plen L) (h : lv_has ls' nL ((i, tvG G v) :: (lvL G nL L).filter (fun q => !(q.1 == i) && (!(q.1 == i + 1) && !(q.1 + 1 == i && q.2.category == 2))))) : LRl G nL ls' (st2 L i v) := by
  have hn : plen L = nL := (fi_lr fi).1
  refine ⟨by unfold st2; rw [plen_pset, plen_pset, plen_kll]; exact hn, h.1, h.2.1, fun j w hj hg => ?_⟩
  have e1 : nth (st2 L i v) j = if j = i + 1 then p0 else if j = i then v else nth (kll L i) j := by
    unfold st2
    rw [nth_pset _ _ _ _ (by rw [plen_pset, plen_kll]; exact hi), nth_pset _ _ _ _ (by rw [plen_kll]; omega)]
  rw [e1] at hj
  by_cases hj2 : j = i + 1
  · rw [if_pos hj2] at hj
    rw [← hj] at hg
    exact absurd rfl hg
  rw [if_neg hj2] at hj
  by_cases hji : j = i
  · rw [if_pos hji] at hj
    subst hji; subst hj
    exact h.2.2 _ List.mem_cons_self
  · rw [if_neg hji] at hj
    rcases nth_kll L i j (by omega) with e2 | ⟨e2, -, -⟩
    · rw [e2] at hj
      have hjn : j < nL := by
        rcases Nat.lt_or_ge j nL with q | q
        · exact q
        · exfalso
          rw [← hn] at q
          rw [nth_out _ _ q] at hj
          rw [← hj] at hg
          exact hg rfl
      have hm := lvL_mem (G := G) hjn hj hg
      refine h.2.2 (j, tvG G w) (List.mem_cons_of_mem _ (List.mem_filter.mpr ⟨hm, ?_⟩))
      have c1 : (j == i) = false := by simpa using hji
      have c3 : (j == i + 1) = false := by simpa using hj2
      by_cases hj1 : j + 1 = i
      · have c2 : ((tvG G w).category == 2) = false := by
          cases hb : (tvG G w).category == 2 with
          | false => rfl
          | true =>
            exfalso
            obtain ⟨x, hx⟩ := (cat_tv fi.2.2.2.2.2.2 hg (by rw [← hj]; exact fi.2.2.2.2.1 j)).mp (by simpa using hb)
            rw [hx] at hj
            rw [kll_long L i j (by omega) hj1 hj] at e2
            rw [hj] at e2
            cases e2
        simp [c1, c2, c3]
      · have c2 : (j + 1 == i) = false := by simpa using hj1
        simp [c1, c2, c3]
    · rw [e2] at hj
      rw [← hj] at hg
      exact absurd rfl hg
theorem ok_st1 {i j : Nat} {v : PV} (fi : FI G s H locs ph nL M X ls L st) (hi : i < plen L) (hv : okV X.2.1 v) : okV X.2.1 (nth (st1 L i v) j) := by
  have e1 : nth (st1 L i v) j = if j = i then v else nth (kll L i) j := nth_pset _ _ _ _ (by rw [plen_kll]; exact hi)
  rw [e1]
  split
  · exact hv
  · rcases nth_kll L i j (by omega) with e2 | ⟨e2, -, -⟩
    · rw [e2]; exact fi.2.2.2.2.1 j
    · rw [e2]; exact fun h => absurd rfl h
theorem ok_st2 {i j : Nat} {v : PV} (fi : FI G s H locs ph nL M X ls L st) (hi : i + 1 < plen L) (hv : okV X.2.1 v) : okV X.2.1 (nth (st2 L i v) j) := by
  have e1 : nth (st2 L i v) j = if j = i + 1 then p0 else if j = i then v else nth (kll L i) j := by
    unfold st2
    rw [nth_pset _ _ _ _ (by rw [plen_pset, plen_kll]; exact hi), nth_pset _ _ _ _ (by rw [plen_kll]; omega)]
  rw [e1]
  split
  · exact fun h => absurd rfl h
  split
  · exact hv
  · rcases nth_kll L i j (by omega) with e2 | ⟨e2, -, -⟩
    · rw [e2]; exact fi.2.2.2.2.1 j
    · rw [e2]; exact fun h => absurd rfl h
theorem fi_st1 {i : Nat} {v : PV} {ls' : Array Slot} (fi : FI G s H locs ph nL M X ls L st) (hi : i < plen L) (hv : okV X.2.1 v) (h : lv_has ls' nL ((i, tvG G v) :: (lvL G nL L).filter (fun q => !(q.1 == i) && !(q.1 + 1 == i && q.2.category == 2)))) : FI G s H locs ph nL M X ls' (st1 L i v) st :=
  ⟨fi.1, fi.2.1, fi.2.2.1, lr_st1 fi hi h, fun _ => ok_st1 fi hi hv, fi.2.2.2.2.2⟩
theorem fi_st2 {i : Nat} {v : PV} {ls' : Array Slot} (fi : FI G s H locs ph nL M X ls L st) (hi : i + 1 < plen L) (hv : okV X.2.1 v) (h : lv_has ls' nL ((i, tvG G v) :: (lvL G nL L).filter (fun q => !(q.1 == i) && (!(q.1 == i + 1) && !(q.1 + 1 == i && q.2.category == 2))))) : FI G s H locs ph nL M X ls' (st2 L i v) st :=
  ⟨fi.1, fi.2.1, fi.2.2.1, lr_st2 fi hi h, fun _ => ok_st2 fi hi hv, fi.2.2.2.2.2⟩

theorem cat1 {v : PV} (fi : FI G s H locs ph nL M X ls L st) (h : okV X.2.1 v ∧ gv v) (hn : ∀ x, v ≠ pL x) : (tvG G v).category = 1 := by
  rcases lv_cat (tvG G v) with q | q
  · exact q
  · obtain ⟨x, hx⟩ := (cat_tv fi.2.2.2.2.2.2 h.2 h.1).mp q
    exact absurd hx (hn x)
theorem one_inv {v w : PV} {q : List PV} (h : [v] = w :: q) : v = w := by cases h; rfl
theorem lt_of_blt {a b : Nat} (h : Nat.blt a b = true) : a < b := Nat.le_of_ble_eq_true h
theorem fr_iconst {n : Int} (hx : p.tables.exec = Jvm.exec) (hb : c.code = cc) (ih : IHK p l e R s m args below meth c Q G mi nL ph K r0) (fi : FI G s H locs ph nL M X ls L st) (h : stp ph cl mi lv K (pc, .iconst n, 1, tg, cv) L st M X = some r0) (hd : decode cc pc = .ok (.iconst n, 1)) (hv : Int32.ofInt n = cv) : W p l e R s m args below meth c H locs (cX mi X) (sX mi X) Q (F0 m pc ls ((st).map (tvG G))) := by
  unfold stp at h
  dsimp only at h
  exact lv_iconst hx hb hd hv (ih _ _ _ _ _ _ _ _ h (fi_I fi))
theorem fr_bipush {n : Int} (hx : p.tables.exec = Jvm.exec) (hb : c.code = cc) (ih : IHK p l e R s m args below meth c Q G mi nL ph K r0) (fi : FI G s H locs ph nL M X ls L st) (h : stp ph cl mi lv K (pc, .bipush n, 2, tg, cv) L st M X = some r0) (hd : decode cc pc = .ok (.bipush n, 2)) (hv : (Int8.ofInt n).toInt32 = cv) : W p l e R s m args below meth c H locs (cX mi X) (sX mi X) Q (F0 m pc ls ((st).map (tvG G))) := by
  unfold stp at h
  dsimp only at h
  exact lv_bipush hx hb hd hv (ih _ _ _ _ _ _ _ _ h (fi_I fi))
theorem fr_sipush {n : Int} (hx : p.tables.exec = Jvm.exec) (hb : c.code = cc) (ih : IHK p l e R s m args below meth c Q G mi nL ph K r0) (fi : FI G s H locs ph nL M X ls L st) (h : stp ph cl mi lv K (pc, .sipush n, 3, tg, cv) L st M X = some r0) (hd : decode cc pc = .ok (.sipush n, 3)) (hv : (Int16.ofInt n).toInt32 = cv) : W p l e R s m args below meth c H locs (cX mi X) (sX mi X) Q (F0 m pc ls ((st).map (tvG G))) := by
  unfold stp at h
  dsimp only at h
  exact lv_sipush hx hb hd hv (ih _ _ _ _ _ _ _ _ h (fi_I fi))
theorem fr_lconst {k : Fin 2} (hx : p.tables.exec = Jvm.exec) (hb : c.code = cc) (ih : IHK p l e R s m args below meth c Q G mi nL ph K r0) (fi : FI G s H locs ph nL M X ls L st) (h : stp ph cl mi lv K (pc, .lconst k, 1, tg, cv) L st M X = some r0) (hd : decode cc pc = .ok (.lconst k, 1)) : W p l e R s m args below meth c H locs (cX mi X) (sX mi X) Q (F0 m pc ls ((st).map (tvG G))) := by
  unfold stp at h
  dsimp only at h
  refine lv_lconst (v := bif Nat.beq k.val 0 then 0 else 1) hx hb hd ?_ (ih _ _ _ _ _ _ _ _ h (fi_L fi))
  match k with
  | 0 => rfl
  | 1 => rfl
theorem fr_iload_n {k : Fin 4} (hx : p.tables.exec = Jvm.exec) (hb : c.code = cc) (ih : IHK p l e R s m args below meth c Q G mi nL ph K r0) (fi : FI G s H locs ph nL M X ls L st) (h : stp ph cl mi lv K (pc, .iload_n k, 1, tg, cv) L st M X = some r0) (hd : decode cc pc = .ok (.iload_n k, 1)) : W p l e R s m args below meth c H locs (cX mi X) (sX mi X) Q (F0 m pc ls ((st).map (tvG G))) := by
  unfold stp at h
  dsimp only at h
  obtain ⟨x, q, hq, h⟩ := u1_inv h
  exact lv_iload_n hx hb hd rfl (lr_at (fi_lr fi) (one_inv hq) trivial) (ih _ _ _ _ _ _ _ _ h (fi_I fi))
theorem fr_iload {k : Nat} (hx : p.tables.exec = Jvm.exec) (hb : c.code = cc) (ih : IHK p l e R s m args below meth c Q G mi nL ph K r0) (fi : FI G s H locs ph nL M X ls L st) (h : stp ph cl mi lv K (pc, .iload k, 2, tg, cv) L st M X = some r0) (hd : decode cc pc = .ok (.iload k, 2)) : W p l e R s m args below meth c H locs (cX mi X) (sX mi X) Q (F0 m pc ls ((st).map (tvG G))) := by
  unfold stp at h
  dsimp only at h
  obtain ⟨x, q, hq, h⟩ := u1_inv h
  exact lv_iload hx hb hd (lr_at (fi_lr fi) (one_inv hq) trivial) (ih _ _ _ _ _ _ _ _ h (fi_I fi))
theorem fr_lload_n {k : Fin 4} (hx : p.tables.exec = Jvm.exec) (hb : c.code = cc) (ih : IHK p l e R s m args below meth c Q G mi nL ph K r0) (fi : FI G s H locs ph nL M X ls L st) (h : stp ph cl mi lv K (pc, .lload_n k, 1, tg, cv) L st M X = some r0) (hd : decode cc pc = .ok (.lload_n k, 1)) : W p l e R s m args below meth c H locs (cX mi X) (sX mi X) Q (F0 m pc ls ((st).map (tvG G))) := by
  unfold stp at h
  dsimp only at h
  obtain ⟨x, q, hq, h⟩ := ul1_inv h
  exact lv_lload_n hx hb hd rfl (lr_at (fi_lr fi) (one_inv hq) trivial) (ih _ _ _ _ _ _ _ _ h (fi_L fi))
theorem fr_lload {k : Nat} (hx : p.tables.exec = Jvm.exec) (hb : c.code = cc) (ih : IHK p l e R s m args below meth c Q G mi nL ph K r0) (fi : FI G s H locs ph nL M X ls L st) (h : stp ph cl mi lv K (pc, .lload k, 2, tg, cv) L st M X = some r0) (hd : decode cc pc = .ok (.lload k, 2)) : W p l e R s m args below meth c H locs (cX mi X) (sX mi X) Q (F0 m pc ls ((st).map (tvG G))) := by
  unfold stp at h
  dsimp only at h
  obtain ⟨x, q, hq, h⟩ := ul1_inv h
  exact lv_lload hx hb hd (lr_at (fi_lr fi) (one_inv hq) trivial) (ih _ _ _ _ _ _ _ _ h (fi_L fi))
theorem fr_aload_n {k : Fin 4} (hx : p.tables.exec = Jvm.exec) (hb : c.code = cc) (ih : IHK p l e R s m args below meth c Q G mi nL ph K r0) (fi : FI G s H locs ph nL M X ls L st) (h : stp ph cl mi lv K (pc, .aload_n k, 1, tg, cv) L st M X = some r0) (hd : decode cc pc = .ok (.aload_n k, 1)) : W p l e R s m args below meth c H locs (cX mi X) (sX mi X) Q (F0 m pc ls ((st).map (tvG G))) := by
  unfold stp at h
  dsimp only at h
  obtain ⟨t, a, q, hq, h⟩ := ur1_inv h
  obtain ⟨h0, h⟩ := bif_ninv h
  have h0 := nbeq_n h0
  have ho := fi_nth fi (one_inv hq) h0
  have ha := lr_at (fi_lr fi) (one_inv hq) (show gv (pR t a) from h0)
  have k9 := ih _ _ _ _ _ _ _ _ h (fi_R fi h0 ho)
  have k9 : W p l e R s m args below meth c H locs (cX mi X) (sX mi X) Q (F0 m (pc + 1) ls (tvG G (pR t a) :: st.map (tvG G))) := k9
  rcases tv_r (a := a) fi.2.2.2.2.2.2 ho.2.2.2 with ⟨-, e⟩ | ⟨b, e⟩
  · rw [e] at ha k9
    rcases fi.2.2.2.2.2.2 with e2 | ⟨b, e2⟩
    · rw [e2] at ha k9
      exact lv_aload_nN hx hb hd rfl ha k9
    · rw [e2] at ha k9
      exact lv_aload_n hx hb hd rfl ha k9
  · rw [e] at ha k9
    exact lv_aload_n hx hb hd rfl ha k9
theorem fr_aload {k : Nat} (hx : p.tables.exec = Jvm.exec) (hb : c.code = cc) (ih : IHK p l e R s m args below meth c Q G mi nL ph K r0) (fi : FI G s H locs ph nL M X ls L st) (h : stp ph cl mi lv K (pc, .aload k, 2, tg, cv) L st M X = some r0) (hd : decode cc pc = .ok (.aload k, 2)) : W p l e R s m args below meth c H locs (cX mi X) (sX mi X) Q (F0 m pc ls ((st).map (tvG G))) := by
  unfold stp at h
  dsimp only at h
  obtain ⟨t, a, q, hq, h⟩ := ur1_inv h
  obtain ⟨h0, h⟩ := bif_ninv h
  have h0 := nbeq_n h0
  have ho := fi_nth fi (one_inv hq) h0
  have ha := lr_at (fi_lr fi) (one_inv hq) (show gv (pR t a) from h0)
  have k9 := ih _ _ _ _ _ _ _ _ h (fi_R fi h0 ho)
  have k9 : W p l e R s m args below meth c H locs (cX mi X) (sX mi X) Q (F0 m (pc + 2) ls (tvG G (pR t a) :: st.map (tvG G))) := k9
  rcases tv_r (a := a) fi.2.2.2.2.2.2 ho.2.2.2 with ⟨-, e⟩ | ⟨b, e⟩
  · rw [e] at ha k9
    rcases fi.2.2.2.2.2.2 with e2 | ⟨b, e2⟩
    · rw [e2] at ha k9
      exact lv_aloadN hx hb hd ha k9
    · rw [e2] at ha k9
      exact lv_aload hx hb hd ha k9
  · rw [e] at ha k9
    exact lv_aload hx hb hd ha k9
theorem fr_istore_n {k : Fin 4} (hx : p.tables.exec = Jvm.exec) (hb : c.code = cc) (ih : IHK p l e R s m args below meth c Q G mi nL ph K r0) (fi : FI G s H locs ph nL M X ls L st) (h : stp ph cl mi lv K (pc, .istore_n k, 1, tg, cv) L st M X = some r0) (hd : decode cc pc = .ok (.istore_n k, 1)) : W p l e R s m args below meth c H locs (cX mi X) (sX mi X) Q (F0 m pc ls ((st).map (tvG G))) := by
  unfold stp at h
  dsimp only at h
  obtain ⟨x, q, rfl, h⟩ := u1_inv h
  obtain ⟨hi, h⟩ := bif_inv h
  have hi := lt_of_blt hi
  have hn := (fi_lr fi).1
  exact lv_istore_n hx hb hd rfl (lr_has (fi_lr fi)) (by omega) rfl (fun ls' h' => ih _ _ _ _ _ _ _ _ h (fi_st1 (fi_tl fi) hi trivial h'))
theorem fr_istore {k : Nat} (hx : p.tables.exec = Jvm.exec) (hb : c.code = cc) (ih : IHK p l e R s m args below meth c Q G mi nL ph K r0) (fi : FI G s H locs ph nL M X ls L st) (h : stp ph cl mi lv K (pc, .istore k, 2, tg, cv) L st M X = some r0) (hd : decode cc pc = .ok (.istore k, 2)) : W p l e R s m args below meth c H locs (cX mi X) (sX mi X) Q (F0 m pc ls ((st).map (tvG G))) := by
  unfold stp at h
  dsimp only at h
  obtain ⟨x, q, rfl, h⟩ := u1_inv h
  obtain ⟨hi, h⟩ := bif_inv h
  have hi := lt_of_blt hi
  have hn := (fi_lr fi).1
  exact lv_istore hx hb hd (lr_has (fi_lr fi)) (by omega) rfl (fun ls' h' => ih _ _ _ _ _ _ _ _ h (fi_st1 (fi_tl fi) hi trivial h'))
theorem fr_lstore_n {k : Fin 4} (hx : p.tables.exec = Jvm.exec) (hb : c.code = cc) (ih : IHK p l e R s m args below meth c Q G mi nL ph K r0) (fi : FI G s H locs ph nL M X ls L st) (h : stp ph cl mi lv K (pc, .lstore_n k, 1, tg, cv) L st M X = some r0) (hd : decode cc pc = .ok (.lstore_n k, 1)) : W p l e R s m args below meth c H locs (cX mi X) (sX mi X) Q (F0 m pc ls ((st).map (tvG G))) := by
  unfold stp at h
  dsimp only at h
  obtain ⟨x, q, rfl, h⟩ := ul1_inv h
  obtain ⟨hi, h⟩ := bif_inv h
  have hi := lt_of_blt hi
  have hn := (fi_lr fi).1
  exact lv_lstore_n hx hb hd rfl (lr_has (fi_lr fi)) (by omega) rfl (fun ls' h' => ih _ _ _ _ _ _ _ _ h (fi_st2 (fi_tl fi) hi trivial h'))
theorem fr_lstore {k : Nat} (hx : p.tables.exec = Jvm.exec) (hb : c.code = cc) (ih : IHK p l e R s m args below meth c Q G mi nL ph K r0) (fi : FI G s H locs ph nL M X ls L st) (h : stp ph cl mi lv K (pc, .lstore k, 2, tg, cv) L st M X = some r0) (hd : decode cc pc = .ok (.lstore k, 2)) : W p l e R s m args below meth c H locs (cX mi X) (sX mi X) Q (F0 m pc ls ((st).map (tvG G))) := by
  unfold stp at h
  dsimp only at h
  obtain ⟨x, q, rfl, h⟩ := ul1_inv h
  obtain ⟨hi, h⟩ := bif_inv h
  have hi := lt_of_blt hi
  have hn := (fi_lr fi).1
  exact lv_lstore hx hb hd (lr_has (fi_lr fi)) (by omega) rfl (fun ls' h' => ih _ _ _ _ _ _ _ _ h (fi_st2 (fi_tl fi) hi trivial h'))
theorem fr_astore_n {k : Fin 4} (hx : p.tables.exec = Jvm.exec) (hb : c.code = cc) (ih : IHK p l e R s m args below meth c Q G mi nL ph K r0) (fi : FI G s H locs ph nL M X ls L st) (h : stp ph cl mi lv K (pc, .astore_n k, 1, tg, cv) L st M X = some r0) (hd : decode cc pc = .ok (.astore_n k, 1)) : W p l e R s m args below meth c H locs (cX mi X) (sX mi X) Q (F0 m pc ls ((st).map (tvG G))) := by
  unfold stp at h
  dsimp only at h
  obtain ⟨t, a, q, rfl, h⟩ := ur1_inv h
  obtain ⟨hi, h⟩ := bif_inv h
  have hi := lt_of_blt hi
  have hn := (fi_lr fi).1
  obtain ⟨h0, ho⟩ := fi_ok fi
  have k9 := fun (ls' : Array Slot) (h' : lv_has ls' nL ((k.val, tvG G (pR t a)) :: (lvL G nL L).filter (fun q => !(q.1 == k.val) && !(q.1 + 1 == k.val && q.2.category == 2)))) => ih _ _ _ _ _ _ _ _ h (fi_st1 (fi_tl fi) hi (fun _ => ho) h')
  show W p l e R s m args below meth c H locs (cX mi X) (sX mi X) Q (F0 m pc ls (tvG G (pR t a) :: q.map (tvG G)))
  rcases tv_r (a := a) fi.2.2.2.2.2.2 ho.2.2.2 with ⟨-, e⟩ | ⟨b, e⟩
  · rw [e] at k9 ⊢
    rcases fi.2.2.2.2.2.2 with e2 | ⟨b, e2⟩
    · rw [e2] at k9 ⊢
      exact lv_astore_nN hx hb hd rfl (lr_has (fi_lr fi)) (by omega) rfl k9
    · rw [e2] at k9 ⊢
      exact lv_astore_n hx hb hd rfl (lr_has (fi_lr fi)) (by omega) rfl k9
  · rw [e] at k9 ⊢
    exact lv_astore_n hx hb hd rfl (lr_has (fi_lr fi)) (by omega) rfl k9
theorem fr_astore {k : Nat} (hx : p.tables.exec = Jvm.exec) (hb : c.code = cc) (ih : IHK p l e R s m args below meth c Q G mi nL ph K r0) (fi : FI G s H locs ph nL M X ls L st) (h : stp ph cl mi lv K (pc, .astore k, 2, tg, cv) L st M X = some r0) (hd : decode cc pc = .ok (.astore k, 2)) : W p l e R s m args below meth c H locs (cX mi X) (sX mi X) Q (F0 m pc ls ((st).map (tvG G))) := by
  unfold stp at h
  dsimp only at h
  obtain ⟨t, a, q, rfl, h⟩ := ur1_inv h
  obtain ⟨hi, h⟩ := bif_inv h
  have hi := lt_of_blt hi
  have hn := (fi_lr fi).1
  obtain ⟨h0, ho⟩ := fi_ok fi
  have k9 := fun (ls' : Array Slot) (h' : lv_has ls' nL ((k, tvG G (pR t a)) :: (lvL G nL L).filter (fun q => !(q.1 == k) && !(q.1 + 1 == k && q.2.category == 2)))) => ih _ _ _ _ _ _ _ _ h (fi_st1 (fi_tl fi) hi (fun _ => ho) h')
  show W p l e R s m args below meth c H locs (cX mi X) (sX mi X) Q (F0 m pc ls (tvG G (pR t a) :: q.map (tvG G)))
  rcases tv_r (a := a) fi.2.2.2.2.2.2 ho.2.2.2 with ⟨-, e⟩ | ⟨b, e⟩
  · rw [e] at k9 ⊢
    rcases fi.2.2.2.2.2.2 with e2 | ⟨b, e2⟩
    · rw [e2] at k9 ⊢
      exact lv_astoreN hx hb hd (lr_has (fi_lr fi)) (by omega) rfl k9
    · rw [e2] at k9 ⊢
      exact lv_astore hx hb hd (lr_has (fi_lr fi)) (by omega) rfl k9
  · rw [e] at k9 ⊢
    exact lv_astore hx hb hd (lr_has (fi_lr fi)) (by omega) rfl k9
theorem fr_iinc {k : Nat} {n : Int} (hx : p.tables.exec = Jvm.exec) (hb : c.code = cc) (ih : IHK p l e R s m args below meth c Q G mi nL ph K r0) (fi : FI G s H locs ph nL M X ls L st) (h : stp ph cl mi lv K (pc, .iinc k n, 3, tg, cv) L st M X = some r0) (hd : decode cc pc = .ok (.iinc k n, 3)) (hv : Int32.ofInt n = cv) : W p l e R s m args below meth c H locs (cX mi X) (sX mi X) Q (F0 m pc ls ((st).map (tvG G))) := by
  unfold stp at h
  dsimp only at h
  obtain ⟨x, q, hq, h⟩ := u1_inv h
  obtain ⟨hi, h⟩ := bif_inv h
  have hi := lt_of_blt hi
  have hn := (fi_lr fi).1
  have hm := lvL_mem (G := G) (n := nL) (by omega) (one_inv hq) trivial
  obtain ⟨j, hj⟩ := List.getElem?_of_mem hm
  exact lv_iinc (k := j) hx hb hd (lr_has (fi_lr fi)) hj (by rw [hv]) (by omega) rfl (fun ls' h' => ih _ _ _ _ _ _ _ _ h (fi_st1 fi hi trivial h'))
theorem fr_iadd (hx : p.tables.exec = Jvm.exec) (hb : c.code = cc) (ih : IHK p l e R s m args below meth c Q G mi nL ph K r0) (fi : FI G s H locs ph nL M X ls L st) (h : stp ph cl mi lv K (pc, .iadd, 1, tg, cv) L st M X = some r0) (hd : decode cc pc = .ok (.iadd, 1)) : W p l e R s m args below meth c H locs (cX mi X) (sX mi X) Q (F0 m pc ls ((st).map (tvG G))) := by
  unfold stp at h
  dsimp only at h
  obtain ⟨x, y, q, rfl, h⟩ := u2_inv h
  exact lv_iadd hx hb hd (ih _ _ _ _ _ _ _ _ h (fi_I (fi_tl (fi_tl fi))))
theorem fr_isub (hx : p.tables.exec = Jvm.exec) (hb : c.code = cc) (ih : IHK p l e R s m args below meth c Q G mi nL ph K r0) (fi : FI G s H locs ph nL M X ls L st) (h : stp ph cl mi lv K (pc, .isub, 1, tg, cv) L st M X = some r0) (hd : decode cc pc = .ok (.isub, 1)) : W p l e R s m args below meth c H locs (cX mi X) (sX mi X) Q (F0 m pc ls ((st).map (tvG G))) := by
  unfold stp at h
  dsimp only at h
  obtain ⟨x, y, q, rfl, h⟩ := u2_inv h
  exact lv_isub hx hb hd (ih _ _ _ _ _ _ _ _ h (fi_I (fi_tl (fi_tl fi))))
theorem fr_imul (hx : p.tables.exec = Jvm.exec) (hb : c.code = cc) (ih : IHK p l e R s m args below meth c Q G mi nL ph K r0) (fi : FI G s H locs ph nL M X ls L st) (h : stp ph cl mi lv K (pc, .imul, 1, tg, cv) L st M X = some r0) (hd : decode cc pc = .ok (.imul, 1)) : W p l e R s m args below meth c H locs (cX mi X) (sX mi X) Q (F0 m pc ls ((st).map (tvG G))) := by
  unfold stp at h
  dsimp only at h
  obtain ⟨x, y, q, rfl, h⟩ := u2_inv h
  exact lv_imul hx hb hd (ih _ _ _ _ _ _ _ _ h (fi_I (fi_tl (fi_tl fi))))
theorem fr_iand (hx : p.tables.exec = Jvm.exec) (hb : c.code = cc) (ih : IHK p l e R s m args below meth c Q G mi nL ph K r0) (fi : FI G s H locs ph nL M X ls L st) (h : stp ph cl mi lv K (pc, .iand, 1, tg, cv) L st M X = some r0) (hd : decode cc pc = .ok (.iand, 1)) : W p l e R s m args below meth c H locs (cX mi X) (sX mi X) Q (F0 m pc ls ((st).map (tvG G))) := by
  unfold stp at h
  dsimp only at h
  obtain ⟨x, y, q, rfl, h⟩ := u2_inv h
  exact lv_iand hx hb hd (ih _ _ _ _ _ _ _ _ h (fi_I (fi_tl (fi_tl fi))))
theorem fr_ior (hx : p.tables.exec = Jvm.exec) (hb : c.code = cc) (ih : IHK p l e R s m args below meth c Q G mi nL ph K r0) (fi : FI G s H locs ph nL M X ls L st) (h : stp ph cl mi lv K (pc, .ior, 1, tg, cv) L st M X = some r0) (hd : decode cc pc = .ok (.ior, 1)) : W p l e R s m args below meth c H locs (cX mi X) (sX mi X) Q (F0 m pc ls ((st).map (tvG G))) := by
  unfold stp at h
  dsimp only at h
  obtain ⟨x, y, q, rfl, h⟩ := u2_inv h
  exact lv_ior hx hb hd (ih _ _ _ _ _ _ _ _ h (fi_I (fi_tl (fi_tl fi))))
theorem fr_ishl (hx : p.tables.exec = Jvm.exec) (hb : c.code = cc) (ih : IHK p l e R s m args below meth c Q G mi nL ph K r0) (fi : FI G s H locs ph nL M X ls L st) (h : stp ph cl mi lv K (pc, .ishl, 1, tg, cv) L st M X = some r0) (hd : decode cc pc = .ok (.ishl, 1)) : W p l e R s m args below meth c H locs (cX mi X) (sX mi X) Q (F0 m pc ls ((st).map (tvG G))) := by
  unfold stp at h
  dsimp only at h
  obtain ⟨x, y, q, rfl, h⟩ := u2_inv h
  exact lv_ishl hx hb hd (ih _ _ _ _ _ _ _ _ h (fi_I (fi_tl (fi_tl fi))))
theorem fr_ishr (hx : p.tables.exec = Jvm.exec) (hb : c.code = cc) (ih : IHK p l e R s m args below meth c Q G mi nL ph K r0) (fi : FI G s H locs ph nL M X ls L st) (h : stp ph cl mi lv K (pc, .ishr, 1, tg, cv) L st M X = some r0) (hd : decode cc pc = .ok (.ishr, 1)) : W p l e R s m args below meth c H locs (cX mi X) (sX mi X) Q (F0 m pc ls ((st).map (tvG G))) := by
  unfold stp at h
  dsimp only at h
  obtain ⟨x, y, q, rfl, h⟩ := u2_inv h
  exact lv_ishr hx hb hd (ih _ _ _ _ _ _ _ _ h (fi_I (fi_tl (fi_tl fi))))
theorem fr_irem (hx : p.tables.exec = Jvm.exec) (hb : c.code = cc) (ih : IHK p l e R s m args below meth c Q G mi nL ph K r0) (fi : FI G s H locs ph nL M X ls L st) (h : stp ph cl mi lv K (pc, .irem, 1, tg, cv) L st M X = some r0) (hd : decode cc pc = .ok (.irem, 1)) : W p l e R s m args below meth c H locs (cX mi X) (sX mi X) Q (F0 m pc ls ((st).map (tvG G))) := by
  unfold stp at h
  dsimp only at h
  obtain ⟨x, y, q, rfl, h⟩ := u2_inv h
  obtain ⟨h0, h⟩ := ite_ninv h
  exact lv_irem hx hb hd h0 (ih _ _ _ _ _ _ _ _ h (fi_I (fi_tl (fi_tl fi))))
theorem fr_ineg (hx : p.tables.exec = Jvm.exec) (hb : c.code = cc) (ih : IHK p l e R s m args below meth c Q G mi nL ph K r0) (fi : FI G s H locs ph nL M X ls L st) (h : stp ph cl mi lv K (pc, .ineg, 1, tg, cv) L st M X = some r0) (hd : decode cc pc = .ok (.ineg, 1)) : W p l e R s m args below meth c H locs (cX mi X) (sX mi X) Q (F0 m pc ls ((st).map (tvG G))) := by
  unfold stp at h
  dsimp only at h
  obtain ⟨x, q, rfl, h⟩ := u1_inv h
  exact lv_ineg hx hb hd (ih _ _ _ _ _ _ _ _ h (fi_I (fi_tl fi)))
theorem fr_i2c (hx : p.tables.exec = Jvm.exec) (hb : c.code = cc) (ih : IHK p l e R s m args below meth c Q G mi nL ph K r0) (fi : FI G s H locs ph nL M X ls L st) (h : stp ph cl mi lv K (pc, .i2c, 1, tg, cv) L st M X = some r0) (hd : decode cc pc = .ok (.i2c, 1)) : W p l e R s m args below meth c H locs (cX mi X) (sX mi X) Q (F0 m pc ls ((st).map (tvG G))) := by
  unfold stp at h
  dsimp only at h
  obtain ⟨x, q, rfl, h⟩ := u1_inv h
  exact lv_i2c hx hb hd rfl (ih _ _ _ _ _ _ _ _ h (fi_I (fi_tl fi)))
theorem fr_i2l (hx : p.tables.exec = Jvm.exec) (hb : c.code = cc) (ih : IHK p l e R s m args below meth c Q G mi nL ph K r0) (fi : FI G s H locs ph nL M X ls L st) (h : stp ph cl mi lv K (pc, .i2l, 1, tg, cv) L st M X = some r0) (hd : decode cc pc = .ok (.i2l, 1)) : W p l e R s m args below meth c H locs (cX mi X) (sX mi X) Q (F0 m pc ls ((st).map (tvG G))) := by
  unfold stp at h
  dsimp only at h
  obtain ⟨x, q, rfl, h⟩ := u1_inv h
  exact lv_i2l hx hb hd rfl (ih _ _ _ _ _ _ _ _ h (fi_L (fi_tl fi)))
theorem fr_ladd (hx : p.tables.exec = Jvm.exec) (hb : c.code = cc) (ih : IHK p l e R s m args below meth c Q G mi nL ph K r0) (fi : FI G s H locs ph nL M X ls L st) (h : stp ph cl mi lv K (pc, .ladd, 1, tg, cv) L st M X = some r0) (hd : decode cc pc = .ok (.ladd, 1)) : W p l e R s m args below meth c H locs (cX mi X) (sX mi X) Q (F0 m pc ls ((st).map (tvG G))) := by
  unfold stp at h
  dsimp only at h
  obtain ⟨x, y, q, rfl, h⟩ := ul2_inv h
  exact lv_ladd hx hb hd (ih _ _ _ _ _ _ _ _ h (fi_L (fi_tl (fi_tl fi))))
theorem fr_ldiv (hx : p.tables.exec = Jvm.exec) (hb : c.code = cc) (ih : IHK p l e R s m args below meth c Q G mi nL ph K r0) (fi : FI G s H locs ph nL M X ls L st) (h : stp ph cl mi lv K (pc, .ldiv, 1, tg, cv) L st M X = some r0) (hd : decode cc pc = .ok (.ldiv, 1)) : W p l e R s m args below meth c H locs (cX mi X) (sX mi X) Q (F0 m pc ls ((st).map (tvG G))) := by
  unfold stp at h
  dsimp only at h
  obtain ⟨x, y, q, rfl, h⟩ := ul2_inv h
  obtain ⟨h0, h⟩ := ite_ninv h
  exact lv_ldiv hx hb hd h0 (ih _ _ _ _ _ _ _ _ h (fi_L (fi_tl (fi_tl fi))))
theorem fr_lrem (hx : p.tables.exec = Jvm.exec) (hb : c.code = cc) (ih : IHK p l e R s m args below meth c Q G mi nL ph K r0) (fi : FI G s H locs ph nL M X ls L st) (h : stp ph cl mi lv K (pc, .lrem, 1, tg, cv) L st M X = some r0) (hd : decode cc pc = .ok (.lrem, 1)) : W p l e R s m args below meth c H locs (cX mi X) (sX mi X) Q (F0 m pc ls ((st).map (tvG G))) := by
  unfold stp at h
  dsimp only at h
  obtain ⟨x, y, q, rfl, h⟩ := ul2_inv h
  obtain ⟨h0, h⟩ := ite_ninv h
  exact lv_lrem hx hb hd h0 (ih _ _ _ _ _ _ _ _ h (fi_L (fi_tl (fi_tl fi))))
theorem fr_lcmp (hx : p.tables.exec = Jvm.exec) (hb : c.code = cc) (ih : IHK p l e R s m args below meth c Q G mi nL ph K r0) (fi : FI G s H locs ph nL M X ls L st) (h : stp ph cl mi lv K (pc, .lcmp, 1, tg, cv) L st M X = some r0) (hd : decode cc pc = .ok (.lcmp, 1)) : W p l e R s m args below meth c H locs (cX mi X) (sX mi X) Q (F0 m pc ls ((st).map (tvG G))) := by
  unfold stp at h
  dsimp only at h
  obtain ⟨x, y, q, rfl, h⟩ := ul2_inv h
  exact W.lcmp hx hb hd (ih _ _ _ _ _ _ _ _ h (fi_I (fi_tl (fi_tl fi))))
theorem fr_dup (hx : p.tables.exec = Jvm.exec) (hb : c.code = cc) (ih : IHK p l e R s m args below meth c Q G mi nL ph K r0) (fi : FI G s H locs ph nL M X ls L st) (h : stp ph cl mi lv K (pc, .dup, 1, tg, cv) L st M X = some r0) (hd : decode cc pc = .ok (.dup, 1)) : W p l e R s m args below meth c H locs (cX mi X) (sX mi X) Q (F0 m pc ls ((st).map (tvG G))) := by
  unfold stp at h
  dsimp only at h
  obtain ⟨v, q, rfl, hn, h⟩ := utop_inv h
  exact lv_dup hx hb hd (cat1 fi (fi_hd fi) hn) (ih _ _ _ _ _ _ _ _ h (fi_push fi (fi_hd fi)))
theorem fr_pop (hx : p.tables.exec = Jvm.exec) (hb : c.code = cc) (ih : IHK p l e R s m args below meth c Q G mi nL ph K r0) (fi : FI G s H locs ph nL M X ls L st) (h : stp ph cl mi lv K (pc, .pop, 1, tg, cv) L st M X = some r0) (hd : decode cc pc = .ok (.pop, 1)) : W p l e R s m args below meth c H locs (cX mi X) (sX mi X) Q (F0 m pc ls ((st).map (tvG G))) := by
  unfold stp at h
  dsimp only at h
  obtain ⟨v, q, rfl, hn, h⟩ := utop_inv h
  exact lv_pop hx hb hd (cat1 fi (fi_hd fi) hn) (ih _ _ _ _ _ _ _ _ h (fi_tl fi))
theorem fr_dup2 (hx : p.tables.exec = Jvm.exec) (hb : c.code = cc) (ih : IHK p l e R s m args below meth c Q G mi nL ph K r0) (fi : FI G s H locs ph nL M X ls L st) (h : stp ph cl mi lv K (pc, .dup2, 1, tg, cv) L st M X = some r0) (hd : decode cc pc = .ok (.dup2, 1)) : W p l e R s m args below meth c H locs (cX mi X) (sX mi X) Q (F0 m pc ls ((st).map (tvG G))) := by
  unfold stp at h
  dsimp only at h
  obtain ⟨t, a, x, q, rfl, h⟩ := uir_inv h
  have h1 := fi_hd (fi_tl fi)
  exact lv_dup2_11 hx hb hd rfl (cat1 fi h1 (fun x q => (by cases q))) (ih _ _ _ _ _ _ _ _ h (fi_I (fi_push fi h1)))
theorem fr_goto {off : Int} (hx : p.tables.exec = Jvm.exec) (hb : c.code = cc) (ih : IHK p l e R s m args below meth c Q G mi nL ph K r0) (fi : FI G s H locs ph nL M X ls L st) (h : stp ph cl mi lv K (pc, .goto off, 3, tg, cv) L st M X = some r0) (hd : decode cc pc = .ok (.goto off, 3)) (ht : (pc : Int) + off = (tg : Int)) : W p l e R s m args below meth c H locs (cX mi X) (sX mi X) Q (F0 m pc ls ((st).map (tvG G))) := by
  unfold stp at h
  dsimp only at h
  exact lv_goto hx hb hd ht (ih _ _ _ _ _ _ _ _ h fi)
theorem fr_ifCond {k : ClassFile.Cond} {off : Int} (hx : p.tables.exec = Jvm.exec) (hb : c.code = cc) (ih : IHK p l e R s m args below meth c Q G mi nL ph K r0) (fi : FI G s H locs ph nL M X ls L st) (h : stp ph cl mi lv K (pc, .ifCond k off, 3, tg, cv) L st M X = some r0) (hd : decode cc pc = .ok (.ifCond k off, 3)) (ht : (pc : Int) + off = (tg : Int)) : W p l e R s m args below meth c H locs (cX mi X) (sX mi X) Q (F0 m pc ls ((st).map (tvG G))) := by
  unfold stp at h
  dsimp only at h
  obtain ⟨x, q, rfl, h1⟩ := u1_inv h
  cases k <;> unfold cnd at h1 <;> dsimp only at h1
  · exact lv_if_eq hx hb hd ht (fun q => by rw [if_pos q] at h1; exact ih _ _ _ _ _ _ _ _ h1 (fi_tl fi)) (fun q => by rw [if_neg q] at h1; exact ih _ _ _ _ _ _ _ _ h1 (fi_tl fi))
  · exact lv_if_ne hx hb hd ht (fun q => by rw [if_neg q] at h1; exact ih _ _ _ _ _ _ _ _ h1 (fi_tl fi)) (fun q => by rw [if_pos q] at h1; exact ih _ _ _ _ _ _ _ _ h1 (fi_tl fi))
  · exact lv_if_lt hx hb hd ht (fun q => by rw [if_pos q] at h1; exact ih _ _ _ _ _ _ _ _ h1 (fi_tl fi)) (fun q => by rw [if_neg q] at h1; exact ih _ _ _ _ _ _ _ _ h1 (fi_tl fi))
  · exact lv_if_ge hx hb hd ht (fun q => by rw [if_neg (Int32.not_lt.mpr q)] at h1; exact ih _ _ _ _ _ _ _ _ h1 (fi_tl fi)) (fun q => by rw [if_pos (Int32.not_le.mp q)] at h1; exact ih _ _ _ _ _ _ _ _ h1 (fi_tl fi))
  · exact lv_if_gt hx hb hd ht (fun q => by rw [if_pos q] at h1; exact ih _ _ _ _ _ _ _ _ h1 (fi_tl fi)) (fun q => by rw [if_neg q] at h1; exact ih _ _ _ _ _ _ _ _ h1 (fi_tl fi))
  · exact lv_if_le hx hb hd ht (fun q => by rw [if_neg (Int32.not_lt.mpr q)] at h1; exact ih _ _ _ _ _ _ _ _ h1 (fi_tl fi)) (fun q => by rw [if_pos (Int32.not_le.mp q)] at h1; exact ih _ _ _ _ _ _ _ _ h1 (fi_tl fi))
theorem fr_if_icmp {k : ClassFile.Cond} {off : Int} (hx : p.tables.exec = Jvm.exec) (hb : c.code = cc) (ih : IHK p l e R s m args below meth c Q G mi nL ph K r0) (fi : FI G s H locs ph nL M X ls L st) (h : stp ph cl mi lv K (pc, .if_icmp k off, 3, tg, cv) L st M X = some r0) (hd : decode cc pc = .ok (.if_icmp k off, 3)) (ht : (pc : Int) + off = (tg : Int)) : W p l e R s m args below meth c H locs (cX mi X) (sX mi X) Q (F0 m pc ls ((st).map (tvG G))) := by
  unfold stp at h
  dsimp only at h
  obtain ⟨x, y, q, rfl, h1⟩ := u2_inv h
  have fi2 := fi_tl (fi_tl fi)
  cases k <;> unfold cnd at h1 <;> dsimp only at h1
  · exact lv_icmp_eq hx hb hd ht (fun q => by rw [if_pos q] at h1; exact ih _ _ _ _ _ _ _ _ h1 fi2) (fun q => by rw [if_neg q] at h1; exact ih _ _ _ _ _ _ _ _ h1 fi2)
  · exact lv_icmp_ne hx hb hd ht (fun q => by rw [if_neg q] at h1; exact ih _ _ _ _ _ _ _ _ h1 fi2) (fun q => by rw [if_pos q] at h1; exact ih _ _ _ _ _ _ _ _ h1 fi2)
  · exact lv_icmp_lt hx hb hd ht (fun q => by rw [if_pos q] at h1; exact ih _ _ _ _ _ _ _ _ h1 fi2) (fun q => by rw [if_neg q] at h1; exact ih _ _ _ _ _ _ _ _ h1 fi2)
  · exact lv_icmp_ge hx hb hd ht (fun q => by rw [if_neg (Int32.not_lt.mpr q)] at h1; exact ih _ _ _ _ _ _ _ _ h1 fi2) (fun q => by rw [if_pos (Int32.not_le.mp q)] at h1; exact ih _ _ _ _ _ _ _ _ h1 fi2)
  · exact lv_icmp_gt hx hb hd ht (fun q => by rw [if_pos q] at h1; exact ih _ _ _ _ _ _ _ _ h1 fi2) (fun q => by rw [if_neg q] at h1; exact ih _ _ _ _ _ _ _ _ h1 fi2)
  · exact lv_icmp_le hx hb hd ht (fun q => by rw [if_neg (Int32.not_lt.mpr q)] at h1; exact ih _ _ _ _ _ _ _ _ h1 fi2) (fun q => by rw [if_pos (Int32.not_le.mp q)] at h1; exact ih _ _ _ _ _ _ _ _ h1 fi2)
end FRA
end
section
/-! the instructions of the heap; what the tables give -/
section FRB
variable {p : Program} {l : Launch} {e : Env} {R : Room} {s : State} {m : MethodId} {args : Array Value} {below : List Frame} {meth : Method} {c : Code} {Q : State → Prop} {cc : ByteArray} {G : EG} {mi lv nL : Nat} {ph : Bool} {cl : Nat → Nat → List PV → Mem → PX → Option PRs} {K : KT} {r0 : PRs} {pc tg : Nat} {cv : Int32} {L st : List PV} {ls : Array Slot} {M : Mem} {X : PX} {H : Heap} {locs : List Loc}
def cnL : List String := ["MergeBeltsLaw", RX11, RX10, RX1, RX5, RX4, RX9, RX0, RX8, RX7, RX6, RX3, RX2, RX12, "java/util/Arrays", "java/lang/Math", "java/lang/String", "java/lang/StringLatin1", "jdk/internal/util/Preconditions"]
def cn (o : Nat) : String := cnL.getD o ""
def gwT : List Cond := lw_tbl.filter goodWord
theorem gw_of {i : Nat} {w : Cond} (h : lw_tbl[i]? = some w) (hg : goodWord w = true) : w ∈ gwT := List.mem_filter.mpr ⟨List.mem_of_getElem? h, hg⟩
def clT (t : Nat) : vw_C := vwCl.getD (kci t) ("", fun _ => ("", "", "", false), 0)
/-- what holds of a class of ours -/
def CTok (t : Nat) : Prop := vwCl[kci t]? = some (clT t) ∧ (clT t).2.2 = nfT t ∧ (∀ w ∈ u_ws (clT t).1 (clT t).2.1 (clT t).2.2, w ∈ gwT) ∧
  (∀ a, a < (clT t).2.2 → ∀ b, b < (clT t).2.2 → a ≠ b → ((clT t).2.1 a).2.1 ≠ ((clT t).2.1 b).2.1) ∧
  ∃ ty : Nat → FieldType, (∀ k, k < (clT t).2.2 → parseFieldDescriptor ((clT t).2.1 k).2.2.1 = some (ty k)) ∧
    ∀ k, k < (clT t).2.2 → ((clT t).2.1 k).1 = (clT t).1 ∧ ((fkA t k).1 = 0 ∧ ty k = .int ∧ ((clT t).2.1 k).2.2.2 = false ∨ (fkA t k).1 = 1 ∧ ty k = .boolean ∧ ((clT t).2.1 k).2.2.2 = false ∨
      (fkA t k).1 = 2 ∧ defaultValue (ty k) = .null ∧ ((clT t).2.1 k).2.2.2 = true ∧ ∀ a, fits (ty k) (.ref a) = true ∧ narrow (ty k) (.ref a) = .ref a)
/-- what holds of a field's row -/
def FEok (o : Nat) (q : Nat × (Nat × Nat × Nat × Nat × Nat)) : Prop :=
  (1 ≤ q.2.1 ∧ q.2.1 ≤ 13 ∧ CTok q.2.1 ∧ q.2.2.1 < nfT q.2.1 ∧ fkA q.2.1 q.2.2.1 = (q.2.2.2.1, q.2.2.2.2.1) ∧ q.2.2.2.1 ≤ 2 ∧
    Cond.fieldLink (cn o) q.1 (clT q.2.1).1 ((clT q.2.1).2.1 q.2.2.1).2.1 ((clT q.2.1).2.1 q.2.2.1).2.2.1 ∈ gwT ∧
    (q.2.2.2.1 = 2 → q.2.2.2.2.2 ≠ 0 ∧ q.2.2.2.2.2 ≤ 16 ∧ ∀ a, tyA a = q.2.1 → tyA (a + q.2.2.2.2.1) = q.2.2.2.2.2)) ∨
  (q.2 = (18, 0, 4, 0, 19) ∧ Cond.fieldLink (cn o) q.1 "java/lang/String" "value" "[B" ∈ gwT) ∨ (q.2 = (18, 1, 3, 0, 0) ∧ Cond.fieldLink (cn o) q.1 "java/lang/String" "coder" "B" ∈ gwT)
theorem ceM_X {v : Int64} {a : Nat} (h : tyA a ≠ 15) : ceM G M (v, X.2) a = ceM G M X a := by
  unfold ceM
  rw [nbeq_f h]
  rfl
def slnL : List Nat := strT.map List.length
def sbyt : List (List Int32) := strT.map fun l => l.map Int32.ofNat
abbrev sioD : String := "Ljava/util/function/BiFunction;"
def tysG (G : EG) : List (ClassId × FieldType) := [(gI G, .int), (gL G, .long), (gS G, .object "MergeBelts$State")]
/-- words that are carried along by name -/
def spW (w : Cond) : Bool := match w with
  | .methodLinkNest .. | .castable .. | .declares _ => true
  | _ => false
/-- what holds of the machine at a method's start, of the class tables and of cells that were there before ours -/
def SI (G : EG) (U : State) : Prop := gb G ≤ U.heap.size ∧ va_K (gD G) vwCl (tysG G) U ∧ vk_S 22 slnL sbyt (gK G) (gV G) (gA G) U U.heap ∧
  (∀ o i k, o < 19 → lkp (cstP o) i = some (pR 18 k) → k < 22 ∧ ∃ tx, vk_R (cn o) i tx (gK G k) U) ∧ va_Z "java/lang/String" "COMPACT_STRINGS" "Z" (.int 1) (gA G) U U.heap ∧
  va_Z "jdk/internal/util/Preconditions" "SIOOBE_FORMATTER" sioD (gU G) (gA G) U U.heap ∧ va_AO "MergeBelts$State" U ∧ (∀ w ∈ lw_tbl, spW w = true → va_Nw w U) ∧
  vx_Zq Bundle.tN "UNASSIGNED_STACK" Bundle.steD (gA G) U U.heap ∧ vx_Zq Bundle.tN "SUPPRESSED_SENTINEL" Bundle.listD (gA G) U U.heap ∧ gC G < gb G ∧ va_X (gC G) (gN G) (gX G) U U.heap
theorem rg_at {n k : Nat} (f : Nat → Value) (h : k < n) : ((List.range n).map f)[k]? = some (f k) := by rw [List.getElem?_map, List.getElem?_range h]; rfl
theorem ws_at {a t : Nat} (ht : tyA a = t) (h2 : t ≤ 13) (ha : a < X.2.1) : (wsM G M X)[a]? = some (gb G + a, .inr (kci t, (List.range (nfT t)).map (fvM G M a t))) := by rw [wsM_at ha, ceM_o ht h2]
theorem ws_ai {a : Nat} (ht : tyA a = 14) (ha : a < X.2.1) : (wsM G M X)[a]? = some (gb G + a, .inl (gI G, ln a, .inl (fun j => M a j))) := by rw [wsM_at ha, ceM_i ht]
theorem ws_al {a : Nat} (ht : tyA a = 15) (ha : a < X.2.1) : (wsM G M X)[a]? = some (gb G + a, .inl (gL G, ln a, .inr (.inl (fun _ => X.1)))) := by rw [wsM_at ha, ceM_l ht]
theorem ws_as {a : Nat} (ht : tyA a = 16) (ha : a < X.2.1) : (wsM G M X)[a]? = some (gb G + a, .inl (gS G, 10, .inr (.inr (.inr (.inr (cvM G M a)))))) := by rw [wsM_at ha, ceM_s ht]
theorem fvM_int {a t k : Nat} (h : (fkA t k).1 ≠ 2) : fvM G M a t k = .int (M a k) := by unfold fvM; rw [nbeq_f h]; rfl
theorem fvM_ref {a t k : Nat} (h : (fkA t k).1 = 2) (h1 : M a k = 1) : fvM G M a t k = .ref (gb G + (a + (fkA t k).2)) := by unfold fvM; rw [h, if_pos h1]; rfl
theorem inB_in {i : Int32} {n : Nat} (h : inB i n = true) : vp_in i n := by
  unfold inB at h
  intro q
  rcases q with q | q <;> simp [q] at h

set_option maxHeartbeats 1000000 in
theorem fr_getfield {i : Nat} (hx : p.tables.exec = Jvm.exec) (hb : c.code = cc) (ih : IHK p l e R s m args below meth c Q G mi nL ph K r0) (fi : FI G s H locs ph nL M X ls L st) (h : stp ph cl mi lv K (pc, .getfield i, 3, tg, cv) L st M X = some r0) (hd : decode cc pc = .ok (.getfield i, 3)) (hown : s.vm.findClass (cn (ownM mi)) = some m.cls) (hts : ∀ w ∈ gwT, w.before args s = true) (hSI : SI G s) (hF : ∀ q ∈ fldP (ownM mi), FEok (ownM mi) q) : W p l e R s m args below meth c H locs (cX mi X) (sX mi X) Q (F0 m pc ls ((st).map (tvG G))) := by
  unfold stp at h
  dsimp only at h
  obtain ⟨t, a, q, rfl, h1⟩ := ur1_inv h
  obtain ⟨f, hf, h2⟩ := bind_inv h1
  obtain ⟨hc, h3⟩ := bif_inv h2
  clear h h1 h2
  have h := h3
  clear h3
  have hc := nbeq_t hc
  obtain ⟨h0, ho⟩ := fi_ok fi
  have hm := hF _ (lkp_mem hf)
  obtain ⟨f1, k, kd, off, dt⟩ := f
  have hc : f1 = t := hc
  subst hc
  rcases hm with ⟨c1, c2, hC, hk, hfk, hkd, hlink, hd2⟩ | ⟨e, hlink⟩ | ⟨e, hlink⟩
  · dsimp only at c1 c2 hC hk hfk hkd hlink hd2 h
    obtain ⟨C1, C2, C3, C4, ty, C5, C6⟩ := hC
    have hr := ho.1 (by omega)
    have hP := ws_at (M := M) (G := G) hr.2 c2 hr.1
    have hk2 : k < (clT f1).2.2 := by rw [C2]; exact hk
    show W p l e R s m args below meth c H locs (cX mi X) (sX mi X) Q (F0 m pc ls (tvG G (pR f1 a) :: q.map (tvG G)))
    rw [tv_ref (by omega)]
    have go : ∀ v : Value, fvM G M a f1 k = v → W p l e R s m args below meth c H locs (cX mi X) (sX mi X) Q (F0 m (pc + 3) ls (v :: q.map (tvG G))) → W p l e R s m args below meth c H locs (cX mi X) (sX mi X) Q (F0 m pc ls (.ref (gb G + a) :: q.map (tvG G))) := by
      intro v hv kk
      exact va_get (C := (clT f1).1) (T := (clT f1).2.1) (N := (clT f1).2.2) (ci := kci f1) (ref := (clT f1).1) hx hb hts C3 hown hSI.2.1 fi.1.1 a hP C1 k hk2 (hts _ hlink) (fun x hx => by rw [(C6 k hk2).1] at hx; exact hx) (by rw [rg_at _ (by rw [← C2]; exact hk2), hv]) hd kk
    cases hb2 : Nat.blt kd 2 with
    | true =>
      rw [hb2] at h
      have hk3 : (fkA f1 k).1 ≠ 2 := by rw [hfk]; have := lt_of_blt hb2; dsimp only; omega
      exact go _ (fvM_int hk3) (ih _ _ _ _ _ _ _ _ h (fi_I (fi_tl fi)))
    | false =>
      rw [hb2] at h
      have hk3 : kd = 2 := by
        rcases (by omega : kd < 2 ∨ kd = 2) with q2 | q2
        · have : Nat.blt kd 2 = true := Nat.ble_eq_true_of_le q2
          rw [this] at hb2; cases hb2
        · exact q2
      subst hk3
      obtain ⟨d1, d2, d3⟩ := hd2 rfl
      have hrf : isRf a k = true := by unfold isRf; rw [hr.2, hfk, nbeq_f (by omega : f1 ≠ 16)]; rfl
      have hro : rof a k = off := by unfold rof; rw [hr.2, hfk, nbeq_f (by omega : f1 ≠ 16)]; rfl
      have fin : M a k = 1 → K (pc + 3) L (pR dt (a + off) :: q) M X = some r0 → W p l e R s m args below meth c H locs (cX mi X) (sX mi X) Q (F0 m pc ls (.ref (gb G + a) :: q.map (tvG G))) := by
        intro h1 h2
        have hna := fi.1.2.2.2.2.1 a k hr.1 hrf h1
        rw [hro] at hna
        have h3 := ih _ _ _ _ _ _ _ _ h2 (fi_R (fi_tl fi) d1 ⟨fun _ => ⟨hna, d3 a hr.2⟩, fun q => by omega, fun q => by omega, by omega⟩)
        have h4 : W p l e R s m args below meth c H locs (cX mi X) (sX mi X) Q (F0 m (pc + 3) ls (tvG G (pR dt (a + off)) :: q.map (tvG G))) := h3
        rw [tv_ref d2] at h4
        exact go _ (by rw [fvM_ref (by rw [hfk]) h1, hfk]) h4
      cases ph with
      | true => exact fin (set_iff.mp (fi.2.1 rfl) a k hr.1 hrf) h
      | false =>
        obtain ⟨h1, h⟩ := ite_inv h
        exact fin h1 h
  · cases e
    obtain ⟨-, -, E1, E2, -, -, -⟩ : True ∧ True ∧ va_OF "java/lang/String" "value" "[B" (.ref (gV G a)) (gK G a) (gA G) s s.heap ∧ True ∧ True ∧ True ∧ True := ⟨trivial, trivial, (hSI.2.2.1.1 a (ho.2.2.1 (Or.inl rfl))).2.2.1, trivial, trivial, trivial, trivial⟩
    have h3 := ih _ _ _ _ _ _ _ _ h (fi_R (fi_tl fi) (by decide) ⟨fun q => absurd q (by decide), fun q => absurd q (by decide), fun _ => ho.2.2.1 (Or.inl rfl), by decide⟩)
    exact vk_getf hx hb E1 fi.2.2.1 hown (hts _ hlink) (fun _ h => h) hd h3
  · cases e
    have E1 : va_OF "java/lang/String" "coder" "B" (.int 0) (gK G a) (gA G) s s.heap := (hSI.2.2.1.1 a (ho.2.2.1 (Or.inl rfl))).2.1
    exact vk_getf hx hb E1 fi.2.2.1 hown (hts _ hlink) (fun _ h => h) hd (ih _ _ _ _ _ _ _ _ h (fi_I (fi_tl fi)))
theorem fi_up {H1 : Heap} {a k : Nat} {v : Int32} (fi : FI G s H locs ph nL M X ls L st) (ht : tyA a ≠ 0) (hr : isRf a k = false ∨ (ph = false ∧ (isRf a k = true → a + rof a k < X.2.1))) (hP : va_P (gD G) vwCl (wsM G (upM M a k v) X) H1) (hz : H1.size = H.size) (oq : ∀ q : Nat, q ≠ gb G + a → H1[q]? = H[q]?) {j : Nat} : FI G s H1 (locs ++ [⟨gb G + a, j⟩]) ph nL (upM M a k v) X ls L st := by
  refine ⟨HR_up fi.1 ht ?_ hP hz, fun q => ?_, fi.2.2.1.put hz oq (Nat.le_add_right _ _), fi.2.2.2⟩
  · rcases hr with hr | hr
    · intro q; rw [hr] at q; cases q
    · exact hr.2
  · rcases hr with hr | hr
    · exact set_up (fi.2.1 q) hr
    · rw [hr.1] at q; cases q
theorem wsM_put {a k t : Nat} {v : Int32} {w : Value} (ht : tyA a = t) (h2 : t ≤ 13) (hv : fvM G (upM M a k v) a t k = w) : (wsM G M X).set a (gb G + a, .inr (kci t, ((List.range (nfT t)).map (fvM G M a t)).set k w)) = wsM G (upM M a k v) X := by
  refine wsM_set ?_ fun i hi => ceM_ne hi
  rw [ceM_o ht h2]
  congr 2
  refine (map_set _ _ _ _ _ hv fun j hj => ?_).symm
  unfold fvM
  rw [upM_nk hj]
theorem put_i {a k t i nF : Nat} {v : Int32} {ref nm ds : String} {ty : FieldType} (hx : p.tables.exec = Jvm.exec) (hb : c.code = cc) (fi : FI G s H locs ph nL M X ls L st) (hts : ∀ w ∈ gwT, w.before args s = true) (hown : s.vm.findClass (cn (ownM mi)) = some m.cls) (hSI : SI G s)
    (ht : tyA a = t) (h2 : t ≤ 13) (h1 : 1 ≤ t) (ha : a < X.2.1) (hC : CTok t) (hk : k < nfT t) (hlink : Cond.fieldLink (cn (ownM mi)) i (clT t).1 ((clT t).2.1 k).2.1 ((clT t).2.1 k).2.2.1 ∈ gwT) (hfk : (fkA t k).1 ≠ 2) (hd : decode cc pc = .ok (.putfield i, 3))
    (hpd : parseFieldDescriptor ((clT t).2.1 k).2.2.1 = some ty) (hn : narrow ty (.int v) = .int v) (hfit : fits ty (.int v) = true) {rest : List Value} {cells slots : Nat}
    (kk : ∀ (H1 : Heap) (lc : List Loc), FI G s H1 lc ph nL (upM M a k v) X ls L st → W p l e R s m args below meth c H1 lc cells slots Q (F0 m (pc + 3) ls rest)) : W p l e R s m args below meth c H locs cells slots Q (F0 m pc ls (.int v :: .ref (gb G + a) :: rest)) := by
  obtain ⟨C1, C2, C3, C4, ty0, C5, C6⟩ := hC
  have hk2 : k < (clT t).2.2 := by rw [C2]; exact hk
  have hap := va_apart (own := cn (ownM mi)) hts C3 ty0 C5 C4 hSI.2.1 C1
  have he := ws_at (M := M) (G := G) (X := X) ht h2 ha
  obtain ⟨r, g1, cell, q1, q2, q3, q4⟩ := fi.1.1 a _ he
  have hr : r = ((clT t).1, (clT t).2.1, (clT t).2.2) := Option.some.inj (g1.symm.trans C1)
  subst hr
  obtain ⟨hS, hfc, kC, hkC, hkind⟩ := hSI.2.1.1 _ _ C1
  obtain ⟨cf, kf, fx, f, hi, hsl⟩ := hS k hk2
  have hlay := hts _ (C3 _ (u_in_lay hk2))
  unfold u_lay at hlay
  have hfin : ((clT t).2.1 k).2.2.2 = false := by
    rcases (C6 k hk2).2 with q | q | q
    · exact q.2.2
    · exact q.2.2
    · exact absurd q.1 hfk
  rw [if_neg (by rw [hfin]; decide)] at hlay
  have hst := (u_facts hfc hkC (u_lays hts C3 hk2) hi).1
  have h6 := u_store hfc hkC hkind hlay hi hpd hn hfit
  have hdc : ((clT t).2.1 k).1 = (clT t).1 := (C6 k hk2).1
  refine W.putK hx hb (f := f) ⟨hown, hts _ hlink, ⟨_, _, _, by rw [← hdc]; exact hi⟩, hst⟩ (by rw [q2]; exact h6) q1 q3 (by rw [hsl]; exact k2_hasslot (q4 k hk2)) rfl rfl hd fun H' e1 e2 e3 => ?_
  rw [hsl] at e1 ⊢
  have hP2 := fi.1.1.set wsM_D he (H1 := H') (e := .inr (kci t, ((List.range (nfT t)).map (fvM G M a t)).set k (.int v))) ⟨_, C1, t_OB.to (V := updV (vp_V ((List.range (nfT t)).map (fvM G M a t))) k (.int v)) ⟨_, e1, q2, q3, t_set q4 hap hk2 _⟩ (fun j _ => vp_updV_set (by simpa using hk) _ j)⟩ e3
  rw [wsM_put (v := v) ht h2 (by rw [fvM_int hfk, upM_self])] at hP2
  exact kk H' _ (fi_up fi (by omega) (Or.inl (nrf_o ht h2 rfl hfk)) hP2 e2 e3)
theorem put_r {a k t i d b : Nat} (hx : p.tables.exec = Jvm.exec) (hb : c.code = cc) (fi : FI G s H locs false nL M X ls L st) (hts : ∀ w ∈ gwT, w.before args s = true) (hown : s.vm.findClass (cn (ownM mi)) = some m.cls) (hSI : SI G s)
    (ht : tyA a = t) (h2 : t ≤ 13) (h1 : 1 ≤ t) (ha : a < X.2.1) (hC : CTok t) (hk : k < nfT t) (hlink : Cond.fieldLink (cn (ownM mi)) i (clT t).1 ((clT t).2.1 k).2.1 ((clT t).2.1 k).2.2.1 ∈ gwT) (hfk : (fkA t k).1 = 2) (hd : decode cc pc = .ok (.putfield i, 3))
    (hin : meth.name = "<init>") (hcn : (clT t).1 = cn (ownM mi)) (hb2 : b = a + (fkA t k).2) (hbl : b < X.2.1) {rest : List Value} {cells slots : Nat}
    (kk : ∀ (H1 : Heap) (lc : List Loc), FI G s H1 lc false nL (upM M a k 1) X ls L st → W p l e R s m args below meth c H1 lc cells slots Q (F0 m (pc + 3) ls rest)) : W p l e R s m args below meth c H locs cells slots Q (F0 m pc ls (.ref (gb G + b) :: .ref (gb G + a) :: rest)) := by
  obtain ⟨C1, C2, C3, C4, ty0, C5, C6⟩ := hC
  have hk2 : k < (clT t).2.2 := by rw [C2]; exact hk
  have hap := va_apart (own := cn (ownM mi)) hts C3 ty0 C5 C4 hSI.2.1 C1
  have he := ws_at (M := M) (G := G) (X := X) ht h2 ha
  obtain ⟨r, g1, cell, q1, q2, q3, q4⟩ := fi.1.1 a _ he
  have hr : r = ((clT t).1, (clT t).2.1, (clT t).2.2) := Option.some.inj (g1.symm.trans C1)
  subst hr
  obtain ⟨hS, hfc, kC, hkC, hkind⟩ := hSI.2.1.1 _ _ C1
  obtain ⟨cf, kf, fx, f, hi, hsl⟩ := hS k hk2
  have hlay := hts _ (C3 _ (u_in_lay hk2))
  unfold u_lay at hlay
  obtain ⟨hfin, hfn⟩ : ((clT t).2.1 k).2.2.2 = true ∧ ∀ a, fits (ty0 k) (.ref a) = true ∧ narrow (ty0 k) (.ref a) = .ref a := by
    rcases (C6 k hk2).2 with q | q | q
    · rw [hfk] at q; exact absurd q.1 (by decide)
    · rw [hfk] at q; exact absurd q.1 (by decide)
    · exact ⟨q.2.2.1, q.2.2.2⟩
  rw [if_pos hfin] at hlay
  have hst := (u_facts hfc hkC (u_lays hts C3 hk2) hi).1
  have hdc : ((clT t).2.1 k).1 = (clT t).1 := (C6 k hk2).1
  have hcf : m.cls = cf := by
    obtain ⟨_, _, c', _, _, _, -, -, hf', -, -, -, hown2, -⟩ := Cond.laysFinal_spec hlay
    have e1 : c' = cf := by have := hi.symm.trans hf'; simp at this; exact this.1.symm
    rw [hdc, hcn] at hown2
    rw [← e1]; exact Option.some.inj (hown.symm.trans hown2)
  have h6 := u_fits hfc hkC hkind (Or.inr hlay) hi (C5 k hk2) (hfn (gb G + b)).2 (hfn (gb G + b)).1
  refine W.putFinK hx hb hown (hts _ hlink) (by rw [← hdc]; exact hi) hst hcf hin (by rw [q2]; exact h6) q1 q3 (by rw [hsl]; exact k2_hasslot (q4 k hk2)) rfl rfl hd fun H' e1 e2 e3 => ?_
  rw [hsl] at e1 ⊢
  have hP2 := fi.1.1.set wsM_D he (H1 := H') (e := .inr (kci t, ((List.range (nfT t)).map (fvM G M a t)).set k (.ref (gb G + b)))) ⟨_, C1, t_OB.to (V := updV (vp_V ((List.range (nfT t)).map (fvM G M a t))) k (.ref (gb G + b))) ⟨_, e1, q2, q3, t_set q4 hap hk2 _⟩ (fun j _ => vp_updV_set (by simpa using hk) _ j)⟩ e3
  rw [wsM_put (v := 1) ht h2 (by rw [fvM_ref hfk upM_self, hb2])] at hP2
  have hro : rof a k = (fkA t k).2 := by unfold rof; rw [ht, nbeq_f (by omega : t ≠ 16)]; rfl
  exact kk H' _ (fi_up fi (by omega) (Or.inr ⟨rfl, fun _ => by rw [hro, ← hb2]; exact hbl⟩) hP2 e2 e3)
theorem rok_b {v : Int32} (h : rOK 1 v = true) : narrow .boolean (.int v) = .int v ∧ fits .boolean (.int v) = true := by
  have h : (decide (v = 0) || decide (v = 1)) = true := h
  simp only [Bool.or_eq_true, decide_eq_true_eq] at h
  rcases h with rfl | rfl <;> exact ⟨rfl, rfl⟩

set_option maxHeartbeats 1000000 in
theorem fr_putfield {i : Nat} (hx : p.tables.exec = Jvm.exec) (hb : c.code = cc) (ih : IHK p l e R s m args below meth c Q G mi nL ph K r0) (fi : FI G s H locs ph nL M X ls L st) (h : stp ph cl mi lv K (pc, .putfield i, 3, tg, cv) L st M X = some r0) (hd : decode cc pc = .ok (.putfield i, 3)) (hown : s.vm.findClass (cn (ownM mi)) = some m.cls) (hts : ∀ w ∈ gwT, w.before args s = true) (hSI : SI G s) (hF : ∀ q ∈ fldP (ownM mi), FEok (ownM mi) q) (hini : ∀ f, lkp (fldP (ownM mi)) i = some f → f.2.2.1 = 2 → meth.name = "<init>" ∧ (clT f.1).1 = cn (ownM mi)) : W p l e R s m args below meth c H locs (cX mi X) (sX mi X) Q (F0 m pc ls ((st).map (tvG G))) := by
  unfold stp at h
  dsimp only at h
  obtain ⟨f, hf, h1⟩ := bind_inv h
  have hm := hF _ (lkp_mem hf)
  have hi2 := hini _ hf
  clear hini h
  obtain ⟨f1, k, kd, off, dt⟩ := f
  dsimp only at h1 hi2
  rcases hm with ⟨c1, c2, hC, hk, hfk, hkd, hlink, hd2⟩ | ⟨e, hlink⟩ | ⟨e, hlink⟩
  · dsimp only at c1 c2 hC hk hfk hkd hlink hd2
    have hC2 := hC
    obtain ⟨C1, C2, C3, C4, ty, C5, C6⟩ := hC2
    have hk2 : k < (clT f1).2.2 := by rw [C2]; exact hk
    match kd, hkd, hfk, h1, hi2, hd2 with
    | 0, _, hfk, h1, _, _ =>
      obtain ⟨t, a, v, q, rfl, h2⟩ := uir_inv (show uir st _ = some r0 from h1)
      obtain ⟨hc, h3⟩ := bif_inv h2
      have hc : f1 = t := nbeq_t hc
      subst hc
      obtain ⟨h0, ho⟩ := fi_ok (fi_tl fi)
      have hr := ho.1 (by omega)
      have hty : ty k = .int := by
        rcases (C6 k hk2).2 with q | q | q
        · exact q.2.1
        · rw [hfk] at q; exact absurd q.1 (by simp)
        · rw [hfk] at q; exact absurd q.1 (by simp)
      show W p l e R s m args below meth c H locs (cX mi X) (sX mi X) Q (F0 m pc ls (.int v :: tvG G (pR f1 a) :: q.map (tvG G)))
      rw [tv_ref (by omega)]
      exact put_i (nF := 0) (ref := "") (nm := "") (ds := "") hx hb (fi_tl (fi_tl fi)) hts hown hSI hr.2 c2 c1 hr.1 hC hk hlink (by rw [hfk]; simp) hd (by rw [C5 k hk2, hty]) rfl rfl (fun H1 lc f2 => ih _ _ _ _ _ _ _ _ h3 f2)
    | 1, _, hfk, h1, _, _ =>
      obtain ⟨t, a, v, q, rfl, h2⟩ := uir_inv (show uir st _ = some r0 from h1)
      obtain ⟨hc, h4⟩ := bif_inv h2
      obtain ⟨hv, h3⟩ := ite_inv h4
      have hc : f1 = t := nbeq_t hc
      subst hc
      obtain ⟨h0, ho⟩ := fi_ok (fi_tl fi)
      have hr := ho.1 (by omega)
      have hty : ty k = .boolean := by
        rcases (C6 k hk2).2 with q | q | q
        · rw [hfk] at q; exact absurd q.1 (by simp)
        · exact q.2.1
        · rw [hfk] at q; exact absurd q.1 (by simp)
      show W p l e R s m args below meth c H locs (cX mi X) (sX mi X) Q (F0 m pc ls (.int v :: tvG G (pR f1 a) :: q.map (tvG G)))
      rw [tv_ref (by omega)]
      exact put_i (nF := 0) (ref := "") (nm := "") (ds := "") hx hb (fi_tl (fi_tl fi)) hts hown hSI hr.2 c2 c1 hr.1 hC hk hlink (by rw [hfk]; simp) hd (by rw [C5 k hk2, hty]) (rok_b hv).1 (rok_b hv).2 (fun H1 lc f2 => ih _ _ _ _ _ _ _ _ h3 f2)
    | 2, _, hfk, h1, hi2, hd2 =>
      obtain ⟨t, a, d, b, q, rfl, h2⟩ := urr_inv (show urr st _ = some r0 from h1)
      obtain ⟨hc, h4⟩ := bif_inv h2
      obtain ⟨hv, h3⟩ := ite_inv h4
      simp only [Bool.and_eq_true] at hc
      obtain ⟨⟨hph, hc⟩, hc2⟩ := hc
      have hc : f1 = t := nbeq_t hc
      have hc2 : dt = d := nbeq_t hc2
      subst hc; subst hc2
      have hph : ph = false := by cases ph <;> first | rfl | cases hph
      subst hph
      obtain ⟨h0, ho⟩ := fi_ok (fi_tl fi)
      obtain ⟨h0b, hob⟩ := fi_ok fi
      obtain ⟨d1, d2, d3⟩ := hd2 rfl
      have hr := ho.1 (by omega)
      have hrb := hob.1 d2
      show W p l e R s m args below meth c H locs (cX mi X) (sX mi X) Q (F0 m pc ls (tvG G (pR dt b) :: tvG G (pR f1 a) :: q.map (tvG G)))
      rw [tv_ref (a := b) d2, tv_ref (a := a) (by omega)]
      exact put_r (d := 0) hx hb (fi_tl (fi_tl fi)) hts hown hSI hr.2 c2 c1 hr.1 hC hk hlink (by rw [hfk]) hd (hi2 rfl).1 (hi2 rfl).2 (by rw [hfk]; exact hv) hrb.1 (fun H1 lc f2 => ih _ _ _ _ _ _ _ _ h3 f2)
    | n + 3, hkd, _, _, _, _ => omega
  · cases e; cases h1
  · cases e; cases h1
set_option maxHeartbeats 1000000 in
theorem fr_iaload (hx : p.tables.exec = Jvm.exec) (hb : c.code = cc) (ih : IHK p l e R s m args below meth c Q G mi nL ph K r0) (fi : FI G s H locs ph nL M X ls L st) (h : stp ph cl mi lv K (pc, .iaload, 1, tg, cv) L st M X = some r0) (hd : decode cc pc = .ok (.iaload, 1)) (hts : ∀ w ∈ gwT, w.before args s = true) (hSI : SI G s)  : W p l e R s m args below meth c H locs (cX mi X) (sX mi X) Q (F0 m pc ls ((st).map (tvG G))) := by
  unfold stp at h
  dsimp only at h
  obtain ⟨t, a, i, q, rfl, h1⟩ := uir_inv h
  obtain ⟨h0, ho⟩ := fi_ok (fi_tl fi)
  cases hb1 : Nat.beq t 14 with
  | true =>
    rw [hb1] at h1
    obtain ⟨hin, h2⟩ := ite_inv h1
    have ht : t = 14 := nbeq_t hb1
    subst ht
    have hr := ho.1 (by decide)
    exact va_iald hx hb hSI.2.1 fi.1.1 a 0 (ws_ai hr.2 hr.1) rfl (inB_in hin) hd (ih _ _ _ _ _ _ _ _ h2 (fi_I (fi_tl (fi_tl fi))))
  | false =>
    rw [hb1] at h1
    obtain ⟨hc, h3⟩ := bif_inv (show (bif Nat.beq t 17 then _ else none) = some r0 from h1)
    obtain ⟨hin, h2⟩ := ite_inv h3
    have ht : t = 17 := nbeq_t hc
    subst ht
    have hlt : i.toNatClampNeg < X.2.2.2.2.2 := Nat.not_le.mp fun q => inB_in hin (Or.inr q)
    have hL : X.2.2.2.2.2 = gN G := fi.1.2.2.2.2.2
    have hC := hSI.2.2.2.2.2.2.2.2.2.2.1
    refine va_sld hx hb hSI.2.2.2.2.2.2.2.2.2.2.2 (Nat.lt_of_lt_of_le hC hSI.1) (fun q => absurd (Nat.lt_of_lt_of_le hC q) (Nat.lt_irrefl _)) fi.2.2.1 (inB_in (by rw [← hL]; exact hin)) hd ?_
    rw [← fi.1.2.2.2.1 _ hlt]
    exact ih _ _ _ _ _ _ _ _ h2 (fi_I (fi_tl (fi_tl fi)))
set_option maxHeartbeats 1000000 in
theorem fr_baload (hx : p.tables.exec = Jvm.exec) (hb : c.code = cc) (ih : IHK p l e R s m args below meth c Q G mi nL ph K r0) (fi : FI G s H locs ph nL M X ls L st) (h : stp ph cl mi lv K (pc, .baload, 1, tg, cv) L st M X = some r0) (hd : decode cc pc = .ok (.baload, 1)) (hts : ∀ w ∈ gwT, w.before args s = true) (hSI : SI G s)  : W p l e R s m args below meth c H locs (cX mi X) (sX mi X) Q (F0 m pc ls ((st).map (tvG G))) := by
  unfold stp at h
  dsimp only at h
  obtain ⟨t, a, i, q, rfl, h1⟩ := uir_inv h
  obtain ⟨hc, h3⟩ := bif_inv h1
  obtain ⟨hin, h2⟩ := ite_inv h3
  have ht : t = 19 := nbeq_t hc
  subst ht
  obtain ⟨h0, ho⟩ := fi_ok (fi_tl fi)
  have ha : a < 22 := ho.2.2.1 (Or.inr rfl)
  have E1 := (hSI.2.2.1.1 a ha).2.2.2
  have el : slnL.getD a 0 = sln a := by
    unfold slnL sln
    rw [List.getD_eq_getElem?_getD, List.getElem?_map, List.getD_eq_getElem?_getD]
    cases strT[a]? <;> rfl
  rw [el] at E1
  have hlt : i.toNatClampNeg < sln a := Nat.not_le.mp fun q => inB_in hin (Or.inr q)
  have e1 : sbyt.getD a [] = (strT.getD a []).map Int32.ofNat := by
    unfold sbyt
    simp only [List.getD_eq_getElem?_getD, List.getElem?_map]
    cases strT[a]? <;> rfl
  have ev : (sbyt.getD a []).getD i.toNatClampNeg 0 = Int32.ofNat (sch a i.toNatClampNeg) := by
    rw [e1]
    unfold sch
    unfold sln at hlt
    rw [List.getD_eq_getElem?_getD, List.getElem?_map, List.getD_eq_getElem?_getD (l := strT.getD a []), List.getElem?_eq_getElem hlt]
    rfl
  refine va_tb hx hb E1 fi.2.2.1 (inB_in hin) rfl hd ?_
  rw [ev]
  exact ih _ _ _ _ _ _ _ _ h2 (fi_I (fi_tl (fi_tl fi)))
set_option maxHeartbeats 1000000 in
theorem fr_iastore (hx : p.tables.exec = Jvm.exec) (hb : c.code = cc) (ih : IHK p l e R s m args below meth c Q G mi nL ph K r0) (fi : FI G s H locs ph nL M X ls L st) (h : stp ph cl mi lv K (pc, .iastore, 1, tg, cv) L st M X = some r0) (hd : decode cc pc = .ok (.iastore, 1)) (hts : ∀ w ∈ gwT, w.before args s = true) (hSI : SI G s)  : W p l e R s m args below meth c H locs (cX mi X) (sX mi X) Q (F0 m pc ls ((st).map (tvG G))) := by
  unfold stp at h
  dsimp only at h
  obtain ⟨t, a, i, v, q, rfl, h1⟩ := uiir_inv h
  obtain ⟨hc, h3⟩ := bif_inv h1
  obtain ⟨hin, h2⟩ := ite_inv h3
  have ht : t = 14 := nbeq_t hc
  subst ht
  obtain ⟨h0, ho⟩ := fi_ok (fi_tl (fi_tl fi))
  have hr := ho.1 (by decide)
  have ha := ws_ai (G := G) (M := M) hr.2 hr.1
  refine W.iast hx hb (fi.1.1 a _ ha) ((hSI.2.1.2 0 _ rfl).1 (ln a) (fun j => .int (M a j))) (fun q => by cases q) (by show ¬ (i < 0 ∨ (arrV _ _ _).slots.size ≤ _); rw [arrV_size]; exact inB_in hin) rfl rfl hd fun H1 e z oq => ?_
  have hP := fi.1.1.set wsM_D ha (e := .inl (gI G, ln a, .inl (fun j => upM M a i.toNatClampNeg v a j))) (H1 := H1) ?_ oq
  · rw [wsM_set (ceM_i hr.2) (fun j hj => ceM_ne hj)] at hP
    exact ih _ _ _ _ _ _ _ _ h2 (fi_up (fi_tl (fi_tl (fi_tl fi))) (by rw [hr.2]; decide) (Or.inl (nrf_i hr.2)) hP z oq)
  · show H1[gb G + a]? = some (vp_cell _ _)
    rw [e]
    show some ((vp_cell _ (ln a, .inl (fun j => M a j))).setSlot _ _) = _
    rw [vp_cell_i, vp_cell_i, arrV_store]
    congr 2
    funext j
    by_cases hj : j = i.toNatClampNeg
    · subst hj
      simp [updV, upM_self]
    · simp [updV, hj, upM_nk hj]
set_option maxHeartbeats 1000000 in
theorem fr_laload (hx : p.tables.exec = Jvm.exec) (hb : c.code = cc) (ih : IHK p l e R s m args below meth c Q G mi nL ph K r0) (fi : FI G s H locs ph nL M X ls L st) (h : stp ph cl mi lv K (pc, .laload, 1, tg, cv) L st M X = some r0) (hd : decode cc pc = .ok (.laload, 1)) (hts : ∀ w ∈ gwT, w.before args s = true) (hSI : SI G s)  : W p l e R s m args below meth c H locs (cX mi X) (sX mi X) Q (F0 m pc ls ((st).map (tvG G))) := by
  unfold stp at h
  dsimp only at h
  obtain ⟨t, a, i, q, rfl, h1⟩ := uir_inv h
  obtain ⟨hc, h3⟩ := bif_inv h1
  obtain ⟨hin, h2⟩ := ite_inv h3
  have ht : t = 15 := nbeq_t hc
  subst ht
  obtain ⟨h0, ho⟩ := fi_ok (fi_tl fi)
  have hr := ho.1 (by decide)
  exact va_lald hx hb hSI.2.1 fi.1.1 a 1 (ws_al hr.2 hr.1) rfl (inB_in hin) hd (ih _ _ _ _ _ _ _ _ h2 (fi_L (fi_tl (fi_tl fi))))
set_option maxHeartbeats 1000000 in
theorem fr_lastore (hx : p.tables.exec = Jvm.exec) (hb : c.code = cc) (ih : IHK p l e R s m args below meth c Q G mi nL ph K r0) (fi : FI G s H locs ph nL M X ls L st) (h : stp ph cl mi lv K (pc, .lastore, 1, tg, cv) L st M X = some r0) (hd : decode cc pc = .ok (.lastore, 1)) (hts : ∀ w ∈ gwT, w.before args s = true) (hSI : SI G s)  : W p l e R s m args below meth c H locs (cX mi X) (sX mi X) Q (F0 m pc ls ((st).map (tvG G))) := by
  unfold stp at h
  dsimp only at h
  obtain ⟨t, a, i, v, q, rfl, h1⟩ := ulir_inv h
  obtain ⟨hc, h3⟩ := bif_inv h1
  obtain ⟨hin, h2⟩ := ite_inv h3
  have ht : t = 15 := nbeq_t hc
  subst ht
  obtain ⟨h0, ho⟩ := fi_ok (fi_tl (fi_tl fi))
  have hr := ho.1 (by decide)
  have ha := ws_al (G := G) (M := M) hr.2 hr.1
  have hl : a = 828 := long_one hr.2
  have hl1 : ln a = 1 := by rw [hl]; decide +kernel
  have ho1 : ∀ j, j ≠ a → tyA j ≠ 15 := fun j hj q => hj ((long_one q).trans hl.symm)
  clear hl
  refine W.last hx hb (fi.1.1 a _ ha) ((hSI.2.1.2 1 _ rfl).1 (ln a) (fun j => .long X.1)) (fun q => by cases q) (by show ¬ (i < 0 ∨ (arrV _ _ _).slots.size ≤ _); rw [arrV_size]; exact inB_in hin) rfl rfl hd fun H1 e z oq => ?_
  have hP := fi.1.1.set wsM_D ha (e := .inl (gL G, ln a, .inr (.inl (fun _ => v)))) (H1 := H1) ?_ oq
  · have hw : (wsM G M X).set a (gb G + a, .inl (gL G, ln a, .inr (.inl (fun _ => v)))) = wsM G M (v, X.2) := wsM_setX rfl (ceM_l hr.2) (fun j hj => ceM_X (ho1 j hj))
    rw [hw] at hP
    refine ih _ _ _ _ (v, X.2) H1 _ _ h2 ?_
    have f3 := fi_tl (fi_tl (fi_tl fi))
    exact ⟨⟨hP, fun q => by rw [z]; exact f3.1.2.1 q, f3.1.2.2⟩, f3.2.1, f3.2.2.1.put z oq (Nat.le_add_right _ _), f3.2.2.2⟩
  · show H1[gb G + a]? = some (vp_cell _ _)
    rw [e]
    show some ((vp_cell _ (ln a, .inr (.inl (fun j => X.1)))).setSlot _ _) = _
    rw [vp_cell_l, vp_cell_l, arrV_store]
    have hj0 : i.toNatClampNeg = 0 := by
      have h9 : ¬ ln a ≤ i.toNatClampNeg := fun q => inB_in hin (Or.inr q)
      rw [hl1] at h9
      omega
    rw [hj0, hl1]
    have e9 : ∀ f g : Nat → Value, f 0 = g 0 → arrV (gL G) 1 f = arrV (gL G) 1 g := by
      intro f g h
      have : (Array.ofFn (n := 1) fun j => f j.val) = Array.ofFn (n := 1) fun j => g j.val := by
        apply Array.ext
        · simp
        · intro k h1 h2
          simp at h1
          subst h1
          simpa using h
      unfold arrV
      rw [this]
    exact congrArg some (e9 _ _ (by simp [updV]))
set_option maxHeartbeats 1000000 in
theorem fr_aaload (hx : p.tables.exec = Jvm.exec) (hb : c.code = cc) (ih : IHK p l e R s m args below meth c Q G mi nL ph K r0) (fi : FI G s H locs ph nL M X ls L st) (h : stp ph cl mi lv K (pc, .aaload, 1, tg, cv) L st M X = some r0) (hd : decode cc pc = .ok (.aaload, 1)) (hts : ∀ w ∈ gwT, w.before args s = true) (hSI : SI G s)  : W p l e R s m args below meth c H locs (cX mi X) (sX mi X) Q (F0 m pc ls ((st).map (tvG G))) := by
  unfold stp at h
  dsimp only at h
  obtain ⟨t, a, i, q, rfl, h1⟩ := uir_inv h
  obtain ⟨hc, h3⟩ := bif_inv h1
  obtain ⟨hin, h2⟩ := ite_inv h3
  simp only [Bool.and_eq_true] at hc
  obtain ⟨hph, hc⟩ := hc
  have ht : t = 16 := nbeq_t hc
  subst ht
  subst hph
  obtain ⟨h0, ho⟩ := fi_ok (fi_tl fi)
  have hr := ho.1 (by decide)
  have hlt : i.toNatClampNeg < 10 := Nat.not_le.mp fun q => inB_in hin (Or.inr q)
  have hrf : isRf a i.toNatClampNeg = true := by
    unfold isRf
    rw [hr.2, show Nat.blt i.toNatClampNeg 10 = true from Nat.ble_eq_true_of_le hlt]
    rfl
  have h1 := set_iff.mp (fi.2.1 rfl) a _ hr.1 hrf
  have hna := fi.1.2.2.2.2.1 a _ hr.1 hrf h1
  have hro : rof a i.toNatClampNeg = 1 + 50 * i.toNatClampNeg := by unfold rof; rw [hr.2]; rfl
  rw [hro] at hna
  have hl : a = 134 := acts_one hr.2
  refine va_aldq hx hb hSI.2.1 fi.1.1 a 2 (ws_as hr.2 hr.1) rfl (inB_in hin) hd ?_
  have e9 : va_rf (cvM G M a i.toNatClampNeg) = .ref (gb G + (a + 1 + 50 * i.toNatClampNeg)) := by unfold cvM; rw [if_pos h1]; rfl
  rw [e9]
  have h9 := ih _ _ _ _ _ _ _ _ h2 (fi_R (fi_tl (fi_tl fi)) (by decide) ⟨fun _ => ⟨by omega, by subst hl; exact st_at hlt⟩, fun q => absurd q (by decide), fun q => absurd q (by decide), by decide⟩)
  exact h9
set_option maxHeartbeats 1000000 in
theorem fr_aastore (hx : p.tables.exec = Jvm.exec) (hb : c.code = cc) (hCS : CTok 6) (ih : IHK p l e R s m args below meth c Q G mi nL ph K r0) (fi : FI G s H locs ph nL M X ls L st) (h : stp ph cl mi lv K (pc, .aastore, 1, tg, cv) L st M X = some r0) (hd : decode cc pc = .ok (.aastore, 1)) (hts : ∀ w ∈ gwT, w.before args s = true) (hSI : SI G s)  : W p l e R s m args below meth c H locs (cX mi X) (sX mi X) Q (F0 m pc ls ((st).map (tvG G))) := by
  unfold stp at h
  dsimp only at h
  obtain ⟨t, a, i, d, b, q, rfl, h1⟩ := urir_inv h
  obtain ⟨hc, h3⟩ := bif_inv h1
  obtain ⟨⟨hin, hbe⟩, h2⟩ := ite_inv h3
  simp only [Bool.and_eq_true] at hc
  obtain ⟨⟨hph, hc⟩, hc2⟩ := hc
  have ht : t = 16 := nbeq_t hc
  have ht2 : d = 6 := nbeq_t hc2
  subst ht; subst ht2
  have hph : ph = false := by cases ph <;> first | rfl | cases hph
  subst hph
  obtain ⟨h0, ho⟩ := fi_ok (fi_tl (fi_tl fi))
  obtain ⟨h0b, hob⟩ := fi_ok fi
  have hr := ho.1 (by decide)
  have hrb := hob.1 (by decide)
  have hlt : i.toNatClampNeg < 10 := Nat.not_le.mp fun q => inB_in hin (Or.inr q)
  have h00 : ¬ i < 0 := fun q => inB_in hin (Or.inl q)
  have ha := ws_as (G := G) (M := M) hr.2 hr.1
  have hv := ws_at (G := G) (M := M) hrb.2 (by decide) hrb.1
  obtain ⟨C1, -⟩ := hCS
  obtain ⟨r', hr', cellV, g1, g2, g3, -⟩ := fi.1.1 b _ hv
  have hrr : r' = clT 6 := Option.some.inj (hr'.symm.trans C1)
  subst hrr
  have hKn := hSI.2.1.1 _ _ C1
  obtain ⟨hS6, hfc, kC, hkC, hkind⟩ := hKn
  obtain ⟨hAr, kA, comp, u1, u2, u3, u4⟩ := hSI.2.1.2 2 _ rfl
  have hcls : (clT 6).1 = "MergeBelts$State" := rfl
  rw [hcls] at hfc
  cases hfc.symm.trans u3
  refine W.aast hx hb (cv := cellV) (v := gb G + b) (fi.1.1 a _ ha) (fun q z => by cases z) (fun z => by cases z) u1 u2 rfl hkC ⟨h00, by show _ < (arrV _ _ _).slots.size; rw [arrV_size]; exact hlt⟩ g1 (fun q z => by rw [g3] at z; cases z) (by rw [g2]; exact hkC) (by rw [g2]; exact va_assign (C := "MergeBelts$State") ⟨u3, kC, hkC, hkind⟩) rfl rfl hd fun H1 e z oq => ?_
  have hP := fi.1.1.set wsM_D ha (e := .inl (gS G, 10, .inr (.inr (.inr (.inr (cvM G (upM M a i.toNatClampNeg 1) a)))))) (H1 := H1) ?_ oq
  · rw [wsM_set (ceM_s hr.2) (fun j hj => ceM_ne hj)] at hP
    have hro : rof a i.toNatClampNeg = 1 + 50 * i.toNatClampNeg := by unfold rof; rw [hr.2]; rfl
    exact ih _ _ _ _ _ _ _ _ h2 (fi_up (fi_tl (fi_tl (fi_tl fi))) (by rw [hr.2]; decide) (Or.inr ⟨rfl, fun _ => by rw [hro]; omega⟩) hP z oq)
  · show H1[gb G + a]? = some (vp_cell _ _)
    rw [e]
    show some ((vp_cell _ (10, .inr (.inr (.inr (.inr (cvM G M a)))))).setSlot _ _) = _
    rw [vp_cell_q, vp_cell_q, arrV_store]
    congr 2
    funext j
    by_cases hj : j = i.toNatClampNeg
    · subst hj
      unfold cvM
      rw [if_pos upM_self]
      simp [updV, va_rf, hbe]
    · unfold cvM
      rw [upM_nk hj]
      simp [updV, hj]
set_option maxHeartbeats 1000000 in
theorem fr_arraylength (hx : p.tables.exec = Jvm.exec) (hb : c.code = cc) (ih : IHK p l e R s m args below meth c Q G mi nL ph K r0) (fi : FI G s H locs ph nL M X ls L st) (h : stp ph cl mi lv K (pc, .arraylength, 1, tg, cv) L st M X = some r0) (hd : decode cc pc = .ok (.arraylength, 1)) (hts : ∀ w ∈ gwT, w.before args s = true) (hSI : SI G s)  : W p l e R s m args below meth c H locs (cX mi X) (sX mi X) Q (F0 m pc ls ((st).map (tvG G))) := by
  unfold stp at h
  dsimp only at h
  obtain ⟨t, a, q, rfl, h1⟩ := ur1_inv h
  obtain ⟨h0, ho⟩ := fi_ok fi
  cases hb1 : (Nat.beq t 14 || Nat.beq t 16) with
  | true =>
    rw [hb1] at h1
    simp only [Bool.or_eq_true] at hb1
    rcases hb1 with hb1 | hb1
    · have ht : t = 14 := nbeq_t hb1
      subst ht
      have hr := ho.1 (by decide)
      exact va_alen hx hb hSI.2.1 fi.1.1 a 0 (ws_ai hr.2 hr.1) rfl rfl hd (ih _ _ _ _ _ _ _ _ h1 (fi_I (fi_tl fi)))
    · have ht : t = 16 := nbeq_t hb1
      subst ht
      have hr := ho.1 (by decide)
      have hl : ln a = 10 := by rw [acts_one hr.2]; decide +kernel
      exact va_alen hx hb hSI.2.1 fi.1.1 a 2 (ws_as hr.2 hr.1) rfl (by rw [hl]) hd (ih _ _ _ _ _ _ _ _ h1 (fi_I (fi_tl fi)))
  | false =>
    rw [hb1] at h1
    cases hb2 : Nat.beq t 19 with
    | true =>
      rw [hb2] at h1
      have ht : t = 19 := nbeq_t hb2
      subst ht
      have ha : a < 22 := ho.2.2.1 (Or.inr rfl)
      have E1 := (hSI.2.2.1.1 a ha).2.2.2
      have el : slnL.getD a 0 = sln a := by
        unfold slnL sln
        rw [List.getD_eq_getElem?_getD, List.getElem?_map, List.getD_eq_getElem?_getD]
        cases strT[a]? <;> rfl
      rw [el] at E1
      obtain ⟨cell, k1, k2, k3, k4, k5, k6, k7⟩ := E1
      exact W.alen (n := Int32.ofNat (sln a)) hx hb (by rw [fi.2.2.1.2.1 _ (Array.getElem?_eq_some_iff.mp k1).1 k7]; exact k1) k2 k5 rfl rfl hd (ih _ _ _ _ _ _ _ _ h1 (fi_I (fi_tl fi)))
    | false =>
      rw [hb2] at h1
      obtain ⟨hc, h2⟩ := bif_inv (show (bif Nat.beq t 17 then _ else none) = some r0 from h1)
      have ht : t = 17 := nbeq_t hc
      subst ht
      have hC := hSI.2.2.2.2.2.2.2.2.2.2.1
      refine va_slen hx hb hSI.2.2.2.2.2.2.2.2.2.2.2 (Nat.lt_of_lt_of_le hC hSI.1) (fun q => absurd (Nat.lt_of_lt_of_le hC q) (Nat.lt_irrefl _)) fi.2.2.1 hd ?_
      rw [← fi.1.2.2.2.2.2]
      exact ih _ _ _ _ _ _ _ _ h2 (fi_I (fi_tl fi))
set_option maxHeartbeats 1000000 in
theorem fr_getstatic {i : Nat} (hx : p.tables.exec = Jvm.exec) (hb : c.code = cc) (ih : IHK p l e R s m args below meth c Q G mi nL ph K r0) (fi : FI G s H locs ph nL M X ls L st) (h : stp ph cl mi lv K (pc, .getstatic i, 3, tg, cv) L st M X = some r0) (hd : decode cc pc = .ok (.getstatic i, 3)) (hown : s.vm.findClass (cn (ownM mi)) = some m.cls) (hts : ∀ w ∈ gwT, w.before args s = true) (hSI : SI G s) (hG : ∀ q ∈ gstP (ownM mi), (q.2 = pI 1 ∧ Cond.fieldLink (cn (ownM mi)) q.1 "java/lang/String" "COMPACT_STRINGS" "Z" ∈ gwT) ∨ (q.2 = pR 20 0 ∧ Cond.fieldLink (cn (ownM mi)) q.1 "jdk/internal/util/Preconditions" "SIOOBE_FORMATTER" sioD ∈ gwT)) : W p l e R s m args below meth c H locs (cX mi X) (sX mi X) Q (F0 m pc ls ((st).map (tvG G))) := by
  unfold stp at h
  dsimp only at h
  obtain ⟨v, hv, h1⟩ := bind_inv h
  rcases hG _ (lkp_mem hv) with ⟨e, hl⟩ | ⟨e, hl⟩
  · dsimp only at e hl
    subst e
    exact va_gets hx hb hSI.2.2.2.2.1 fi.2.2.1 hown (hts _ hl) (fun _ h => h) hd (ih _ _ _ _ _ _ _ _ h1 (fi_I fi))
  · dsimp only at e hl
    subst e
    exact va_gets hx hb hSI.2.2.2.2.2.1 fi.2.2.1 hown (hts _ hl) (fun _ h => h) hd (ih _ _ _ _ _ _ _ _ h1 (fi_R fi (by decide) ⟨fun q => absurd q (by decide), fun q => absurd q (by decide), fun q => absurd q (by decide), by decide⟩))
def CEok (o : Nat) (q : Nat × PV) : Prop := (∃ v, q.2 = pI v ∧ Cond.constant (cn o) q.1 v ∈ gwT) ∨ (∃ v, q.2 = pL v ∧ Cond.constantLong (cn o) q.1 v ∈ gwT) ∨ ∃ k, q.2 = pR 18 k
theorem va_ldcSW9 {rest : List Value} (hexec : p.tables.exec = Jvm.exec) (hb : c.code = cc) {own tx : String} {index q cells slots : Nat} (hown : s.vm.findClass own = some m.cls) (hZ : vk_R own index tx q s) (hdg : decode cc pc = .ok (.ldc_w index, 3))
    (k : W p l e R s m args below meth c H locs cells slots Q (F0 m (pc + 3) ls (.ref q :: rest))) : W p l e R s m args below meth c H locs cells slots Q (F0 m pc ls rest) := by
  intro T hT X
  obtain ⟨t, a1, b1⟩ := k T hT X
  exact ⟨t, X.ldcStringW hexec hown (text := tx) (a := q) hZ.1 hZ.2 (g := F0 m pc ls rest) rfl (by rw [hb]; exact hdg) t a1, b1⟩
set_option maxHeartbeats 1000000 in
theorem fr_ldc {i : Nat} (hx : p.tables.exec = Jvm.exec) (hb : c.code = cc) (ih : IHK p l e R s m args below meth c Q G mi nL ph K r0) (fi : FI G s H locs ph nL M X ls L st) (h : stp ph cl mi lv K (pc, .ldc i, 2, tg, cv) L st M X = some r0) (hd : decode cc pc = .ok (.ldc i, 2)) (hown : s.vm.findClass (cn (ownM mi)) = some m.cls) (hts : ∀ w ∈ gwT, w.before args s = true) (hSI : SI G s) (ho : ownM mi < 19) (hC : ∀ q ∈ cstP (ownM mi), CEok (ownM mi) q) (hL : ∀ v, lkp (cstP (ownM mi)) i = some v → ∀ x, v ≠ pL x) : W p l e R s m args below meth c H locs (cX mi X) (sX mi X) Q (F0 m pc ls ((st).map (tvG G))) := by
  unfold stp at h
  dsimp only at h
  obtain ⟨v, hv, h1⟩ := bind_inv h
  rcases hC _ (lkp_mem hv) with ⟨w, e, hl⟩ | ⟨w, e, hl⟩ | ⟨k, e⟩
  · dsimp only at e hl
    subst e
    exact W.ldc hx hb hown (hts _ hl) rfl hd (ih _ _ _ _ _ _ _ _ h1 (fi_I fi))
  · exact absurd e (hL _ hv w)
  · dsimp only at e
    subst e
    obtain ⟨hk, tx, hr⟩ := hSI.2.2.2.1 _ _ _ ho hv
    have h9 := ih _ _ _ _ _ _ _ _ h1 (fi_R fi (by decide) ⟨fun q => absurd q (by decide), fun q => absurd q (by decide), fun _ => hk, by decide⟩)
    exact va_ldcS hx hb hown hr hd h9
set_option maxHeartbeats 1000000 in
theorem fr_ldc_w {i : Nat} (hx : p.tables.exec = Jvm.exec) (hb : c.code = cc) (ih : IHK p l e R s m args below meth c Q G mi nL ph K r0) (fi : FI G s H locs ph nL M X ls L st) (h : stp ph cl mi lv K (pc, .ldc_w i, 3, tg, cv) L st M X = some r0) (hd : decode cc pc = .ok (.ldc_w i, 3)) (hown : s.vm.findClass (cn (ownM mi)) = some m.cls) (hts : ∀ w ∈ gwT, w.before args s = true) (hSI : SI G s) (ho : ownM mi < 19) (hC : ∀ q ∈ cstP (ownM mi), CEok (ownM mi) q) (hL : ∀ v, lkp (cstP (ownM mi)) i = some v → ∀ x, v ≠ pL x) : W p l e R s m args below meth c H locs (cX mi X) (sX mi X) Q (F0 m pc ls ((st).map (tvG G))) := by
  unfold stp at h
  dsimp only at h
  obtain ⟨v, hv, h1⟩ := bind_inv h
  rcases hC _ (lkp_mem hv) with ⟨w, e, hl⟩ | ⟨w, e, hl⟩ | ⟨k, e⟩
  · dsimp only at e hl
    subst e
    exact lv_ldcw hx hb hown (hts _ hl) hd (ih _ _ _ _ _ _ _ _ h1 (fi_I fi))
  · exact absurd e (hL _ hv w)
  · dsimp only at e
    subst e
    obtain ⟨hk, tx, hr⟩ := hSI.2.2.2.1 _ _ _ ho hv
    have h9 := ih _ _ _ _ _ _ _ _ h1 (fi_R fi (by decide) ⟨fun q => absurd q (by decide), fun q => absurd q (by decide), fun _ => hk, by decide⟩)
    exact va_ldcSW9 hx hb hown hr hd h9
set_option maxHeartbeats 1000000 in
theorem fr_ldc2_w {i : Nat} (hx : p.tables.exec = Jvm.exec) (hb : c.code = cc) (ih : IHK p l e R s m args below meth c Q G mi nL ph K r0) (fi : FI G s H locs ph nL M X ls L st) (h : stp ph cl mi lv K (pc, .ldc2_w i, 3, tg, cv) L st M X = some r0) (hd : decode cc pc = .ok (.ldc2_w i, 3)) (hown : s.vm.findClass (cn (ownM mi)) = some m.cls) (hts : ∀ w ∈ gwT, w.before args s = true) (hSI : SI G s) (ho : ownM mi < 19) (hC : ∀ q ∈ cstP (ownM mi), CEok (ownM mi) q) (hL : ∀ v, lkp (cstP (ownM mi)) i = some v → ∃ x, v = pL x) : W p l e R s m args below meth c H locs (cX mi X) (sX mi X) Q (F0 m pc ls ((st).map (tvG G))) := by
  unfold stp at h
  dsimp only at h
  obtain ⟨v, hv, h1⟩ := bind_inv h
  obtain ⟨x, rfl⟩ := hL _ hv
  rcases hC _ (lkp_mem hv) with ⟨w, e, hl⟩ | ⟨w, e, hl⟩ | ⟨k, e⟩
  · cases e
  · cases e
    exact W.ldc2 hx hb hown (hts _ hl) rfl hd (ih _ _ _ _ _ _ _ _ h1 (fi_L fi))
  · cases e
set_option maxHeartbeats 1000000 in
theorem fr_ifnull {off : Int} (hx : p.tables.exec = Jvm.exec) (hb : c.code = cc) (ih : IHK p l e R s m args below meth c Q G mi nL ph K r0) (fi : FI G s H locs ph nL M X ls L st) (h : stp ph cl mi lv K (pc, .ifnull off, 3, tg, cv) L st M X = some r0) (hd : decode cc pc = .ok (.ifnull off, 3)) : W p l e R s m args below meth c H locs (cX mi X) (sX mi X) Q (F0 m pc ls ((st).map (tvG G))) := by
  unfold stp at h
  dsimp only at h
  obtain ⟨t, a, q, rfl, h1⟩ := ur1_inv h
  obtain ⟨h0, h2⟩ := bif_inv h1
  have ht : t = 6 := nbeq_t h0
  subst ht
  show W p l e R s m args below meth c H locs (cX mi X) (sX mi X) Q (F0 m pc ls (tvG G (pR 6 a) :: q.map (tvG G)))
  rw [tv_ref (by decide)]
  exact lv_ifnull hx hb hd (ih _ _ _ _ _ _ _ _ h2 (fi_tl fi))
set_option maxHeartbeats 1000000 in
theorem fr_ifnonnull {off : Int} (hx : p.tables.exec = Jvm.exec) (hb : c.code = cc) (ih : IHK p l e R s m args below meth c Q G mi nL ph K r0) (fi : FI G s H locs ph nL M X ls L st) (h : stp ph cl mi lv K (pc, .ifnonnull off, 3, tg, cv) L st M X = some r0) (hd : decode cc pc = .ok (.ifnonnull off, 3)) (ht0 : (pc : Int) + off = (tg : Int)) : W p l e R s m args below meth c H locs (cX mi X) (sX mi X) Q (F0 m pc ls ((st).map (tvG G))) := by
  unfold stp at h
  dsimp only at h
  obtain ⟨t, a, q, rfl, h1⟩ := ur1_inv h
  obtain ⟨h0, h2⟩ := bif_inv h1
  have ht : t = 6 := nbeq_t h0
  subst ht
  show W p l e R s m args below meth c H locs (cX mi X) (sX mi X) Q (F0 m pc ls (tvG G (pR 6 a) :: q.map (tvG G)))
  rw [tv_ref (by decide)]
  exact lv_ifnonnull hx hb hd ht0 (ih _ _ _ _ _ _ _ _ h2 (fi_tl fi))
theorem sw_at (KK : Nat → Option PRs) (x : Int32) (d : Nat) : ∀ (T : List (Int32 × Nat)), (∃ k : Nat, T[k]? = some (x, k) ∧ False) ∨ (∃ (k t : Nat), T[k]? = some (x, t) ∧ (∀ j : Nat, j < k → ∀ (v : Int32) (u : Nat), T[j]? = some (v, u) → v ≠ x) ∧ sw KK x d T = KK t) ∨ ((∀ q ∈ T, q.1 ≠ x) ∧ sw KK x d T = KK d)
  | [] => Or.inr (Or.inr ⟨fun _ h => (by cases h), rfl⟩)
  | (v, t) :: r => by
    by_cases hv : x = v
    · subst hv
      exact Or.inr (Or.inl ⟨0, t, rfl, fun j hj => absurd hj (Nat.not_lt_zero _), by show (if x = x then _ else _) = _; rw [if_pos rfl]⟩)
    · have e : sw KK x d ((v, t) :: r) = sw KK x d r := by show (if x = v then _ else _) = _; rw [if_neg hv]
      rcases sw_at KK x d r with ⟨k, -, q⟩ | ⟨k, u, h1, h2, h3⟩ | ⟨h1, h2⟩
      · exact q.elim
      · refine Or.inr (Or.inl ⟨k + 1, u, by simpa using h1, fun j hj w y hw => ?_, by rw [e]; exact h3⟩)
        cases j with
        | zero => simp at hw; rw [← hw.1]; exact fun q => hv q.symm
        | succ j => exact h2 j (by omega) w y (by simpa using hw)
      · refine Or.inr (Or.inr ⟨fun q hq => ?_, by rw [e]; exact h2⟩)
        rcases List.mem_cons.mp hq with rfl | hq
        · exact fun q => hv q.symm
        · exact h1 q hq
/-- the pairs of a switch by its instruction -/
def tsOK (pc tg : Nat) (d lo hi : Int) (offs : Array Int) (T : List (Int32 × Nat)) : Prop := (pc : Int) + d = (tg : Int) ∧ (∀ x : Int32, (∀ q ∈ T, q.1 ≠ x) → x.toInt < lo ∨ hi < x.toInt) ∧
  ∀ (k : Nat) (x : Int32) (t : Nat), T[k]? = some (x, t) → ¬ x.toInt < lo ∧ ¬ hi < x.toInt ∧ ∃ off, offs[(x.toInt - lo).toNat]? = some off ∧ (pc : Int) + off = (t : Int)
def lsOK (pc tg : Nat) (d : Int) (ps : Array (Int × Int)) (T : List (Int32 × Nat)) : Prop := (ps.toList.zip (ps.toList.drop 1)).all (fun (a, next) => a.1 < next.1) = true ∧ (pc : Int) + d = (tg : Int) ∧ (∀ x : Int32, (∀ q ∈ T, q.1 ≠ x) → Op.lookupswitch.offset ps.toList d x.toInt = d) ∧
  ∀ (k : Nat) (x : Int32) (t : Nat), T[k]? = some (x, t) → (pc : Int) + Op.lookupswitch.offset ps.toList d x.toInt = (t : Int)
set_option maxHeartbeats 1000000 in
theorem fr_tableswitch {d lo hi : Int} {offs : Array Int} {ln : Nat} (hx : p.tables.exec = Jvm.exec) (hb : c.code = cc) (ih : IHK p l e R s m args below meth c Q G mi nL ph K r0) (fi : FI G s H locs ph nL M X ls L st)(h : stp ph cl mi lv K (pc, .tableswitch d lo hi offs, ln, tg, cv) L st M X = some r0) (hd : decode cc pc = .ok (.tableswitch d lo hi offs, ln)) (hT : ∀ t, lkp swT mi = some t → t.1 = pc → tsOK pc tg d lo hi offs t.2) : W p l e R s m args below meth c H locs (cX mi X) (sX mi X) Q (F0 m pc ls ((st).map (tvG G))) := by
  unfold stp at h
  dsimp only at h
  obtain ⟨x, q, rfl, h1⟩ := u1_inv h
  obtain ⟨t, ht, h2⟩ := bind_inv h1
  obtain ⟨hp, h3⟩ := bif_inv h2
  obtain ⟨e1, e2, e3⟩ := hT t ht (nbeq_t hp)
  rcases sw_at (fun pc => K pc L q M X) x tg t.2 with ⟨k, -, q⟩ | ⟨k, u, g1, g2, g3⟩ | ⟨g1, g2⟩
  · exact q.elim
  · rw [g3] at h3
    obtain ⟨w1, w2, off, w3, w4⟩ := e3 k x u g1
    exact lv_tableIn hx hb hd w1 w2 w3 w4 (ih _ _ _ _ _ _ _ _ h3 (fi_tl fi))
  · rw [g2] at h3
    exact lv_tableOut hx hb hd (e2 x g1) e1 (ih _ _ _ _ _ _ _ _ h3 (fi_tl fi))
set_option maxHeartbeats 1000000 in
theorem fr_lookupswitch {d : Int} {ps : Array (Int × Int)} {ln : Nat} (hx : p.tables.exec = Jvm.exec) (hb : c.code = cc) (ih : IHK p l e R s m args below meth c Q G mi nL ph K r0) (fi : FI G s H locs ph nL M X ls L st)(h : stp ph cl mi lv K (pc, .lookupswitch d ps, ln, tg, cv) L st M X = some r0) (hd : decode cc pc = .ok (.lookupswitch d ps, ln)) (hT : ∀ t, lkp swT mi = some t → t.1 = pc → lsOK pc tg d ps t.2) : W p l e R s m args below meth c H locs (cX mi X) (sX mi X) Q (F0 m pc ls ((st).map (tvG G))) := by
  unfold stp at h
  dsimp only at h
  obtain ⟨x, q, rfl, h1⟩ := u1_inv h
  obtain ⟨t, ht, h2⟩ := bind_inv h1
  obtain ⟨hp, h3⟩ := bif_inv h2
  obtain ⟨e0, e1, e2, e3⟩ := hT t ht (nbeq_t hp)
  rcases sw_at (fun pc => K pc L q M X) x tg t.2 with ⟨k, -, q⟩ | ⟨k, u, g1, g2, g3⟩ | ⟨g1, g2⟩
  · exact q.elim
  · rw [g3] at h3
    exact lv_lookup hx hb hd e0 rfl (e3 k x u g1) (ih _ _ _ _ _ _ _ _ h3 (fi_tl fi))
  · rw [g2] at h3
    exact lv_lookup hx hb hd e0 (e2 x g1) e1 (ih _ _ _ _ _ _ _ _ h3 (fi_tl fi))
end FRB
end
section
/-! new cells, copies -/
section FRC
variable {p : Program} {l : Launch} {e : Env} {R : Room} {s : State} {m : MethodId} {args : Array Value} {below : List Frame} {meth : Method} {c : Code} {Q : State → Prop} {cc : ByteArray} {G : EG} {mi lv nL : Nat} {ph : Bool} {cl : Nat → Nat → List PV → Mem → PX → Option PRs} {K : KT} {r0 : PRs} {pc tg : Nat} {cv : Int32} {L st : List PV} {ls : Array Slot} {M : Mem} {X : PX} {H : Heap} {locs : List Loc}
theorem ok_mono {na : Nat} {v : PV} (h : okV na v) : okV (na + 1) v := by
  rcases v with x | x | ⟨k, a⟩
  · trivial
  · trivial
  · intro h0
    obtain ⟨h1, h2⟩ := h h0
    exact ⟨fun q => ⟨Nat.lt_succ_of_lt (h1 q).1, (h1 q).2⟩, h2⟩
theorem ln_le (a : Nat) : ln a ≤ 200000 := by
  rcases Nat.lt_or_ge a 829 with q | q
  · have h : (List.range 829).all (fun a => Nat.ble (ln a) 200000) = true := by decide +kernel
    exact Nat.le_of_ble_eq_true (List.all_eq_true.mp h a (List.mem_range.mpr q))
  · have e : ln a = 0 := by
      unfold ln
      rw [List.getD_eq_getElem?_getD, List.getElem?_eq_none (by rw [lay_len]; exact q)]
      rfl
    omega
theorem fi_new {H1 : Heap} {t : Nat} {o : Int64} {fc sc : Nat} (fi : FI G s H locs false nL M X ls L st) (ht : tyA X.2.1 = t) (h2 : t ≤ 16) (h1 : t ≠ 0) (hcc : X.2.1 = X.2.2.1) (hP : va_P (gD G) vwCl (wsM G (nlM M X.2.1) (o, X.2.1 + 1, X.2.2.1 + 1, fc, sc, X.2.2.2.2.2)) H1) (hz : H1.size = gb G + X.2.1 + 1) (oq : ∀ q : Nat, q < gb G + X.2.1 → H1[q]? = H[q]?) :
    FI G s H1 locs false nL (nlM M X.2.1) (o, X.2.1 + 1, X.2.2.1 + 1, fc, sc, X.2.2.2.2.2) ls L (pR t X.2.1 :: st) := by
  have hH := fi.1.2.1 hcc
  refine ⟨⟨hP, fun _ => by rw [hz]; dsimp only; omega, by dsimp only; have := fi.1.2.2.1; omega, fun j hj => ?_, rf_nl fi.1.2.2.2.2.1, fi.1.2.2.2.2.2⟩, fun q => (by cases q), ⟨?_, fun q a b => ?_, fi.2.2.1.2.2⟩, fi.2.2.2.1, fun i => ok_mono (fi.2.2.2.2.1 i), fun v hv => ?_, fi.2.2.2.2.2.2⟩
  · unfold nlM
    rw [if_neg (by have := tyA_lt (by rw [ht]; exact h1); omega)]
    exact fi.1.2.2.2.1 j hj
  · have h9 := fi.2.2.1.1
    rw [hz]; omega
  · have h9 := fi.2.2.1.1
    rw [oq q (by omega)]
    exact fi.2.2.1.2.1 q a b
  · rcases List.mem_cons.mp hv with rfl | hv
    · exact ⟨fun _ => ⟨fun _ => ⟨Nat.lt_succ_self _, ht⟩, fun q => by omega, fun q => by omega, by omega⟩, h1⟩
    · exact ⟨ok_mono (fi.2.2.2.2.2.1 v hv).1, (fi.2.2.2.2.2.1 v hv).2⟩
theorem ceM_nl {na i : Nat} {X X' : PX} (h : i ≠ na) (ho : tyA i = 15 → X'.1 = X.1) : ceM G (nlM M na) X' i = ceM G M X i := by
  have e0 : nlM M na i = M i := by funext j; unfold nlM; rw [if_neg h]
  have e1 : cvM G (nlM M na) i = cvM G M i := by funext j; unfold cvM; rw [e0]
  have e2 : fvM G (nlM M na) i = fvM G M i := by funext t j; unfold fvM; rw [e0]
  unfold ceM
  rw [e0, e1, e2]
  cases hb : Nat.beq (tyA i) 15 with
  | true => rw [ho (nbeq_t hb)]
  | false => rfl
def NEok (o : Nat) (q : Nat × (Nat × Nat)) : Prop := q.2.1 ≤ 100 → q.2.1 ≤ 13 ∧ q.2.1 ≠ 0 ∧ CTok q.2.1 ∧ q.2.2 = (clT q.2.1).2.2 ∧ Cond.classLink (cn o) q.1 (clT q.2.1).1 ∈ gwT ∧ Cond.instantiable (clT q.2.1).1 q.2.2 ∈ gwT ∧ Cond.initialized (clT q.2.1).1 ∈ gwT
theorem cX_al (h : alM mi = true) (X : PX) : cX mi X = X.2.2.2.1 := by unfold cX; rw [h]; rfl
theorem sX_al (h : alM mi = true) (X : PX) : sX mi X = X.2.2.2.2.1 := by unfold sX; rw [h]; rfl

set_option maxHeartbeats 1000000 in
theorem fr_new {i : Nat} (hx : p.tables.exec = Jvm.exec) (hb : c.code = cc) (ih : IHK p l e R s m args below meth c Q G mi nL ph K r0) (fi : FI G s H locs ph nL M X ls L st) (h : stp ph cl mi lv K (pc, .new i, 3, tg, cv) L st M X = some r0) (hd : decode cc pc = .ok (.new i, 3)) (hown : s.vm.findClass (cn (ownM mi)) = some m.cls) (hts : ∀ w ∈ gwT, w.before args s = true) (hSI : SI G s) (hRc : mcM mi ≤ R.cells) (hRs : msM mi ≤ R.slots) (hN : ∀ q ∈ nclP (ownM mi), NEok (ownM mi) q) (hb1 : ∀ t, lkp (nclP (ownM mi)) i = some t → t.1 ≤ 100) : W p l e R s m args below meth c H locs (cX mi X) (sX mi X) Q (F0 m pc ls ((st).map (tvG G))) := by
  unfold stp at h
  dsimp only at h
  obtain ⟨t, ht, h1⟩ := bind_inv h
  have hm := hN _ (lkp_mem ht) (hb1 t ht)
  have hlt : Nat.blt 100 t.1 = false := by
    cases hq : Nat.blt 100 t.1 with
    | false => rfl
    | true => have := lt_of_blt hq; have := hb1 t ht; omega
  rw [hlt] at h1
  obtain ⟨hc, h2⟩ := bif_inv (show (bif !ph && alM mi then _ else none) = some r0 from h1)
  obtain ⟨⟨e1, e2, e3, e4⟩, h3⟩ := ite_inv h2
  simp only [Bool.and_eq_true] at hc
  have hph : ph = false := by cases ph <;> first | rfl | cases hc.1
  subst hph
  have hal := hc.2
  obtain ⟨g1, g2, hC, g3, g4, g5, g6⟩ := hm
  dsimp only at g1 g2 hC g3 g4 g5 g6
  obtain ⟨C1, C2, C3, C4, ty, C5, C6⟩ := hC
  have hKn := hSI.2.1.1 _ _ C1
  have hH : H.size = gb G + X.2.1 := by rw [e2]; exact fi.1.2.1 e2
  refine W.newcK hx hb hown (hts _ g4) (hts _ g5) (hts _ g6) rfl hd (by rw [cX_al hal]; omega) (by rw [sX_al hal]; omega) hKn.2.1 hH fun H1 kC hkC w1 w2 w3 => ?_
  have hP : va_P (gD G) vwCl (wsM G (nlM M X.2.1) (X.1, X.2.1 + 1, X.2.2.1 + 1, X.2.2.2.1 + 1, X.2.2.2.2.1 + t.2, X.2.2.2.2.2)) H1 := by
    have hw := wsM_push (G := G) (M := M) (M' := nlM M X.2.1) (X := X) (X' := (X.1, X.2.1 + 1, X.2.2.1 + 1, X.2.2.2.1 + 1, X.2.2.2.2.1 + t.2, X.2.2.2.2.2)) (e := .inr (kci t.1, (List.range (nfT t.1)).map (fvM G (nlM M X.2.1) X.2.1 t.1))) rfl (ceM_o e1 g1) (fun i hi => ceM_nl (by omega) (fun _ => rfl))
    rw [← hw]
    refine (fi.1.1.kept fun k x hx => w3 x.1 ?_).app fun k x hx => ?_
    · have := (fi.1.1 k x hx).lt
      omega
    · have hz : k < 1 := (List.getElem?_eq_some_iff.mp hx).1
      rw [show k = 0 by omega] at hx
      cases hx
      refine ⟨_, C1, (u_born ty hts C3 hKn hkC w1 C5).to fun j hj => ?_⟩
      rw [C2] at hj
      show defaultValue (ty j) = ((List.range (nfT t.1)).map (fvM G (nlM M X.2.1) X.2.1 t.1)).getD j .null
      rw [List.getD_eq_getElem?_getD, rg_at _ hj]
      show _ = fvM G (nlM M X.2.1) X.2.1 t.1 j
      have hn : nlM M X.2.1 X.2.1 j = 0 := by unfold nlM; rw [if_pos rfl]
      rcases (C6 j (by rw [C2]; exact hj)).2 with q | q | q
      · rw [fvM_int (by rw [q.1]; decide), hn, q.2.1]; rfl
      · rw [fvM_int (by rw [q.1]; decide), hn, q.2.1]; rfl
      · unfold fvM
        rw [q.1, hn, if_neg (by decide), q.2.1]; rfl
  have f9 := fi_new fi e1 (by omega) g2 e2 hP (by rw [w2]) w3
  have h9 := ih _ _ _ _ _ _ _ _ h3 f9
  rw [cX_al hal, sX_al hal] at h9 ⊢
  show W p l e R s m args below meth c H1 locs (X.2.2.2.1 + 1) (X.2.2.2.2.1 + t.2) Q (F0 m (pc + 3) ls (.ref (gb G + X.2.1) :: st.map (tvG G)))
  have h8 : W p l e R s m args below meth c H1 locs (X.2.2.2.1 + 1) (X.2.2.2.2.1 + t.2) Q (F0 m (pc + 3) ls (tvG G (pR t.1 X.2.1) :: st.map (tvG G))) := h9
  rw [tv_ref (by omega)] at h8
  exact h8
set_option maxHeartbeats 1000000 in
theorem fr_newarray_int (hx : p.tables.exec = Jvm.exec) (hb : c.code = cc) (ih : IHK p l e R s m args below meth c Q G mi nL ph K r0) (fi : FI G s H locs ph nL M X ls L st) (h : stp ph cl mi lv K (pc, .newarray .int, 2, tg, cv) L st M X = some r0) (hd : decode cc pc = .ok (.newarray .int, 2)) (hown : s.vm.findClass (cn (ownM mi)) = some m.cls) (hts : ∀ w ∈ gwT, w.before args s = true) (hSI : SI G s) (hRc : mcM mi ≤ R.cells) (hRs : msM mi ≤ R.slots) (hA : Cond.arrayClass .int ∈ gwT) : W p l e R s m args below meth c H locs (cX mi X) (sX mi X) Q (F0 m pc ls ((st).map (tvG G))) := by
  unfold stp at h
  dsimp only at h
  obtain ⟨n, q, rfl, h1⟩ := u1_inv h
  obtain ⟨hc, h2⟩ := bif_inv h1
  obtain ⟨⟨e1, e2, e3, e4, e5⟩, h3⟩ := ite_inv h2
  simp only [Bool.and_eq_true] at hc
  have hph : ph = false := by cases ph <;> first | rfl | cases hc.1
  subst hph
  have hal := hc.2
  have hH : H.size = gb G + X.2.1 := by rw [e2]; exact fi.1.2.1 e2
  refine va_newaK hx hb (atype := .int) (hts _ hA) rfl hd rfl e3 e4 (by have := ln_le X.2.1; show ln X.2.1 * 4 ≤ _; omega) (by rw [cX_al hal]; omega) (by rw [sX_al hal]; omega) hH fun H1 cA w1 w2 w3 w4 w5 => ?_
  have hcA : cA = gI G := by
    have h7 : s.vm.findClass _ = some (gI G) := (hSI.2.1.2 0 _ rfl).2
    exact (Option.some.inj (h7.symm.trans w5)).symm
  subst hcA
  have hP : va_P (gD G) vwCl (wsM G (nlM M X.2.1) (X.1, X.2.1 + 1, X.2.2.1 + 1, X.2.2.2.1 + 1, X.2.2.2.2.1 + ln X.2.1, X.2.2.2.2.2)) H1 := by
    have hw := wsM_push (G := G) (M := M) (M' := nlM M X.2.1) (X := X) (X' := (X.1, X.2.1 + 1, X.2.2.1 + 1, X.2.2.2.1 + 1, X.2.2.2.2.1 + ln X.2.1, X.2.2.2.2.2)) (e := .inl (gI G, ln X.2.1, .inl (fun j => nlM M X.2.1 X.2.1 j))) rfl (ceM_i e1) (fun i hi => ceM_nl (by omega) (fun _ => rfl))
    rw [← hw]
    refine (fi.1.1.kept fun k x hx => w3 x.1 ?_).app fun k x hx => ?_
    · have := (fi.1.1 k x hx).lt
      omega
    · have hz : k < 1 := (List.getElem?_eq_some_iff.mp hx).1
      rw [show k = 0 by omega] at hx
      cases hx
      show H1[gb G + X.2.1]? = some (vp_cell _ _)
      rw [w1, vp_cell_i]
      congr 2
      funext j; show _ = Value.int (nlM M X.2.1 X.2.1 j); unfold nlM; rw [if_pos rfl]; rfl
  have f9 := fi_new (fi_tl fi) e1 (by decide) (by decide) e2 hP (by rw [w2]) w3
  have h9 := ih _ _ _ _ _ _ _ _ h3 f9
  rw [cX_al hal, sX_al hal] at h9 ⊢
  exact h9
set_option maxHeartbeats 1000000 in
theorem fr_newarray_long (hx : p.tables.exec = Jvm.exec) (hb : c.code = cc) (ih : IHK p l e R s m args below meth c Q G mi nL ph K r0) (fi : FI G s H locs ph nL M X ls L st) (h : stp ph cl mi lv K (pc, .newarray .long, 2, tg, cv) L st M X = some r0) (hd : decode cc pc = .ok (.newarray .long, 2)) (hown : s.vm.findClass (cn (ownM mi)) = some m.cls) (hts : ∀ w ∈ gwT, w.before args s = true) (hSI : SI G s) (hRc : mcM mi ≤ R.cells) (hRs : msM mi ≤ R.slots) (hA : Cond.arrayClass .long ∈ gwT) : W p l e R s m args below meth c H locs (cX mi X) (sX mi X) Q (F0 m pc ls ((st).map (tvG G))) := by
  unfold stp at h
  dsimp only at h
  obtain ⟨n, q, rfl, h1⟩ := u1_inv h
  obtain ⟨hc, h2⟩ := bif_inv h1
  obtain ⟨⟨e1, e2, e3, e4, e5⟩, h3⟩ := ite_inv h2
  simp only [Bool.and_eq_true] at hc
  have hph : ph = false := by cases ph <;> first | rfl | cases hc.1
  subst hph
  have hal := hc.2
  have hH : H.size = gb G + X.2.1 := by rw [e2]; exact fi.1.2.1 e2
  refine va_newaK hx hb (atype := .long) (hts _ hA) rfl hd rfl e3 e4 (by have := ln_le X.2.1; show ln X.2.1 * 8 ≤ _; omega) (by rw [cX_al hal]; omega) (by rw [sX_al hal]; omega) hH fun H1 cA w1 w2 w3 w4 w5 => ?_
  have hcA : cA = gL G := by
    have h7 : s.vm.findClass _ = some (gL G) := (hSI.2.1.2 1 _ rfl).2
    exact (Option.some.inj (h7.symm.trans w5)).symm
  subst hcA
  have hP : va_P (gD G) vwCl (wsM G (nlM M X.2.1) ((0 : Int64), X.2.1 + 1, X.2.2.1 + 1, X.2.2.2.1 + 1, X.2.2.2.2.1 + ln X.2.1, X.2.2.2.2.2)) H1 := by
    have hw := wsM_push (G := G) (M := M) (M' := nlM M X.2.1) (X := X) (X' := ((0 : Int64), X.2.1 + 1, X.2.2.1 + 1, X.2.2.2.1 + 1, X.2.2.2.2.1 + ln X.2.1, X.2.2.2.2.2)) (e := .inl (gL G, ln X.2.1, .inr (.inl (fun _ => (0 : Int64))))) rfl (ceM_l e1) (fun i hi => ceM_nl (by omega) (fun q => absurd ((long_one q).trans (long_one e1).symm) (by omega)))
    rw [← hw]
    refine (fi.1.1.kept fun k x hx => w3 x.1 ?_).app fun k x hx => ?_
    · have := (fi.1.1 k x hx).lt
      omega
    · have hz : k < 1 := (List.getElem?_eq_some_iff.mp hx).1
      rw [show k = 0 by omega] at hx
      cases hx
      show H1[gb G + X.2.1]? = some (vp_cell _ _)
      rw [w1, vp_cell_l]
      congr 2
  have f9 := fi_new (fi_tl fi) e1 (by decide) (by decide) e2 hP (by rw [w2]) w3
  have h9 := ih _ _ _ _ _ _ _ _ h3 f9
  rw [cX_al hal, sX_al hal] at h9 ⊢
  exact h9
set_option maxHeartbeats 1000000 in
theorem fr_anewarray {i : Nat} (hx : p.tables.exec = Jvm.exec) (hb : c.code = cc) (ih : IHK p l e R s m args below meth c Q G mi nL ph K r0) (fi : FI G s H locs ph nL M X ls L st) (h : stp ph cl mi lv K (pc, .anewarray i, 3, tg, cv) L st M X = some r0) (hd : decode cc pc = .ok (.anewarray i, 3)) (hown : s.vm.findClass (cn (ownM mi)) = some m.cls) (hts : ∀ w ∈ gwT, w.before args s = true) (hSI : SI G s) (hRc : mcM mi ≤ R.cells) (hRs : msM mi ≤ R.slots) (hA : Cond.classLink (cn (ownM mi)) i "MergeBelts$State" ∈ gwT) : W p l e R s m args below meth c H locs (cX mi X) (sX mi X) Q (F0 m pc ls ((st).map (tvG G))) := by
  unfold stp at h
  dsimp only at h
  obtain ⟨n, q, rfl, h1⟩ := u1_inv h
  obtain ⟨hc, h2⟩ := bif_inv h1
  obtain ⟨⟨e1, e2, e3, e4, e5⟩, h3⟩ := ite_inv h2
  simp only [Bool.and_eq_true] at hc
  have hph : ph = false := by cases ph <;> first | rfl | cases hc.1
  subst hph
  have hal := hc.2
  have hH : H.size = gb G + X.2.1 := by rw [e2]; exact fi.1.2.1 e2
  refine W.anew hx hb hown (hts _ hA) (va_AO.use hSI.2.2.2.2.2.2.1) rfl hd rfl e3 (by rw [e4]; decide) (by rw [cX_al hal]; omega) (by rw [sX_al hal, e4]; omega) fun cA kA comp f1 f2 f3 f4 => ?_
  have hcA : cA = gS G := by
    obtain ⟨-, kB, cB, -, -, -, u4⟩ := hSI.2.1.2 2 _ rfl
    exact (Option.some.inj (u4.symm.trans f1)).symm
  subst hcA
  rw [e4]
  generalize hH1 : H.push ({ cls := gS G, slots := Array.replicate 10 .null, vm := .none } : Cell) = H1
  have w2 : H1.size = H.size + 1 := by rw [← hH1, Array.size_push]
  have w1 : H1[gb G + X.2.1]? = some (arrV (gS G) 10 (fun _ => .null)) := by rw [← hH, ← hH1, Array.getElem?_push_size, ← arrV_new]
  have w3 : ∀ q : Nat, q < gb G + X.2.1 → H1[q]? = H[q]? := fun q hq => by rw [← hH1, Array.getElem?_push, if_neg (by omega)]
  have hP : va_P (gD G) vwCl (wsM G (nlM M X.2.1) (X.1, X.2.1 + 1, X.2.2.1 + 1, X.2.2.2.1 + 1, X.2.2.2.2.1 + 10, X.2.2.2.2.2)) H1 := by
    have hw := wsM_push (G := G) (M := M) (M' := nlM M X.2.1) (X := X) (X' := (X.1, X.2.1 + 1, X.2.2.1 + 1, X.2.2.2.1 + 1, X.2.2.2.2.1 + 10, X.2.2.2.2.2)) (e := .inl (gS G, 10, .inr (.inr (.inr (.inr (cvM G (nlM M X.2.1) X.2.1)))))) rfl (ceM_s e1) (fun i hi => ceM_nl (by omega) (fun _ => rfl))
    rw [← hw]
    refine (fi.1.1.kept fun k x hx => w3 x.1 ?_).app fun k x hx => ?_
    · have := (fi.1.1 k x hx).lt
      omega
    · have hz : k < 1 := (List.getElem?_eq_some_iff.mp hx).1
      rw [show k = 0 by omega] at hx
      cases hx
      show H1[gb G + X.2.1]? = some (vp_cell _ _)
      rw [w1, vp_cell_q]
      congr 2
      funext j
      unfold cvM nlM
      rw [if_pos rfl, if_neg (by decide)]
      rfl
  have f9 := fi_new (fi_tl fi) e1 (by decide) (by decide) e2 hP (by rw [w2, hH]) w3
  have h9 := ih _ _ _ _ _ _ _ _ h3 f9
  rw [cX_al hal, sX_al hal] at h9 ⊢
  rw [hH]
  exact h9
/-- System.arraycopy between int arrays of ours -/
theorem cpM_self {a sp b dp n : Nat} (j : Nat) : cpM M a sp b dp n b j = va_cpy (M a) (M b) sp dp n j := by
  unfold cpM va_cpy
  by_cases h : dp ≤ j ∧ j < dp + n
  · rw [if_pos ⟨rfl, h⟩, if_pos h]
  · rw [if_neg (fun q => h q.2), if_neg h]
theorem cpM_ne {a sp b dp n i : Nat} (h : i ≠ b) : cpM M a sp b dp n i = M i := by
  funext j
  unfold cpM
  rw [if_neg (fun q => h q.1)]
theorem ceM_cp {a sp b dp n i : Nat} (h : i ≠ b) : ceM G (cpM M a sp b dp n) X i = ceM G M X i := by
  have e0 := cpM_ne (M := M) (a := a) (sp := sp) (dp := dp) (n := n) h
  have e1 : cvM G (cpM M a sp b dp n) i = cvM G M i := by funext j; unfold cvM; rw [e0]
  have e2 : fvM G (cpM M a sp b dp n) i = fvM G M i := by funext t j; unfold fvM; rw [e0]
  unfold ceM
  rw [e0, e1, e2]
set_option maxHeartbeats 1000000 in
theorem fr_copy {i a b : Nat} {sp dp n : Int32} {rest : List Value} {cells slots : Nat} (hx : p.tables.exec = Jvm.exec) (hb : c.code = cc) (hml : c.maxLocals = ls.size) (fi : FI G s H locs ph nL M X ls L st) (hown : s.vm.findClass (cn (ownM mi)) = some m.cls) (hts : ∀ w ∈ gwT, w.before args s = true) (hSI : SI G s)
    (hlink : Cond.methodLink (cn (ownM mi)) i arraycopyName ∈ gwT) (hnat : Cond.native arraycopyName ∈ gwT) (hstat : Cond.static arraycopyName ∈ gwT) (hini : Cond.initialized "java/lang/System" ∈ gwT)
    (hta : tyA a = 14) (htb : tyA b = 14) (hna : a < X.2.1) (hnb : b < X.2.1) (h1 : ¬ sp < 0) (h2 : ¬ dp < 0) (h3 : ¬ n < 0) (h4 : sp.toNatClampNeg + n.toNatClampNeg ≤ ln a) (h5 : dp.toNatClampNeg + n.toNatClampNeg ≤ ln b)
    (hframes : 1 ≤ R.frames) (hlocals : (rest.map fun v => v.category).sum + (nativeFrameWords "java/lang/System" "arraycopy" 5 + 11) ≤ R.locals) (hdg : decode cc pc = .ok (.invokestatic i, 3))
    (kk : ∀ (H1 : Heap) (lc : List Loc), FI G s H1 lc ph nL (cpM M a sp.toNatClampNeg b dp.toNatClampNeg n.toNatClampNeg) X ls L st → W p l e R s m args below meth c H1 lc cells slots Q (F0 m (pc + 3) ls rest)) :
    W p l e R s m args below meth c H locs cells slots Q (F0 m pc ls (.int n :: .int dp :: .ref (gb G + b) :: .int sp :: .ref (gb G + a) :: rest)) := by
  have nn : ∀ z : Int32, ¬ z < 0 → z.toInt = (z.toNatClampNeg : Int) := by
    intro z hz
    have hz0 : (0 : Int) ≤ z.toInt := by
      have := Int32.not_lt.mp hz
      simpa using Int32.le_iff_toInt_le.mp this
    show z.toInt = ((z.toInt.toNat : Nat) : Int)
    omega
  intro T hT XX
  have ha0 := ws_ai (G := G) (M := M) hta hna
  have hb0 := ws_ai (G := G) (M := M) htb hnb
  have hc0 : H[gb G + a]? = some (vp_cell (gI G) (ln a, .inl (M a))) := fi.1.1 a _ ha0
  have hc1 : H[gb G + b]? = some (vp_cell (gI G) (ln b, .inl (M b))) := fi.1.1 b _ hb0
  obtain ⟨-, k0, hk0, cm0, hkk0⟩ := (hSI.2.1.2 0 _ rfl).1 (ln a) (fun j => .int (M a j))
  obtain ⟨vm', X', step⟩ := XX.arraycopy hx hown (hts _ hlink) (hts _ hnat) (hts _ hstat) (hts _ hini) (src := gb G + a) (dst := gb G + b) (cs := vp_cell (gI G) (ln a, .inl (M a))) (cd := vp_cell (gI G) (ln b, .inl (M b))) (srcPos := sp) (destPos := dp) (n := n) (by rw [hT]; exact hc0) (by rw [hT]; exact hc1)
    (fun _ h => by cases h) (fun _ h => by cases h) (fun h => by cases h) (fun h => by cases h) hk0 hk0 hkk0 hkk0 (by rfl) h1 h2 h3
    (by rw [nn sp h1, nn n h3]; show ¬ _ > ((arrV (gI G) (ln a) (fun j => .int (M a j))).slots.size : Int); rw [arrV_size]; omega)
    (by rw [nn dp h2, nn n h3]; show ¬ _ > ((arrV (gI G) (ln b) (fun j => .int (M b j))).slots.size : Int); rw [arrV_size]; omega)
    (fun vm₁ _ i hi => by
      have e : (vp_cell (gI G) (ln a, .inl (M a))).slots.getD (sp.toNatClampNeg + i) .null = .int (M a (sp.toNatClampNeg + i)) := by
        show (arrV (gI G) (ln a) (fun j => .int (M a j))).slots.getD _ _ = _
        rw [Array.getD_eq_getD_getElem?, arrV_read _ _ (by omega)]
        rfl
      refine ⟨?_, ?_⟩
      · rw [e]
        rfl
      · rw [e]
        exact trivial)
    (g := F0 m pc ls (.int n :: .int dp :: .ref (gb G + b) :: .int sp :: .ref (gb G + a) :: rest)) rfl (by rw [hml]) (rest := rest) rfl (by rw [hb]; exact hdg) hframes (by show 2 * 0 + _ + _ ≤ _; omega)
  have e1 : copied (vp_cell (gI G) (ln a, .inl (M a))) (vp_cell (gI G) (ln b, .inl (M b))) sp dp n = vp_cell (gI G) (ln b, .inl (va_cpy (M a) (M b) sp.toNatClampNeg dp.toNatClampNeg n.toNatClampNeg)) := va_copied (fun z => .int z) (gI G) (gI G) (M a) (M b) h4
  rw [e1] at X' step
  generalize hcl : vp_cell (gI G) (ln b, .inl (va_cpy (M a) (M b) sp.toNatClampNeg dp.toNatClampNeg n.toNatClampNeg)) = ce at X' step
  have hl : gb G + b < H.size := (Array.getElem?_eq_some_iff.mp hc1).1
  have hheap : ((T.setVm vm').setCell (gb G + b) ce).heap = H.setIfInBounds (gb G + b) ce := by rw [← hT]; rfl
  have oq : ∀ q : Nat, q ≠ gb G + b → (H.setIfInBounds (gb G + b) ce)[q]? = H[q]? := fun q hq => by simp [Array.getElem?_setIfInBounds, Ne.symm hq]
  have hP := fi.1.1.set wsM_D hb0 (e := .inl (gI G, ln b, .inl (fun j => cpM M a sp.toNatClampNeg b dp.toNatClampNeg n.toNatClampNeg b j))) (H1 := H.setIfInBounds (gb G + b) ce) ?_ oq
  · rw [wsM_set (M' := cpM M a sp.toNatClampNeg b dp.toNatClampNeg n.toNatClampNeg) (ceM_i htb) (fun j hj => ceM_cp hj)] at hP
    have hz : (H.setIfInBounds (gb G + b) ce).size = H.size := by simp
    obtain ⟨t, a1, b1⟩ := kk _ _ ⟨⟨hP, fun q => by rw [hz]; exact fi.1.2.1 q, fi.1.2.2.1, fun j hj => by rw [cpM_ne (by have := tyA_lt (a := b) (by rw [htb]; decide); omega)]; exact fi.1.2.2.2.1 j hj, rf_cp fi.1.2.2.2.2.1 htb, fi.1.2.2.2.2.2⟩, fun q => set_cp (fi.2.1 q) htb,
      ⟨by rw [hz]; exact fi.2.2.1.1, fun q g1 g2 => by rw [oq q (fun e => g2 (by rw [e]; exact Nat.le_add_right _ _))]; exact fi.2.2.1.2.1 q g1 g2, fun q hq => by
        rcases List.mem_append.mp hq with h | h
        · exact fi.2.2.1.2.2 q h
        · obtain ⟨z, -, hz⟩ := List.mem_map.mp h
          rw [← hz]
          exact Nat.le_add_right _ _⟩, fi.2.2.2⟩ _ hheap X'
    exact ⟨t, step t a1, b1⟩
  · show (H.setIfInBounds (gb G + b) ce)[gb G + b]? = some (vp_cell _ _)
    rw [show (fun j => cpM M a sp.toNatClampNeg b dp.toNatClampNeg n.toNatClampNeg b j) = va_cpy (M a) (M b) sp.toNatClampNeg dp.toNatClampNeg n.toNatClampNeg from funext fun j => cpM_self j, hcl]
    simp [Array.getElem?_setIfInBounds, hl]
end FRC
end
section
/-! what a run does to the counts; tables and cells moved along; the end of a method -/
def PC {β : Type} (P : β → Prop) (b : Option β) : Prop := ∀ r, b = some r → P r
theorem pc_no {β : Type} {P : β → Prop} : PC P none := fun _ h => by cases h
theorem pc_some {β : Type} {P : β → Prop} {r : β} (h : P r) : PC P (some r) := fun _ q => by cases q; exact h
theorem pc_bind {α β : Type} {P : β → Prop} {a : Option α} {g : α → Option β} (k : ∀ v, a = some v → PC P (g v)) : PC P (a.bind g) := by
  cases a with
  | none => exact pc_no
  | some v => exact k v rfl
theorem pc_bf {β : Type} {P : β → Prop} {b : Bool} {f g : Option β} (h : b = true → PC P f) (k : b = false → PC P g) : PC P (bif b then f else g) := by
  cases b
  · exact k rfl
  · exact h rfl
theorem pc_it {β : Type} {P : β → Prop} {c : Prop} [Decidable c] {f g : Option β} (h : c → PC P f) (k : ¬ c → PC P g) : PC P (if c then f else g) := by
  by_cases hc : c
  · rw [if_pos hc]; exact h hc
  · rw [if_neg hc]; exact k hc
theorem pc_cn {β : Type} {P : β → Prop} {c : ClassFile.Cond} {x y : Int32} {f g : Option β} (h : PC P f) (k : PC P g) : PC P (cnd c x y f g) := by
  cases c <;> unfold cnd <;> dsimp only <;> first | exact pc_it (fun _ => h) (fun _ => k) | exact pc_it (fun _ => k) (fun _ => h)
theorem pc_sw {β : Type} {P : β → Prop} {k : Nat → Option β} (h : ∀ p, PC P (k p)) {x : Int32} {d : Nat} : ∀ l : List (Int32 × Nat), PC P (sw k x d l)
  | [] => h d
  | (_, t) :: r => pc_it (fun _ => h t) (fun _ => pc_sw h r)
theorem pc_u1 {β : Type} {P : β → Prop} {st : List PV} {f : Int32 → List PV → Option β} (h : ∀ x r, PC P (f x r)) : PC P (u1 st f) := by
  unfold u1; split <;> first | exact h _ _ | exact pc_no
theorem pc_u2 {β : Type} {P : β → Prop} {st : List PV} {f : Int32 → Int32 → List PV → Option β} (h : ∀ x y r, PC P (f x y r)) : PC P (u2 st f) := by
  unfold u2; split <;> first | exact h _ _ _ | exact pc_no
theorem pc_ul1 {β : Type} {P : β → Prop} {st : List PV} {f : Int64 → List PV → Option β} (h : ∀ x r, PC P (f x r)) : PC P (ul1 st f) := by
  unfold ul1; split <;> first | exact h _ _ | exact pc_no
theorem pc_ul2 {β : Type} {P : β → Prop} {st : List PV} {f : Int64 → Int64 → List PV → Option β} (h : ∀ x y r, PC P (f x y r)) : PC P (ul2 st f) := by
  unfold ul2; split <;> first | exact h _ _ _ | exact pc_no
theorem pc_ur1 {β : Type} {P : β → Prop} {st : List PV} {f : Nat → Nat → List PV → Option β} (h : ∀ x y r, PC P (f x y r)) : PC P (ur1 st f) := by
  unfold ur1; split <;> first | exact h _ _ _ | exact pc_no
theorem pc_uir {β : Type} {P : β → Prop} {st : List PV} {f : Nat → Nat → Int32 → List PV → Option β} (h : ∀ x y z r, PC P (f x y z r)) : PC P (uir st f) := by
  unfold uir; split <;> first | exact h _ _ _ _ | exact pc_no
theorem pc_uiir {β : Type} {P : β → Prop} {st : List PV} {f : Nat → Nat → Int32 → Int32 → List PV → Option β} (h : ∀ x y z w r, PC P (f x y z w r)) : PC P (uiir st f) := by
  unfold uiir; split <;> first | exact h _ _ _ _ _ | exact pc_no
theorem pc_ulir {β : Type} {P : β → Prop} {st : List PV} {f : Nat → Nat → Int32 → Int64 → List PV → Option β} (h : ∀ x y z w r, PC P (f x y z w r)) : PC P (ulir st f) := by
  unfold ulir; split <;> first | exact h _ _ _ _ _ | exact pc_no
theorem pc_urir {β : Type} {P : β → Prop} {st : List PV} {f : Nat → Nat → Int32 → Nat → Nat → List PV → Option β} (h : ∀ x y z w v r, PC P (f x y z w v r)) : PC P (urir st f) := by
  unfold urir; split <;> first | exact h _ _ _ _ _ _ | exact pc_no
theorem pc_urr {β : Type} {P : β → Prop} {st : List PV} {f : Nat → Nat → Nat → Nat → List PV → Option β} (h : ∀ x y z w r, PC P (f x y z w r)) : PC P (urr st f) := by
  unfold urr; split <;> first | exact h _ _ _ _ _ | exact pc_no
theorem pc_ucp {β : Type} {P : β → Prop} {st : List PV} {f : Nat → Nat → Int32 → Nat → Nat → Int32 → Int32 → List PV → Option β} (h : ∀ a b c d e g i r, PC P (f a b c d e g i r)) : PC P (ucp st f) := by
  unfold ucp; split <;> first | exact h _ _ _ _ _ _ _ _ | exact pc_no
theorem pc_utop {β : Type} {P : β → Prop} {st : List PV} {f : PV → List PV → Option β} (h : ∀ x r, PC P (f x r)) : PC P (utop st f) := by
  unfold utop; split <;> first | exact h _ _ | exact pc_no
theorem pc_ue {β : Type} {P : β → Prop} {st : List PV} {b : Option β} (h : PC P b) : PC P (ue st b) := by
  unfold ue; split <;> first | exact h | exact pc_no
/-- cells are only added; a frame's counts stay within its method's; the answer is a number -/
def PXI (m : Nat) (X : PX) (r : PRs) : Prop := X.2.1 ≤ r.2.2.2.1 ∧ X.2.2.1 ≤ r.2.2.2.2.1 ∧ (alM m = true → X.2.2.2.1 ≤ mcM m ∧ X.2.2.2.2.1 ≤ msM m → r.2.2.2.2.2.1 ≤ mcM m ∧ r.2.2.2.2.2.2.1 ≤ msM m) ∧ (∀ v, r.1 = .inl (some v) → (∃ x, v = pI x) ∨ ∃ x, v = pL x) ∧ (alM m = true → X.2.2.2.1 ≤ r.2.2.2.2.2.1 ∧ X.2.2.2.2.1 ≤ r.2.2.2.2.2.2.1)
theorem pxi_k {m : Nat} {X X' : PX} {b : Option PRs} (h1 : X.2.1 ≤ X'.2.1) (h2 : X.2.2.1 ≤ X'.2.2.1) (h3 : alM m = true → X.2.2.2.1 ≤ mcM m ∧ X.2.2.2.2.1 ≤ msM m → X'.2.2.2.1 ≤ mcM m ∧ X'.2.2.2.2.1 ≤ msM m) (h4 : alM m = true → X.2.2.2.1 ≤ X'.2.2.2.1 ∧ X.2.2.2.2.1 ≤ X'.2.2.2.2.1) (h : PC (PXI m X') b) : PC (PXI m X) b := fun r hr =>
  ⟨Nat.le_trans h1 (h r hr).1, Nat.le_trans h2 (h r hr).2.1, fun a b => (h r hr).2.2.1 a (h3 a b), (h r hr).2.2.2.1, fun a => ⟨Nat.le_trans (h4 a).1 ((h r hr).2.2.2.2 a).1, Nat.le_trans (h4 a).2 ((h r hr).2.2.2.2 a).2⟩⟩
theorem kRet_P {ph : Bool} {m mc ms nx : Nat} {K : KT} {ls r : List PV} {X : PX} (hK : ∀ pc ls st M X, PC (PXI m X) (K pc ls st M X)) (q : PRs) (h1 : X.2.1 ≤ q.2.2.2.1) (h2 : X.2.2.1 ≤ q.2.2.2.2.1) (h3 : alM m = true → X.2.2.2.1 ≤ mcM m ∧ X.2.2.2.2.1 ≤ msM m → X.2.2.2.1 + mc ≤ mcM m ∧ X.2.2.2.2.1 + ms ≤ msM m) : PC (PXI m X) (kRet ph (alM m) m mc ms nx K ls r X q) := by
  have g1 : X.2.1 ≤ (bkX (alM m) mc ms X q.2.2).2.1 := by unfold bkX; cases alM m <;> exact h1
  have g2 : X.2.2.1 ≤ (bkX (alM m) mc ms X q.2.2).2.2.1 := by unfold bkX; cases alM m <;> exact h2
  have g3 : alM m = true → X.2.2.2.1 ≤ mcM m ∧ X.2.2.2.2.1 ≤ msM m → (bkX (alM m) mc ms X q.2.2).2.2.2.1 ≤ mcM m ∧ (bkX (alM m) mc ms X q.2.2).2.2.2.2.1 ≤ msM m := by
    intro ha hb
    unfold bkX
    rw [ha]
    exact h3 ha hb
  have g4 : alM m = true → X.2.2.2.1 ≤ (bkX (alM m) mc ms X q.2.2).2.2.2.1 ∧ X.2.2.2.2.1 ≤ (bkX (alM m) mc ms X q.2.2).2.2.2.2.1 := by
    intro ha
    unfold bkX
    rw [ha]
    exact ⟨Nat.le_add_right _ _, Nat.le_add_right _ _⟩
  obtain ⟨o, M', X'⟩ := q
  rcases o with (_ | v) | e
  · exact pxi_k g1 g2 g3 g4 (hK _ _ _ _ _)
  · exact pxi_k g1 g2 g3 g4 (hK _ _ _ _ _)
  · unfold kRet
    dsimp only
    refine pc_bf (fun _ => ?_) (fun _ => pc_no)
    split
    · exact pc_some ⟨g1, g2, g3, (fun v hv => (by cases hv; exact Or.inl ⟨_, rfl⟩)), g4⟩
    · exact pc_no
theorem kCall_P {ph : Bool} {m lv nx : Nat} {K : KT} {w : Nat × Nat × Nat × Nat × Nat × Nat × Nat} {as ls r : List PV} {M : Mem} {X : PX} {cl : Nat → Nat → List PV → Mem → PX → Option PRs} (hcl : ∀ m' lv' as M X, PC (PXI m' X) (cl m' lv' as M X)) (hK : ∀ pc ls st M X, PC (PXI m X) (K pc ls st M X)) :
    PC (PXI m X) (kCall ph cl m lv K nx w as ls r M X) := by
  unfold kCall
  refine pc_bf (fun _ => pc_bf (fun _ => pc_bf (fun _ => pc_bind fun q hq => ?_) (fun _ => pc_bf (fun _ => pc_bf (fun _ => pc_bind fun q hq => ?_) (fun _ => pc_no)) (fun _ => pc_bind fun q hq => ?_))) (fun _ => pc_bf (fun _ => pc_it (fun hc => pc_bind fun q hq => ?_) (fun _ => pc_no)) (fun _ => pc_no))) (fun _ => pc_no)
  · exact kRet_P hK q (hcl _ _ _ _ _ q hq).1 (hcl _ _ _ _ _ q hq).2.1 (fun _ h => h)
  · exact kRet_P hK q (hcl _ _ _ _ _ q hq).1 (hcl _ _ _ _ _ q hq).2.1 (fun _ h => h)
  · exact kRet_P hK q (hcl _ _ _ _ _ q hq).1 (hcl _ _ _ _ _ q hq).2.1 (fun _ h => h)
  · exact kRet_P hK q (hcl _ _ _ _ (enX 1 X) q hq).1 (hcl _ _ _ _ (enX 1 X) q hq).2.1 (fun _ _ => hc)
set_option maxHeartbeats 4000000 in
theorem stp_P {ph : Bool} {m lv : Nat} {K : KT} {ls st : List PV} {M : Mem} {X : PX} {cl : Nat → Nat → List PV → Mem → PX → Option PRs} (hcl : ∀ m' lv' as M X, PC (PXI m' X) (cl m' lv' as M X)) (hK : ∀ pc ls st M X, PC (PXI m X) (K pc ls st M X)) {e : PE} :
    PC (PXI m X) (stp ph cl m lv K e ls st M X) := by
  obtain ⟨pc, i, len, tg, cv⟩ := e
  cases i <;> unfold stp <;> dsimp only <;> (try exact pc_no) <;>
    (repeat' first
      | exact hK _ _ _ _ _
      | exact pc_no
      | exact kCall_P hcl hK
      | exact pc_some ⟨Nat.le_refl _, Nat.le_refl _, fun _ h => h, (fun v hv => (by cases hv; exact Or.inl ⟨_, rfl⟩)), fun _ => ⟨Nat.le_refl _, Nat.le_refl _⟩⟩
      | exact pc_some ⟨Nat.le_refl _, Nat.le_refl _, fun _ h => h, (fun v hv => (by cases hv; exact Or.inr ⟨_, rfl⟩)), fun _ => ⟨Nat.le_refl _, Nat.le_refl _⟩⟩
      | exact pc_some ⟨Nat.le_refl _, Nat.le_refl _, fun _ h => h, (fun v hv => (by cases hv)), fun _ => ⟨Nat.le_refl _, Nat.le_refl _⟩⟩
      | (rename_i h9; exact pc_some ⟨Nat.le_refl _, Nat.le_succ _, fun _ _ => h9, (fun v hv => (by cases hv)), fun _ => ⟨Nat.le_succ _, Nat.le_add_right _ _⟩⟩)
      | (rename_i h9; exact pxi_k (Nat.le_succ _) (Nat.le_succ _) (fun _ _ => ⟨h9.2.2.1, h9.2.2.2⟩) (fun _ => ⟨Nat.le_succ _, Nat.le_add_right _ _⟩) (hK _ _ _ _ _))
      | (rename_i h9; exact pxi_k (Nat.le_succ _) (Nat.le_succ _) (fun _ _ => ⟨h9.2.2.2.2.1, h9.2.2.2.2.2⟩) (fun _ => ⟨Nat.le_succ _, Nat.le_add_right _ _⟩) (hK _ _ _ _ _))
      | exact pxi_k (Nat.le_refl _) (Nat.le_refl _) (fun _ h => h) (fun _ => ⟨Nat.le_refl _, Nat.le_refl _⟩) (hK _ _ _ _ _)
      | refine pc_u1 fun _ _ => ?_
      | refine pc_u2 fun _ _ _ => ?_
      | refine pc_ul1 fun _ _ => ?_
      | refine pc_ul2 fun _ _ _ => ?_
      | refine pc_ur1 fun _ _ _ => ?_
      | refine pc_uir fun _ _ _ _ => ?_
      | refine pc_uiir fun _ _ _ _ _ => ?_
      | refine pc_ulir fun _ _ _ _ _ => ?_
      | refine pc_urir fun _ _ _ _ _ _ => ?_
      | refine pc_urr fun _ _ _ _ _ => ?_
      | refine pc_ucp fun _ _ _ _ _ _ _ _ => ?_
      | refine pc_utop fun _ _ => ?_
      | refine pc_ue ?_
      | refine pc_sw (fun _ => ?_) _
      | refine pc_bind fun _ _ => ?_
      | refine pc_bf (fun _ => ?_) (fun _ => ?_)
      | refine pc_it (fun _ => ?_) (fun _ => ?_)
      | refine pc_cn ?_ ?_
      | (rename_i ty _ _ _; cases ty <;> dsimp only)
      | (rename_i ty _ _; cases ty <;> dsimp only)
      | (rename_i ty; cases ty <;> dsimp only))
theorem run_P : ∀ (n : Nat) {ph : Bool} {m lv pc : Nat} {ls st : List PV} {M : Mem} {X : PX}, PC (PXI m X) (run n ph m lv pc ls st M X)
  | 0, _, _, _, _, _, _, _, _ => pc_no
  | n + 1, ph, m, lv, pc, ls, st, M, X => by
    show PC (PXI m X) (stA (fun ph m' lv' as M X => run n ph m' lv' 0 as [] M X) (fun ph => run n ph m lv) ph m lv pc ls st M X)
    unfold stA
    exact pc_bf (fun _ => pc_it (fun _ => run_P n) (fun _ => pc_no)) (fun _ => pc_bind fun e _ => stp_P (fun _ _ _ _ _ => run_P n) (fun _ _ _ _ _ => run_P n))
end
section
/-! where the words of methods and calls lie -/
def cwT : List Nat := [628, 635, 1284, 1355, 809, 874, 896, 900, 919, 715, 152, 624, 643, 924, 1026, 1201, 1056, 575, 797, 987, 1145, 1484, 1573, 1585, 1589, 1601, 1605, 1609, 1620, 1636, 1644, 1697, 1700, 1704, 1724, 1736, 1768, 1812, 1819, 1843, 1851, 1855, 1879, 1907, 1911, 1927, 1938, 1959, 2015, 2054, 555, 567, 1000, 826, 836, 847, 1344, 1388, 146, 620, 805, 882, 892, 690, 793, 1164, 1469, 639, 1096, 1127, 1131, 1265, 1385, 552, 564, 377, 1017, 1022, 1052, 1060, 1064, 1073, 1077, 1108, 1206, 1216, 1228, 1238, 1242, 1247, 1316, 410, 671, 1116, 1251, 1334, 434, 1175, 1222, 205, 955, 973, 977, 991, 1142, 1325, 1479, 1581, 1593, 1597, 1617, 1624, 1632, 1640, 1648, 1657, 1665, 1669, 1673, 1677, 1720, 1728, 1752, 1756, 1764, 1776, 1780, 1816, 1823, 1863, 1875, 1923, 1950, 822, 842, 616, 686, 1013, 1152, 1160, 1171, 1351, 801, 870, 878, 909, 951, 980, 347, 1416, 1440, 197, 1466, 1473, 371, 1068, 1092, 1135, 1195, 1233, 1260, 1330, 548, 655, 559, 660, 1112, 1321, 665, 705, 984, 997, 1004, 1445, 1577, 1613, 1628, 1653, 1708, 1712, 1716, 1748, 1760, 1772, 1792, 1800, 1804, 1808, 1831, 1847, 1871, 1919, 1942, 839, 1008, 1148, 1156, 1167, 1347, 1048, 1104, 1123, 888, 191, 915, 941, 1456, 700, 544, 651, 1088, 1211, 1256, 1312, 525, 1788, 1867, 1883, 1946, 1955, 1972, 2042, 832, 1044, 1100, 1119, 138, 696, 711, 1084, 818, 906, 936, 1191, 1295, 647, 682, 1796, 1932, 1968, 1983, 1988, 1080, 632, 678, 1272, 1280, 1307, 814, 963, 1426, 1187, 1367, 1977, 2046, 1268, 1276, 1183, 1291, 1303, 1341, 1362, 1374, 1381, 930, 960, 1423, 1179, 1287, 1299, 1337, 1358, 1370, 1377, 946, 1410, 789, 1399, 723, 1395, 718, 1391, 1685, 1689, 1693, 1681, 1661, 1784, 1997, 2001, 2005, 1744, 1993, 2029, 2033, 2037, 1740, 1839, 1963, 2024, 1732, 1827, 1835, 1859, 1891, 1903, 1915, 2019, 1887, 1895, 1899, 0]
def mkT : List Nat := [0, 0, 0, 0, 0, 0, 0, 0, 0, 0, 0, 0, 0, 0, 0, 0, 0, 0, 0, 0, 0, 0, 0, 0, 0, 0, 0, 0, 0, 0, 0, 0, 0, 0, 0, 0, 0, 0, 0, 0, 0, 0, 0, 0, 0, 0, 0, 0, 0, 0, 0, 4, 4, 0, 0, 0, 0, 0, 0, 0, 0, 0, 0, 0, 0, 0, 0, 0, 0, 0, 0, 0, 0, 0, 0, 0, 0, 0, 0, 0, 0, 0, 0, 0, 0, 0, 0, 0, 0, 0, 0, 0, 0, 0, 0, 0, 0, 0, 0, 0, 0, 0, 0, 0, 0, 0, 0, 0, 0, 0, 0, 0, 0, 0, 0, 0, 0, 0, 0, 0, 0, 0, 0, 0, 0, 0, 0, 0, 0, 0, 0, 0, 0, 0, 0, 0, 0, 1, 1, 1, 1, 1, 0, 0, 0, 0, 0, 0, 0, 0, 0, 0, 0, 0, 0, 0, 0, 0, 0, 0, 0, 0, 0, 0, 0, 0, 0, 0, 0, 0, 0, 0, 0, 0, 0, 0, 0, 0, 0, 0, 0, 0, 0, 0, 0, 0, 0, 0, 0, 0, 0, 0, 0, 0, 2, 2, 2, 2, 2, 1, 1, 1, 0, 0, 0, 0, 0, 0, 0, 0, 0, 0, 0, 0, 0, 0, 0, 0, 0, 0, 0, 0, 0, 2, 2, 2, 0, 0, 0, 1, 0, 0, 0, 0, 0, 0, 0, 0, 0, 0, 0, 0, 2, 0, 0, 1, 1, 0, 0, 0, 0, 0, 0, 0, 0, 2, 2, 1, 1, 1, 1, 1, 1, 1, 0, 0, 0, 2, 2, 2, 2, 2, 2, 2, 0, 0, 0, 0, 1, 1, 2, 2, 0, 0, 0, 0, 0, 0, 0, 0, 0, 0, 0, 0, 0, 0, 0, 0, 0, 0, 0, 0, 0, 0, 0, 0, 0, 0, 0, 0, 0, 3]
def mwP_0 : List (Nat × (Nat × Nat × Nat × Nat)) := [(7, (720, 721, 722, 109)), (15, (1010, 1011, 1012, 109)), (20, (1045, 1046, 1047, 109)), (24, (1081, 1082, 1083, 109)), (27, (1101, 1102, 1103, 109)), (30, (1120, 1121, 1122, 109)), (33, (1149, 1150, 1151, 109)), (36, (1157, 1158, 1159, 109)), (39, (1168, 1169, 1170, 109)), (42, (1180, 1181, 1182, 109)), (45, (1269, 1270, 1271, 109)), (48, (1277, 1278, 1279, 109)), (52, (1288, 1289, 1290, 109)), (55, (1300, 1301, 1302, 109)), (58, (1338, 1339, 1340, 109)), (61, (1348, 1349, 1350, 109)), (65, (1359, 1360, 1361, 109)), (68, (1371, 1372, 1373, 109)), (71, (1378, 1379, 1380, 109)), (74, (1392, 1393, 1394, 109)), (77, (136, 137, 0, 109)), (80, (1477, 1478, 0, 124)), (81, (613, 614, 615, 109)), (85, (1904, 1905, 1906, 124)), (86, (716, 717, 0, 108)), (91, (1912, 1913, 1914, 124)), (92, (1570, 1571, 1572, 124)), (96, (625, 626, 627, 109)), (99, (1908, 1909, 1910, 124)), (100, (1006, 1007, 0, 108)), (102, (1574, 1575, 1576, 124)), (103, (1042, 1043, 0, 108)), (106, (1610, 1611, 1612, 124)), (107, (1078, 1079, 0, 108)), (109, (1625, 1626, 1627, 124)), (110, (1098, 1099, 0, 108)), (112, (1650, 1651, 1652, 124)), (113, (1117, 1118, 0, 108)), (115, (1658, 1659, 1660, 124)), (116, (1146, 1147, 0, 108)), (118, (1709, 1710, 1711, 124)), (119, (1154, 1155, 0, 108)), (121, (1713, 1714, 1715, 124)), (122, (1165, 1166, 0, 108)), (124, (1725, 1726, 1727, 124)), (125, (1177, 1178, 0, 108)), (127, (1729, 1730, 1731, 124)), (128, (629, 630, 631, 109)), (131, (1797, 1798, 1799, 124)), (132, (1266, 1267, 0, 108)), (134, (1801, 1802, 1803, 124)), (135, (1274, 1275, 0, 108)), (138, (1805, 1806, 1807, 124)), (139, (675, 676, 677, 109)), (142, (1809, 1810, 1811, 124)), (143, (1285, 1286, 0, 108)), (145, (1824, 1825, 1826, 124)), (146, (1297, 1298, 0, 108)), (148, (1832, 1833, 1834, 124)), (149, (1335, 1336, 0, 108)), (151, (1856, 1857, 1858, 124)), (152, (1345, 1346, 0, 108)), (155, (1864, 1865, 1866, 124)), (156, (683, 684, 685, 109)), (159, (1880, 1881, 1882, 124)), (160, (1356, 1357, 0, 108)), (162, (1884, 1885, 1886, 124)), (163, (1368, 1369, 0, 108)), (165, (1892, 1893, 1894, 124)), (166, (1375, 1376, 0, 108)), (168, (1896, 1897, 1898, 124)), (169, (1389, 1390, 0, 108)), (171, (2016, 2017, 2018, 124)), (172, (693, 694, 695, 109)), (175, (1813, 1814, 1815, 124)), (176, (708, 709, 710, 109)), (180, (1820, 1821, 1822, 124))]
def mwP_1 : List (Nat × (Nat × Nat × Nat × Nat)) := [(1, (139, 140, 141, 0)), (9, (144, 145, 0, 110)), (18, (189, 190, 0, 112)), (25, (345, 346, 0, 115)), (32, (366, 196, 0, 113)), (39, (369, 370, 0, 116)), (46, (523, 524, 0, 120)), (70, (541, 542, 543, 116)), (77, (617, 618, 619, 110)), (84, (786, 787, 788, 112)), (93, (697, 698, 699, 113)), (96, (712, 713, 714, 120)), (118, (1014, 1015, 1016, 117)), (124, (1019, 1020, 1021, 117)), (136, (1023, 1024, 1025, 111)), (162, (633, 634, 0, 109)), (166, (1049, 1050, 1051, 117)), (170, (1057, 1058, 1059, 117)), (173, (1061, 1062, 1063, 117)), (176, (1065, 1066, 1067, 116)), (179, (1074, 1075, 1076, 117)), (185, (674, 641, 642, 111)), (194, (1085, 1086, 1087, 116)), (198, (1093, 1094, 1095, 116)), (207, (1105, 1106, 1107, 117)), (210, (1109, 1110, 1111, 118)), (234, (1124, 1125, 1126, 116)), (237, (1128, 1129, 1130, 116)), (240, (1132, 1133, 1134, 116)), (252, (1153, 1114, 1115, 118)), (268, (1161, 1162, 1163, 113)), (271, (1172, 1173, 1174, 119)), (273, (644, 645, 646, 120)), (277, (1184, 1185, 1186, 116)), (281, (636, 637, 638, 116)), (285, (668, 669, 670, 118)), (289, (1273, 622, 623, 111)), (293, (1281, 1283, 19, 109)), (296, (679, 680, 681, 120)), (300, (707, 649, 650, 116)), (302, (1292, 1293, 1294, 116)), (306, (1304, 1306, 20, 109)), (309, (1342, 1343, 0, 109)), (313, (687, 688, 689, 113)), (319, (1353, 1354, 0, 109)), (323, (1363, 999, 1000, 122)), (328, (1364, 1365, 1366, 116)), (332, (1382, 1383, 1384, 116)), (335, (1386, 1387, 0, 109)), (339, (1396, 1397, 1398, 115)), (341, (1453, 1454, 1455, 115)), (351, (1308, 1189, 1190, 116)), (354, (1309, 1310, 1311, 116))]
def mwP_2 : List (Nat × (Nat × Nat × Nat × Nat)) := [(3, (147, 140, 141, 0)), (11, (150, 151, 0, 111)), (27, (621, 622, 623, 111)), (40, (802, 803, 804, 110)), (46, (806, 641, 642, 111)), (53, (807, 808, 0, 110)), (56, (819, 820, 821, 129)), (61, (829, 830, 831, 129)), (66, (884, 566, 567, 122)), (72, (815, 816, 817, 110)), (76, (867, 869, 1, 110)), (80, (889, 890, 891, 110)), (84, (871, 872, 873, 110)), (87, (879, 880, 881, 110))]
def mwP_3 : List (Nat × (Nat × Nat × Nat × Nat)) := [(3, (192, 140, 141, 0)), (11, (195, 196, 0, 113)), (18, (790, 791, 792, 113)), (21, (798, 799, 800, 110)), (29, (811, 812, 813, 110)), (33, (875, 876, 877, 110)), (41, (885, 886, 887, 110)), (45, (893, 894, 895, 110)), (49, (897, 898, 899, 110)), (54, (902, 816, 817, 110)), (58, (903, 905, 2, 112)), (64, (927, 929, 4, 112)), (69, (933, 935, 5, 112)), (74, (938, 940, 6, 112)), (79, (943, 945, 7, 112)), (82, (910, 872, 873, 110)), (86, (911, 803, 804, 110)), (89, (916, 917, 918, 110)), (92, (920, 880, 881, 110)), (96, (921, 922, 923, 111)), (105, (907, 908, 0, 112)), (113, (912, 914, 3, 112)), (117, (925, 622, 623, 111)), (169, (947, 890, 891, 110)), (173, (948, 950, 8, 112)), (177, (957, 959, 9, 112)), (180, (978, 979, 0, 112)), (188, (981, 982, 983, 114)), (193, (994, 995, 996, 114)), (196, (1001, 1002, 1003, 114)), (199, (952, 953, 954, 114)), (202, (961, 962, 0, 112)), (205, (970, 971, 972, 114)), (208, (974, 975, 976, 114))]
def mwP_4 : List (Nat × (Nat × Nat × Nat × Nat)) := [(3, (348, 140, 141, 0)), (11, (350, 204, 0, 114)), (20, (1400, 795, 796, 114)), (30, (1401, 799, 800, 110)), (37, (1403, 816, 817, 110)), (46, (1405, 812, 813, 110)), (50, (1406, 894, 895, 110)), (54, (1407, 1409, 22, 115)), (62, (1441, 982, 983, 114)), (65, (1419, 803, 804, 110)), (68, (1448, 886, 887, 110)), (72, (1449, 995, 996, 114)), (75, (1442, 1443, 1444, 114)), (79, (1450, 898, 899, 110)), (82, (1417, 872, 873, 110)), (86, (1451, 1002, 1003, 114)), (91, (1412, 890, 891, 110)), (95, (1413, 1415, 23, 115)), (99, (1420, 1422, 24, 115)), (103, (1438, 1439, 0, 115)), (107, (1418, 953, 954, 114)), (110, (1424, 1425, 0, 115)), (113, (1435, 876, 877, 110)), (117, (1436, 971, 972, 114)), (120, (1437, 975, 976, 114)), (143, (1457, 622, 623, 111)), (155, (1458, 1050, 1051, 117)), (160, (1459, 1058, 1059, 117)), (163, (1460, 1062, 1063, 117)), (166, (1461, 1066, 1067, 116)), (169, (1462, 1075, 1076, 117)), (172, (1463, 1464, 1465, 113)), (177, (1470, 1471, 1472, 113)), (180, (1474, 1140, 1141, 114))]
def mwP_5 : List (Nat × (Nat × Nat × Nat × Nat)) := [(3, (198, 140, 141, 0)), (11, (200, 151, 0, 111)), (55, (203, 204, 0, 114)), (80, (794, 795, 796, 114)), (83, (701, 562, 563, 111)), (87, (702, 703, 704, 114)), (90, (1467, 1468, 0, 113)), (94, (691, 641, 642, 111))]
def mwP_6 : List (Nat × (Nat × Nat × Nat × Nat)) := [(3, (372, 140, 141, 0)), (11, (375, 376, 0, 117)), (20, (408, 409, 0, 118)), (27, (429, 151, 0, 111)), (72, (432, 433, 0, 119)), (89, (545, 546, 547, 117)), (92, (556, 557, 558, 118)), (97, (561, 562, 563, 111)), (107, (571, 550, 551, 111)), (110, (572, 573, 574, 119)), (111, (652, 653, 654, 117)), (114, (657, 658, 659, 118)), (117, (662, 663, 664, 119)), (123, (1136, 622, 623, 111)), (127, (1188, 1189, 1190, 116)), (131, (640, 641, 642, 111)), (135, (1192, 1194, 13, 116)), (138, (1203, 1204, 1205, 117)), (141, (1208, 1210, 14, 116)), (144, (1230, 1232, 15, 116)), (147, (1253, 1255, 16, 116)), (153, (1097, 999, 1000, 122)), (165, (1196, 1162, 1163, 113)), (168, (1197, 637, 638, 116)), (172, (1198, 1199, 1200, 111)), (178, (1202, 669, 670, 118)), (185, (1089, 1091, 12, 116)), (189, (1069, 1050, 1051, 117)), (192, (1212, 1058, 1059, 117)), (195, (1213, 1214, 1215, 117)), (198, (1217, 1066, 1067, 116)), (201, (1218, 1062, 1063, 117)), (204, (1219, 1220, 1221, 119)), (210, (1225, 1226, 1227, 117)), (219, (1234, 1075, 1076, 117)), (222, (1235, 1236, 1237, 117)), (225, (1239, 1240, 1241, 117)), (228, (1137, 1125, 1126, 116)), (231, (1243, 1114, 1115, 118)), (234, (1244, 1245, 1246, 117)), (238, (1248, 1249, 1250, 118)), (241, (1257, 1259, 17, 116)), (245, (1261, 1133, 1134, 116)), (248, (1262, 1264, 18, 116)), (265, (1138, 1129, 1130, 116)), (268, (1139, 1140, 1141, 114)), (281, (1070, 1071, 1072, 117)), (287, (1296, 1086, 1087, 116)), (290, (1313, 1314, 1315, 117)), (294, (1317, 1094, 1095, 116)), (297, (1318, 1319, 1320, 118)), (301, (1322, 1323, 1324, 114)), (304, (1327, 1329, 21, 116)), (308, (1331, 1332, 1333, 118))]
def mwP_7 : List (Nat × (Nat × Nat × Nat × Nat)) := [(3, (526, 140, 141, 0)), (17, (529, 370, 0, 116)), (25, (648, 649, 650, 116)), (29, (667, 566, 567, 122))]
def mwP_8 : List (Nat × (Nat × Nat × Nat × Nat)) := [(1, (153, 140, 141, 0)), (13, (553, 554, 0, 121)), (19, (565, 566, 567, 122)), (25, (568, 569, 570, 123))]
def mwP_9 : List (Nat × (Nat × Nat × Nat × Nat)) := [(3, (378, 140, 141, 0)), (11, (380, 151, 0, 111)), (42, (549, 550, 551, 111)), (45, (656, 562, 563, 111)), (49, (1053, 1055, 11, 117)), (53, (1018, 641, 642, 111)), (56, (1207, 1199, 1200, 111)), (60, (1229, 622, 623, 111))]
def mwP_10 : List (Nat × (Nat × Nat × Nat × Nat)) := [(3, (411, 140, 141, 0)), (11, (413, 151, 0, 111)), (26, (560, 550, 551, 111)), (29, (661, 562, 563, 111)), (33, (672, 641, 642, 111)), (37, (673, 622, 623, 111)), (41, (1252, 999, 1000, 122)), (47, (1113, 1114, 1115, 118))]
def mwP_11 : List (Nat × (Nat × Nat × Nat × Nat)) := [(3, (435, 140, 141, 0)), (11, (437, 151, 0, 111)), (27, (666, 562, 563, 111)), (31, (1176, 641, 642, 111)), (35, (1223, 622, 623, 111)), (39, (1224, 566, 567, 122))]
def mwP_12 : List (Nat × (Nat × Nat × Nat × Nat)) := [(1, (206, 140, 141, 0)), (11, (208, 151, 0, 111)), (34, (706, 562, 563, 111)), (38, (1326, 922, 923, 111)), (42, (956, 622, 623, 111)), (46, (985, 986, 0, 114)), (50, (988, 990, 10, 114)), (53, (993, 953, 954, 114)), (56, (998, 999, 1000, 122)), (62, (992, 641, 642, 111)), (65, (1143, 1144, 0, 114))]
def mwP_13 : List (Nat × (Nat × Nat × Nat × Nat)) := [(3, (1480, 140, 141, 0)), (42, (1482, 1483, 0, 124)), (49, (1582, 1584, 26, 124)), (53, (1618, 1619, 0, 124)), (57, (1586, 1588, 27, 124)), (61, (1598, 1600, 30, 124)), (64, (1602, 1604, 31, 124)), (67, (1641, 1643, 38, 124)), (70, (1721, 1723, 52, 124)), (73, (1717, 1719, 51, 124)), (77, (1749, 1751, 57, 124)), (81, (1633, 1635, 36, 124)), (84, (1649, 999, 1000, 122)), (89, (1701, 566, 567, 122)), (92, (1645, 1647, 39, 124)), (95, (1761, 1763, 60, 124)), (99, (1765, 1767, 61, 124)), (103, (1773, 1775, 63, 124)), (107, (1777, 1779, 64, 124)), (110, (1666, 1668, 42, 124)), (113, (1789, 1791, 67, 124)), (116, (1785, 1787, 66, 124)), (119, (1678, 1680, 45, 124)), (122, (1793, 1795, 68, 124)), (125, (1745, 1747, 56, 124)), (128, (1753, 1755, 58, 124)), (131, (1757, 1759, 59, 124)), (134, (1769, 1771, 62, 124)), (137, (1781, 1783, 65, 124)), (140, (1741, 1743, 55, 124)), (146, (1694, 1696, 49, 124)), (149, (1682, 1684, 46, 124)), (152, (1698, 1699, 0, 124)), (155, (1702, 1703, 0, 124)), (158, (1705, 1707, 50, 124)), (164, (1670, 1672, 43, 124)), (167, (1674, 1676, 44, 124)), (170, (1690, 1692, 48, 124)), (173, (1686, 1688, 47, 124)), (176, (1578, 1580, 25, 124)), (179, (1590, 1592, 28, 124)), (182, (1594, 1596, 29, 124)), (191, (1606, 1608, 32, 124)), (194, (1614, 1616, 33, 124)), (197, (1621, 1623, 34, 124)), (200, (1629, 1631, 35, 124)), (203, (1637, 1639, 37, 124)), (206, (1654, 1656, 40, 124)), (209, (1662, 1664, 41, 124)), (212, (1733, 1735, 53, 124)), (215, (1737, 1739, 54, 124)), (218, (1817, 1818, 0, 124)), (226, (1828, 1830, 69, 124)), (232, (1848, 1850, 73, 124)), (235, (1840, 1842, 71, 124)), (239, (1844, 1846, 72, 124)), (249, (1852, 1854, 74, 124)), (252, (1836, 1838, 70, 124)), (255, (1860, 1862, 75, 124)), (258, (1872, 1874, 77, 124)), (263, (1868, 1870, 76, 124)), (267, (1877, 1878, 0, 124)), (271, (1888, 1890, 78, 124)), (275, (1900, 1902, 79, 124)), (285, (1924, 1926, 82, 124)), (303, (1920, 1922, 81, 124)), (309, (1933, 820, 821, 129)), (314, (1934, 830, 831, 129)), (318, (1956, 1958, 89, 124)), (321, (1935, 1937, 84, 124)), (324, (1939, 1941, 85, 124)), (328, (1947, 1949, 87, 124)), (331, (1969, 1971, 92, 124)), (335, (1943, 1945, 86, 124)), (340, (1929, 1931, 83, 124)), (344, (1994, 1996, 97, 124)), (347, (1952, 1954, 88, 124)), (364, (2002, 2004, 99, 124)), (367, (1998, 2000, 98, 124)), (372, (1965, 1967, 91, 124)), (377, (1974, 1976, 93, 124)), (380, (1980, 1982, 94, 124)), (384, (1985, 1987, 95, 124)), (388, (1990, 1992, 96, 124)), (391, (1916, 1918, 80, 124)), (396, (1960, 1962, 90, 124)), (399, (2012, 2014, 100, 124)), (413, (2051, 2053, 107, 124)), (418, (2039, 2041, 105, 124)), (421, (2034, 2036, 104, 124)), (424, (2026, 2028, 102, 124)), (427, (2043, 2045, 106, 124)), (432, (2030, 2032, 103, 124)), (441, (2021, 2023, 101, 124))]
def mwP_14 : List (Nat × (Nat × Nat × Nat × Nat)) := []
def mwP_15 : List (Nat × (Nat × Nat × Nat × Nat)) := []
def mwP_16 : List (Nat × (Nat × Nat × Nat × Nat)) := [(335, (823, 824, 825, 129)), (492, (833, 834, 835, 129)), (495, (837, 838, 0, 130)), (1059, (845, 846, 0, 131))]
def mwP_17 : List (Nat × (Nat × Nat × Nat × Nat)) := [(9, (840, 841, 0, 129))]
def mwP_18 : List (Nat × (Nat × Nat × Nat × Nat)) := []
def mwP (o : Nat) : List (Nat × (Nat × Nat × Nat × Nat)) := (bif Nat.blt o 9 then (bif Nat.blt o 4 then (bif Nat.blt o 2 then (bif Nat.blt o 1 then mwP_0 else mwP_1) else (bif Nat.blt o 3 then mwP_2 else mwP_3)) else (bif Nat.blt o 6 then (bif Nat.blt o 5 then mwP_4 else mwP_5) else (bif Nat.blt o 7 then mwP_6 else (bif Nat.blt o 8 then mwP_7 else mwP_8)))) else (bif Nat.blt o 14 then (bif Nat.blt o 11 then (bif Nat.blt o 10 then mwP_9 else mwP_10) else (bif Nat.blt o 12 then mwP_11 else (bif Nat.blt o 13 then mwP_12 else mwP_13))) else (bif Nat.blt o 16 then (bif Nat.blt o 15 then mwP_14 else mwP_15) else (bif Nat.blt o 17 then mwP_16 else (bif Nat.blt o 18 then mwP_17 else mwP_18)))))
end
section
/-! contracts; what holds at a call; the end of a method -/
theorem SI_move {G : EG} {s U : State} {H : Heap} {locs : List Loc} (h : SI G s) (hS : va_S (gA G) s.heap H locs) (hU : U.heap = H) (hW : s.WarmedH U.vm) : SI G U := by
  have hq := hS.2.1
  have hA := hW.alike
  obtain ⟨h1, h2, h3, h4, h5, h6, h7, h8, h9, h10, h11, h12⟩ := h
  refine ⟨by rw [hU]; exact Nat.le_trans h1 hS.1, va_K.moved hA h2, ?_, ?_, ?_, ?_, va_AO.moved hA h7, ?_, ?_, ?_, h11, ?_⟩
  · rw [hU]; exact vk_S.moved hA (vk_S.kept h3 hq)
  · intro o i k ho hk
    obtain ⟨g1, tx, g2⟩ := h4 o i k ho hk
    exact ⟨g1, tx, vk_R.warm hW g2⟩
  · rw [hU]; exact va_Z.moved hA (va_Z.kept h5 hq)
  · rw [hU]; exact va_Z.moved hA (va_Z.kept h6 hq)
  · intro w hw hs
    have g1 := h8 w hw hs
    cases w <;> first | exact va_Nw.warmM hW g1 | exact va_Nw.warmC hW g1 | exact va_Nw.warmD hW g1 | cases hs
  · rw [hU]; exact vx_Zq.moved hA (vx_Zq.kept h9 hq)
  · rw [hU]; exact vx_Zq.moved hA (vx_Zq.kept h10 hq)
  · rw [hU]; exact va_X.moved hA (va_X.kept h12 (hq _ (Nat.lt_of_lt_of_le h11 h1) (fun q => Nat.lt_irrefl _ (Nat.lt_of_lt_of_le h11 q))))
def hasW (i : Nat) (w : Cond) : Bool := decide (lw_tbl[i]? = some w) && goodWord w
theorem hasW_in {i : Nat} {w : Cond} (h : hasW i w = true) : w ∈ gwT := by
  unfold hasW at h
  simp only [Bool.and_eq_true, decide_eq_true_eq] at h
  exact gw_of h.1 h.2
def cdN (m : Nat) : Cond := (lw_tbl[cwT.getD m 0]?).getD (.arrayClass .int)
def yN (m : Nat) : MethodName := match cdN m with
  | .code y _ _ _ => y
  | .codeWith y _ _ _ _ => y
  | _ => arraycopyName
def byN (m : Nat) : ByteArray := match cdN m with
  | .code _ b _ _ => b
  | .codeWith _ b _ _ _ => b
  | _ => ⟨#[]⟩
def mlN (m : Nat) : Nat := match cdN m with
  | .code _ _ n _ => n
  | .codeWith _ _ n _ _ => n
  | _ => 0
def rtN (m : Nat) : Option FieldType := match cdN m with
  | .code _ _ _ r => r
  | .codeWith _ _ _ r _ => r
  | _ => none
def mkM (m : Nat) : Nat := mkT.getD m 3
def hgM (m : Nat) : Nat := (miL.getD m (0, 0, 0, 0, 0)).2.2.2.2
def rankM (m lv : Nat) : Nat := hgM m - lv
def rmM (m lv : Nat) : Room := { frames := rankM m lv, cells := mcM m, slots := msM m, locals := 60 * rankM m lv }
/-- a method's end: what the small run says -/
def Qc9 (G : EG) (ph : Bool) (r0 : PRs) : Array Value → State → Outcome → State → Prop := fun _ st oc t => ((∃ o, r0.1 = .inl o ∧ oc = .returned (o.map (tvG G))) ∧ HR G r0.2.1 r0.2.2 t.heap ∧ (ph = true → setA r0.2.2.2.1 r0.2.1 = true)) ∧ va_F (gA G) st t
def exN (e : Nat) : String := bif Nat.beq e 1 then "java/util/NoSuchElementException" else "java/lang/IllegalArgumentException"
def XC9 (G : EG) (r0 : PRs) : String → State → State → Prop := fun E st t => (∃ e, r0.1 = .inr e ∧ E = exN e) ∧ HR G r0.2.1 r0.2.2 t.heap ∧ setA r0.2.2.2.1 r0.2.1 = true ∧ va_F (gA G) st t
/-- a method's start -/
def Pc9 (G : EG) (ph : Bool) (as : List PV) (M : Mem) (X : PX) : Array Value → State → Prop := va_Pc (as.map (tvG G)) (fun U => SI G U ∧ HR G M X U.heap ∧ (ph = true → setA X.2.1 M = true))
def IN9 (G : EG) (m : Nat) (as : List PV) (X : PX) : Prop := (∀ v ∈ as, okV X.2.1 v ∧ gv v) ∧ plen (expd as) ≤ mlN m ∧ (alM m = true → X.2.2.2.1 = 0 ∧ X.2.2.2.2.1 = 0) ∧ (gU G = .null ∨ ∃ q, gU G = .ref q)
def CON (l : Launch) (G : EG) (m lv : Nat) : Prop := ∀ (ph : Bool) (as : List PV) (M : Mem) (X : PX) (q : PRs), evc ph m lv (padl (mlN m) (expd as)) M X = some q → IN9 G m as X → Met l (yN m) (cdN m :: gwT) (rmM m lv) (Pc9 G ph as M X) (Qc9 G ph q) (mcM m) (msM m) (gA G)
def CONx (l : Launch) (G : EG) (m : Nat) : Prop := ∀ (as : List PV) (M : Mem) (X : PX) (q : PRs), evc true m 0 (padl (mlN m) (expd as)) M X = some q → IN9 G m as X → vx_Met l (yN m) (cdN m :: gwT) (rmM m 0) (Pc9 G true as M X) (Qc9 G true q) (XC9 G q) (mcM m) (msM m) (gA G)
theorem Pc9_blind {G : EG} {ph : Bool} {as : List PV} {M : Mem} {X : PX} : FrameBlind (Pc9 G ph as M X) := by
  intro a U g mk h
  obtain ⟨h0, h1, h2, h3⟩ := h
  exact ⟨h0, SI_move h1 (va_S.rf (A := gA G)) rfl (State.WarmedH.refl U), h2, h3⟩
/-! the arguments as locals -/
theorem nth_padl : ∀ (n : Nat) (l : List PV) (i : Nat), nth (padl n l) i = nth l i
  | 0, _, _ => rfl
  | n + 1, [], 0 => rfl
  | n + 1, [], i + 1 => (nth_padl n [] i).trans rfl
  | n + 1, _ :: _, 0 => rfl
  | n + 1, _ :: l, i + 1 => nth_padl n l i
theorem plen_padl : ∀ (n : Nat) (l : List PV), plen l ≤ n → plen (padl n l) = n
  | 0, [], _ => rfl
  | 0, _ :: _, h => absurd h (Nat.not_succ_le_zero _)
  | n + 1, [], _ => congrArg (· + 1) (plen_padl n [] (Nat.zero_le _))
  | n + 1, _ :: l, h => congrArg (· + 1) (plen_padl n l (Nat.le_of_succ_le_succ h))
theorem cat_i {G : EG} {x : Int32} : (tvG G (pI x)).category = 1 := rfl
theorem cat_r {G : EG} {k a na : Nat} (hU : gU G = .null ∨ ∃ q, gU G = .ref q) (hg : gv (pR k a)) (hok : okV na (pR k a)) : (tvG G (pR k a)).category = 1 := by
  rcases lv_cat (tvG G (pR k a)) with h | h
  · exact h
  · obtain ⟨x, hx⟩ := (cat_tv hU hg hok).mp h
    cases hx
theorem sl_len {G : EG} {na : Nat} (hU : gU G = .null ∨ ∃ q, gU G = .ref q) : ∀ as : List PV, (∀ v ∈ as, okV na v ∧ gv v) → (lg_sl (as.map (tvG G))).length = plen (expd as)
  | [], _ => rfl
  | v :: as, h => by
    have ih := sl_len hU as fun w hw => h w (List.mem_cons_of_mem _ hw)
    have hv := h v List.mem_cons_self
    have e : ∀ w : Value, lg_sl (w :: as.map (tvG G)) = (if w.category = 2 then [.val w, .second] else [.val w]) ++ lg_sl (as.map (tvG G)) := fun w => by unfold lg_sl; rw [List.flatMap_cons]
    rw [List.map_cons, e, List.length_append, ih]
    rcases v with x | x | ⟨k, a⟩
    · rw [cat_i, if_neg (by decide)]; show 1 + _ = _ + 1; omega
    · rw [show (tvG G (pL x)).category = 2 from rfl, if_pos rfl]; show 2 + _ = _ + 1 + 1; omega
    · rw [cat_r hU hv.2 hv.1, if_neg (by decide)]; show 1 + _ = _ + 1; omega
theorem args_in {G : EG} {na : Nat} (hU : gU G = .null ∨ ∃ q, gU G = .ref q) : ∀ (as : List PV) (k i : Nat) (v : PV), (∀ v ∈ as, okV na v ∧ gv v) → nth (expd as) i = v → gv v → (k + i, tvG G v) ∈ lv_args k (as.map (tvG G))
  | [], _, _, v, _, h, hg => by
    have h : p0 = v := h
    subst h
    exact absurd rfl hg
  | w :: as, k, i, v, ha, h, hg => by
    have hw := ha w List.mem_cons_self
    have ha2 : ∀ v ∈ as, okV na v ∧ gv v := fun v hv => ha v (List.mem_cons_of_mem _ hv)
    show (k + i, tvG G v) ∈ (k, tvG G w) :: lv_args (if (tvG G w).category = 2 then k + 2 else k + 1) (as.map (tvG G))
    rcases w with x | x | ⟨c, a⟩
    · rw [cat_i, if_neg (by decide)]
      cases i with
      | zero =>
        have h : pI x = v := h
        subst h
        exact List.mem_cons_self
      | succ i =>
        have h1 := args_in hU as (k + 1) i v ha2 h hg
        rw [show k + (i + 1) = k + 1 + i by omega]
        exact List.mem_cons_of_mem _ h1
    · rw [show (tvG G (.inr (.inl x))).category = 2 from rfl, if_pos rfl]
      match i with
      | 0 =>
        have h : pL x = v := h
        subst h
        exact List.mem_cons_self
      | 1 =>
        have h : p0 = v := h
        subst h
        exact absurd rfl hg
      | i + 2 =>
        have h1 := args_in hU as (k + 2) i v ha2 h hg
        rw [show k + (i + 2) = k + 2 + i by omega]
        exact List.mem_cons_of_mem _ h1
    · rw [cat_r hU hw.2 hw.1, if_neg (by decide)]
      cases i with
      | zero =>
        have h : pR c a = v := h
        subst h
        exact List.mem_cons_self
      | succ i =>
        have h1 := args_in hU as (k + 1) i v ha2 h hg
        rw [show k + (i + 1) = k + 1 + i by omega]
        exact List.mem_cons_of_mem _ h1
theorem entry_lr {G : EG} {n na : Nat} {as : List PV} (hU : gU G = .null ∨ ∃ q, gU G = .ref q) (ha : ∀ v ∈ as, okV na v ∧ gv v) (hn : plen (expd as) ≤ n) (m : MethodId) :
    ∃ ls : Array Slot, entryFrame m (as.map (tvG G)).toArray n = F0 m 0 ls [] ∧ LRl G n ls (padl n (expd as)) := by
  have hl := lv_entry (as.map (tvG G)) (n := n) (by rw [sl_len hU as ha]; exact hn)
  refine ⟨_, lg_entry_eq m _ n, plen_padl _ _ hn, hl.1, hl.2.1, fun i v hv hg => ?_⟩
  rw [nth_padl] at hv
  have h1 := args_in hU as 0 i v ha hv hg
  rw [Nat.zero_add] at h1
  exact hl.2.2 _ h1
theorem okV_expd {na : Nat} : ∀ (as : List PV) (i : Nat), (∀ v ∈ as, okV na v) → okV na (nth (expd as) i)
  | [], _, _ => fun h => absurd rfl h
  | .inl x :: as, 0, _ => trivial
  | .inl x :: as, i + 1, h => okV_expd as i fun v hv => h v (List.mem_cons_of_mem _ hv)
  | .inr (.inl x) :: as, 0, _ => trivial
  | .inr (.inl x) :: as, 1, _ => fun h => absurd rfl h
  | .inr (.inl x) :: as, i + 2, h => okV_expd as i fun v hv => h v (List.mem_cons_of_mem _ hv)
  | .inr (.inr q) :: as, 0, h => h _ List.mem_cons_self
  | .inr (.inr q) :: as, i + 1, h => okV_expd as i fun v hv => h v (List.mem_cons_of_mem _ hv)
end
section
/-! a call out of a frame -/
section CAL
variable {p : Program} {l : Launch} {e : Env} {R : Room} {s : State} {m : MethodId} {args : Array Value} {below : List Frame} {meth : Method} {c : Code} {Q : State → Prop} {cc : ByteArray} {G : EG} {mi lv nL : Nat} {ph : Bool} {cl : Nat → Nat → List PV → Mem → PX → Option PRs} {K : KT} {r0 : PRs} {pc tg : Nat} {cv : Int32} {L st : List PV} {ls : Array Slot} {M : Mem} {X : PX} {H : Heap} {locs : List Loc}
theorem ok_le {na nb : Nat} {v : PV} (hn : na ≤ nb) (h : okV na v) : okV nb v := by
  rcases v with x | x | ⟨k, a⟩
  · trivial
  · trivial
  · intro h0
    obtain ⟨h1, h2⟩ := h h0
    exact ⟨fun q => ⟨Nat.lt_of_lt_of_le (h1 q).1 hn, (h1 q).2⟩, h2⟩
theorem bk_HR {al : Bool} {mc ms : Nat} {X1 : PX} {M1 : Mem} {H1 : Heap} (h0 : HR G M X H) (h : HR G M1 X1 H1) : HR G M1 (bkX al mc ms X X1) H1 := by
  cases al
  · exact h
  · obtain ⟨h1, h2, h3, h4, h5, h6⟩ := h
    exact ⟨h1, h2, h3, fun j hj => h4 j (by rw [h6, ← h0.2.2.2.2.2]; exact hj), h5, h0.2.2.2.2.2⟩
theorem bk_na {al : Bool} {mc ms : Nat} {X1 : PX} : (bkX al mc ms X X1).2.1 = X1.2.1 := by cases al <;> rfl
/-- a frame's facts behind a call -/
theorem fi_back {r r1 : List PV} {al : Bool} {mc ms : Nat} {X1 : PX} {M1 : Mem} {H1 : Heap} {locs1 : List Loc} (fi : FI G s H locs ph nL M X ls L r) (hh : HR G M1 X1 H1) (hset : ph = true → setA X1.2.1 M1 = true) (hS : va_S (gA G) s.heap H1 locs1) (hn : X.2.1 ≤ X1.2.1) (hr1 : ∀ v ∈ r1, okV X1.2.1 v ∧ gv v) : FI G s H1 locs1 ph nL M1 (bkX al mc ms X X1) ls L (r1 ++ r) := by
  refine ⟨bk_HR fi.1 hh, fun q => by rw [bk_na]; exact hset q, hS, fi.2.2.2.1, fun i => by rw [bk_na]; exact ok_le hn (fi.2.2.2.2.1 i), fun v hv => ?_, fi.2.2.2.2.2.2⟩
  rw [bk_na]
  rcases List.mem_append.mp hv with h | h
  · exact hr1 v h
  · exact ⟨ok_le hn (fi.2.2.2.2.2.1 v h).1, (fi.2.2.2.2.2.1 v h).2⟩
theorem call9 {mc ms m9 : Nat} {r : List PV} {st0 : List Value} {q : PRs} {a : Array Value} {X9 : PX} (hr : va_Run p l e R s m args below meth c H locs (cX mi X) (sX mi X) mc ms (F0 m pc ls st0) (r.map (tvG G)) (Qc9 G ph q a) (gA G)) (fi : FI G s H locs ph nL M X ls L r)
    (ih : IHK p l e R s m args below meth c Q G mi nL ph K r0) (hk : kRet ph (alM mi) mi mc ms (pc + 3) K L r X q = some r0) (hP : PXI m9 X9 q) (hX9 : X9.2.1 = X.2.1) (hz : alM mi = false → mc = 0 ∧ ms = 0) : W p l e R s m args below meth c H locs (cX mi X) (sX mi X) Q (F0 m pc ls st0) := by
  intro T hT XX
  obtain ⟨v, st₀, t, T', L', h0, X', hL, e1, e2, ⟨⟨⟨o, ho, hv⟩, hh, hset⟩, hF⟩, stp⟩ := hr T hT XX
  obtain ⟨o', M', X1⟩ := q
  have ho : o' = .inl o := ho
  subst ho
  have hv : v = o.map (tvG G) := by injection hv
  subst hv
  have hk2 : K (pc + 3) L (o.toList ++ r) M' (bkX (alM mi) mc ms X X1) = some r0 := by cases o <;> exact hk
  obtain ⟨-, -, hS⟩ := vx_keep (A1 := gA G) h0 e1 fi.2.2.1 (fun q _ h => h) (fun q h => h) hL hF
  have hh : HR G M' X1 T'.heap := by rw [e1]; exact hh
  have hn : X.2.1 ≤ X1.2.1 := by rw [← hX9]; exact hP.1
  have f9 : FI G s T'.heap (locs ++ L') ph nL M' (bkX (alM mi) mc ms X X1) ls L (o.toList ++ r) := fi_back fi hh hset hS hn fun w hw => by
    have hw2 : o = some w := by simpa using hw
    subst hw2
    rcases hP.2.2.2.1 w rfl with ⟨x, rfl⟩ | ⟨x, rfl⟩
    · exact ⟨trivial, trivial⟩
    · exact ⟨trivial, trivial⟩
  have h9 := ih _ _ _ _ _ _ _ _ hk2 f9
  have c1 : cX mi (bkX (alM mi) mc ms X X1) = cX mi X + mc := by
    unfold cX bkX
    cases hal : alM mi with
    | true => rfl
    | false => rw [(hz hal).1]; rfl
  have c2 : sX mi (bkX (alM mi) mc ms X X1) = sX mi X + ms := by
    unfold sX bkX
    cases hal : alM mi with
    | true => rfl
    | false => rw [(hz hal).2]; rfl
  rw [c1, c2] at h9
  have e3 : (o.toList ++ r).map (tvG G) = (o.map (tvG G)).toList ++ r.map (tvG G) := by cases o <;> rfl
  rw [e3] at h9
  obtain ⟨t2, a1, b1⟩ := h9 T' rfl X'
  exact ⟨t2, stp t2 a1, b1⟩
theorem cat_wg {na : Nat} (hU : gU G = .null ∨ ∃ q, gU G = .ref q) : ∀ r : List PV, (∀ v ∈ r, okV na v ∧ gv v) → ((r.map (tvG G)).map fun v => v.category).sum = wg r
  | [], _ => rfl
  | v :: r, h => by
    have ih := cat_wg hU r fun w hw => h w (List.mem_cons_of_mem _ hw)
    have hv := h v List.mem_cons_self
    rw [List.map_cons, List.map_cons, List.sum_cons, ih]
    rcases v with x | x | ⟨k, a⟩
    · rw [cat_i]; show 1 + _ = _ + 1; omega
    · show 2 + _ = _ + 2; omega
    · rw [cat_r hU hv.2 hv.1]; show 1 + _ = _ + 1; omega
theorem popn_inv : ∀ (n : Nat) (acc st : List PV) (q : List PV × List PV), popn n acc st = some q → ∃ as : List PV, as.length = n ∧ st = as.reverse ++ q.2 ∧ q.1 = as ++ acc
  | 0, acc, st, q, h => by
    have h : some (acc, st) = some q := h
    cases h
    exact ⟨[], rfl, rfl, rfl⟩
  | n + 1, acc, [], q, h => by cases h
  | n + 1, acc, v :: st, q, h => by
    obtain ⟨as, h1, h2, h3⟩ := popn_inv n (v :: acc) st q h
    exact ⟨as ++ [v], by simp [h1], by rw [h2]; simp, by rw [h3]; simp⟩
theorem gw_good {w : Cond} (h : w ∈ gwT) : w ∈ gwT ∧ ((w.onTables && w.keeps) = true ∨ ∃ ty, w = .arrayClass ty) := ⟨h, good_of_word (List.mem_filter.mp h).2⟩
def isCd (m : Nat) : Bool := match cdN m with
  | .code _ _ _ _ => true
  | _ => false
theorem cd_ok {m : Nat} (h : isCd m = true) : cdN m = .code (yN m) (byN m) (mlN m) (rtN m) := by
  unfold isCd at h
  unfold yN byN mlN rtN
  cases hc : cdN m <;> rw [hc] at h <;> first | rfl | cases h
theorem cd_gw {m : Nat} (h : isCd m = true) : Cond.code (yN m) (byN m) (mlN m) (rtN m) ∈ gwT := by
  have h1 := cd_ok h
  unfold cdN at h1
  cases hn : lw_tbl[cwT.getD m 0]? with
  | none => rw [hn] at h1; cases h1
  | some w =>
    rw [hn] at h1
    have h1 : w = Cond.code (yN m) (byN m) (mlN m) (rtN m) := h1
    rw [← h1]
    exact gw_of hn (by rw [h1]; rfl)
/-- which calls may be: the callee by number, its room, its words -/
def rkOK (mi m' : Nat) : Bool := bif Nat.beq (rgM m') 0 then Nat.blt (hgM m' + (bif Nat.beq (rgM mi) 0 then 0 else 40)) (hgM mi) else bif Nat.beq (rgM m') (rgM mi) then Nat.beq (hgM m') (hgM mi) && Nat.blt 40 (hgM mi) else Nat.blt (hgM m' + (bif Nat.beq (rgM mi) 0 then 0 else 40)) (hgM mi)
def mdOK (w : Nat × Nat × Nat × Nat × Nat × Nat × Nat) (zi : Nat) : Bool := Nat.beq w.2.2.2.1 (mlN w.2.1) && Nat.beq w.2.2.2.2.1 (bif alM w.2.1 then 1 else 0) && (Nat.beq w.2.2.2.2.2.1 (mcM w.2.1) && Nat.beq w.2.2.2.2.2.2 (msM w.2.1) && ((alM w.2.1) || (Nat.beq (mcM w.2.1) 0 && Nat.beq (msM w.2.1) 0))) &&
  isCd w.2.1 && hasW zi (.initialized (yN w.2.1).cls) &&
  (decide ((yN w.2.1).cls ≠ "java/lang/invoke/MethodHandle") && decide ((yN w.2.1).cls ≠ "java/lang/invoke/VarHandle")) && decide ((parseMethodDescriptor (yN w.2.1).desc).map (fun d => d.parameters.length) = some w.2.2.1) && Nat.ble (mlN w.2.1) 41 && (!(alM w.2.1) || Nat.beq (rgM w.2.1) 0)
def ckC (mi i : Nat) (w : Nat × Nat × Nat × Nat × Nat × Nat × Nat) : Bool := match lkp (mwP (ownM mi)) i with
  | none => false
  | some z => bif Nat.beq w.1 2 then Nat.beq w.2.2.1 0 && hasW z.1 (.methodLink (cn (ownM mi)) i Lib.objectInit) && hasW z.2.1 (.instanceMethod Lib.objectInit) && hasW z.2.2.1 (.code Lib.objectInit ⟨#[0xb1]⟩ 1 none)
    else bif Nat.beq w.1 3 then hasW z.1 (.methodLink (cn (ownM mi)) i arraycopyName) && hasW z.2.1 (.static arraycopyName) && hasW z.2.2.1 (.native arraycopyName) && hasW z.2.2.2 (.initialized "java/lang/System")
    else bif Nat.beq w.1 7 then hasW z.1 (.methodLink (cn (ownM mi)) i Lib.Math.min.name) && hasW z.2.1 (.static Lib.Math.min.name) && hasW z.2.2.1 (.code Lib.Math.min.name Lib.Math.min.code 2 (some .int)) && hasW z.2.2.2 (.initialized "java/lang/Math")
    else bif Nat.beq w.1 8 then hasW z.1 (.methodLink (cn (ownM mi)) i Lib.Math.max.name) && hasW z.2.1 (.static Lib.Math.max.name) && hasW z.2.2.1 (.code Lib.Math.max.name Lib.Math.max.code 2 (some .int)) && hasW z.2.2.2 (.initialized "java/lang/Math")
    else mdOK w z.2.2.2 && rkOK mi w.2.1 && (bif Nat.beq w.1 0 then hasW z.1 (.methodLink (cn (ownM mi)) i (yN w.2.1)) && hasW z.2.1 (.instanceMethod (yN w.2.1)) && hasW z.2.2.1 (.selects (yN w.2.1).cls (yN w.2.1) (yN w.2.1)) && ((Nat.beq (ownM w.2.1) 16 && decide ((yN w.2.1).cls = "java/lang/String")) || (Nat.ble 1 (ownM w.2.1) && Nat.ble (ownM w.2.1) 13 && decide ((clT (ownM w.2.1)).1 = (yN w.2.1).cls)))
      else bif Nat.beq w.1 1 then hasW z.1 (.methodLink (cn (ownM mi)) i (yN w.2.1)) && hasW z.2.1 (.static (yN w.2.1))
      else decide ((yN w.2.1).name = "<init>") && decide (rtN w.2.1 = none) && hasW z.2.1 (.instanceMethod (yN w.2.1)) && (bif Nat.beq w.1 5 then hasW z.1 (.methodLink (cn (ownM mi)) i (yN w.2.1))
        else match lw_tbl[z.1]? with
          | some (.methodLinkNest a b x _) => decide (a = cn (ownM mi)) && Nat.beq b i && decide (x = yN w.2.1)
          | _ => false))
theorem md_inv {w : Nat × Nat × Nat × Nat × Nat × Nat × Nat} {zi : Nat} (h : mdOK w zi = true) : w.2.2.2.1 = mlN w.2.1 ∧ w.2.2.2.2.1 = (bif alM w.2.1 then 1 else 0) ∧ w.2.2.2.2.2.1 = mcM w.2.1 ∧ w.2.2.2.2.2.2 = msM w.2.1 ∧ (alM w.2.1 = false → mcM w.2.1 = 0 ∧ msM w.2.1 = 0) ∧ cdN w.2.1 = .code (yN w.2.1) (byN w.2.1) (mlN w.2.1) (rtN w.2.1) ∧
    Cond.code (yN w.2.1) (byN w.2.1) (mlN w.2.1) (rtN w.2.1) ∈ gwT ∧ Cond.initialized (yN w.2.1).cls ∈ gwT ∧ ((yN w.2.1).cls ≠ "java/lang/invoke/MethodHandle" ∧ (yN w.2.1).cls ≠ "java/lang/invoke/VarHandle") ∧ (parseMethodDescriptor (yN w.2.1).desc).map (fun d => d.parameters.length) = some w.2.2.1 ∧ mlN w.2.1 ≤ 41 ∧ (alM w.2.1 = true → rgM w.2.1 = 0) := by
  unfold mdOK at h
  simp only [Bool.and_eq_true, Bool.or_eq_true, decide_eq_true_eq] at h
  obtain ⟨⟨⟨⟨⟨⟨⟨⟨h1, h2⟩, ⟨h3, h4⟩, h5⟩, h6⟩, h8⟩, h9⟩, h10⟩, h11⟩, h12⟩ := h
  refine ⟨nbeq_t h1, nbeq_t h2, nbeq_t h3, nbeq_t h4, fun q => ?_, cd_ok h6, cd_gw h6, hasW_in h8, h9, h10, Nat.le_of_ble_eq_true h11, fun q => ?_⟩
  · rcases h5 with h5 | h5
    · rw [q] at h5; cases h5
    · exact ⟨nbeq_t h5.1, nbeq_t h5.2⟩
  · rcases h12 with h12 | h12
    · rw [q] at h12; cases h12
    · exact nbeq_t h12
theorem rk_inv {m' : Nat} (h : rkOK mi m' = true) (hlv : lv ≤ 40 ∧ (rgM mi = 0 → lv = 0)) : (rgM m' = 0 ∨ rgM m' ≠ rgM mi → rankM m' 0 + 1 ≤ rankM mi lv) ∧ (rgM m' ≠ 0 → rgM m' = rgM mi → lv < 40 → rankM m' (lv + 1) + 1 ≤ rankM mi lv) := by
  obtain ⟨hl, hl0⟩ := hlv
  have go : Nat.blt (hgM m' + (bif Nat.beq (rgM mi) 0 then 0 else 40)) (hgM mi) = true → rankM m' 0 + 1 ≤ rankM mi lv := by
    intro q
    have q := lt_of_blt q
    unfold rankM
    cases hb : Nat.beq (rgM mi) 0 with
    | true =>
      have e0 := hl0 (nbeq_t hb)
      rw [hb] at q
      subst e0
      exact q
    | false =>
      rw [hb] at q
      have q : hgM m' + 40 < hgM mi := q
      omega
  unfold rkOK at h
  cases h0 : Nat.beq (rgM m') 0 with
  | true =>
    rw [h0] at h
    exact ⟨fun _ => go h, fun q => absurd (nbeq_t h0) q⟩
  | false =>
    rw [h0] at h
    cases h1 : Nat.beq (rgM m') (rgM mi) with
    | true =>
      rw [h1] at h
      have h : (Nat.beq (hgM m') (hgM mi) && Nat.blt 40 (hgM mi)) = true := h
      simp only [Bool.and_eq_true] at h
      have e1 := nbeq_t h.1
      have e2 := lt_of_blt h.2
      refine ⟨fun q => ?_, fun _ _ q => by unfold rankM; omega⟩
      rcases q with q | q
      · exact absurd q (nbeq_n h0)
      · exact absurd (nbeq_t h1) q
    | false =>
      rw [h1] at h
      exact ⟨fun _ => go h, fun _ q => absurd q (nbeq_n h1)⟩
/-- what a call comes to -/
theorem kCall_inv {w : Nat × Nat × Nat × Nat × Nat × Nat × Nat} {zi nx : Nat} {as r : List PV} (hw : mdOK w zi = true) (hr : rkOK mi w.2.1 = true) (hlv : lv ≤ 40 ∧ (rgM mi = 0 → lv = 0)) (h : kCall ph cl mi lv K nx w as L r M X = some r0) : wg r ≤ 8 ∧ plen (expd as) ≤ mlN w.2.1 ∧ ∃ (lv' : Nat) (X9 : PX) (q : PRs),
    cl w.2.1 lv' (padl (mlN w.2.1) (expd as)) M X9 = some q ∧ kRet ph (alM mi) mi (mcM w.2.1) (msM w.2.1) nx K L r X q = some r0 ∧ X9.2.1 = X.2.1 ∧ (∀ G H, HR G M X H → HR G M X9 H) ∧ (alM w.2.1 = true → X9.2.2.2.1 = 0 ∧ X9.2.2.2.2.1 = 0) ∧ rankM w.2.1 lv' + 1 ≤ rankM mi lv ∧ lv' ≤ 40 ∧ (rgM w.2.1 = 0 → lv' = 0) ∧ (alM mi = false → mcM w.2.1 = 0 ∧ msM w.2.1 = 0) ∧ (alM mi = true → alM w.2.1 = true → X.2.2.2.1 + mcM w.2.1 ≤ mcM mi ∧ X.2.2.2.2.1 + msM w.2.1 ≤ msM mi) := by
  obtain ⟨e1, e2, e3, e4, e5, -, -, -, -, -, -, e12⟩ := md_inv hw
  obtain ⟨k1, k2⟩ := rk_inv hr hlv
  unfold kCall at h
  obtain ⟨hc, h1⟩ := bif_inv h
  simp only [Bool.and_eq_true] at hc
  refine ⟨Nat.le_of_ble_eq_true hc.1, by rw [← e1]; exact Nat.le_of_ble_eq_true hc.2, ?_⟩
  rw [e1, e2, e3, e4] at h1
  cases hal : alM w.2.1 with
  | false =>
    rw [hal] at h1
    obtain ⟨z1, z2⟩ := e5 hal
    rw [z1, z2]
    have h2 : (bif Nat.beq (rgM w.2.1) 0 then (cl w.2.1 0 (padl (mlN w.2.1) (expd as)) M X).bind (kRet ph (alM mi) mi 0 0 nx K L r X) else bif Nat.beq (rgM w.2.1) (rgM mi) then (bif Nat.blt lv 40 then (cl w.2.1 (lv + 1) (padl (mlN w.2.1) (expd as)) M X).bind (kRet ph (alM mi) mi 0 0 nx K L r X) else none) else (cl w.2.1 0 (padl (mlN w.2.1) (expd as)) M X).bind (kRet ph (alM mi) mi 0 0 nx K L r X)) = some r0 := h1
    cases h0 : Nat.beq (rgM w.2.1) 0 with
    | true =>
      rw [h0] at h2
      obtain ⟨q, g1, g2⟩ := bind_inv h2
      exact ⟨0, X, q, g1, g2, rfl, fun _ _ z => z, fun z => (by cases z), k1 (Or.inl (nbeq_t h0)), Nat.zero_le _, fun _ => rfl, fun _ => ⟨rfl, rfl⟩, fun _ z => (by cases z)⟩
    | false =>
      rw [h0] at h2
      cases h3 : Nat.beq (rgM w.2.1) (rgM mi) with
      | true =>
        rw [h3] at h2
        obtain ⟨hl, h4⟩ := bif_inv h2
        obtain ⟨q, g1, g2⟩ := bind_inv h4
        have hl := lt_of_blt hl
        exact ⟨lv + 1, X, q, g1, g2, rfl, fun _ _ z => z, fun z => (by cases z), k2 (nbeq_n h0) (nbeq_t h3) hl, hl, fun z => absurd z (nbeq_n h0), fun _ => ⟨rfl, rfl⟩, fun _ z => (by cases z)⟩
      | false =>
        rw [h3] at h2
        obtain ⟨q, g1, g2⟩ := bind_inv h2
        exact ⟨0, X, q, g1, g2, rfl, fun _ _ z => z, fun z => (by cases z), k1 (Or.inr (nbeq_n h3)), Nat.zero_le _, fun _ => rfl, fun _ => ⟨rfl, rfl⟩, fun _ z => (by cases z)⟩
  | true =>
    rw [hal] at h1
    obtain ⟨ha, h2⟩ := bif_inv (show (bif alM mi then (if X.2.2.2.1 + mcM w.2.1 ≤ mcM mi ∧ X.2.2.2.2.1 + msM w.2.1 ≤ msM mi then (cl w.2.1 0 (padl (mlN w.2.1) (expd as)) M (enX 1 X)).bind (kRet ph (alM mi) mi (mcM w.2.1) (msM w.2.1) nx K L r X) else none) else none) = some r0 from h1)
    obtain ⟨hb, h3⟩ := ite_inv h2
    obtain ⟨q, g1, g2⟩ := bind_inv h3
    exact ⟨0, enX 1 X, q, g1, g2, rfl, fun _ _ z => z, fun _ => ⟨rfl, rfl⟩, k1 (Or.inl (e12 hal)), Nat.zero_le _, fun _ => rfl, fun z => (by rw [ha] at z; cases z), fun _ _ => hb⟩
theorem cb_of {w : Nat × Nat × Nat × Nat × Nat × Nat × Nat} {zi lv' index : Nat} (hw : mdOK w zi = true) (hrk : rankM w.2.1 lv' + 1 ≤ rankM mi lv) (hRf : rankM mi lv ≤ R.frames) (hRl : 60 * rankM mi lv ≤ R.locals) (hts : ∀ w ∈ gwT, w.before args s = true) (hl : Cond.methodLink (cn (ownM mi)) index (yN w.2.1) ∈ gwT) :
    CallB R s args (cn (ownM mi)) index (yN w.2.1) (byN w.2.1) (mlN w.2.1) (rtN w.2.1) (cdN w.2.1 :: gwT) (rmM w.2.1 lv') (mcM w.2.1) (msM w.2.1) w.2.2.1 := by
  obtain ⟨-, -, -, -, -, e6, e7, e8, e9, e10, e11, -⟩ := md_inv hw
  refine ⟨rfl, rfl, Nat.le_trans hrk hRf, by show 8 + (mlN w.2.1 + 11) + 60 * rankM w.2.1 lv' ≤ R.locals; omega, pay_in (big := gwT) hts fun x hx => ?_, by rw [e6]; exact List.mem_cons_self, hts _ e7, hts _ e8, e9, fun sig h => ?_, hts _ hl⟩
  · rcases List.mem_cons.mp hx with rfl | hx
    · rw [e6]; exact gw_good e7
    · exact gw_good hx
  · rw [h] at e10
    exact (Option.some.inj e10).symm
end CAL
end
section
/-! the calls, by instruction -/
section INV
variable {p : Program} {l : Launch} {e : Env} {R : Room} {s : State} {m : MethodId} {args : Array Value} {below : List Frame} {meth : Method} {c : Code} {Q : State → Prop} {cc : ByteArray} {G : EG} {mi lv nL : Nat} {ph : Bool} {cl : Nat → Nat → List PV → Mem → PX → Option PRs} {K : KT} {r0 : PRs} {pc tg : Nat} {cv : Int32} {L st : List PV} {ls : Array Slot} {M : Mem} {X : PX} {H : Heap} {locs : List Loc}
/-- what a frame knows for its calls -/
def CF (l : Launch) (R : Room) (s : State) (m : MethodId) (args : Array Value) (c : Code) (G : EG) (mi lv nL : Nat) : Prop :=
  c.maxLocals = nL ∧ s.vm.findClass (cn (ownM mi)) = some m.cls ∧ (∀ w ∈ gwT, w.before args s = true) ∧ SI G s ∧ mcM mi ≤ R.cells ∧ msM mi ≤ R.slots ∧ rankM mi lv ≤ R.frames ∧ 60 * rankM mi lv ≤ R.locals ∧ (lv ≤ 40 ∧ (rgM mi = 0 → lv = 0)) ∧ (∀ t, 1 ≤ t → t ≤ 13 → CTok t) ∧
  ∀ m' lv', mkM m' = 0 → rankM m' lv' + 1 ≤ rankM mi lv → lv' ≤ 40 → (rgM m' = 0 → lv' = 0) → CON l G m' lv'
def CL (ph : Bool) (cl : Nat → Nat → List PV → Mem → PX → Option PRs) : Prop := ∀ m' lv' as M X q, cl m' lv' as M X = some q → evc ph m' lv' as M X = some q ∧ PXI m' X q
def BD (mi : Nat) (X : PX) : Prop := alM mi = true → X.2.2.2.1 ≤ mcM mi ∧ X.2.2.2.2.1 ≤ msM mi
theorem room_hf {m' : Nat} (hF : CF l R s m args c G mi lv nL) (hB : BD mi X) (hz : alM mi = false → mcM m' = 0 ∧ msM m' = 0) (hq : alM mi = true → alM m' = true → X.2.2.2.1 + mcM m' ≤ mcM mi ∧ X.2.2.2.2.1 + msM m' ≤ msM mi) (h0 : alM m' = false → mcM m' = 0 ∧ msM m' = 0) : cX mi X + mcM m' ≤ R.cells ∧ sX mi X + msM m' ≤ R.slots := by
  obtain ⟨-, -, -, -, hRc, hRs, -⟩ := hF
  unfold cX sX
  cases hal : alM mi with
  | false =>
    rw [(hz hal).1, (hz hal).2]
    exact ⟨Nat.zero_le _, Nat.zero_le _⟩
  | true =>
    show X.2.2.2.1 + mcM m' ≤ R.cells ∧ X.2.2.2.2.1 + msM m' ≤ R.slots
    obtain ⟨b1, b2⟩ := hB hal
    cases ha2 : alM m' with
    | true =>
      obtain ⟨q1, q2⟩ := hq hal ha2
      exact ⟨Nat.le_trans q1 hRc, Nat.le_trans q2 hRs⟩
    | false =>
      obtain ⟨q1, q2⟩ := h0 ha2
      exact ⟨by omega, by omega⟩
theorem in9 {m' : Nat} {as r : List PV} {X9 : PX} (fi : FI G s H locs ph nL M X ls L (as ++ r)) (h1 : plen (expd as) ≤ mlN m') (hX : X9.2.1 = X.2.1) (hz : alM m' = true → X9.2.2.2.1 = 0 ∧ X9.2.2.2.2.1 = 0) : IN9 G m' as X9 :=
  ⟨fun v hv => by rw [hX]; exact fi.2.2.2.2.2.1 v (List.mem_append_left _ hv), h1, hz, fi.2.2.2.2.2.2⟩
theorem fi_rev {as r : List PV} (fi : FI G s H locs ph nL M X ls L (as.reverse ++ r)) : FI G s H locs ph nL M X ls L (as ++ r) := fi_st fi fun w hw => by
  rcases List.mem_append.mp hw with h | h
  · exact fi.2.2.2.2.2.1 w (List.mem_append_left _ (List.mem_reverse.mpr h))
  · exact fi.2.2.2.2.2.1 w (List.mem_append_right _ h)
theorem pc9_at {as r : List PV} {X9 : PX} (hSI : SI G s) (fi : FI G s H locs ph nL M X ls L r) (hX : X9.2.1 = X.2.1) (hH : HR G M X9 H) {U : State} (hU : U.heap = H) (hW : s.WarmedH U.vm) : Pc9 G ph as M X9 (as.map (tvG G)).toArray U :=
  ⟨rfl, SI_move hSI fi.2.2.1 hU hW, by rw [hU]; exact hH, fun q => by rw [hX]; exact fi.2.1 q⟩
set_option maxHeartbeats 1000000 in
theorem fr_static {i : Nat} (hx : p.tables.exec = Jvm.exec) (hb : c.code = cc) (ih : IHK p l e R s m args below meth c Q G mi nL ph K r0) (fi : FI G s H locs ph nL M X ls L st) (h : stp ph cl mi lv K (pc, .invokestatic i, 3, tg, cv) L st M X = some r0) (hd : decode cc pc = .ok (.invokestatic i, 3))
    (hF : CF l R s m args c G mi lv nL) (hcl : CL ph cl) (hB : BD mi X) (hfr : 1 ≤ R.frames) (hlo : 8 + (nativeFrameWords "java/lang/System" "arraycopy" 5 + 11) ≤ R.locals) (hlo2 : 21 ≤ R.locals) (hck : ∀ w, lkp (mthP (ownM mi)) i = some w → ckC mi i w = true ∧ (w.1 = 1 → mkM w.2.1 = 0)) : W p l e R s m args below meth c H locs (cX mi X) (sX mi X) Q (F0 m pc ls (st.map (tvG G))) := by
  have hF0 := hF
  obtain ⟨hml, hown, hts, hSI, hRc, hRs, hRf, hRl, hlv, hCT, hCON⟩ := hF
  unfold stp at h
  dsimp only at h
  obtain ⟨w, hw, h1⟩ := bind_inv h
  obtain ⟨hck, hmk⟩ := hck w hw
  unfold ckC at hck
  cases hz : lkp (mwP (ownM mi)) i with
  | none => rw [hz] at hck; cases hck
  | some z =>
  rw [hz] at hck
  dsimp only at hck
  cases h3 : Nat.beq w.1 3 with
  | true =>
    rw [nbeq_t h3] at hck
    have hck : (hasW z.1 (.methodLink (cn (ownM mi)) i arraycopyName) && hasW z.2.1 (.static arraycopyName) && hasW z.2.2.1 (.native arraycopyName) && hasW z.2.2.2 (.initialized "java/lang/System")) = true := hck
    simp only [Bool.and_eq_true] at hck
    obtain ⟨⟨⟨w1, w2⟩, w3⟩, w4⟩ := hck
    rw [h3] at h1
    obtain ⟨t, a, sp, d, b, dp, n, r, rfl, h2⟩ := ucp_inv h1
    obtain ⟨hc, h4⟩ := bif_inv h2
    obtain ⟨⟨g1, g2, g3, g4, g5⟩, h5⟩ := ite_inv h4
    simp only [Bool.and_eq_true] at hc
    obtain ⟨⟨t1, t2⟩, t3⟩ := hc
    have t1 := nbeq_t t1
    have t2 := nbeq_t t2
    subst t1; subst t2
    have oa := (fi_ok (fi_tl (fi_tl (fi_tl (fi_tl fi))))).2.1 (by decide)
    have ob := (fi_ok (fi_tl (fi_tl fi))).2.1 (by decide)
    have fr := fi_tl (fi_tl (fi_tl (fi_tl (fi_tl fi))))
    have hwg := cat_wg (G := G) fr.2.2.2.2.2.2 r fr.2.2.2.2.2.1
    have hr8 : wg r ≤ 8 := Nat.le_of_ble_eq_true t3
    have k9 := fr_copy (pc := pc) (Q := Q) (below := below) (meth := meth) (l := l) (e := e) (p := p) (R := R) (rest := r.map (tvG G)) (cells := cX mi X) (slots := sX mi X) hx hb (by rw [hml, fr.2.2.2.1.2.1]) fr hown hts hSI (hasW_in w1) (hasW_in w3) (hasW_in w2) (hasW_in w4) oa.2 ob.2 oa.1 ob.1 g1 g2 g3 g4 g5 hfr (by rw [hwg]; omega) hd (fun H1 lc f9 => ih _ _ _ _ _ _ _ _ h5 f9)
    show W p l e R s m args below meth c H locs (cX mi X) (sX mi X) Q (F0 m pc ls (.int n :: .int dp :: tvG G (pR 14 b) :: .int sp :: tvG G (pR 14 a) :: r.map (tvG G)))
    rw [tv_ref (by decide), tv_ref (by decide)]
    exact k9
  | false =>
    rw [h3] at h1
    have h1 : (bif Nat.beq w.1 1 then ((popn w.2.2.1 [] st).bind fun q => kCall ph cl mi lv K (pc + 3) w q.1 L q.2 M X) else bif Nat.beq w.1 7 then (u2 st fun x y r => bif Nat.ble (wg r) 8 then K (pc + 3) L (pI (if y < x then y else x) :: r) M X else none) else bif Nat.beq w.1 8 then (u2 st fun x y r => bif Nat.ble (wg r) 8 then K (pc + 3) L (pI (if x < y then y else x) :: r) M X else none) else none) = some r0 := h1
    rcases hk1 : Nat.beq w.1 1 with _ | _
    · skip
      rw [hk1] at h1
      have h2 : (bif Nat.beq w.1 7 then (u2 st fun x y r => bif Nat.ble (wg r) 8 then K (pc + 3) L (pI (if y < x then y else x) :: r) M X else none) else bif Nat.beq w.1 8 then (u2 st fun x y r => bif Nat.ble (wg r) 8 then K (pc + 3) L (pI (if x < y then y else x) :: r) M X else none) else none) = some r0 := h1
      cases h7 : Nat.beq w.1 7 with
      | true =>
        rw [nbeq_t h7] at hck
        have hck : (hasW z.1 (.methodLink (cn (ownM mi)) i Lib.Math.min.name) && hasW z.2.1 (.static Lib.Math.min.name) && hasW z.2.2.1 (.code Lib.Math.min.name Lib.Math.min.code 2 (some .int)) && hasW z.2.2.2 (.initialized "java/lang/Math")) = true := hck
        simp only [Bool.and_eq_true] at hck
        obtain ⟨⟨⟨w1, w2⟩, w3⟩, w4⟩ := hck
        rw [h7] at h2
        obtain ⟨x, y, r, rfl, h4⟩ := u2_inv h2
        obtain ⟨h5, h6⟩ := bif_inv h4
        have h5 := Nat.le_of_ble_eq_true h5
        have frr := fi_tl (fi_tl fi)
        have hwg := cat_wg (G := G) frr.2.2.2.2.2.2 r frr.2.2.2.2.2.1
        have hcx : cX mi X ≤ R.cells ∧ sX mi X ≤ R.slots := by
          unfold cX sX
          cases ha : alM mi with
          | true => exact ⟨Nat.le_trans (hB ha).1 hRc, Nat.le_trans (hB ha).2 hRs⟩
          | false => exact ⟨Nat.zero_le _, Nat.zero_le _⟩
        exact va_mmin (rest := r.map (tvG G)) hx hb (by rw [hml, frr.2.2.2.1.2.1]) hown (hts _ (hasW_in w1)) (hts _ (hasW_in w2)) (hts _ (hasW_in w4)) (hts _ (hasW_in w3)) hfr (by rw [hwg]; omega) hcx.1 hcx.2 hd (ih _ _ _ _ _ _ _ _ h6 (fi_I frr))
      | false =>
        rw [h7] at h2
        obtain ⟨h8, h9⟩ := bif_inv (show (bif Nat.beq w.1 8 then (u2 st fun x y r => bif Nat.ble (wg r) 8 then K (pc + 3) L (pI (if x < y then y else x) :: r) M X else none) else none) = some r0 from h2)
        clear h2
        have h2 := h9
        clear h9
        rw [nbeq_t h8] at hck
        have hck : (hasW z.1 (.methodLink (cn (ownM mi)) i Lib.Math.max.name) && hasW z.2.1 (.static Lib.Math.max.name) && hasW z.2.2.1 (.code Lib.Math.max.name Lib.Math.max.code 2 (some .int)) && hasW z.2.2.2 (.initialized "java/lang/Math")) = true := hck
        simp only [Bool.and_eq_true] at hck
        obtain ⟨⟨⟨w1, w2⟩, w3⟩, w4⟩ := hck
        obtain ⟨x, y, r, rfl, h4⟩ := u2_inv h2
        obtain ⟨h5, h6⟩ := bif_inv h4
        have h5 := Nat.le_of_ble_eq_true h5
        have frr := fi_tl (fi_tl fi)
        have hwg := cat_wg (G := G) frr.2.2.2.2.2.2 r frr.2.2.2.2.2.1
        have hcx : cX mi X ≤ R.cells ∧ sX mi X ≤ R.slots := by
          unfold cX sX
          cases ha : alM mi with
          | true => exact ⟨Nat.le_trans (hB ha).1 hRc, Nat.le_trans (hB ha).2 hRs⟩
          | false => exact ⟨Nat.zero_le _, Nat.zero_le _⟩
        exact va_mmax (rest := r.map (tvG G)) hx hb (by rw [hml, frr.2.2.2.1.2.1]) hown (hts _ (hasW_in w1)) (hts _ (hasW_in w2)) (hts _ (hasW_in w4)) (hts _ (hasW_in w3)) hfr (by rw [hwg]; omega) hcx.1 hcx.2 hd (ih _ _ _ _ _ _ _ _ h6 (fi_I frr))
    rw [hk1] at h1
    have h2 : ((popn w.2.2.1 [] st).bind fun q => kCall ph cl mi lv K (pc + 3) w q.1 L q.2 M X) = some r0 := h1
    have hk1 := nbeq_t hk1
    rw [hk1] at hck
    have hck : (mdOK w z.2.2.2 && rkOK mi w.2.1 && (hasW z.1 (.methodLink (cn (ownM mi)) i (yN w.2.1)) && hasW z.2.1 (.static (yN w.2.1)))) = true := hck
    simp only [Bool.and_eq_true] at hck
    obtain ⟨⟨w1, w2⟩, w3, w4⟩ := hck
    obtain ⟨q, hq, h4⟩ := bind_inv h2
    obtain ⟨as, a1, a2, a3⟩ := popn_inv _ _ _ _ hq
    obtain ⟨q1, r⟩ := q
    rw [List.append_nil] at a3
    dsimp only at a2 a3 h4
    subst a3
    subst a2
    obtain ⟨g1, g2, lv', X9, q9, g3, g4, g5, g6, g7, g8, g9, g10, g11, g12⟩ := kCall_inv w1 w2 hlv h4
    obtain ⟨ev9, px9⟩ := hcl _ _ _ _ _ _ g3
    have fr := fi_rev fi
    have frr : FI G s H locs ph nL M X ls L r := fi_st fr fun v hv => fr.2.2.2.2.2.1 v (List.mem_append_right _ hv)
    have hM := hCON w.2.1 lv' (hmk hk1) g8 g9 g10 ph q1 M X9 q9 ev9 (in9 fr g2 g5 g7)
    have hwg := cat_wg (G := G) frr.2.2.2.2.2.2 r frr.2.2.2.2.2.1
    obtain ⟨-, -, -, -, m5, -⟩ := md_inv w1
    refine call9 (m9 := w.2.1) (X9 := X9) (va_runS (As := q1.map (tvG G)) (rest := r.map (tvG G)) ⟨hx, hb, hml, hown, hts⟩ hM ⟨cb_of w1 g8 hRf hRl hts (hasW_in w3), hts _ (hasW_in w4)⟩ ⟨Pc9_blind, fun U hU hW => pc9_at hSI frr g5 (g6 _ _ frr.1) hU hW⟩ rfl (by rw [List.length_map]; exact a1) fr.2.2.2.1.2.1 (by show (q1.reverse ++ r).map (tvG G) = _; rw [List.map_append, List.map_reverse]) (by show 2 * 0 + _ ≤ 8; rw [hwg]; omega) hd (room_hf hF0 hB g11 g12 m5)) frr ih g4 px9 g5 g11
theorem recv9 {t a : Nat} {nm : String} (hSI : SI G s) (hCT : ∀ t, 1 ≤ t → t ≤ 13 → CTok t) (fi : FI G s H locs ph nL M X ls L st) (ho : okR X.2.1 (otg t) a) (h : ((Nat.beq t 16 && decide (nm = "java/lang/String")) || (Nat.ble 1 t && Nat.ble t 13 && decide ((clT t).1 = nm))) = true) :
    ∃ b : Nat, tvG G (pR (otg t) a) = .ref b ∧ ∃ cellB : Cell, H[b]? = some cellB ∧ cellB.vm.isStatics = false ∧ s.vm.findClass nm = some cellB.cls := by
  simp only [Bool.or_eq_true, Bool.and_eq_true, decide_eq_true_eq] at h
  rcases h with ⟨h1, rfl⟩ | ⟨⟨h1, h2⟩, rfl⟩
  · have h1 := nbeq_t h1
    subst h1
    exact ⟨gK G a, rfl, vk_recv hSI.2.2.1 (ho.2.2.1 (Or.inl rfl)) fi.2.2.1⟩
  · have h1 := Nat.le_of_ble_eq_true h1
    have h2 := Nat.le_of_ble_eq_true h2
    have e : otg t = t := by unfold otg; rw [nbeq_f (by omega)]; rfl
    rw [e] at ho ⊢
    have hr := ho.1 (by omega)
    obtain ⟨C1, -⟩ := hCT t h1 h2
    exact ⟨gb G + a, tv_ref (by omega), va_recv hSI.2.1 fi.1.1 C1 (ws_at hr.2 h2 hr.1)⟩
set_option maxHeartbeats 1000000 in
theorem fr_virtual {i : Nat} (hx : p.tables.exec = Jvm.exec) (hb : c.code = cc) (ih : IHK p l e R s m args below meth c Q G mi nL ph K r0) (fi : FI G s H locs ph nL M X ls L st) (h : stp ph cl mi lv K (pc, .invokevirtual i, 3, tg, cv) L st M X = some r0) (hd : decode cc pc = .ok (.invokevirtual i, 3))
    (hF : CF l R s m args c G mi lv nL) (hcl : CL ph cl) (hB : BD mi X) (hck : ∀ w, lkp (mthP (ownM mi)) i = some w → ckC mi i w = true ∧ mkM w.2.1 = 0) : W p l e R s m args below meth c H locs (cX mi X) (sX mi X) Q (F0 m pc ls (st.map (tvG G))) := by
  have hF0 := hF
  obtain ⟨hml, hown, hts, hSI, hRc, hRs, hRf, hRl, hlv, hCT, hCON⟩ := hF
  unfold stp at h
  dsimp only at h
  obtain ⟨w, hw, h1⟩ := bind_inv h
  obtain ⟨hck, hmk⟩ := hck w hw
  unfold ckC at hck
  cases hz : lkp (mwP (ownM mi)) i with
  | none => rw [hz] at hck; cases hck
  | some z =>
  rw [hz] at hck
  dsimp only at hck
  obtain ⟨q, hq, h4⟩ := bind_inv h1
  obtain ⟨as, a1, a2, a3⟩ := popn_inv _ _ _ _ hq
  obtain ⟨q1, st2⟩ := q
  rw [List.append_nil] at a3
  dsimp only at a2 a3 h4
  subst a3
  obtain ⟨t, a, r, rfl, h5⟩ := ur1_inv h4
  subst a2
  obtain ⟨hc, h6⟩ := bif_inv h5
  simp only [Bool.and_eq_true] at hc
  have hk1 := nbeq_t hc.1
  have ht := nbeq_t hc.2
  subst ht
  rw [hk1] at hck
  have hck : (mdOK w z.2.2.2 && rkOK mi w.2.1 && (hasW z.1 (.methodLink (cn (ownM mi)) i (yN w.2.1)) && hasW z.2.1 (.instanceMethod (yN w.2.1)) && hasW z.2.2.1 (.selects (yN w.2.1).cls (yN w.2.1) (yN w.2.1)) && ((Nat.beq (ownM w.2.1) 16 && decide ((yN w.2.1).cls = "java/lang/String")) || (Nat.ble 1 (ownM w.2.1) && Nat.ble (ownM w.2.1) 13 && decide ((clT (ownM w.2.1)).1 = (yN w.2.1).cls))))) = true := hck
  rw [Bool.and_eq_true, Bool.and_eq_true, Bool.and_eq_true, Bool.and_eq_true, Bool.and_eq_true] at hck
  obtain ⟨⟨w1, w2⟩, ⟨⟨w3, w4⟩, w5⟩, w6⟩ := hck
  obtain ⟨g1, g2, lv', X9, q9, g3, g4, g5, g6, g7, g8, g9, g10, g11, g12⟩ := kCall_inv w1 w2 hlv h6
  obtain ⟨ev9, px9⟩ := hcl _ _ _ _ _ _ g3
  have fr := fi_rev fi
  have fr2 : FI G s H locs ph nL M X ls L ((pR (otg (ownM w.2.1)) a :: q1) ++ r) := fi_st fr fun v hv => fr.2.2.2.2.2.1 v (by
    rcases List.mem_append.mp hv with h | h
    · rcases List.mem_cons.mp h with rfl | h
      · exact List.mem_append_right _ List.mem_cons_self
      · exact List.mem_append_left _ h
    · exact List.mem_append_right _ (List.mem_cons_of_mem _ h))
  have frr : FI G s H locs ph nL M X ls L r := fi_st fr fun v hv => fr.2.2.2.2.2.1 v (List.mem_append_right _ (List.mem_cons_of_mem _ hv))
  have frc : FI G s H locs ph nL M X ls L (pR (otg (ownM w.2.1)) a :: r) := fi_st fr fun v hv => fr.2.2.2.2.2.1 v (List.mem_append_right _ hv)
  obtain ⟨b, hb1, hb2⟩ := recv9 hSI hCT frc (fi_ok frc).2 w6
  have hM := hCON w.2.1 lv' hmk g8 g9 g10 ph (pR (otg (ownM w.2.1)) a :: q1) M X9 q9 ev9 (in9 fr2 g2 g5 g7)
  have hwg := cat_wg (G := G) frr.2.2.2.2.2.2 r frr.2.2.2.2.2.1
  obtain ⟨-, -, -, -, m5, -⟩ := md_inv w1
  refine call9 (m9 := w.2.1) (X9 := X9) (va_runV (b := b) (C := (yN w.2.1).cls) (As := q1.map (tvG G)) (rest := r.map (tvG G)) ⟨hx, hb, hml, hown, hts⟩ hM ⟨cb_of w1 g8 hRf hRl hts (hasW_in w3), hts _ (hasW_in w4), hts _ (hasW_in w5)⟩ ⟨Pc9_blind, hb2, fun U hU hW => ?_⟩ rfl (by rw [List.length_map]; exact a1) fr.2.2.2.1.2.1 ?_ (by show 2 * 0 + _ ≤ 8; rw [hwg]; omega) hd (room_hf hF0 hB g11 g12 m5)) frr ih g4 px9 g5 g11
  · have h9 := pc9_at (as := pR (otg (ownM w.2.1)) a :: q1) hSI frr g5 (g6 _ _ frr.1) hU hW
    rw [List.map_cons, hb1] at h9
    exact h9
  · show (q1.reverse ++ pR (otg (ownM w.2.1)) a :: r).map (tvG G) = _
    rw [List.map_append, List.map_reverse, List.map_cons, hb1]
set_option maxHeartbeats 1000000 in
theorem fr_special {i : Nat} (hx : p.tables.exec = Jvm.exec) (hb : c.code = cc) (ih : IHK p l e R s m args below meth c Q G mi nL ph K r0) (fi : FI G s H locs ph nL M X ls L st) (h : stp ph cl mi lv K (pc, .invokespecial i, 3, tg, cv) L st M X = some r0) (hd : decode cc pc = .ok (.invokespecial i, 3))
    (hF : CF l R s m args c G mi lv nL) (hcl : CL ph cl) (hB : BD mi X) (hfr : 1 ≤ R.frames) (hlo : 20 ≤ R.locals) (hck : ∀ w, lkp (mthP (ownM mi)) i = some w → ckC mi i w = true ∧ (4 < w.1 → mkM w.2.1 = 0)) : W p l e R s m args below meth c H locs (cX mi X) (sX mi X) Q (F0 m pc ls (st.map (tvG G))) := by
  have hF0 := hF
  obtain ⟨hml, hown, hts, hSI, hRc, hRs, hRf, hRl, hlv, hCT, hCON⟩ := hF
  unfold stp at h
  dsimp only at h
  obtain ⟨w, hw, h1⟩ := bind_inv h
  obtain ⟨hck, hmk⟩ := hck w hw
  unfold ckC at hck
  cases hz : lkp (mwP (ownM mi)) i with
  | none => rw [hz] at hck; cases hck
  | some z =>
  rw [hz] at hck
  dsimp only at hck
  obtain ⟨q, hq, h4⟩ := bind_inv h1
  obtain ⟨as, a1, a2, a3⟩ := popn_inv _ _ _ _ hq
  obtain ⟨q1, st2⟩ := q
  rw [List.append_nil] at a3
  dsimp only at a2 a3 h4
  subst a3
  obtain ⟨t, a, r, rfl, h5⟩ := ur1_inv h4
  subst a2
  obtain ⟨ht0, h6⟩ := bif_ninv h5
  rw [Bool.or_eq_false_iff] at ht0
  have ht16 : t ≤ 16 := by
    rcases Nat.lt_or_ge 16 t with q | q
    · have : Nat.blt 16 t = true := Nat.ble_eq_true_of_le q
      rw [this] at ht0; cases ht0.2
    · exact q
  have ht0 := nbeq_n ht0.1
  have fr := fi_rev fi
  have fr2 : FI G s H locs ph nL M X ls L ((pR t a :: q1) ++ r) := fi_st fr fun v hv => fr.2.2.2.2.2.1 v (by
    rcases List.mem_append.mp hv with h | h
    · rcases List.mem_cons.mp h with rfl | h
      · exact List.mem_append_right _ List.mem_cons_self
      · exact List.mem_append_left _ h
    · exact List.mem_append_right _ (List.mem_cons_of_mem _ h))
  have frr : FI G s H locs ph nL M X ls L r := fi_st fr fun v hv => fr.2.2.2.2.2.1 v (List.mem_append_right _ (List.mem_cons_of_mem _ hv))
  have frc : FI G s H locs ph nL M X ls L (pR t a :: r) := fi_st fr fun v hv => fr.2.2.2.2.2.1 v (List.mem_append_right _ hv)
  have hwg := cat_wg (G := G) frr.2.2.2.2.2.2 r frr.2.2.2.2.2.1
  cases h2 : Nat.beq w.1 2 with
  | true =>
    rw [h2] at h6 hck
    obtain ⟨h7, h8⟩ := bif_inv (show (bif Nat.ble (wg r) 8 then K (pc + 3) L r M X else none) = some r0 from h6)
    have h7 := Nat.le_of_ble_eq_true h7
    have hck : (Nat.beq w.2.2.1 0 && hasW z.1 (.methodLink (cn (ownM mi)) i Lib.objectInit) && hasW z.2.1 (.instanceMethod Lib.objectInit) && hasW z.2.2.1 (.code Lib.objectInit ⟨#[0xb1]⟩ 1 none)) = true := hck
    simp only [Bool.and_eq_true] at hck
    obtain ⟨⟨⟨w0, w1⟩, w2⟩, w3⟩ := hck
    have w0 := nbeq_t w0
    rw [w0] at a1
    have a1 : q1 = [] := List.eq_nil_of_length_eq_zero a1
    subst a1
    show W p l e R s m args below meth c H locs (cX mi X) (sX mi X) Q (F0 m pc ls (tvG G (pR t a) :: r.map (tvG G)))
    rw [tv_ref ht16]
    exact W.objInit hx hb hown (hts _ (hasW_in w1)) (hts _ (hasW_in w2)) (hts _ (hasW_in w3)) rfl (by rw [hml]; exact fr.2.2.2.1.2.1) rfl hd hfr (by show 2 * 0 + _ + 12 ≤ _; rw [hwg]; omega) (ih _ _ _ _ _ _ _ _ h8 frr)
  | false =>
    rw [h2] at h6 hck
    obtain ⟨hk1, h7⟩ := bif_inv (show (bif Nat.blt 4 w.1 && Nat.blt w.1 7 then kCall ph cl mi lv K (pc + 3) w (pR t a :: q1) L r M X else none) = some r0 from h6)
    rw [Bool.and_eq_true] at hk1
    have hk7 := lt_of_blt hk1.2
    have hk1 := lt_of_blt hk1.1
    rw [nbeq_f (by omega : w.1 ≠ 3), nbeq_f (by omega : w.1 ≠ 7), nbeq_f (by omega : w.1 ≠ 8), nbeq_f (by omega : w.1 ≠ 0), nbeq_f (by omega : w.1 ≠ 1)] at hck
    have hck : (mdOK w z.2.2.2 && rkOK mi w.2.1 && (decide ((yN w.2.1).name = "<init>") && decide (rtN w.2.1 = none) && hasW z.2.1 (.instanceMethod (yN w.2.1)) && (bif Nat.beq w.1 5 then hasW z.1 (.methodLink (cn (ownM mi)) i (yN w.2.1))
        else match lw_tbl[z.1]? with
          | some (.methodLinkNest a b x _) => decide (a = cn (ownM mi)) && Nat.beq b i && decide (x = yN w.2.1)
          | _ => false))) = true := hck
    rw [Bool.and_eq_true, Bool.and_eq_true, Bool.and_eq_true, Bool.and_eq_true, Bool.and_eq_true, decide_eq_true_eq, decide_eq_true_eq] at hck
    obtain ⟨⟨w1, w2⟩, ⟨⟨w3, w4⟩, w5⟩, w6⟩ := hck
    obtain ⟨g1, g2, lv', X9, q9, g3, g4, g5, g6, g7, g8, g9, g10, g11, g12⟩ := kCall_inv w1 w2 hlv h7
    obtain ⟨ev9, px9⟩ := hcl _ _ _ _ _ _ g3
    obtain ⟨b, hb1⟩ : ∃ b : Nat, tvG G (pR t a) = .ref b := ⟨_, tv_ref ht16⟩
    have hM := hCON w.2.1 lv' (hmk hk1) g8 g9 g10 ph (pR t a :: q1) M X9 q9 ev9 (in9 fr2 g2 g5 g7)
    obtain ⟨-, -, -, -, m5, m6, m7, m8, m9, m10, m11, -⟩ := md_inv w1
    have hp : PreS s H (Pc9 G ph (pR t a :: q1) M X9) (.ref b :: q1.map (tvG G)) := ⟨Pc9_blind, fun U hU hW => by
      have h9 := pc9_at (as := pR t a :: q1) hSI frr g5 (g6 _ _ frr.1) hU hW
      rw [List.map_cons, hb1] at h9
      exact h9⟩
    have hst : (q1.reverse ++ pR t a :: r).map (tvG G) = (q1.map (tvG G)).reverse ++ .ref b :: r.map (tvG G) := by rw [List.map_append, List.map_reverse, List.map_cons, hb1]
    have hroom := room_hf hF0 hB g11 g12 m5
    cases h5 : Nat.beq w.1 5 with
    | true =>
      rw [h5] at w6
      have hcb := cb_of (R := R) (s := s) (args := args) (index := i) w1 g8 hRf hRl hts (hasW_in w6)
      rw [w4] at hcb
      exact call9 (m9 := w.2.1) (X9 := X9) (va_runI (b := b) (As := q1.map (tvG G)) (rest := r.map (tvG G)) ⟨hx, hb, hml, hown, hts⟩ hM ⟨hcb, w3, hts _ (hasW_in w5)⟩ hp rfl (by rw [List.length_map]; exact a1) fr.2.2.2.1.2.1 hst (by show 2 * 0 + _ ≤ 8; rw [hwg]; omega) hd hroom) frr ih g4 px9 g5 g11
    | false =>
      rw [h5] at w6
      cases hn : lw_tbl[z.1]? with
      | none => rw [hn] at w6; cases w6
      | some wd =>
      rw [hn] at w6
      cases wd with
      | methodLinkNest ca cb cx hst9 =>
        have w6 : (decide (ca = cn (ownM mi)) && Nat.beq cb i && decide (cx = yN w.2.1)) = true := w6
        simp only [Bool.and_eq_true, decide_eq_true_eq] at w6
        obtain ⟨⟨e1, e2⟩, e3⟩ := w6
        have e2 := nbeq_t e2
        subst e1; subst e2; subst e3
        have hl9 := hSI.2.2.2.2.2.2.2.1 _ (List.mem_of_getElem? hn) rfl
        have hc9 : va_CN R s args (cn (ownM mi)) cb (yN w.2.1) hst9 (byN w.2.1) (mlN w.2.1) none (cdN w.2.1 :: gwT) (rmM w.2.1 lv') (mcM w.2.1) (msM w.2.1) w.2.2.1 := by
          refine ⟨⟨rfl, rfl, Nat.le_trans g8 hRf, by show 8 + (mlN w.2.1 + 11) + 60 * rankM w.2.1 lv' ≤ R.locals; omega, pay_in (big := gwT) hts fun x hx => ?_, by rw [m6, w4]; exact List.mem_cons_self⟩, by rw [← w4]; exact hts _ m7, hts _ m8, m9, fun sig h => ?_, va_Nw.use rfl hl9⟩
          · rcases List.mem_cons.mp hx with rfl | hx
            · rw [m6]; exact gw_good m7
            · exact gw_good hx
          · rw [h] at m10
            exact (Option.some.inj m10).symm
        exact call9 (m9 := w.2.1) (X9 := X9) (va_runIN (b := b) (As := q1.map (tvG G)) (rest := r.map (tvG G)) ⟨hx, hb, hml, hown, hts⟩ hM ⟨hc9, w3, hts _ (hasW_in w5)⟩ hp rfl (by rw [List.length_map]; exact a1) fr.2.2.2.1.2.1 hst (by show 2 * 0 + _ ≤ 8; rw [hwg]; omega) hd hroom) frr ih g4 px9 g5 g11
      | _ => cases w6
end INV
end
section
/-! switches by table -/
def tt (pc : Nat) : Int → List Int → List (Int32 × Nat) → Bool
  | _, [], [] => true
  | lo, o :: os, (v, t) :: T => decide (v.toInt = lo) && decide ((pc : Int) + o = (t : Int)) && tt pc (lo + 1) os T
  | _, _, _ => false
theorem tt_some {pc : Nat} : ∀ {lo : Int} {os : List Int} {T : List (Int32 × Nat)}, tt pc lo os T = true → ∀ (x : Int32), lo ≤ x.toInt → x.toInt < lo + os.length → ∃ q ∈ T, q.1 = x
  | lo, [], [], _, x, h1, h2 => by
    exfalso
    simp at h2
    omega
  | lo, o :: os, (v, t) :: T, h, x, h1, h2 => by
    unfold tt at h
    simp only [Bool.and_eq_true, decide_eq_true_eq] at h
    obtain ⟨⟨e1, -⟩, e3⟩ := h
    by_cases hx : x.toInt = lo
    · exact ⟨(v, t), List.mem_cons_self, Int32.toInt_inj.mp (e1.trans hx.symm)⟩
    · have h3 : x.toInt < lo + 1 + os.length := by
        simp only [List.length_cons] at h2
        omega
      obtain ⟨q, hq, h4⟩ := tt_some e3 x (by omega) h3
      exact ⟨q, List.mem_cons_of_mem _ hq, h4⟩
  | lo, [], _ :: _, h, _, _, _ => by cases h
  | lo, _ :: _, [], h, _, _, _ => by cases h
theorem tt_at {pc : Nat} : ∀ {lo : Int} {os : List Int} {T : List (Int32 × Nat)}, tt pc lo os T = true → ∀ (k : Nat) (x : Int32) (t : Nat), T[k]? = some (x, t) → x.toInt = lo + k ∧ ∃ off, os[k]? = some off ∧ (pc : Int) + off = (t : Int)
  | lo, [], [], _, k, x, t, h => by simp at h
  | lo, o :: os, (v, u) :: T, h, k, x, t, hk => by
    unfold tt at h
    simp only [Bool.and_eq_true, decide_eq_true_eq] at h
    obtain ⟨⟨e1, e2⟩, e3⟩ := h
    cases k with
    | zero =>
      have hk : some (v, u) = some (x, t) := hk
      cases hk
      exact ⟨by rw [e1]; simp, o, rfl, e2⟩
    | succ k =>
      obtain ⟨h1, h2⟩ := tt_at e3 k x t hk
      exact ⟨by rw [h1]; push_cast; omega, h2⟩
  | lo, [], _ :: _, h, _, _, _, _ => by cases h
  | lo, _ :: _, [], h, _, _, _, _ => by cases h
def tsB (pc tg : Nat) (d lo hi : Int) (offs : Array Int) (T : List (Int32 × Nat)) : Bool := decide ((pc : Int) + d = (tg : Int)) && decide (hi + 1 = lo + offs.toList.length) && tt pc lo offs.toList T
theorem tsB_ok {pc tg : Nat} {d lo hi : Int} {offs : Array Int} {T : List (Int32 × Nat)} (h : tsB pc tg d lo hi offs T = true) : tsOK pc tg d lo hi offs T := by
  unfold tsB at h
  simp only [Bool.and_eq_true, decide_eq_true_eq] at h
  obtain ⟨⟨h1, h2⟩, h3⟩ := h
  refine ⟨h1, fun x hx => ?_, fun k x t hk => ?_⟩
  · rcases Int.lt_or_le x.toInt lo with q | q
    · exact Or.inl q
    · rcases Int.lt_or_le hi x.toInt with q2 | q2
      · exact Or.inr q2
      · obtain ⟨r, hr, e⟩ := tt_some h3 x q (by omega)
        exact absurd e (hx r hr)
  · obtain ⟨e1, off, e2, e3⟩ := tt_at h3 k x t hk
    have hlt : k < offs.toList.length := (List.getElem?_eq_some_iff.mp e2).1
    have e4 : (x.toInt - lo).toNat = k := by omega
    refine ⟨by omega, by omega, off, ?_, e3⟩
    rw [e4, ← Array.getElem?_toList]
    exact e2
def lt9 (pc : Nat) : List (Int × Int) → List (Int32 × Nat) → Bool
  | [], [] => true
  | (a, o) :: ps, (v, t) :: T => decide (v.toInt = a) && decide ((pc : Int) + o = (t : Int)) && T.all (fun q => decide (q.1 ≠ v)) && lt9 pc ps T
  | _, _ => false
theorem lt9_no {pc : Nat} {d : Int} : ∀ {ps : List (Int × Int)} {T : List (Int32 × Nat)}, lt9 pc ps T = true → ∀ (x : Int32), (∀ q ∈ T, q.1 ≠ x) → Op.lookupswitch.offset ps d x.toInt = d
  | [], [], _, x, _ => rfl
  | (a, o) :: ps, (v, t) :: T, h, x, hx => by
    unfold lt9 at h
    simp only [Bool.and_eq_true, decide_eq_true_eq] at h
    obtain ⟨⟨⟨e1, -⟩, -⟩, e3⟩ := h
    rw [Op.lookupswitch.offset_cons, if_neg (fun q => hx (v, t) List.mem_cons_self (Int32.toInt_inj.mp (e1.trans q)))]
    exact lt9_no e3 x fun q hq => hx q (List.mem_cons_of_mem _ hq)
  | [], _ :: _, h, _, _ => by cases h
  | _ :: _, [], h, _, _ => by cases h
theorem lt9_at {pc : Nat} {d : Int} : ∀ {ps : List (Int × Int)} {T : List (Int32 × Nat)}, lt9 pc ps T = true → ∀ (k : Nat) (x : Int32) (t : Nat), T[k]? = some (x, t) → (pc : Int) + Op.lookupswitch.offset ps d x.toInt = (t : Int)
  | [], [], _, k, x, t, h => by simp at h
  | (a, o) :: ps, (v, u) :: T, h, k, x, t, hk => by
    unfold lt9 at h
    simp only [Bool.and_eq_true, decide_eq_true_eq] at h
    obtain ⟨⟨⟨e1, e2⟩, e0⟩, e3⟩ := h
    cases k with
    | zero =>
      have hk : some (v, u) = some (x, t) := hk
      cases hk
      rw [Op.lookupswitch.offset_cons, if_pos e1.symm]
      exact e2
    | succ k =>
      have hk : T[k]? = some (x, t) := hk
      have hne : x ≠ v := by
        have := List.all_eq_true.mp e0 _ (List.mem_of_getElem? hk)
        simpa using this
      rw [Op.lookupswitch.offset_cons, if_neg (fun q => hne (Int32.toInt_inj.mp (q.symm.trans e1.symm)))]
      exact lt9_at e3 k x t hk
  | [], _ :: _, h, _, _, _, _ => by cases h
  | _ :: _, [], h, _, _, _, _ => by cases h
def lsB (pc tg : Nat) (d : Int) (ps : Array (Int × Int)) (T : List (Int32 × Nat)) : Bool := (ps.toList.zip (ps.toList.drop 1)).all (fun (a, next) => a.1 < next.1) && decide ((pc : Int) + d = (tg : Int)) && lt9 pc ps.toList T
theorem lsB_ok {pc tg : Nat} {d : Int} {ps : Array (Int × Int)} {T : List (Int32 × Nat)} (h : lsB pc tg d ps T = true) : lsOK pc tg d ps T := by
  unfold lsB at h
  rw [Bool.and_eq_true, Bool.and_eq_true, decide_eq_true_eq] at h
  exact ⟨h.1.1, h.1.2, fun x hx => lt9_no h.2 x hx, fun k x t hk => lt9_at h.2 k x t hk⟩
end
section
/-! a frame, instruction by instruction -/
section FRAM
variable {p : Program} {l : Launch} {e : Env} {R : Room} {s : State} {m : MethodId} {args : Array Value} {below : List Frame} {meth : Method} {c : Code} {Q : State → Prop} {cc : ByteArray} {G : EG} {mi lv nL : Nat} {ph : Bool} {cl : Nat → Nat → List PV → Mem → PX → Option PRs} {K : KT} {r0 : PRs} {pc tg : Nat} {cv : Int32} {L st : List PV} {ls : Array Slot} {M : Mem} {X : PX} {H : Heap} {locs : List Loc}
def anW : Nat := 527
def nlC (mi i : Nat) : Bool := match lkp (cstP (ownM mi)) i with
  | some (.inr (.inl _)) => false
  | _ => true
def yLC (mi i : Nat) : Bool := match lkp (cstP (ownM mi)) i with
  | some (.inr (.inl _)) => true
  | some _ => false
  | none => true
def pfC (mi i : Nat) : Bool := match lkp (fldP (ownM mi)) i with
  | some f => !(Nat.beq f.2.2.1 2) || (decide ((yN mi).name = "<init>") && decide ((clT f.1).1 = cn (ownM mi)))
  | none => true
def nwC (mi i : Nat) : Bool := match lkp (nclP (ownM mi)) i with
  | some t => Nat.ble t.1 100
  | none => true
def swC (mi pc : Nat) (f : List (Int32 × Nat) → Bool) : Bool := match lkp swT mi with
  | some t => !(Nat.beq t.1 pc) || f t.2
  | none => true
def ivC (mi i : Nat) (f : Nat → Bool) : Bool := match lkp (mthP (ownM mi)) i with
  | some w => ckC mi i w && (!(f w.1) || Nat.beq (mkM w.2.1) 0)
  | none => true
/-- what is looked at for each instruction -/
def ckI (mi : Nat) (e : PE) : Bool := match e.2.1 with
  | .iconst n => Nat.beq e.2.2.1 1 && decide (Int32.ofInt n = e.2.2.2.2)
  | .bipush n => Nat.beq e.2.2.1 2 && decide ((Int8.ofInt n).toInt32 = e.2.2.2.2)
  | .sipush n => Nat.beq e.2.2.1 3 && decide ((Int16.ofInt n).toInt32 = e.2.2.2.2)
  | .lconst _ => Nat.beq e.2.2.1 1
  | .iload_n _ => Nat.beq e.2.2.1 1
  | .iload _ => Nat.beq e.2.2.1 2
  | .istore_n _ => Nat.beq e.2.2.1 1
  | .istore _ => Nat.beq e.2.2.1 2
  | .lload_n _ => Nat.beq e.2.2.1 1
  | .lload _ => Nat.beq e.2.2.1 2
  | .lstore_n _ => Nat.beq e.2.2.1 1
  | .lstore _ => Nat.beq e.2.2.1 2
  | .aload_n _ => Nat.beq e.2.2.1 1
  | .aload _ => Nat.beq e.2.2.1 2
  | .astore_n _ => Nat.beq e.2.2.1 1
  | .astore _ => Nat.beq e.2.2.1 2
  | .iinc _ n => Nat.beq e.2.2.1 3 && decide (Int32.ofInt n = e.2.2.2.2)
  | .iadd => Nat.beq e.2.2.1 1
  | .isub => Nat.beq e.2.2.1 1
  | .imul => Nat.beq e.2.2.1 1
  | .iand => Nat.beq e.2.2.1 1
  | .ior => Nat.beq e.2.2.1 1
  | .ishl => Nat.beq e.2.2.1 1
  | .ishr => Nat.beq e.2.2.1 1
  | .irem => Nat.beq e.2.2.1 1
  | .ineg => Nat.beq e.2.2.1 1
  | .i2c => Nat.beq e.2.2.1 1
  | .i2l => Nat.beq e.2.2.1 1
  | .ladd => Nat.beq e.2.2.1 1
  | .ldiv => Nat.beq e.2.2.1 1
  | .lrem => Nat.beq e.2.2.1 1
  | .lcmp => Nat.beq e.2.2.1 1
  | .dup => Nat.beq e.2.2.1 1
  | .pop => Nat.beq e.2.2.1 1
  | .dup2 => Nat.beq e.2.2.1 1
  | .goto off => Nat.beq e.2.2.1 3 && decide ((e.1 : Int) + off = (e.2.2.2.1 : Int))
  | .ifCond _ off => Nat.beq e.2.2.1 3 && decide ((e.1 : Int) + off = (e.2.2.2.1 : Int))
  | .if_icmp _ off => Nat.beq e.2.2.1 3 && decide ((e.1 : Int) + off = (e.2.2.2.1 : Int))
  | .ifnonnull off => Nat.beq e.2.2.1 3 && decide ((e.1 : Int) + off = (e.2.2.2.1 : Int))
  | .ifnull _ => Nat.beq e.2.2.1 3
  | .ldc i => Nat.beq e.2.2.1 2 && nlC mi i
  | .ldc_w i => Nat.beq e.2.2.1 3 && nlC mi i
  | .ldc2_w i => Nat.beq e.2.2.1 3 && yLC mi i
  | .getstatic _ => Nat.beq e.2.2.1 3
  | .getfield _ => Nat.beq e.2.2.1 3
  | .putfield i => Nat.beq e.2.2.1 3 && pfC mi i
  | .iaload => Nat.beq e.2.2.1 1
  | .baload => Nat.beq e.2.2.1 1
  | .iastore => Nat.beq e.2.2.1 1
  | .laload => Nat.beq e.2.2.1 1
  | .lastore => Nat.beq e.2.2.1 1
  | .aaload => Nat.beq e.2.2.1 1
  | .aastore => Nat.beq e.2.2.1 1
  | .arraylength => Nat.beq e.2.2.1 1
  | .new i => Nat.beq e.2.2.1 3 && nwC mi i
  | .newarray t => Nat.beq e.2.2.1 2
  | .anewarray i => Nat.beq e.2.2.1 3 && hasW anW (.classLink (cn (ownM mi)) i "MergeBelts$State")
  | .tableswitch d lo hi offs => swC mi e.1 (fun T => tsB e.1 e.2.2.2.1 d lo hi offs T)
  | .lookupswitch d ps => swC mi e.1 (fun T => lsB e.1 e.2.2.2.1 d ps T)
  | .ireturn => Nat.beq e.2.2.1 1 && (match rtN mi with | some .int => Nat.beq (rkM mi) 0 | some .boolean => Nat.beq (rkM mi) 1 | some .char => Nat.beq (rkM mi) 2 | some .byte => Nat.beq (rkM mi) 3 | _ => false)
  | .lreturn => Nat.beq e.2.2.1 1 && (match rtN mi with | some .long => true | _ => false)
  | .return_ => Nat.beq e.2.2.1 1 && (match rtN mi with | none => true | _ => false)
  | .invokevirtual i => Nat.beq e.2.2.1 3 && ivC mi i (fun _ => true)
  | .invokespecial i => Nat.beq e.2.2.1 3 && ivC mi i (fun k => Nat.blt 4 k)
  | .invokestatic i => Nat.beq e.2.2.1 3 && ivC mi i (fun k => Nat.beq k 1)
  | _ => true
def ckE (cc : ByteArray) (mi : Nat) (e : PE) : Bool := decide (decode cc e.1 = .ok (e.2.1, e.2.2.1)) && ckI mi e
theorem nlC_ok {i : Nat} (h : nlC mi i = true) : ∀ v, lkp (cstP (ownM mi)) i = some v → ∀ x, v ≠ pL x := by
  intro v hv x q
  subst q
  unfold nlC at h
  rw [hv] at h
  cases h
theorem yLC_ok {i : Nat} (h : yLC mi i = true) : ∀ v, lkp (cstP (ownM mi)) i = some v → ∃ x, v = pL x := by
  intro v hv
  unfold yLC at h
  rw [hv] at h
  rcases v with x | x | x
  · cases h
  · exact ⟨x, rfl⟩
  · cases h
theorem pfC_ok {i : Nat} (h : pfC mi i = true) : ∀ f, lkp (fldP (ownM mi)) i = some f → f.2.2.1 = 2 → (yN mi).name = "<init>" ∧ (clT f.1).1 = cn (ownM mi) := by
  intro f hf h2
  unfold pfC at h
  rw [hf] at h
  dsimp only at h
  rw [h2] at h
  simpa using h
theorem nwC_ok {i : Nat} (h : nwC mi i = true) : ∀ t, lkp (nclP (ownM mi)) i = some t → t.1 ≤ 100 := by
  intro t ht
  unfold nwC at h
  rw [ht] at h
  exact Nat.le_of_ble_eq_true h
theorem swC_ok {f : List (Int32 × Nat) → Bool} (h : swC mi pc f = true) : ∀ t, lkp swT mi = some t → t.1 = pc → f t.2 = true := by
  intro t ht hp
  unfold swC at h
  rw [ht] at h
  dsimp only at h
  rw [hp, Nat.beq_refl] at h
  exact h
theorem ivC_ok {i : Nat} {f : Nat → Bool} (h : ivC mi i f = true) : ∀ w, lkp (mthP (ownM mi)) i = some w → ckC mi i w = true ∧ (f w.1 = true → mkM w.2.1 = 0) := by
  intro w hw
  unfold ivC at h
  rw [hw] at h
  simp only [Bool.and_eq_true, Bool.or_eq_true] at h
  refine ⟨h.1, fun q => ?_⟩
  rcases h.2 with q2 | q2
  · rw [q] at q2; cases q2
  · exact nbeq_t q2
/-- the pools are right -/
def POOL (o : Nat) : Prop := (∀ q ∈ fldP o, FEok o q) ∧ (∀ q ∈ cstP o, CEok o q) ∧ (∀ q ∈ nclP o, NEok o q) ∧ (∀ q ∈ gstP o, (q.2 = pI 1 ∧ Cond.fieldLink (cn o) q.1 "java/lang/String" "COMPACT_STRINGS" "Z" ∈ gwT) ∨ (q.2 = pR 20 0 ∧ Cond.fieldLink (cn o) q.1 "jdk/internal/util/Preconditions" "SIOOBE_FORMATTER" sioD ∈ gwT)) ∧ o < 19
/-- a frame's end -/
def ENDS (p : Program) (l : Launch) (e : Env) (R : Room) (s : State) (m : MethodId) (args : Array Value) (below : List Frame) (meth : Method) (c : Code) (Q : State → Prop) (cc : ByteArray) (G : EG) (mi nL : Nat) (ph0 : Bool) (r0 : PRs) : Prop :=
  ∀ (ph : Bool) (pc : Nat) (o : Option PV) (L : List PV) (M : Mem) (X : PX) (H : Heap) (locs : List Loc) (ls : Array Slot), (decode cc pc = .ok (.ireturn, 1) ∧ ckI mi (pc, .ireturn, 1, 0, 0) = true ∧ (∃ x, o = some (pI x) ∧ rOK (rkM mi) x = true)) ∨ (decode cc pc = .ok (.lreturn, 1) ∧ ckI mi (pc, .lreturn, 1, 0, 0) = true ∧ ∃ x, o = some (pL x)) ∨ (decode cc pc = .ok (.return_, 1) ∧ ckI mi (pc, .return_, 1, 0, 0) = true ∧ o = none) → r0 = (.inl o, M, X) → FI G s H locs ph nL M X ls L [] → (ph0 = true → ph = true) →
    W p l e R s m args below meth c H locs (cX mi X) (sX mi X) Q (F0 m pc ls (o.toList.map (tvG G)))
/-- one step -/
def STEP (p : Program) (l : Launch) (e : Env) (R : Room) (s : State) (m : MethodId) (args : Array Value) (below : List Frame) (meth : Method) (c : Code) (Q : State → Prop) (G : EG) (mi lv nL : Nat) (ph0 : Bool) (r0 : PRs) (pc : Nat) (i : Instr × Nat × Nat × Int32) : Prop :=
  ∀ (ph : Bool) (cl : Nat → Nat → List PV → Mem → PX → Option PRs) (K : KT) (L st : List PV) (M : Mem) (X : PX) (H : Heap) (locs : List Loc) (ls : Array Slot), stp ph cl mi lv K (pc, i) L st M X = some r0 → CL ph cl → IHK p l e R s m args below meth c Q G mi nL ph K r0 → FI G s H locs ph nL M X ls L st → (ph0 = true → ph = true) → BD mi X → W p l e R s m args below meth c H locs (cX mi X) (sX mi X) Q (F0 m pc ls (st.map (tvG G)))
set_option maxHeartbeats 4000000 in
theorem step_ck {ph0 : Bool} {i : Instr × Nat × Nat × Int32} (hx : p.tables.exec = Jvm.exec) (hb : c.code = cc) (hF : CF l R s m args c G mi lv nL) (hP : POOL (ownM mi)) (hnm : (∃ k, i.1 = .putfield k) → meth.name = (yN mi).name) (hfr : 1 ≤ R.frames) (hlo : 8 + (nativeFrameWords "java/lang/System" "arraycopy" 5 + 11) ≤ R.locals) (hlo2 : 21 ≤ R.locals) (hAI : Cond.arrayClass .int ∈ gwT) (hAL : Cond.arrayClass .long ∈ gwT)
    (hE : ENDS p l e R s m args below meth c Q cc G mi nL ph0 r0) (hck : ckE cc mi (pc, i) = true) : STEP p l e R s m args below meth c Q G mi lv nL ph0 r0 pc i := by
  intro ph cl K L st M X H locs ls h hcl ih fi h0 hB
  have hF0 := hF
  obtain ⟨hml, hown, hts, hSI, hRc, hRs, hRf, hRl, hlv, hCT, hCON⟩ := hF
  obtain ⟨hP1, hP2, hP3, hP4, hP5⟩ := hP
  obtain ⟨i, len, tg, cv⟩ := i
  unfold ckE at hck
  rw [Bool.and_eq_true, decide_eq_true_eq] at hck
  obtain ⟨hd, hk⟩ := hck
  unfold ckI at hk
  cases i <;> dsimp only at hd hk
  case iconst n =>
    rw [Bool.and_eq_true] at hk
    obtain ⟨hk, h2⟩ := hk
    have hk := nbeq_t hk
    subst hk
    have h2 := of_decide_eq_true h2
    exact fr_iconst hx hb ih fi h hd h2
  case bipush n =>
    rw [Bool.and_eq_true] at hk
    obtain ⟨hk, h2⟩ := hk
    have hk := nbeq_t hk
    subst hk
    have h2 := of_decide_eq_true h2
    exact fr_bipush hx hb ih fi h hd h2
  case sipush n =>
    rw [Bool.and_eq_true] at hk
    obtain ⟨hk, h2⟩ := hk
    have hk := nbeq_t hk
    subst hk
    have h2 := of_decide_eq_true h2
    exact fr_sipush hx hb ih fi h hd h2
  case lconst k =>
    have hk := nbeq_t hk
    subst hk
    exact fr_lconst hx hb ih fi h hd
  case iload_n k =>
    have hk := nbeq_t hk
    subst hk
    exact fr_iload_n hx hb ih fi h hd
  case iload k =>
    have hk := nbeq_t hk
    subst hk
    exact fr_iload hx hb ih fi h hd
  case istore_n k =>
    have hk := nbeq_t hk
    subst hk
    exact fr_istore_n hx hb ih fi h hd
  case istore k =>
    have hk := nbeq_t hk
    subst hk
    exact fr_istore hx hb ih fi h hd
  case lload_n k =>
    have hk := nbeq_t hk
    subst hk
    exact fr_lload_n hx hb ih fi h hd
  case lload k =>
    have hk := nbeq_t hk
    subst hk
    exact fr_lload hx hb ih fi h hd
  case lstore_n k =>
    have hk := nbeq_t hk
    subst hk
    exact fr_lstore_n hx hb ih fi h hd
  case lstore k =>
    have hk := nbeq_t hk
    subst hk
    exact fr_lstore hx hb ih fi h hd
  case aload_n k =>
    have hk := nbeq_t hk
    subst hk
    exact fr_aload_n hx hb ih fi h hd
  case aload k =>
    have hk := nbeq_t hk
    subst hk
    exact fr_aload hx hb ih fi h hd
  case astore_n k =>
    have hk := nbeq_t hk
    subst hk
    exact fr_astore_n hx hb ih fi h hd
  case astore k =>
    have hk := nbeq_t hk
    subst hk
    exact fr_astore hx hb ih fi h hd
  case iinc k n =>
    rw [Bool.and_eq_true] at hk
    obtain ⟨hk, h2⟩ := hk
    have hk := nbeq_t hk
    subst hk
    have h2 := of_decide_eq_true h2
    exact fr_iinc hx hb ih fi h hd h2
  case iadd =>
    have hk := nbeq_t hk
    subst hk
    exact fr_iadd hx hb ih fi h hd
  case isub =>
    have hk := nbeq_t hk
    subst hk
    exact fr_isub hx hb ih fi h hd
  case imul =>
    have hk := nbeq_t hk
    subst hk
    exact fr_imul hx hb ih fi h hd
  case iand =>
    have hk := nbeq_t hk
    subst hk
    exact fr_iand hx hb ih fi h hd
  case ior =>
    have hk := nbeq_t hk
    subst hk
    exact fr_ior hx hb ih fi h hd
  case ishl =>
    have hk := nbeq_t hk
    subst hk
    exact fr_ishl hx hb ih fi h hd
  case ishr =>
    have hk := nbeq_t hk
    subst hk
    exact fr_ishr hx hb ih fi h hd
  case irem =>
    have hk := nbeq_t hk
    subst hk
    exact fr_irem hx hb ih fi h hd
  case ineg =>
    have hk := nbeq_t hk
    subst hk
    exact fr_ineg hx hb ih fi h hd
  case i2c =>
    have hk := nbeq_t hk
    subst hk
    exact fr_i2c hx hb ih fi h hd
  case i2l =>
    have hk := nbeq_t hk
    subst hk
    exact fr_i2l hx hb ih fi h hd
  case ladd =>
    have hk := nbeq_t hk
    subst hk
    exact fr_ladd hx hb ih fi h hd
  case ldiv =>
    have hk := nbeq_t hk
    subst hk
    exact fr_ldiv hx hb ih fi h hd
  case lrem =>
    have hk := nbeq_t hk
    subst hk
    exact fr_lrem hx hb ih fi h hd
  case lcmp =>
    have hk := nbeq_t hk
    subst hk
    exact fr_lcmp hx hb ih fi h hd
  case dup =>
    have hk := nbeq_t hk
    subst hk
    exact fr_dup hx hb ih fi h hd
  case pop =>
    have hk := nbeq_t hk
    subst hk
    exact fr_pop hx hb ih fi h hd
  case dup2 =>
    have hk := nbeq_t hk
    subst hk
    exact fr_dup2 hx hb ih fi h hd
  case goto off =>
    rw [Bool.and_eq_true] at hk
    obtain ⟨hk, h2⟩ := hk
    have hk := nbeq_t hk
    subst hk
    have h2 := of_decide_eq_true h2
    exact fr_goto hx hb ih fi h hd h2
  case ifCond k off =>
    rw [Bool.and_eq_true] at hk
    obtain ⟨hk, h2⟩ := hk
    have hk := nbeq_t hk
    subst hk
    have h2 := of_decide_eq_true h2
    exact fr_ifCond hx hb ih fi h hd h2
  case if_icmp k off =>
    rw [Bool.and_eq_true] at hk
    obtain ⟨hk, h2⟩ := hk
    have hk := nbeq_t hk
    subst hk
    have h2 := of_decide_eq_true h2
    exact fr_if_icmp hx hb ih fi h hd h2
  case ifnonnull off =>
    rw [Bool.and_eq_true] at hk
    obtain ⟨hk, h2⟩ := hk
    have hk := nbeq_t hk
    subst hk
    have h2 := of_decide_eq_true h2
    exact fr_ifnonnull hx hb ih fi h hd h2
  case ifnull off =>
    have hk := nbeq_t hk
    subst hk
    exact fr_ifnull hx hb ih fi h hd
  case ldc i =>
    rw [Bool.and_eq_true] at hk
    obtain ⟨hk, h2⟩ := hk
    have hk := nbeq_t hk
    subst hk
    exact fr_ldc hx hb ih fi h hd hown hts hSI hP5 hP2 (nlC_ok h2)
  case ldc_w i =>
    rw [Bool.and_eq_true] at hk
    obtain ⟨hk, h2⟩ := hk
    have hk := nbeq_t hk
    subst hk
    exact fr_ldc_w hx hb ih fi h hd hown hts hSI hP5 hP2 (nlC_ok h2)
  case ldc2_w i =>
    rw [Bool.and_eq_true] at hk
    obtain ⟨hk, h2⟩ := hk
    have hk := nbeq_t hk
    subst hk
    exact fr_ldc2_w hx hb ih fi h hd hown hts hSI hP5 hP2 (yLC_ok h2)
  case getstatic i =>
    have hk := nbeq_t hk
    subst hk
    exact fr_getstatic hx hb ih fi h hd hown hts hSI hP4
  case getfield i =>
    have hk := nbeq_t hk
    subst hk
    exact fr_getfield hx hb ih fi h hd hown hts hSI hP1
  case putfield i =>
    rw [Bool.and_eq_true] at hk
    obtain ⟨hk, h2⟩ := hk
    have hk := nbeq_t hk
    subst hk
    exact fr_putfield hx hb ih fi h hd hown hts hSI hP1 (fun f hf h3 => by rw [hnm ⟨i, rfl⟩]; exact pfC_ok h2 f hf h3)
  case iaload =>
    have hk := nbeq_t hk
    subst hk
    exact fr_iaload hx hb ih fi h hd hts hSI
  case baload =>
    have hk := nbeq_t hk
    subst hk
    exact fr_baload hx hb ih fi h hd hts hSI
  case iastore =>
    have hk := nbeq_t hk
    subst hk
    exact fr_iastore hx hb ih fi h hd hts hSI
  case laload =>
    have hk := nbeq_t hk
    subst hk
    exact fr_laload hx hb ih fi h hd hts hSI
  case lastore =>
    have hk := nbeq_t hk
    subst hk
    exact fr_lastore hx hb ih fi h hd hts hSI
  case aaload =>
    have hk := nbeq_t hk
    subst hk
    exact fr_aaload hx hb ih fi h hd hts hSI
  case arraylength =>
    have hk := nbeq_t hk
    subst hk
    exact fr_arraylength hx hb ih fi h hd hts hSI
  case aastore =>
    have hk := nbeq_t hk
    subst hk
    exact fr_aastore hx hb (hCT 6 (by decide) (by decide)) ih fi h hd hts hSI
  case new i =>
    rw [Bool.and_eq_true] at hk
    obtain ⟨hk, h2⟩ := hk
    have hk := nbeq_t hk
    subst hk
    exact fr_new hx hb ih fi h hd hown hts hSI hRc hRs hP3 (nwC_ok h2)
  case newarray ty =>
    have hk := nbeq_t hk
    subst hk
    cases ty
    case int => exact fr_newarray_int hx hb ih fi h hd hown hts hSI hRc hRs hAI
    case long => exact fr_newarray_long hx hb ih fi h hd hown hts hSI hRc hRs hAL
    all_goals
      exfalso
      unfold stp at h
      dsimp only at h
      obtain ⟨n, q, rfl, h1⟩ := u1_inv h
      obtain ⟨-, h2⟩ := bif_inv h1
      cases h2
  case anewarray i =>
    rw [Bool.and_eq_true] at hk
    obtain ⟨hk, h2⟩ := hk
    have hk := nbeq_t hk
    subst hk
    exact fr_anewarray hx hb ih fi h hd hown hts hSI hRc hRs (hasW_in h2)
  case tableswitch d lo hi offs =>
    exact fr_tableswitch hx hb ih fi h hd (fun t ht hp => tsB_ok (swC_ok hk t ht hp))
  case lookupswitch d ps =>
    exact fr_lookupswitch hx hb ih fi h hd (fun t ht hp => lsB_ok (swC_ok hk t ht hp))
  case ireturn =>
    rw [Bool.and_eq_true] at hk
    obtain ⟨hk, h2⟩ := hk
    have hk := nbeq_t hk
    subst hk
    unfold stp at h
    dsimp only at h
    obtain ⟨x, q, rfl, h1⟩ := u1_inv h
    obtain ⟨rfl, h3⟩ := ue_inv h1
    obtain ⟨h4, h5⟩ := ite_inv h3
    exact hE ph pc (some (pI x)) L M X H locs ls (Or.inl ⟨hd, (by unfold ckI; dsimp only; rw [Bool.and_eq_true]; exact ⟨rfl, h2⟩), x, rfl, h4⟩) (Option.some.inj h5).symm (fi_tl fi) h0
  case lreturn =>
    rw [Bool.and_eq_true] at hk
    obtain ⟨hk, h2⟩ := hk
    have hk := nbeq_t hk
    subst hk
    unfold stp at h
    dsimp only at h
    obtain ⟨x, q, rfl, h1⟩ := ul1_inv h
    obtain ⟨rfl, h3⟩ := ue_inv h1
    exact hE ph pc (some (pL x)) L M X H locs ls (Or.inr (Or.inl ⟨hd, (by unfold ckI; dsimp only; rw [Bool.and_eq_true]; exact ⟨rfl, h2⟩), x, rfl⟩)) (Option.some.inj h3).symm (fi_tl fi) h0
  case return_ =>
    rw [Bool.and_eq_true] at hk
    obtain ⟨hk, h2⟩ := hk
    have hk := nbeq_t hk
    subst hk
    unfold stp at h
    dsimp only at h
    obtain ⟨rfl, h3⟩ := ue_inv h
    exact hE ph pc none L M X H locs ls (Or.inr (Or.inr ⟨hd, (by unfold ckI; dsimp only; rw [Bool.and_eq_true]; exact ⟨rfl, h2⟩), rfl⟩)) (Option.some.inj h3).symm fi h0
  case invokevirtual i =>
    rw [Bool.and_eq_true] at hk
    obtain ⟨hk, h2⟩ := hk
    have hk := nbeq_t hk
    subst hk
    exact fr_virtual hx hb ih fi h hd hF0 hcl hB (fun w hw => ⟨(ivC_ok h2 w hw).1, (ivC_ok h2 w hw).2 rfl⟩)
  case invokespecial i =>
    rw [Bool.and_eq_true] at hk
    obtain ⟨hk, h2⟩ := hk
    have hk := nbeq_t hk
    subst hk
    exact fr_special hx hb ih fi h hd hF0 hcl hB hfr (Nat.le_trans (by decide) hlo2) (fun w hw => ⟨(ivC_ok h2 w hw).1, fun q => (ivC_ok h2 w hw).2 (Nat.ble_eq_true_of_le q)⟩)
  case invokestatic i =>
    rw [Bool.and_eq_true] at hk
    obtain ⟨hk, h2⟩ := hk
    have hk := nbeq_t hk
    subst hk
    exact fr_static hx hb ih fi h hd hF0 hcl hB hfr hlo hlo2 (fun w hw => ⟨(ivC_ok h2 w hw).1, fun q => (ivC_ok h2 w hw).2 (by rw [q]; rfl)⟩)
  all_goals
    exfalso
    unfold stp at h
    cases h
theorem frame9 {ph0 : Bool} (hS : ∀ pc i, lkp (pt mi) pc = some i → STEP p l e R s m args below meth c Q G mi lv nL ph0 r0 pc i) (hBr : alM mi = true → r0.2.2.2.2.2.1 ≤ mcM mi ∧ r0.2.2.2.2.2.2.1 ≤ msM mi) :
    ∀ (n : Nat) (ph : Bool) (pc : Nat) (L st : List PV) (M : Mem) (X : PX) (H : Heap) (locs : List Loc) (ls : Array Slot), run n ph mi lv pc L st M X = some r0 → FI G s H locs ph nL M X ls L st → (ph0 = true → ph = true) → W p l e R s m args below meth c H locs (cX mi X) (sX mi X) Q (F0 m pc ls (st.map (tvG G))) := by
  intro n
  induction n with
  | zero => intro ph pc L st M X H locs ls h; cases h
  | succ n ih =>
    intro ph pc L st M X H locs ls h fi h0
    have hB : BD mi X := fun ha => by
      have h1 := (run_P (n + 1) r0 h).2.2.2.2 ha
      have h2 := hBr ha
      exact ⟨Nat.le_trans h1.1 h2.1, Nat.le_trans h1.2 h2.2⟩
    have h : stA (fun ph m' lv' as M X => run n ph m' lv' 0 as [] M X) (fun ph => run n ph mi lv) ph mi lv pc L st M X = some r0 := h
    unfold stA at h
    cases hp : (!ph && psw mi pc) with
    | true =>
      rw [hp] at h
      obtain ⟨h1, h2⟩ := ite_inv (show (if setA X.2.1 M = true then run n true mi lv pc L st M X else none) = some r0 from h)
      exact ih true pc L st M X H locs ls h2 ⟨fi.1, fun _ => h1, fi.2.2⟩ (fun _ => rfl)
    | false =>
      rw [hp] at h
      obtain ⟨i, hi, h1⟩ := bind_inv (show ((lkp (pt mi) pc).bind fun e => stp ph (fun m' lv' as M X => run n ph m' lv' 0 as [] M X) mi lv (run n ph mi lv) (pc, e) L st M X) = some r0 from h)
      exact hS pc i hi ph _ _ L st M X H locs ls h1 (fun m' lv' as M X q hq => ⟨ev_run hq, run_P n q hq⟩) (fun pc L st M X H locs ls h2 f2 => ih ph pc L st M X H locs ls h2 f2 h0) fi h0 hB
end FRAM
end
section
/-! contracts of ordinary methods -/
section ORD
variable {p : Program} {l : Launch} {e : Env} {R : Room} {s : State} {m : MethodId} {args : Array Value} {below : List Frame} {meth : Method} {c : Code} {Q : State → Prop} {cc : ByteArray} {G : EG} {mi lv nL : Nat} {ph : Bool} {r0 : PRs} {pc : Nat} {L st : List PV} {ls : Array Slot} {M : Mem} {X : PX} {H : Heap} {locs : List Loc}
def MDok (m : Nat) : Bool := plainName (yN m).cls && decide (cn (ownM m) = (yN m).cls) && Nat.ble 11 (hgM m) && (Nat.beq (rgM m) 0 || Nat.ble 51 (hgM m)) && (alM m || (Nat.beq (mcM m) 0 && Nat.beq (msM m) 0))
theorem nar_i {v : Int32} : narrow .int (.int v) = .int v := rfl
theorem nar_b {v : Int32} (h : rOK 1 v = true) : narrow .boolean (.int v) = .int v := (rok_b h).1
theorem nar_c {v : Int32} (h : rOK 2 v = true) : narrow .char (.int v) = .int v := by
  have h : decide ((v.toUInt32 % 65536).toInt32 = v) = true := h
  have h := of_decide_eq_true h
  have e : v.toUInt32.toUInt16.toUInt32 = v.toUInt32 % 65536 := by
    apply UInt32.toNat_inj.mp
    simp
  show Value.int v.toUInt32.toUInt16.toUInt32.toInt32 = .int v
  rw [e, h]
theorem nar_y {v : Int32} (h : rOK 3 v = true) : narrow .byte (.int v) = .int v := by
  have h : decide (v.toInt8.toInt32 = v) = true := h
  have h := of_decide_eq_true h
  show Value.int v.toInt8.toInt32 = .int v
  rw [h]
/-- what a frame's end needs of the code, at each of its ends -/
theorem ends_ord {ph0 : Bool} (hx : p.tables.exec = Jvm.exec) (hb : c.code = cc) (hr : meth.sig.returnType = rtN mi) (hlocks : meth.locks = false) (hal : alM mi = false → mcM mi = 0 ∧ msM mi = 0) (hBr : alM mi = true → r0.2.2.2.2.2.1 ≤ mcM mi ∧ r0.2.2.2.2.2.2.1 ≤ msM mi) : ENDS p l e R s m args below meth c (MQ below (Qc9 G ph0 r0) args s (mcM mi) (msM mi) (gA G)) cc G mi nL ph0 r0 := by
  intro ph pc o L M X H locs ls hd h0 fi hph
  subst h0
  have hwid : ∀ g : JFrame, W p l e R s m args below meth c H locs (mcM mi) (msM mi) (MQ below (Qc9 G ph0 (.inl o, M, X)) args s (mcM mi) (msM mi) (gA G)) g → W p l e R s m args below meth c H locs (cX mi X) (sX mi X) (MQ below (Qc9 G ph0 (.inl o, M, X)) args s (mcM mi) (msM mi) (gA G)) g := by
    intro g hg
    refine W.widen ?_ ?_ hg
    · unfold cX
      cases ha : alM mi with
      | true => exact (hBr ha).1
      | false => exact Nat.zero_le _
    · unfold sX
      cases ha : alM mi with
      | true => exact (hBr ha).2
      | false => exact Nat.zero_le _
  have hq : ∀ t : State, t.heap = H → s.WarmedH t.vm → Qc9 G ph0 (.inl o, M, X) args s (.returned (o.map (tvG G))) t := fun t ht _ => ⟨⟨⟨o, rfl, rfl⟩, by rw [ht]; exact fi.1, fun q => fi.2.1 (hph q)⟩, fi.2.2.1.F ht⟩
  refine hwid _ ?_
  rcases hd with ⟨hd, h1, x, rfl, hx9⟩ | ⟨hd, h1, x, rfl⟩ | ⟨hd, h1, rfl⟩
  · unfold ckI at h1
    dsimp only at h1
    rw [Bool.and_eq_true] at h1
    have h2 := h1.2
    cases hrt : rtN mi with
    | none => rw [hrt] at h2; cases h2
    | some ty =>
      rw [hrt] at h2 hr
      cases ty <;> first | cases h2 | skip
      · have h2 := nbeq_t h2
        rw [h2] at hx9
        exact W.zret hx hb hr (nar_y hx9) hq fi.2.2.1.2.2 hd
      · have h2 := nbeq_t h2
        rw [h2] at hx9
        exact W.zret hx hb hr (nar_c hx9) hq fi.2.2.1.2.2 hd
      · exact W.zret hx hb hr nar_i hq fi.2.2.1.2.2 hd
      · have h2 := nbeq_t h2
        rw [h2] at hx9
        exact W.zret hx hb hr (nar_b hx9) hq fi.2.2.1.2.2 hd
  · unfold ckI at h1
    dsimp only at h1
    rw [Bool.and_eq_true] at h1
    have h2 := h1.2
    cases hrt : rtN mi with
    | none => rw [hrt] at h2; cases h2
    | some ty =>
      rw [hrt] at h2 hr
      cases ty <;> first | cases h2 | skip
      exact W.lret hx hb hr hq fi.2.2.1.2.2 hd
  · unfold ckI at h1
    dsimp only at h1
    rw [Bool.and_eq_true] at h1
    have h2 := h1.2
    cases hrt : rtN mi with
    | some ty => rw [hrt] at h2; cases h2
    | none =>
      rw [hrt] at hr
      exact W.vret hx hb hr hq fi.2.2.1.2.2 hd

theorem room_sp (ws : List Cond) (rm : Room) : (headSpec ws rm).room = rm := rfl
/-- an ordinary method's contract, from those below it -/
theorem con_ord {m0 : Nat} (hmd : MDok m0 = true) (hcd : cdN m0 = .code (yN m0) (byN m0) (mlN m0) (rtN m0)) (hgw : ∀ w ∈ gwT, goodWord w = true) (hck : (pt m0).all (fun e => ckE (byN m0) m0 e) = true) (hPool : POOL (ownM m0)) (hAI : Cond.arrayClass .int ∈ gwT) (hAL : Cond.arrayClass .long ∈ gwT) (hCT : ∀ t, 1 ≤ t → t ≤ 13 → CTok t) (hlv : lv ≤ 40 ∧ (rgM m0 = 0 → lv = 0))
    (hIH : ∀ m' lv', mkM m' = 0 → rankM m' lv' + 1 ≤ rankM m0 lv → lv' ≤ 40 → (rgM m' = 0 → lv' = 0) → CON l G m' lv') : CON l G m0 lv := by
  intro ph0 as M X q hev hin
  unfold MDok at hmd
  rw [Bool.and_eq_true, Bool.and_eq_true, Bool.and_eq_true, Bool.and_eq_true, decide_eq_true_eq] at hmd
  obtain ⟨⟨⟨⟨d1, d2⟩, d3⟩, d4⟩, d5⟩ := hmd
  have d3 := Nat.le_of_ble_eq_true d3
  have hrk : 11 ≤ rankM m0 lv := by
    unfold rankM
    rw [Bool.or_eq_true] at d4
    rcases d4 with d4 | d4
    · rw [hlv.2 (nbeq_t d4)]; exact d3
    · have := Nat.le_of_ble_eq_true d4
      omega
  have hal : alM m0 = false → mcM m0 = 0 ∧ msM m0 = 0 := fun ha => by
    rw [ha, Bool.false_or, Bool.and_eq_true] at d5
    exact ⟨nbeq_t d5.1, nbeq_t d5.2⟩
  obtain ⟨n, hn⟩ := run_ev hev
  have hrun := hn n (Nat.le_refl _)
  obtain ⟨i1, i2, i3, i4⟩ := hin
  have hBr : alM m0 = true → q.2.2.2.2.2.1 ≤ mcM m0 ∧ q.2.2.2.2.2.2.1 ≤ msM m0 := fun ha => by
    refine (run_P n q hrun).2.2.1 ha ?_
    rw [(i3 ha).1, (i3 ha).2]
    exact ⟨Nat.zero_le _, Nat.zero_le _⟩
  have hcX : cX m0 X = 0 := by
    unfold cX
    cases ha : alM m0 with
    | true => exact (i3 ha).1
    | false => rfl
  have hsX : sX m0 X = 0 := by
    unfold sX
    cases ha : alM m0 with
    | true => exact (i3 ha).2
    | false => rfl
  refine Met.ofW (cc := byN m0) (maxL := mlN m0) (ret := rtN m0) d1 (by rw [hcd]) ?_
  intro p e s m args below meth c s₁ B hml hv
  obtain ⟨rfl, hSI, hHR, hset⟩ := hv
  have hx := B.exec
  have hb := B.bytes
  have hr := B.returns
  have hts0 := atoms_spec (ws := cdN m0 :: gwT) B.pre
  have hts : ∀ w ∈ gwT, w.before (as.map (tvG G)).toArray s = true := fun w hw => hts0 w (List.mem_cons_of_mem _ hw)
  have hown : s.vm.findClass (cn (ownM m0)) = some m.cls := by rw [d2]; exact findClass_of_methodNamed B.named
  have hlocks := B.notSynchronized
  have hnm : meth.name = (yN m0).name := (name_of_methodNamed B.named B.method).1
  obtain ⟨ls, he, hlr⟩ := entry_lr (n := mlN m0) i4 i1 i2 m
  rw [he]
  have fi : FI G s s.heap [] ph0 (mlN m0) M X ls (padl (mlN m0) (expd as)) [] := ⟨hHR, hset, va_S.rf, hlr, fun i => by rw [nth_padl]; exact okV_expd as i fun v hv => (i1 v hv).1, fun v hv => (by cases hv), i4⟩
  have hF : CF l (headSpec (cdN m0 :: gwT) (rmM m0 lv)).room s m (as.map (tvG G)).toArray c G m0 lv (mlN m0) := ⟨hml, hown, hts, hSI, Nat.le_refl _, Nat.le_refl _, Nat.le_refl _, Nat.le_refl _, hlv, hCT, hIH⟩
  have hfr : 1 ≤ (headSpec (cdN m0 :: gwT) (rmM m0 lv)).room.frames := by show 1 ≤ rankM m0 lv; omega
  have hlo : 8 + (nativeFrameWords "java/lang/System" "arraycopy" 5 + 11) ≤ (headSpec (cdN m0 :: gwT) (rmM m0 lv)).room.locals := by
    show _ ≤ 60 * rankM m0 lv
    have : 8 + (nativeFrameWords "java/lang/System" "arraycopy" 5 + 11) ≤ 660 := by decide +kernel
    omega
  have hlo2 : 21 ≤ (headSpec (cdN m0 :: gwT) (rmM m0 lv)).room.locals := by show 21 ≤ 60 * rankM m0 lv; omega
  have hE := ends_ord (G := G) (mi := m0) (nL := mlN m0) (ph0 := ph0) (r0 := q) (p := p) (l := l) (e := e) (R := (headSpec (cdN m0 :: gwT) (rmM m0 lv)).room) (s := s) (m := m) (args := (as.map (tvG G)).toArray) (below := below) hx hb hr hlocks hal hBr
  have h9 := frame9 (ph0 := ph0) (lv := lv) (fun pc i hi => step_ck (cc := byN m0) hx hb hF hPool (fun _ => hnm) hfr hlo hlo2 hAI hAL hE (List.all_eq_true.mp hck _ (lkp_mem hi))) hBr n ph0 0 _ [] M X s.heap [] ls hrun fi (fun z => z)
  rw [hcX, hsX] at h9
  exact h9
end ORD
end
section
/-! the pools, the classes, the code: by count -/
def fxT : List (List Nat) := [[], [576, 577, 578, 579, 580, 581, 582, 583, 584, 585, 587, 230, 160, 169, 167, 339, 236, 247, 258, 275, 450, 452, 455, 420, 478, 471, 482, 441, 533, 293, 240, 244, 476, 251, 255, 480, 263, 457, 459, 461, 465, 463, 467, 469, 473, 281, 285, 288, 291, 353, 586], [159, 168, 161, 162, 165, 166, 164, 163], [338, 233, 235, 239, 243, 248, 250, 254, 259, 262, 267, 270, 273, 276, 280, 283, 287, 290, 294, 297], [351, 354, 355, 352, 210, 453], [238, 242, 249, 253, 261, 265, 268, 271, 278, 282, 286, 289, 296, 231, 234, 246, 257, 274, 292], [451, 454, 456, 458, 460, 462, 464, 466, 468, 470, 472, 474, 475, 477, 479, 481, 483, 449, 232, 266, 269, 272, 419, 237, 277, 279, 284, 241, 245, 260, 264, 295, 298, 211, 417, 256, 415, 252], [530, 532, 531], [154], [381, 382, 383, 384, 385, 386, 387, 388], [414, 416, 418], [438, 439, 440], [209, 214, 216, 212, 213, 215], [1485, 1486, 1487, 1488, 1489, 1493, 1494, 1497, 1501, 1510, 1492, 1495, 1496, 1491, 1502, 1490, 1498, 1499, 1500, 1503, 1504, 1506, 1505, 1507, 1508, 1511, 1509, 1512], [], [], [2077, 2078], [], []]
def cxT : List (List Nat) := [[], [1352, 1452], [883], [0, 0, 0, 0, 0, 0, 0, 0, 0, 0, 0, 0, 0], [0, 0, 0, 0, 0, 0, 0, 0, 0, 0, 0, 0, 0], [692], [], [], [], [], [], [], [], [1481, 1876, 1951, 0, 0, 0, 0, 0, 0, 0, 0, 0, 0, 0, 0, 0, 0, 0, 0, 0, 0, 0, 0, 0, 0, 2057], [], [], [], [], []]
def nxT : List (List Nat) := [[134, 1475], [142, 187, 343, 365, 367, 521, 724, 1027], [148], [193], [349], [199, 201], [373, 406, 428, 430], [527], [], [379], [412], [436], [207], [], [], [], [], [], []]
def gxT : List (List Nat) := [[], [], [], [], [], [], [], [], [], [], [], [], [], [], [], [], [827, 843], [], []]
def inT : List Nat := [0, 135, 143, 188, 344, 194, 368, 522, 149, 374, 407, 431, 202, 1476]
def iiT : List Nat := [0, 109, 110, 112, 115, 113, 116, 120, 111, 117, 118, 119, 114, 124]
def lx_1 : List Nat := [588, 590, 592, 594, 596, 598, 600, 602, 604, 606, 608, 610]
def lx_2 : List Nat := [170, 172, 174, 176, 178, 180, 182, 184]
def lx_3 : List Nat := [340]
def lx_4 : List Nat := [356, 358, 360, 362]
def lx_5 : List Nat := [299, 301, 303, 305, 307, 309, 311, 313, 315, 317, 319, 321, 323, 325, 327, 329, 331, 333, 335]
def lx_6 : List Nat := [484, 486, 488, 490, 492, 494, 496, 498, 500, 502, 504, 506, 508, 510, 512, 514, 516, 518]
def lx_7 : List Nat := [534, 536, 538]
def lx_8 : List Nat := [155]
def lx_9 : List Nat := [389, 391, 393, 395, 397, 399, 401, 403]
def lx_10 : List Nat := [421, 423, 425]
def lx_11 : List Nat := [442, 444, 446]
def lx_12 : List Nat := [217, 219, 221, 223, 225, 227]
def lx_13 : List Nat := [1513, 1515, 1517, 1519, 1521, 1523, 1525, 1527, 1529, 1531, 1533, 1535, 1537, 1539, 1541, 1543, 1545, 1547, 1549, 1551, 1553, 1555, 1557, 1559, 1561, 1563, 1565, 1567]
def zipB {α : Type} (f : α → Nat → Bool) : List α → List Nat → Bool
  | [], _ => true
  | _ :: _, [] => false
  | x :: l, i :: is => f x i && zipB f l is
theorem zipB_in {α : Type} {f : α → Nat → Bool} : ∀ {l : List α} {is : List Nat}, zipB f l is = true → ∀ q ∈ l, ∃ i, f q i = true
  | [], _, _, q, hq => by cases hq
  | _ :: _, [], h, _, _ => by cases h
  | x :: l, i :: is, h, q, hq => by
    have h : (f x i && zipB f l is) = true := h
    rw [Bool.and_eq_true] at h
    rcases List.mem_cons.mp hq with rfl | hq
    · exact ⟨i, h.1⟩
    · exact zipB_in h.2 q hq
theorem hasWs_in {is : List Nat} {ws : List Cond} (h : zipB (fun w i => hasW i w) ws is = true) : ∀ w ∈ ws, w ∈ gwT := fun w hw => by
  obtain ⟨i, hi⟩ := zipB_in h w hw
  exact hasW_in hi
def isO (t : FieldType) : Bool := match t with
  | .object _ => true
  | .array _ => true
  | _ => false
theorem isO_ok {t : FieldType} (h : isO t = true) : defaultValue t = .null ∧ ∀ a, fits t (.ref a) = true ∧ narrow t (.ref a) = .ref a := by
  cases t <;> first | exact ⟨rfl, fun a => ⟨rfl, rfl⟩⟩ | cases h
def ctB (t : Nat) (ty : Nat → FieldType) (idx : List Nat) : Bool := Nat.blt (kci t) 13 && Nat.beq (clT t).2.2 (nfT t) && zipB (fun w i => hasW i w) (u_ws (clT t).1 (clT t).2.1 (clT t).2.2) idx && (List.range (nfT t)).all (fun k => decide (parseFieldDescriptor ((clT t).2.1 k).2.2.1 = some (ty k)) && decide (((clT t).2.1 k).1 = (clT t).1) &&
  (bif Nat.beq (fkA t k).1 0 then decide (ty k = .int) && !((clT t).2.1 k).2.2.2 else bif Nat.beq (fkA t k).1 1 then decide (ty k = .boolean) && !((clT t).2.1 k).2.2.2 else Nat.beq (fkA t k).1 2 && ((clT t).2.1 k).2.2.2 && isO (ty k)))
theorem ctB_ok {t : Nat} {ty : Nat → FieldType} {idx : List Nat} (h : ctB t ty idx = true) (hn : ∀ a, a < (clT t).2.2 → ∀ b, b < (clT t).2.2 → a ≠ b → ((clT t).2.1 a).2.1 ≠ ((clT t).2.1 b).2.1) : CTok t := by
  unfold ctB at h
  rw [Bool.and_eq_true, Bool.and_eq_true, Bool.and_eq_true] at h
  obtain ⟨⟨⟨h1, h2⟩, h3⟩, h4⟩ := h
  have h1 := lt_of_blt h1
  have h2 := nbeq_t h2
  have key : ∀ k, k < (clT t).2.2 → _ := fun k hk => List.all_eq_true.mp h4 k (List.mem_range.mpr (by rw [← h2]; exact hk))
  refine ⟨?_, h2, hasWs_in h3, hn, ty, fun k hk => ?_, fun k hk => ?_⟩
  · have hl : vwCl.length = 13 := rfl
    unfold clT
    rw [List.getD_eq_getElem?_getD, List.getElem?_eq_getElem (by rw [hl]; exact h1)]
    rfl
  · have h5 := key k hk
    rw [Bool.and_eq_true, Bool.and_eq_true, decide_eq_true_eq] at h5
    exact h5.1.1
  · have h5 := key k hk
    rw [Bool.and_eq_true, Bool.and_eq_true, decide_eq_true_eq, decide_eq_true_eq] at h5
    refine ⟨h5.1.2, ?_⟩
    have h6 := h5.2
    cases e0 : Nat.beq (fkA t k).1 0 with
    | true =>
      rw [e0] at h6
      have h6 : (decide (ty k = .int) && !((clT t).2.1 k).2.2.2) = true := h6
      rw [Bool.and_eq_true, decide_eq_true_eq] at h6
      exact Or.inl ⟨nbeq_t e0, h6.1, by simpa using h6.2⟩
    | false =>
      rw [e0] at h6
      cases e1 : Nat.beq (fkA t k).1 1 with
      | true =>
        rw [e1] at h6
        have h6 : (decide (ty k = .boolean) && !((clT t).2.1 k).2.2.2) = true := h6
        rw [Bool.and_eq_true, decide_eq_true_eq] at h6
        exact Or.inr (Or.inl ⟨nbeq_t e1, h6.1, by simpa using h6.2⟩)
      | false =>
        rw [e1] at h6
        have h6 : (Nat.beq (fkA t k).1 2 && ((clT t).2.1 k).2.2.2 && isO (ty k)) = true := h6
        rw [Bool.and_eq_true, Bool.and_eq_true] at h6
        obtain ⟨g1, g2⟩ := isO_ok h6.2
        exact Or.inr (Or.inr ⟨nbeq_t h6.1.1, g1, h6.1.2, g2⟩)
/-- the layout: behind each object of a tag, at its place, an object of the other -/
def lyG (t dt : Nat) : List (Nat × Nat) → List (Nat × Nat) → Bool
  | [], _ => true
  | x :: l, [] => !(Nat.beq x.1 t) && lyG t dt l []
  | x :: l, y :: d => (!(Nat.beq x.1 t) || Nat.beq y.1 dt) && lyG t dt l d
theorem lyG_at {t dt : Nat} (h0 : t ≠ 0) : ∀ {l d : List (Nat × Nat)}, lyG t dt l d = true → ∀ a, (l.getD a (0, 0)).1 = t → (d.getD a (0, 0)).1 = dt
  | [], _, _, a, h => absurd (by simpa using h.symm) h0
  | x :: l, [], h, a, ha => by
    unfold lyG at h
    rw [Bool.and_eq_true] at h
    cases a with
    | zero =>
      have ha : x.1 = t := ha
      rw [ha, Nat.beq_refl] at h
      cases h.1
    | succ a =>
      have h1 := lyG_at h0 h.2 a ha
      simpa using h1
  | x :: l, y :: d, h, a, ha => by
    unfold lyG at h
    rw [Bool.and_eq_true] at h
    cases a with
    | zero =>
      have ha : x.1 = t := ha
      rw [ha, Nat.beq_refl] at h
      exact nbeq_t (by simpa using h.1)
    | succ a => exact lyG_at h0 h.2 a ha
theorem lyB_ok {t off dt : Nat} (h0 : t ≠ 0) (h : lyG t dt lay0 (lay0.drop off) = true) : ∀ a, tyA a = t → tyA (a + off) = dt := by
  intro a ha
  have h1 := lyG_at h0 h a ha
  rw [List.getD_eq_getElem?_getD, List.getElem?_drop, ← List.getD_eq_getElem?_getD] at h1
  unfold tyA
  rw [Nat.add_comm a off]
  exact h1
def feB (o : Nat) (q : Nat × (Nat × Nat × Nat × Nat × Nat)) (zi : Nat) : Bool := (Nat.ble 1 q.2.1 && Nat.ble q.2.1 13 && Nat.blt q.2.2.1 (nfT q.2.1) && Nat.beq (fkA q.2.1 q.2.2.1).1 q.2.2.2.1 && Nat.beq (fkA q.2.1 q.2.2.1).2 q.2.2.2.2.1 && Nat.ble q.2.2.2.1 2 && hasW zi (.fieldLink (cn o) q.1 (clT q.2.1).1 ((clT q.2.1).2.1 q.2.2.1).2.1 ((clT q.2.1).2.1 q.2.2.1).2.2.1) &&
  (!(Nat.beq q.2.2.2.1 2) || (Nat.blt 0 q.2.2.2.2.2 && Nat.ble q.2.2.2.2.2 16 && lyG q.2.1 q.2.2.2.2.2 lay0 (lay0.drop q.2.2.2.2.1)))) ||
  ((decide (q.2 = (18, 0, 4, 0, 19)) && hasW zi (.fieldLink (cn o) q.1 "java/lang/String" "value" "[B")) || (decide (q.2 = (18, 1, 3, 0, 0)) && hasW zi (.fieldLink (cn o) q.1 "java/lang/String" "coder" "B")))
theorem feB_ok {o zi : Nat} {q : Nat × (Nat × Nat × Nat × Nat × Nat)} (hCT : ∀ t, 1 ≤ t → t ≤ 13 → CTok t) (h : feB o q zi = true) : FEok o q := by
  unfold feB at h
  rw [Bool.or_eq_true, Bool.or_eq_true] at h
  rcases h with h | h | h
  · simp only [Bool.and_eq_true, Bool.or_eq_true] at h
    obtain ⟨⟨⟨⟨⟨⟨⟨h1, h2⟩, h3⟩, h4⟩, h5⟩, h6⟩, h7⟩, h8⟩ := h
    have h1 := Nat.le_of_ble_eq_true h1
    have h2 := Nat.le_of_ble_eq_true h2
    refine Or.inl ⟨h1, h2, hCT _ h1 h2, lt_of_blt h3, Prod.ext (nbeq_t h4) (nbeq_t h5), Nat.le_of_ble_eq_true h6, hasW_in h7, fun q2 => ?_⟩
    rw [q2] at h8
    rcases h8 with h8 | h8
    · cases h8
    · exact ⟨by have := lt_of_blt h8.1.1; omega, Nat.le_of_ble_eq_true h8.1.2, lyB_ok (by omega) h8.2⟩
  · rw [Bool.and_eq_true, decide_eq_true_eq] at h
    exact Or.inr (Or.inl ⟨h.1, hasW_in h.2⟩)
  · rw [Bool.and_eq_true, decide_eq_true_eq] at h
    exact Or.inr (Or.inr ⟨h.1, hasW_in h.2⟩)
def ceB (o : Nat) (q : Nat × PV) (zi : Nat) : Bool := match q.2 with
  | .inl v => hasW zi (.constant (cn o) q.1 v)
  | .inr (.inl v) => hasW zi (.constantLong (cn o) q.1 v)
  | .inr (.inr (t, _)) => Nat.beq t 18
theorem ceB_ok {o zi : Nat} {q : Nat × PV} (h : ceB o q zi = true) : CEok o q := by
  obtain ⟨i, v⟩ := q
  rcases v with v | v | ⟨t, a⟩
  · exact Or.inl ⟨v, rfl, hasW_in h⟩
  · exact Or.inr (Or.inl ⟨v, rfl, hasW_in h⟩)
  · have h : Nat.beq t 18 = true := h
    have h := nbeq_t h
    subst h
    exact Or.inr (Or.inr ⟨a, rfl⟩)
def neB (o : Nat) (q : Nat × (Nat × Nat)) (zi : Nat) : Bool := Nat.blt 100 q.2.1 || (Nat.ble q.2.1 13 && Nat.ble 1 q.2.1 && Nat.beq q.2.2 (clT q.2.1).2.2 && hasW zi (.classLink (cn o) q.1 (clT q.2.1).1) && hasW (inT.getD q.2.1 0) (.instantiable (clT q.2.1).1 q.2.2) && hasW (iiT.getD q.2.1 0) (.initialized (clT q.2.1).1))
theorem neB_ok {o zi : Nat} {q : Nat × (Nat × Nat)} (hCT : ∀ t, 1 ≤ t → t ≤ 13 → CTok t) (h : neB o q zi = true) : NEok o q := by
  intro h0
  unfold neB at h
  rw [Bool.or_eq_true] at h
  rcases h with h | h
  · have := lt_of_blt h
    omega
  · simp only [Bool.and_eq_true] at h
    obtain ⟨⟨⟨⟨⟨h1, h2⟩, h3⟩, h4⟩, h5⟩, h6⟩ := h
    have h1 := Nat.le_of_ble_eq_true h1
    have h2 := Nat.le_of_ble_eq_true h2
    exact ⟨h1, by omega, hCT _ h2 h1, nbeq_t h3, hasW_in h4, hasW_in h5, hasW_in h6⟩
def gsB (o : Nat) (q : Nat × PV) (zi : Nat) : Bool := (decide (q.2 = pI 1) && hasW zi (.fieldLink (cn o) q.1 "java/lang/String" "COMPACT_STRINGS" "Z")) || (decide (q.2 = pR 20 0) && hasW zi (.fieldLink (cn o) q.1 "jdk/internal/util/Preconditions" "SIOOBE_FORMATTER" sioD))
theorem gsB_ok {o zi : Nat} {q : Nat × PV} (h : gsB o q zi = true) : (q.2 = pI 1 ∧ Cond.fieldLink (cn o) q.1 "java/lang/String" "COMPACT_STRINGS" "Z" ∈ gwT) ∨ (q.2 = pR 20 0 ∧ Cond.fieldLink (cn o) q.1 "jdk/internal/util/Preconditions" "SIOOBE_FORMATTER" sioD ∈ gwT) := by
  unfold gsB at h
  rw [Bool.or_eq_true, Bool.and_eq_true, Bool.and_eq_true, decide_eq_true_eq, decide_eq_true_eq] at h
  rcases h with h | h
  · exact Or.inl ⟨h.1, hasW_in h.2⟩
  · exact Or.inr ⟨h.1, hasW_in h.2⟩
def poolB (o : Nat) : Bool := zipB (feB o) (fldP o) (fxT.getD o []) && zipB (ceB o) (cstP o) (cxT.getD o []) && zipB (neB o) (nclP o) (nxT.getD o []) && zipB (gsB o) (gstP o) (gxT.getD o []) && Nat.blt o 19
theorem poolB_ok {o : Nat} (hCT : ∀ t, 1 ≤ t → t ≤ 13 → CTok t) (h : poolB o = true) : POOL o := by
  unfold poolB at h
  rw [Bool.and_eq_true, Bool.and_eq_true, Bool.and_eq_true, Bool.and_eq_true] at h
  obtain ⟨⟨⟨⟨h1, h2⟩, h3⟩, h4⟩, h5⟩ := h
  exact ⟨fun q hq => (zipB_in h1 q hq).elim fun _ g => feB_ok hCT g, fun q hq => (zipB_in h2 q hq).elim fun _ g => ceB_ok g, fun q hq => (zipB_in h3 q hq).elim fun _ g => neB_ok hCT g, fun q hq => (zipB_in h4 q hq).elim fun _ g => gsB_ok g, lt_of_blt h5⟩
set_option maxRecDepth 100000
theorem ct_1 : CTok 1 := ctB_ok (ty := tyX11) (idx := lx_1) (by decide +kernel) nmX11
theorem ct_2 : CTok 2 := ctB_ok (ty := tyX10) (idx := lx_2) (by decide +kernel) nmX10
theorem ct_3 : CTok 3 := ctB_ok (ty := tyX1) (idx := lx_3) (by decide +kernel) nmX1
theorem ct_4 : CTok 4 := ctB_ok (ty := tyX5) (idx := lx_4) (by decide +kernel) nmX5
theorem ct_5 : CTok 5 := ctB_ok (ty := tyX4) (idx := lx_5) (by decide +kernel) nmX4
theorem ct_6 : CTok 6 := ctB_ok (ty := tyX9) (idx := lx_6) (by decide +kernel) nmX9
theorem ct_7 : CTok 7 := ctB_ok (ty := tyX0) (idx := lx_7) (by decide +kernel) nmX0
theorem ct_8 : CTok 8 := ctB_ok (ty := tyX8) (idx := lx_8) (by decide +kernel) nmX8
theorem ct_9 : CTok 9 := ctB_ok (ty := tyX7) (idx := lx_9) (by decide +kernel) nmX7
theorem ct_10 : CTok 10 := ctB_ok (ty := tyX6) (idx := lx_10) (by decide +kernel) nmX6
theorem ct_11 : CTok 11 := ctB_ok (ty := tyX3) (idx := lx_11) (by decide +kernel) nmX3
theorem ct_12 : CTok 12 := ctB_ok (ty := tyX2) (idx := lx_12) (by decide +kernel) nmX2
theorem ct_13 : CTok 13 := ctB_ok (ty := tyX12) (idx := lx_13) (by decide +kernel) nmX12
theorem ct_all : ∀ t, 1 ≤ t → t ≤ 13 → CTok t := by
  intro t h1 h2
  match t, h1, h2 with
  | 1, _, _ => exact ct_1
  | 2, _, _ => exact ct_2
  | 3, _, _ => exact ct_3
  | 4, _, _ => exact ct_4
  | 5, _, _ => exact ct_5
  | 6, _, _ => exact ct_6
  | 7, _, _ => exact ct_7
  | 8, _, _ => exact ct_8
  | 9, _, _ => exact ct_9
  | 10, _, _ => exact ct_10
  | 11, _, _ => exact ct_11
  | 12, _, _ => exact ct_12
  | 13, _, _ => exact ct_13
  | t + 14, _, h2 => omega
  | 0, h1, _ => omega
theorem po_0 : POOL 0 := poolB_ok ct_all (by decide +kernel)
theorem po_1 : POOL 1 := poolB_ok ct_all (by decide +kernel)
theorem po_2 : POOL 2 := poolB_ok ct_all (by decide +kernel)
theorem po_3 : POOL 3 := poolB_ok ct_all (by decide +kernel)
theorem po_4 : POOL 4 := poolB_ok ct_all (by decide +kernel)
theorem po_5 : POOL 5 := poolB_ok ct_all (by decide +kernel)
theorem po_6 : POOL 6 := poolB_ok ct_all (by decide +kernel)
theorem po_7 : POOL 7 := poolB_ok ct_all (by decide +kernel)
theorem po_8 : POOL 8 := poolB_ok ct_all (by decide +kernel)
theorem po_9 : POOL 9 := poolB_ok ct_all (by decide +kernel)
theorem po_10 : POOL 10 := poolB_ok ct_all (by decide +kernel)
theorem po_11 : POOL 11 := poolB_ok ct_all (by decide +kernel)
theorem po_12 : POOL 12 := poolB_ok ct_all (by decide +kernel)
theorem po_13 : POOL 13 := poolB_ok ct_all (by decide +kernel)
theorem po_14 : POOL 14 := poolB_ok ct_all (by decide +kernel)
theorem po_15 : POOL 15 := poolB_ok ct_all (by decide +kernel)
theorem po_16 : POOL 16 := poolB_ok ct_all (by decide +kernel)
theorem po_17 : POOL 17 := poolB_ok ct_all (by decide +kernel)
theorem po_18 : POOL 18 := poolB_ok ct_all (by decide +kernel)
theorem aw_i : Cond.arrayClass .int ∈ gwT := hasW_in (i := 158) (by decide +kernel)
theorem aw_l : Cond.arrayClass .long ∈ gwT := hasW_in (i := 2058) (by decide +kernel)
end
section
/-! each ordinary method, instruction by instruction, by count -/
def okM (m : Nat) : Bool := !(Nat.beq (mkM m) 0) || (MDok m && isCd m && (pt m).all (fun e => ckE (byN m) m e))
end
section
/-! methods 0.. -/
section MCK0
set_option maxRecDepth 100000
theorem mc_0 : ((List.range 4).all fun i => okM (0 + i)) = true := by decide +kernel
theorem mc_4 : ((List.range 4).all fun i => okM (4 + i)) = true := by decide +kernel
theorem mc_8 : ((List.range 4).all fun i => okM (8 + i)) = true := by decide +kernel
theorem mc_12 : ((List.range 4).all fun i => okM (12 + i)) = true := by decide +kernel
theorem mc_16 : ((List.range 4).all fun i => okM (16 + i)) = true := by decide +kernel
theorem mc_20 : ((List.range 4).all fun i => okM (20 + i)) = true := by decide +kernel
theorem mc_24 : ((List.range 4).all fun i => okM (24 + i)) = true := by decide +kernel
theorem mc_28 : ((List.range 4).all fun i => okM (28 + i)) = true := by decide +kernel
end MCK0
end
section
/-! methods 32.. -/
section MCK1
set_option maxRecDepth 100000
theorem mc_32 : ((List.range 4).all fun i => okM (32 + i)) = true := by decide +kernel
theorem mc_36 : ((List.range 4).all fun i => okM (36 + i)) = true := by decide +kernel
theorem mc_40 : ((List.range 4).all fun i => okM (40 + i)) = true := by decide +kernel
theorem mc_44 : ((List.range 4).all fun i => okM (44 + i)) = true := by decide +kernel
theorem mc_48 : ((List.range 4).all fun i => okM (48 + i)) = true := by decide +kernel
theorem mc_52 : ((List.range 4).all fun i => okM (52 + i)) = true := by decide +kernel
theorem mc_56 : ((List.range 4).all fun i => okM (56 + i)) = true := by decide +kernel
theorem mc_60 : ((List.range 4).all fun i => okM (60 + i)) = true := by decide +kernel
end MCK1
end
section
/-! methods 64.. -/
section MCK2
set_option maxRecDepth 100000
theorem mc_64 : ((List.range 4).all fun i => okM (64 + i)) = true := by decide +kernel
theorem mc_68 : ((List.range 4).all fun i => okM (68 + i)) = true := by decide +kernel
theorem mc_72 : ((List.range 4).all fun i => okM (72 + i)) = true := by decide +kernel
theorem mc_76 : ((List.range 4).all fun i => okM (76 + i)) = true := by decide +kernel
theorem mc_80 : ((List.range 4).all fun i => okM (80 + i)) = true := by decide +kernel
theorem mc_84 : ((List.range 4).all fun i => okM (84 + i)) = true := by decide +kernel
theorem mc_88 : ((List.range 4).all fun i => okM (88 + i)) = true := by decide +kernel
theorem mc_92 : ((List.range 4).all fun i => okM (92 + i)) = true := by decide +kernel
end MCK2
end
section
/-! methods 96.. -/
section MCK3
set_option maxRecDepth 100000
theorem mc_96 : ((List.range 4).all fun i => okM (96 + i)) = true := by decide +kernel
theorem mc_100 : ((List.range 4).all fun i => okM (100 + i)) = true := by decide +kernel
theorem mc_104 : ((List.range 4).all fun i => okM (104 + i)) = true := by decide +kernel
theorem mc_108 : ((List.range 4).all fun i => okM (108 + i)) = true := by decide +kernel
theorem mc_112 : ((List.range 4).all fun i => okM (112 + i)) = true := by decide +kernel
theorem mc_116 : ((List.range 4).all fun i => okM (116 + i)) = true := by decide +kernel
theorem mc_120 : ((List.range 4).all fun i => okM (120 + i)) = true := by decide +kernel
theorem mc_124 : ((List.range 4).all fun i => okM (124 + i)) = true := by decide +kernel
end MCK3
end
section
/-! methods 128.. -/
section MCK4
set_option maxRecDepth 100000
theorem mc_128 : ((List.range 4).all fun i => okM (128 + i)) = true := by decide +kernel
theorem mc_132 : ((List.range 4).all fun i => okM (132 + i)) = true := by decide +kernel
theorem mc_136 : ((List.range 4).all fun i => okM (136 + i)) = true := by decide +kernel
theorem mc_140 : ((List.range 4).all fun i => okM (140 + i)) = true := by decide +kernel
theorem mc_144 : ((List.range 4).all fun i => okM (144 + i)) = true := by decide +kernel
theorem mc_148 : ((List.range 4).all fun i => okM (148 + i)) = true := by decide +kernel
theorem mc_152 : ((List.range 4).all fun i => okM (152 + i)) = true := by decide +kernel
theorem mc_156 : ((List.range 4).all fun i => okM (156 + i)) = true := by decide +kernel
end MCK4
end
section
/-! methods 160.. -/
section MCK5
set_option maxRecDepth 100000
theorem mc_160 : ((List.range 4).all fun i => okM (160 + i)) = true := by decide +kernel
theorem mc_164 : ((List.range 4).all fun i => okM (164 + i)) = true := by decide +kernel
theorem mc_168 : ((List.range 4).all fun i => okM (168 + i)) = true := by decide +kernel
theorem mc_172 : ((List.range 4).all fun i => okM (172 + i)) = true := by decide +kernel
theorem mc_176 : ((List.range 4).all fun i => okM (176 + i)) = true := by decide +kernel
theorem mc_180 : ((List.range 4).all fun i => okM (180 + i)) = true := by decide +kernel
theorem mc_184 : ((List.range 4).all fun i => okM (184 + i)) = true := by decide +kernel
theorem mc_188 : ((List.range 4).all fun i => okM (188 + i)) = true := by decide +kernel
end MCK5
end
section
/-! methods 192.. -/
section MCK6
set_option maxRecDepth 100000
theorem mc_192 : ((List.range 4).all fun i => okM (192 + i)) = true := by decide +kernel
theorem mc_196 : ((List.range 4).all fun i => okM (196 + i)) = true := by decide +kernel
theorem mc_200 : ((List.range 4).all fun i => okM (200 + i)) = true := by decide +kernel
theorem mc_204 : ((List.range 4).all fun i => okM (204 + i)) = true := by decide +kernel
theorem mc_208 : ((List.range 4).all fun i => okM (208 + i)) = true := by decide +kernel
theorem mc_212 : ((List.range 4).all fun i => okM (212 + i)) = true := by decide +kernel
theorem mc_216 : ((List.range 4).all fun i => okM (216 + i)) = true := by decide +kernel
theorem mc_220 : ((List.range 4).all fun i => okM (220 + i)) = true := by decide +kernel
end MCK6
end
section
/-! methods 224.. -/
section MCK7
set_option maxRecDepth 100000
theorem mc_224 : ((List.range 4).all fun i => okM (224 + i)) = true := by decide +kernel
theorem mc_228 : ((List.range 4).all fun i => okM (228 + i)) = true := by decide +kernel
theorem mc_232 : ((List.range 4).all fun i => okM (232 + i)) = true := by decide +kernel
theorem mc_236 : ((List.range 4).all fun i => okM (236 + i)) = true := by decide +kernel
theorem mc_240 : ((List.range 4).all fun i => okM (240 + i)) = true := by decide +kernel
theorem mc_244 : ((List.range 4).all fun i => okM (244 + i)) = true := by decide +kernel
theorem mc_248 : ((List.range 4).all fun i => okM (248 + i)) = true := by decide +kernel
theorem mc_252 : ((List.range 4).all fun i => okM (252 + i)) = true := by decide +kernel
end MCK7
end
section
/-! methods 256.. -/
section MCK8
set_option maxRecDepth 100000
theorem mc_256 : ((List.range 4).all fun i => okM (256 + i)) = true := by decide +kernel
theorem mc_260 : ((List.range 4).all fun i => okM (260 + i)) = true := by decide +kernel
theorem mc_264 : ((List.range 4).all fun i => okM (264 + i)) = true := by decide +kernel
theorem mc_268 : ((List.range 4).all fun i => okM (268 + i)) = true := by decide +kernel
theorem mc_272 : ((List.range 4).all fun i => okM (272 + i)) = true := by decide +kernel
theorem mc_276 : ((List.range 4).all fun i => okM (276 + i)) = true := by decide +kernel
theorem mc_280 : ((List.range 4).all fun i => okM (280 + i)) = true := by decide +kernel
theorem mc_284 : ((List.range 4).all fun i => okM (284 + i)) = true := by decide +kernel
end MCK8
end
section
/-! methods 288.. -/
section MCK9
set_option maxRecDepth 100000
theorem mc_288 : ((List.range 4).all fun i => okM (288 + i)) = true := by decide +kernel
theorem mc_292 : ((List.range 4).all fun i => okM (292 + i)) = true := by decide +kernel
theorem mc_296 : ((List.range 4).all fun i => okM (296 + i)) = true := by decide +kernel
theorem mc_300 : ((List.range 4).all fun i => okM (300 + i)) = true := by decide +kernel
theorem mc_304 : ((List.range 4).all fun i => okM (304 + i)) = true := by decide +kernel
theorem mc_308 : ((List.range 4).all fun i => okM (308 + i)) = true := by decide +kernel
end MCK9
end
section
/-! all ordinary methods -/
theorem ok_all : ∀ m, m < 312 → okM m = true := by
  intro m hm
  have key : ∀ a b, (((List.range b).all fun i => okM (a + i)) = true) → a ≤ m → m < a + b → okM m = true := fun a b h h1 h2 => by
    have h3 := List.all_eq_true.mp h (m - a) (List.mem_range.mpr (by omega))
    rw [show a + (m - a) = m by omega] at h3
    exact h3
  rcases Nat.lt_or_ge m 4 with h | h
  · exact key _ _ mc_0 (by omega) (by omega)
  rcases Nat.lt_or_ge m 8 with h | h
  · exact key _ _ mc_4 (by omega) (by omega)
  rcases Nat.lt_or_ge m 12 with h | h
  · exact key _ _ mc_8 (by omega) (by omega)
  rcases Nat.lt_or_ge m 16 with h | h
  · exact key _ _ mc_12 (by omega) (by omega)
  rcases Nat.lt_or_ge m 20 with h | h
  · exact key _ _ mc_16 (by omega) (by omega)
  rcases Nat.lt_or_ge m 24 with h | h
  · exact key _ _ mc_20 (by omega) (by omega)
  rcases Nat.lt_or_ge m 28 with h | h
  · exact key _ _ mc_24 (by omega) (by omega)
  rcases Nat.lt_or_ge m 32 with h | h
  · exact key _ _ mc_28 (by omega) (by omega)
  rcases Nat.lt_or_ge m 36 with h | h
  · exact key _ _ mc_32 (by omega) (by omega)
  rcases Nat.lt_or_ge m 40 with h | h
  · exact key _ _ mc_36 (by omega) (by omega)
  rcases Nat.lt_or_ge m 44 with h | h
  · exact key _ _ mc_40 (by omega) (by omega)
  rcases Nat.lt_or_ge m 48 with h | h
  · exact key _ _ mc_44 (by omega) (by omega)
  rcases Nat.lt_or_ge m 52 with h | h
  · exact key _ _ mc_48 (by omega) (by omega)
  rcases Nat.lt_or_ge m 56 with h | h
  · exact key _ _ mc_52 (by omega) (by omega)
  rcases Nat.lt_or_ge m 60 with h | h
  · exact key _ _ mc_56 (by omega) (by omega)
  rcases Nat.lt_or_ge m 64 with h | h
  · exact key _ _ mc_60 (by omega) (by omega)
  rcases Nat.lt_or_ge m 68 with h | h
  · exact key _ _ mc_64 (by omega) (by omega)
  rcases Nat.lt_or_ge m 72 with h | h
  · exact key _ _ mc_68 (by omega) (by omega)
  rcases Nat.lt_or_ge m 76 with h | h
  · exact key _ _ mc_72 (by omega) (by omega)
  rcases Nat.lt_or_ge m 80 with h | h
  · exact key _ _ mc_76 (by omega) (by omega)
  rcases Nat.lt_or_ge m 84 with h | h
  · exact key _ _ mc_80 (by omega) (by omega)
  rcases Nat.lt_or_ge m 88 with h | h
  · exact key _ _ mc_84 (by omega) (by omega)
  rcases Nat.lt_or_ge m 92 with h | h
  · exact key _ _ mc_88 (by omega) (by omega)
  rcases Nat.lt_or_ge m 96 with h | h
  · exact key _ _ mc_92 (by omega) (by omega)
  rcases Nat.lt_or_ge m 100 with h | h
  · exact key _ _ mc_96 (by omega) (by omega)
  rcases Nat.lt_or_ge m 104 with h | h
  · exact key _ _ mc_100 (by omega) (by omega)
  rcases Nat.lt_or_ge m 108 with h | h
  · exact key _ _ mc_104 (by omega) (by omega)
  rcases Nat.lt_or_ge m 112 with h | h
  · exact key _ _ mc_108 (by omega) (by omega)
  rcases Nat.lt_or_ge m 116 with h | h
  · exact key _ _ mc_112 (by omega) (by omega)
  rcases Nat.lt_or_ge m 120 with h | h
  · exact key _ _ mc_116 (by omega) (by omega)
  rcases Nat.lt_or_ge m 124 with h | h
  · exact key _ _ mc_120 (by omega) (by omega)
  rcases Nat.lt_or_ge m 128 with h | h
  · exact key _ _ mc_124 (by omega) (by omega)
  rcases Nat.lt_or_ge m 132 with h | h
  · exact key _ _ mc_128 (by omega) (by omega)
  rcases Nat.lt_or_ge m 136 with h | h
  · exact key _ _ mc_132 (by omega) (by omega)
  rcases Nat.lt_or_ge m 140 with h | h
  · exact key _ _ mc_136 (by omega) (by omega)
  rcases Nat.lt_or_ge m 144 with h | h
  · exact key _ _ mc_140 (by omega) (by omega)
  rcases Nat.lt_or_ge m 148 with h | h
  · exact key _ _ mc_144 (by omega) (by omega)
  rcases Nat.lt_or_ge m 152 with h | h
  · exact key _ _ mc_148 (by omega) (by omega)
  rcases Nat.lt_or_ge m 156 with h | h
  · exact key _ _ mc_152 (by omega) (by omega)
  rcases Nat.lt_or_ge m 160 with h | h
  · exact key _ _ mc_156 (by omega) (by omega)
  rcases Nat.lt_or_ge m 164 with h | h
  · exact key _ _ mc_160 (by omega) (by omega)
  rcases Nat.lt_or_ge m 168 with h | h
  · exact key _ _ mc_164 (by omega) (by omega)
  rcases Nat.lt_or_ge m 172 with h | h
  · exact key _ _ mc_168 (by omega) (by omega)
  rcases Nat.lt_or_ge m 176 with h | h
  · exact key _ _ mc_172 (by omega) (by omega)
  rcases Nat.lt_or_ge m 180 with h | h
  · exact key _ _ mc_176 (by omega) (by omega)
  rcases Nat.lt_or_ge m 184 with h | h
  · exact key _ _ mc_180 (by omega) (by omega)
  rcases Nat.lt_or_ge m 188 with h | h
  · exact key _ _ mc_184 (by omega) (by omega)
  rcases Nat.lt_or_ge m 192 with h | h
  · exact key _ _ mc_188 (by omega) (by omega)
  rcases Nat.lt_or_ge m 196 with h | h
  · exact key _ _ mc_192 (by omega) (by omega)
  rcases Nat.lt_or_ge m 200 with h | h
  · exact key _ _ mc_196 (by omega) (by omega)
  rcases Nat.lt_or_ge m 204 with h | h
  · exact key _ _ mc_200 (by omega) (by omega)
  rcases Nat.lt_or_ge m 208 with h | h
  · exact key _ _ mc_204 (by omega) (by omega)
  rcases Nat.lt_or_ge m 212 with h | h
  · exact key _ _ mc_208 (by omega) (by omega)
  rcases Nat.lt_or_ge m 216 with h | h
  · exact key _ _ mc_212 (by omega) (by omega)
  rcases Nat.lt_or_ge m 220 with h | h
  · exact key _ _ mc_216 (by omega) (by omega)
  rcases Nat.lt_or_ge m 224 with h | h
  · exact key _ _ mc_220 (by omega) (by omega)
  rcases Nat.lt_or_ge m 228 with h | h
  · exact key _ _ mc_224 (by omega) (by omega)
  rcases Nat.lt_or_ge m 232 with h | h
  · exact key _ _ mc_228 (by omega) (by omega)
  rcases Nat.lt_or_ge m 236 with h | h
  · exact key _ _ mc_232 (by omega) (by omega)
  rcases Nat.lt_or_ge m 240 with h | h
  · exact key _ _ mc_236 (by omega) (by omega)
  rcases Nat.lt_or_ge m 244 with h | h
  · exact key _ _ mc_240 (by omega) (by omega)
  rcases Nat.lt_or_ge m 248 with h | h
  · exact key _ _ mc_244 (by omega) (by omega)
  rcases Nat.lt_or_ge m 252 with h | h
  · exact key _ _ mc_248 (by omega) (by omega)
  rcases Nat.lt_or_ge m 256 with h | h
  · exact key _ _ mc_252 (by omega) (by omega)
  rcases Nat.lt_or_ge m 260 with h | h
  · exact key _ _ mc_256 (by omega) (by omega)
  rcases Nat.lt_or_ge m 264 with h | h
  · exact key _ _ mc_260 (by omega) (by omega)
  rcases Nat.lt_or_ge m 268 with h | h
  · exact key _ _ mc_264 (by omega) (by omega)
  rcases Nat.lt_or_ge m 272 with h | h
  · exact key _ _ mc_268 (by omega) (by omega)
  rcases Nat.lt_or_ge m 276 with h | h
  · exact key _ _ mc_272 (by omega) (by omega)
  rcases Nat.lt_or_ge m 280 with h | h
  · exact key _ _ mc_276 (by omega) (by omega)
  rcases Nat.lt_or_ge m 284 with h | h
  · exact key _ _ mc_280 (by omega) (by omega)
  rcases Nat.lt_or_ge m 288 with h | h
  · exact key _ _ mc_284 (by omega) (by omega)
  rcases Nat.lt_or_ge m 292 with h | h
  · exact key _ _ mc_288 (by omega) (by omega)
  rcases Nat.lt_or_ge m 296 with h | h
  · exact key _ _ mc_292 (by omega) (by omega)
  rcases Nat.lt_or_ge m 300 with h | h
  · exact key _ _ mc_296 (by omega) (by omega)
  rcases Nat.lt_or_ge m 304 with h | h
  · exact key _ _ mc_300 (by omega) (by omega)
  rcases Nat.lt_or_ge m 308 with h | h
  · exact key _ _ mc_304 (by omega) (by omega)
  rcases Nat.lt_or_ge m 312 with h | h
  · exact key _ _ mc_308 (by omega) (by omega)
  omega
end
section
/-! all ordinary methods' contracts -/
section ALL20
set_option maxRecDepth 100000
theorem own_lt : ∀ m, m < 312 → ownM m < 19 := by
  have h : ((List.range 312).all fun m => Nat.blt (ownM m) 19) = true := by decide +kernel
  intro m hm
  exact lt_of_blt (List.all_eq_true.mp h m (List.mem_range.mpr hm))
theorem po_all : ∀ o, o < 19 → POOL o
  | 0, _ => po_0
  | 1, _ => po_1
  | 2, _ => po_2
  | 3, _ => po_3
  | 4, _ => po_4
  | 5, _ => po_5
  | 6, _ => po_6
  | 7, _ => po_7
  | 8, _ => po_8
  | 9, _ => po_9
  | 10, _ => po_10
  | 11, _ => po_11
  | 12, _ => po_12
  | 13, _ => po_13
  | 14, _ => po_14
  | 15, _ => po_15
  | 16, _ => po_16
  | 17, _ => po_17
  | 18, _ => po_18
  | n + 19, h => absurd h (by omega)
theorem mk_len : mkT.length = 312 := by decide +kernel
theorem mk_lt {m : Nat} (h : mkM m ≠ 3) : m < 312 := by
  rcases Nat.lt_or_ge m 312 with q | q
  · exact q
  · exfalso
    apply h
    unfold mkM
    rw [List.getD_eq_getElem?_getD, List.getElem?_eq_none (by rw [mk_len]; exact q)]
    rfl
theorem gw_all : ∀ w ∈ gwT, goodWord w = true := fun _ h => (List.mem_filter.mp h).2
theorem con_one {l : Launch} {G : EG} {m lv : Nat} (hm : mkM m = 0) (hlv : lv ≤ 40 ∧ (rgM m = 0 → lv = 0)) (hIH : ∀ m' lv', mkM m' = 0 → rankM m' lv' + 1 ≤ rankM m lv → lv' ≤ 40 → (rgM m' = 0 → lv' = 0) → CON l G m' lv') : CON l G m lv := by
  have hlt := mk_lt (m := m) (by rw [hm]; decide)
  have h := ok_all m hlt
  unfold okM at h
  rw [hm] at h
  have h : (MDok m && isCd m && (pt m).all (fun e => ckE (byN m) m e)) = true := h
  rw [Bool.and_eq_true, Bool.and_eq_true] at h
  exact con_ord h.1.1 (cd_ok h.1.2) gw_all h.2 (po_all _ (own_lt m hlt)) aw_i aw_l ct_all hlv hIH
theorem con_all {l : Launch} {G : EG} : ∀ (n m lv : Nat), rankM m lv ≤ n → mkM m = 0 → lv ≤ 40 → (rgM m = 0 → lv = 0) → CON l G m lv := by
  intro n
  induction n with
  | zero =>
    intro m lv hr hm h1 h2
    exact con_one hm ⟨h1, h2⟩ fun m' lv' _ h5 _ _ => absurd h5 (by omega)
  | succ n ih =>
    intro m lv hr hm h1 h2
    exact con_one hm ⟨h1, h2⟩ fun m' lv' h4 h5 h6 h7 => ih m' lv' (by omega) h4 h6 h7
end ALL20
end
section
/-! the methods that throw -/
section THR
variable {p : Program} {l : Launch} {e : Env} {R : Room} {s : State} {m : MethodId} {args : Array Value} {below : List Frame} {meth : Method} {c : Code} {Qc : Array Value → State → Outcome → State → Prop} {cc : ByteArray} {G : EG} {mi lv nL : Nat} {ph : Bool} {r0 : PRs} {pc : Nat}
set_option maxRecDepth 100000
def exK (k : Nat) : Nat := bif Nat.beq k 101 then 159 else 81
def exI (k : Nat) : Nat := bif Nat.beq k 101 then 161 else 83
def exNs : List String := ["java/lang/RuntimeException", "java/lang/Exception"]
def thx1 : List Nat := [125, 746, 755, 758, 761, 763, 747, 748, 140, 141, 749, 754, 759, 775, 736, 776, 738, 777, 740, 750, 752, 742, 1037, 1038, 1039, 768, 727, 768, 769, 770, 771, 729, 771, 772, 773, 747, 731, 1036, 1028, 1029, 1030, 757, 1031, 1032, 1033, 1034, 745, 744, 1035]
def thx2 : List Nat := [125, 746, 755, 758, 761, 763, 747, 748, 140, 141, 749, 754, 759, 775, 736, 776, 738, 777, 740, 750, 752, 742, 765, 766, 767, 768, 727, 768, 769, 770, 771, 729, 771, 772, 773, 747, 731, 764, 725, 726, 733, 734, 735, 737, 739, 741, 745, 744, 743]
def spG (w : Cond) (i : Nat) : Bool := decide (lw_tbl[i]? = some w) && (goodWord w || (spW w && w.onTables))
theorem sp_in {L : List Cond} {ix : List Nat} (h : zipB spG L ix = true) (hts : ∀ w ∈ gwT, w.before args s = true) (hSI : SI G s) : ∀ w ∈ L, w.before args s = true := fun w hw => by
  obtain ⟨i, hi⟩ := zipB_in h w hw
  unfold spG at hi
  rw [Bool.and_eq_true, decide_eq_true_eq, Bool.or_eq_true, Bool.and_eq_true] at hi
  obtain ⟨h1, h2 | ⟨h2, h3⟩⟩ := hi
  · exact hts w (gw_of h1 h2)
  · exact va_Nw.use h3 (hSI.2.2.2.2.2.2.2.1 w (List.mem_of_getElem? h1) h2)
theorem tw1 : zipB spG (vx_at0 "MergeBelts" 161 "java/util/NoSuchElementException" exNs) thx1 = true := by decide +kernel
theorem tw2 : zipB spG (vx_at0 "MergeBelts" 83 "java/lang/IllegalArgumentException" exNs) thx2 = true := by decide +kernel
theorem tg1 : (Cond.classLink "MergeBelts" 159 "java/util/NoSuchElementException" :: Cond.initialized "java/util/NoSuchElementException" :: vx_at0 "MergeBelts" 161 "java/util/NoSuchElementException" exNs).all vx_ot = true := by decide +kernel
theorem tg2 : (Cond.classLink "MergeBelts" 81 "java/lang/IllegalArgumentException" :: Cond.initialized "java/lang/IllegalArgumentException" :: vx_at0 "MergeBelts" 83 "java/lang/IllegalArgumentException" exNs).all vx_ot = true := by decide +kernel
theorem ex_ns : ∀ n ∈ exNs, Bundle.fit n = true := by
  have h : exNs.all Bundle.fit = true := by decide +kernel
  exact fun n hn => List.all_eq_true.mp h n hn
theorem ex_all {k : Nat} (hk : k = 101 ∨ k = 102) (hts : ∀ w ∈ gwT, w.before args s = true) (hSI : SI G s) : Bundle.fit (exN (k - 100)) = true ∧ (Cond.classLink "MergeBelts" (exK k) (exN (k - 100))).before args s = true ∧ (Cond.initialized (exN (k - 100))).before args s = true ∧ (∀ w ∈ vx_at0 "MergeBelts" (exI k) (exN (k - 100)) exNs, w.before args s = true) ∧
    (∀ w ∈ Cond.classLink "MergeBelts" (exK k) (exN (k - 100)) :: Cond.initialized (exN (k - 100)) :: vx_at0 "MergeBelts" (exI k) (exN (k - 100)) exNs, vx_ot w = true) := by
  rcases hk with rfl | rfl
  · exact ⟨by decide +kernel, hts _ (hasW_in (i := 1027) (by decide +kernel)), hts _ (hasW_in (i := 133) (by decide +kernel)), sp_in tw1 hts hSI, fun w hw => List.all_eq_true.mp tg1 w hw⟩
  · exact ⟨by decide +kernel, hts _ (hasW_in (i := 724) (by decide +kernel)), hts _ (hasW_in (i := 128) (by decide +kernel)), sp_in tw2 hts hSI, fun w hw => List.all_eq_true.mp tg2 w hw⟩
def thE (cc : ByteArray) (mi : Nat) (e : PE) : Bool := match e.2.1 with
  | .new i => match lkp (nclP (ownM mi)) i with
    | some t => Nat.beq (ownM mi) 1 && (Nat.beq t.1 101 || Nat.beq t.1 102) && Nat.beq i (exK t.1) && decide (decode cc e.1 = .ok (.new i, 3)) && decide (decode cc (e.1 + 3) = .ok (.dup, 1)) && decide (decode cc (e.1 + 4) = .ok (.invokespecial (exI t.1), 3)) && decide (decode cc (e.1 + 7) = .ok (.athrow, 1))
    | none => false
  | _ => false
theorem step_th {ph0 : Bool} {i : Instr × Nat × Nat × Int32} (hx : p.tables.exec = Jvm.exec) (hb : c.code = cc) (hl : l.stackTraces = false) (hF : CF l R s m args c G mi lv nL) (hlocks : meth.locks = false) (hout : ∀ x ∈ c.exceptionTable.toList, False) (hfr : 5 < R.frames) (hlo : 89 ≤ R.locals)
    (hth : thE cc mi (pc, i) = true) : STEP p l e R s m args below meth c (vx_MQ below Qc (XC9 G r0) args s (mcM mi) (msM mi) (gA G)) G mi lv nL ph0 r0 pc i := by
  intro ph cl K L st M X H locs ls h hcl ih fi h0 hB
  obtain ⟨hml, hown, hts, hSI, hRc, hRs, hRf, hRl, hlv, hCT, hCON⟩ := hF
  obtain ⟨ins, len, tg, cv⟩ := i
  unfold thE at hth
  dsimp only at hth
  split at hth
  · next i hi =>
    unfold stp at h
    dsimp only at h
    obtain ⟨t, ht, h1⟩ := bind_inv h
    rw [ht] at hth
    dsimp only at hth
    simp only [Bool.and_eq_true, Bool.or_eq_true, decide_eq_true_eq] at hth
    obtain ⟨⟨⟨⟨⟨⟨ho, hk⟩, hi⟩, d0⟩, d3⟩, d4⟩, d7⟩ := hth
    have ho := nbeq_t ho
    have hi := nbeq_t hi
    have hk : t.1 = 101 ∨ t.1 = 102 := hk.elim (fun q => Or.inl (nbeq_t q)) (fun q => Or.inr (nbeq_t q))
    have hblt : Nat.blt 100 t.1 = true := Nat.ble_eq_true_of_le (by omega)
    rw [hblt, cond_true] at h1
    obtain ⟨hc, h2⟩ := bif_inv h1
    obtain ⟨⟨hc1, hc2⟩, h3⟩ := ite_inv h2
    simp only [Bool.and_eq_true] at hc
    obtain ⟨⟨hph, hal⟩, hwg⟩ := hc
    have hwg := Nat.le_of_ble_eq_true hwg
    have h3 := Option.some.inj h3
    subst h3
    obtain ⟨e1, e2, e3, e4, e5⟩ := ex_all hk hts hSI
    have hcx : cX mi X = X.2.2.2.1 := by unfold cX; rw [hal]; rfl
    have hsx : sX mi X = X.2.2.2.2.1 := by unfold sX; rw [hal]; rfl
    rw [hcx, hsx]
    have hcw := cat_wg (G := G) fi.2.2.2.2.2.2 st fi.2.2.2.2.2.1
    have hmb : cn (ownM mi) = "MergeBelts" := by rw [ho]; rfl
    rw [hmb] at hown
    subst hi
    have hS := fi.2.2.1
    refine vx_throw0 (own := "MergeBelts") (names := exNs) (ik := exK t.1) (ic := exI t.1) (cls := exN (t.1 - 100)) (A := gA G) hx hb hl hown e1 ex_ns e2 e3 e4 e5 hSI.2.2.2.2.2.2.2.2.1 hSI.2.2.2.2.2.2.2.2.2.1 hS (by rw [hml]; exact fi.2.2.2.1.2.1) d0 d3 d4 d7 (fun x hx => (hout x hx).elim) (by show 2 + 3 < _; exact hfr) ?_ (Nat.le_trans hc1 hRc) (Nat.le_trans hc2 hRs) hlocks ?_ hS.2.2 hc1 hc2
    · rw [hcw]
      show wg st + (13 * 3 + 42) ≤ _
      omega
    · intro t9 hA hz hq
      refine ⟨⟨t.1 - 100, rfl, rfl⟩, ⟨va_P.kept fi.1.1 (fun k q hk => hq _ (vx_lt fi.1.1 hk)), fun q => ?_, Nat.le_succ_of_le fi.1.2.2.1, fi.1.2.2.2⟩, fi.2.1 hph, Nat.le_trans hS.1 hz, fun q h1 h2 => ?_⟩
      · exfalso
        have h4 := fi.1.2.2.1
        have q : X.2.1 = X.2.2.1 + 1 := q
        omega
      · rw [hq q (Nat.lt_of_lt_of_le h1 hS.1)]
        exact hS.2.1 q h1 h2
  · cases hth
def okT (m : Nat) : Bool := !(Nat.beq (mkM m) 1) || (MDok m && isCd m && (pt m).all (fun e => ckE (byN m) m e || thE (byN m) m e))
theorem con_thr {m0 : Nat} (hm : mkM m0 = 1) (hok : okT m0 = true) (hl : l.stackTraces = false) : CONx l G m0 := by
  intro as M X q hev hin
  unfold okT at hok
  rw [hm] at hok
  have hok : (MDok m0 && isCd m0 && (pt m0).all (fun e => ckE (byN m0) m0 e || thE (byN m0) m0 e)) = true := hok
  rw [Bool.and_eq_true, Bool.and_eq_true] at hok
  obtain ⟨⟨hmd, hcd⟩, hck⟩ := hok
  have hcd := cd_ok hcd
  have hlt := mk_lt (m := m0) (by rw [hm]; decide)
  unfold MDok at hmd
  rw [Bool.and_eq_true, Bool.and_eq_true, Bool.and_eq_true, Bool.and_eq_true, decide_eq_true_eq] at hmd
  obtain ⟨⟨⟨⟨d1, d2⟩, d3⟩, d4⟩, d5⟩ := hmd
  have d3 := Nat.le_of_ble_eq_true d3
  have hrk : 11 ≤ rankM m0 0 := d3
  have hal : alM m0 = false → mcM m0 = 0 ∧ msM m0 = 0 := fun ha => by
    rw [ha, Bool.false_or, Bool.and_eq_true] at d5
    exact ⟨nbeq_t d5.1, nbeq_t d5.2⟩
  obtain ⟨n, hn⟩ := run_ev hev
  have hrun := hn n (Nat.le_refl _)
  obtain ⟨i1, i2, i3, i4⟩ := hin
  have hBr : alM m0 = true → q.2.2.2.2.2.1 ≤ mcM m0 ∧ q.2.2.2.2.2.2.1 ≤ msM m0 := fun ha => by
    refine (run_P n q hrun).2.2.1 ha ?_
    rw [(i3 ha).1, (i3 ha).2]
    exact ⟨Nat.zero_le _, Nat.zero_le _⟩
  have hcX : cX m0 X = 0 := by
    unfold cX
    cases ha : alM m0 with
    | true => exact (i3 ha).1
    | false => rfl
  have hsX : sX m0 X = 0 := by
    unfold sX
    cases ha : alM m0 with
    | true => exact (i3 ha).2
    | false => rfl
  refine vx_ofW (cc := byN m0) (maxL := mlN m0) (ret := rtN m0) d1 (by rw [hcd]) ?_
  intro p e s m args below meth c s₁ B hml hout hv
  obtain ⟨rfl, hSI, hHR, hset⟩ := hv
  have hx := B.exec
  have hb := B.bytes
  have hr := B.returns
  have hts0 := atoms_spec (ws := cdN m0 :: gwT) B.pre
  have hts : ∀ w ∈ gwT, w.before (as.map (tvG G)).toArray s = true := fun w hw => hts0 w (List.mem_cons_of_mem _ hw)
  have hown : s.vm.findClass (cn (ownM m0)) = some m.cls := by rw [d2]; exact findClass_of_methodNamed B.named
  have hlocks := B.notSynchronized
  have hnm : meth.name = (yN m0).name := (name_of_methodNamed B.named B.method).1
  obtain ⟨ls, he, hlr⟩ := entry_lr (n := mlN m0) i4 i1 i2 m
  rw [he]
  have fi : FI G s s.heap [] true (mlN m0) M X ls (padl (mlN m0) (expd as)) [] := ⟨hHR, hset, va_S.rf, hlr, fun i => by rw [nth_padl]; exact okV_expd as i fun v hv => (i1 v hv).1, fun v hv => (by cases hv), i4⟩
  have hF : CF l (headSpec (cdN m0 :: gwT) (rmM m0 0)).room s m (as.map (tvG G)).toArray c G m0 0 (mlN m0) := ⟨hml, hown, hts, hSI, Nat.le_refl _, Nat.le_refl _, Nat.le_refl _, Nat.le_refl _, ⟨Nat.zero_le _, fun _ => rfl⟩, ct_all, fun m' lv' h1 h2 h3 h4 => con_all _ m' lv' (Nat.le_refl _) h1 h3 h4⟩
  have hfr : 1 ≤ (headSpec (cdN m0 :: gwT) (rmM m0 0)).room.frames := by show 1 ≤ rankM m0 0; omega
  have hfr5 : 5 < (headSpec (cdN m0 :: gwT) (rmM m0 0)).room.frames := by show 5 < rankM m0 0; omega
  have hlo : 8 + (nativeFrameWords "java/lang/System" "arraycopy" 5 + 11) ≤ (headSpec (cdN m0 :: gwT) (rmM m0 0)).room.locals := by
    show _ ≤ 60 * rankM m0 0
    have : 8 + (nativeFrameWords "java/lang/System" "arraycopy" 5 + 11) ≤ 660 := by decide +kernel
    omega
  have hlo2 : 21 ≤ (headSpec (cdN m0 :: gwT) (rmM m0 0)).room.locals := by show 21 ≤ 60 * rankM m0 0; omega
  have hlo3 : 89 ≤ (headSpec (cdN m0 :: gwT) (rmM m0 0)).room.locals := by show 89 ≤ 60 * rankM m0 0; omega
  have hE0 := ends_ord (G := G) (mi := m0) (nL := mlN m0) (ph0 := true) (r0 := q) (p := p) (l := l) (e := e) (R := (headSpec (cdN m0 :: gwT) (rmM m0 0)).room) (s := s) (m := m) (args := (as.map (tvG G)).toArray) (below := below) hx hb hr hlocks hal hBr
  have hE : ENDS p l e (headSpec (cdN m0 :: gwT) (rmM m0 0)).room s m (as.map (tvG G)).toArray below meth c (vx_MQ below (Qc9 G true q) (XC9 G q) (as.map (tvG G)).toArray s (mcM m0) (msM m0) (gA G)) (byN m0) G m0 (mlN m0) true q := fun ph pc o L M X H locs ls z1 z2 z3 z4 => vx_ret (hE0 ph pc o L M X H locs ls z1 z2 z3 z4)
  have h9 := frame9 (ph0 := true) (lv := 0) (fun pc i hi => by
    have hc := List.all_eq_true.mp hck _ (lkp_mem hi)
    rw [Bool.or_eq_true] at hc
    rcases hc with hc | hc
    · exact step_ck (cc := byN m0) hx hb hF (po_all _ (own_lt m0 hlt)) (fun _ => hnm) hfr hlo hlo2 aw_i aw_l hE hc
    · exact step_th (cc := byN m0) hx hb hl hF hlocks hout hfr5 hlo3 hc) hBr n true 0 _ [] M X s.heap [] ls hrun fi (fun z => z)
  rw [hcX, hsX] at h9
  exact h9
end THR
end
section
/-! the methods that catch -/
section WRP
set_option maxRecDepth 100000
theorem met_ofWH {l : Launch} {y : MethodName} {ws ws' : List Cond} {rm : Room} {Pc : Array Value → State → Prop} {Qc : Array Value → State → Outcome → State → Prop} {mc ms : Nat} {free : Addr → Prop} {cc : ByteArray} {maxL : Nat} {ret : Option FieldType} {hh : List (Nat × Nat × Nat × Nat)}
    (hy : plainName y.cls = true) (hw : ws = Cond.codeWith y cc maxL ret hh :: ws')
    (body : ∀ p e s m args below meth c s₁, BodyLoose p l y (headSpec ws rm) cc maxL ret e s m args below meth c s₁ → c.maxLocals = maxL → Pc args s →
      W p l e (headSpec ws rm).room s m args below meth c s.heap [] 0 0 (MQ below Qc args s mc ms free) (entryFrame m args maxL)) : Met l y ws rm Pc Qc mc ms free := by
  refine MetFree.of_bodyS (code := cc) (maxLocals := maxL) (ret := ret) hy ?_ ?_
  · intro args s m h hn
    obtain ⟨m9, meth, c, hn9, h1, h2, h3, h4, -, h5, h6, -⟩ := Cond.codeWith_spec (atoms_spec (ws := ws) h _ (by rw [hw]; exact List.mem_cons_self))
    cases hn.symm.trans hn9
    exact ⟨meth, c, h1, h2, h3, h4, h5, h6⟩
  · intro p e s m args below meth c s₁ B hml hP _
    have hh0 : s₁.heap = s.heap := by rw [B.state]; rfl
    obtain ⟨t, a1, o, b1, b2, b3⟩ := body p e s m args below meth c s₁ B hml hP s₁ hh0 (Stand.of_body B)
    exact ⟨t, o, a1, b1, b2, b3⟩
def hhN (m : Nat) : List (Nat × Nat × Nat × Nat) := match cdN m with
  | .codeWith _ _ _ _ hh => hh
  | _ => []
def isCw (m : Nat) : Bool := match cdN m with
  | .codeWith _ _ _ _ _ => true
  | _ => false
theorem cw_ok {m : Nat} (h : isCw m = true) : cdN m = .codeWith (yN m) (byN m) (mlN m) (rtN m) (hhN m) := by
  unfold isCw at h
  unfold yN byN mlN rtN hhN
  cases hc : cdN m <;> rw [hc] at h <;> first | rfl | cases h
theorem cw_gw {m : Nat} (h : isCw m = true) : Cond.codeWith (yN m) (byN m) (mlN m) (rtN m) (hhN m) ∈ gwT := by
  have h1 := cw_ok h
  unfold cdN at h1
  cases hn : lw_tbl[cwT.getD m 0]? with
  | none => rw [hn] at h1; cases h1
  | some w =>
    rw [hn] at h1
    have h1 : w = Cond.codeWith (yN m) (byN m) (mlN m) (rtN m) (hhN m) := h1
    rw [← h1]
    exact gw_of hn (by rw [h1]; rfl)
variable {p : Program} {l : Launch} {e : Env} {R : Room} {s : State} {m : MethodId} {args : Array Value} {below : List Frame} {meth : Method} {c : Code} {Q : State → Prop} {cc : ByteArray} {G : EG} {mi lv nL : Nat} {ph : Bool} {r0 : PRs} {pc : Nat} {K : KT} {L : List PV} {ls : Array Slot} {M : Mem} {X : PX} {H : Heap} {locs : List Loc}
def endB (cc : ByteArray) (h : Nat) (v : Int32) : Bool := match decode cc h with
  | .ok (.iconst n, 1) => decide (Int32.ofInt n = v) && decide (decode cc (h + 1) = .ok (.ireturn, 1))
  | _ => false
theorem end_ok {h : Nat} {v : Int32} (hb : endB cc h v = true) : ∃ n, decode cc h = .ok (.iconst n, 1) ∧ Int32.ofInt n = v ∧ decode cc (h + 1) = .ok (.ireturn, 1) := by
  unfold endB at hb
  split at hb
  · next n hd =>
    rw [Bool.and_eq_true, decide_eq_true_eq, decide_eq_true_eq] at hb
    exact ⟨n, hd, hb.1, hb.2⟩
  · cases hb
def hdlB (cc : ByteArray) (nL h : Nat) (v : Int32) : Bool := match decode cc h with
  | .ok (.astore_n k, 1) => Nat.blt k.val nL && endB cc (h + 1) v
  | .ok (.astore k, 2) => Nat.blt k nL && endB cc (h + 2) v
  | _ => false
theorem hdl_W {h cells slots : Nat} {v : Int32} {q : Addr} (hx : p.tables.exec = Jvm.exec) (hb : c.code = cc) (hh : hdlB cc nL h v = true) (hl : LRl G nL ls L)
    (kk : ∀ (pc : Nat) (ls' : Array Slot), ls'.size = nL → lv_wf ls' → decode cc pc = .ok (.ireturn, 1) → W p l e R s m args below meth c H locs cells slots Q (F0 m pc ls' [.int v])) : W p l e R s m args below meth c H locs cells slots Q (F0 m h ls [.ref q]) := by
  unfold hdlB at hh
  split at hh
  · next k hd =>
    rw [Bool.and_eq_true] at hh
    obtain ⟨n, e1, e2, e3⟩ := end_ok hh.2
    exact lv_astore_n hx hb hd rfl (lr_has hl) (lt_of_blt hh.1) rfl fun ls' h' => lv_iconst hx hb e1 e2 (kk _ ls' h'.1 h'.2.1 e3)
  · next k hd =>
    rw [Bool.and_eq_true] at hh
    obtain ⟨n, e1, e2, e3⟩ := end_ok hh.2
    exact lv_astore hx hb hd (lr_has hl) (lt_of_blt hh.1) rfl fun ls' h' => lv_iconst hx hb e1 e2 (kk _ ls' h'.1 h'.2.1 e3)
  · cases hh
def exL (e : Nat) : Nat := bif Nat.beq e 1 then 18 else 13
def rowB (cc : ByteArray) (nL pc : Nat) (v : Int32) (x : Nat × Nat × Nat × Nat) : Bool := covers ⟨x.1, x.2.1, x.2.2.1, x.2.2.2⟩ pc && hdlB cc nL x.2.2.1 v
def wrR (cc : ByteArray) (nL pc e : Nat) (v : Int32) (hh : List (Nat × Nat × Nat × Nat)) : Bool := match hh with
  | [] => false
  | x :: r => bif Nat.beq x.2.2.2 (exL e) then rowB cc nL pc v x else (Nat.beq e 2 && Nat.beq x.2.2.2 18 && (match r with
    | [] => false
    | y :: _ => Nat.beq y.2.2.2 13 && rowB cc nL pc v y))
def NC (s : State) : Prop := va_Nc "java/lang/IllegalArgumentException" "java/util/NoSuchElementException" s
theorem ex_cl {args : Array Value} {x : Nat} (hx : x = 1 ∨ x = 2) (hts : ∀ w ∈ gwT, w.before args s = true) (hSI : SI G s) : (Cond.classLink "MergeBeltsLaw" (exL x) (exN x)).before args s = true ∧ (Cond.castable (exN x) (exN x)).before args s = true ∧ exL x ≠ 0 := by
  have hn := hSI.2.2.2.2.2.2.2.1
  rcases hx with rfl | rfl
  · exact ⟨hts _ (hasW_in (i := 1009) (by decide +kernel)), va_Nw.use rfl (hn _ (List.mem_of_getElem? (i := 1029) (by decide +kernel)) rfl), by decide⟩
  · exact ⟨hts _ (hasW_in (i := 719) (by decide +kernel)), va_Nw.use rfl (hn _ (List.mem_of_getElem? (i := 726) (by decide +kernel)) rfl), by decide⟩
theorem wr_catch {hh : List (Nat × Nat × Nat × Nat)} {x cells slots : Nat} {v : Int32} {ce : Cell} {q : Addr} {rest : List Value} (hown : s.vm.findClass "MergeBeltsLaw" = some m.cls) (ht : c.exceptionTable.toList = tableOf hh) (h : wrR cc nL pc x v hh = true) (he : x = 1 ∨ x = 2) (hts : ∀ w ∈ gwT, w.before args s = true) (hSI : SI G s) (hNc : NC s)
    (hcell : H[q]? = some ce) (hv : ce.vm = .none) (hcl : s.vm.findClass (exN x) = some ce.cls) (kk : ∀ h, hdlB cc nL h v = true → W p l e R s m args below meth c H locs cells slots Q (F0 m h ls [.ref q])) : vx_W p l e R s m args below meth c H locs cells slots Q (F0 m pc ls rest) q := by
  obtain ⟨c1, c2, c3⟩ := ex_cl he hts hSI
  cases hh with
  | nil => cases h
  | cons y r =>
    unfold wrR at h
    dsimp only at h
    cases hb : Nat.beq y.2.2.2 (exL x) with
    | true =>
      rw [hb, cond_true] at h
      unfold rowB at h
      rw [Bool.and_eq_true] at h
      have hb := nbeq_t hb
      exact vx_catch (own := "MergeBeltsLaw") (name := exN x) hown [] ⟨y.1, y.2.1, y.2.2.1, y.2.2.2⟩ (tableOf r) (by rw [ht]; rfl) (fun z hz => by cases hz) h.1 (by show y.2.2.2 ≠ 0; rw [hb]; exact c3) (by show (Cond.classLink "MergeBeltsLaw" y.2.2.2 (exN x)).before args s = true; rw [hb]; exact c1) c2 hcell hv hcl (kk _ h.2)
    | false =>
      rw [hb, cond_false] at h
      cases r with
      | nil => simp at h
      | cons z r =>
        simp only [Bool.and_eq_true] at h
        obtain ⟨⟨h1, h2⟩, h3, h4⟩ := h
        have h1 := nbeq_t h1
        subst h1
        have h2 := nbeq_t h2
        have h3 := nbeq_t h3
        unfold rowB at h4
        rw [Bool.and_eq_true] at h4
        obtain ⟨d1, -, -⟩ := ex_cl (x := 1) (Or.inl rfl) hts hSI
        exact vx_catch (own := "MergeBeltsLaw") (name := exN 2) hown [⟨y.1, y.2.1, y.2.2.1, y.2.2.2⟩] ⟨z.1, z.2.1, z.2.2.1, z.2.2.2⟩ (tableOf r) (by rw [ht]; rfl) (fun u hu => by
          rcases List.mem_cons.mp hu with rfl | hu
          · exact Or.inr ⟨by show y.2.2.2 ≠ 0; rw [h2]; decide, exN 1, by show (Cond.classLink "MergeBeltsLaw" y.2.2.2 (exN 1)).before args s = true; rw [h2]; exact d1, hNc⟩
          · cases hu) h4.1 (by show z.2.2.2 ≠ 0; rw [h3]; decide) (by show (Cond.classLink "MergeBeltsLaw" z.2.2.2 (exN 2)).before args s = true; rw [h3]; exact c1) c2 hcell hv hcl (kk _ h4.2)
theorem call9x {hh : List (Nat × Nat × Nat × Nat)} {mc ms m9 : Nat} {r : List PV} {st0 : List Value} {q : PRs} {a : Array Value} {X9 : PX} (hx : p.tables.exec = Jvm.exec) (hb : c.code = cc) (hr : vx_Run p l e R s m args below meth c H locs (cX mi X) (sX mi X) mc ms (F0 m pc ls st0) (r.map (tvG G)) (Qc9 G true q a) (XC9 G q) (gA G)) (fi : FI G s H locs true nL M X ls L r)
    (ih : IHK p l e R s m args below meth c Q G mi nL true K r0) (hk : kRet true (alM mi) mi mc ms (pc + 3) K L r X q = some r0) (hP : PXI m9 X9 q) (hX9 : X9.2.1 = X.2.1) (hal : alM mi = true)
    (hown : s.vm.findClass "MergeBeltsLaw" = some m.cls) (ht : c.exceptionTable.toList = tableOf hh) (hw : ∀ x, x = 1 ∨ x = 2 → ∀ v, hdF hdT mi x = some v → wrR cc nL pc x v hh = true) (he12 : ∀ x v, hdF hdT mi x = some v → x = 1 ∨ x = 2) (hts : ∀ w ∈ gwT, w.before args s = true) (hSI : SI G s) (hNc : NC s)
    (hE : ENDS p l e R s m args below meth c Q cc G mi nL true r0) (hck : ckI mi (0, .ireturn, 1, 0, 0) = true) (hrk : rkM mi = 0) : W p l e R s m args below meth c H locs (cX mi X) (sX mi X) Q (F0 m pc ls st0) := by
  intro T hT XX
  obtain ⟨o', M', X1⟩ := q
  have c1 : cX mi (bkX (alM mi) mc ms X X1) = cX mi X + mc := by
    unfold cX bkX
    rw [hal]
    rfl
  have c2 : sX mi (bkX (alM mi) mc ms X X1) = sX mi X + ms := by
    unfold sX bkX
    rw [hal]
    rfl
  have hn : X.2.1 ≤ X1.2.1 := by rw [← hX9]; exact hP.1
  rcases hr T hT XX with ⟨v, st₀, t, T', L', h0, X', hL, e1, e2, ⟨⟨⟨o, ho, hv⟩, hh, hset⟩, hF⟩, stp⟩ | ⟨q9, st₀, t, T', L', E, ce, h0, X', hL, e1, e2, ⟨⟨x, ho, hE9⟩, hh, hset, hF⟩, hce, hcv, hcl, stp⟩
  · have ho : o' = .inl o := ho
    subst ho
    have hv : v = o.map (tvG G) := by injection hv
    subst hv
    have hk2 : K (pc + 3) L (o.toList ++ r) M' (bkX (alM mi) mc ms X X1) = some r0 := by cases o <;> exact hk
    obtain ⟨-, -, hS⟩ := vx_keep (A1 := gA G) h0 e1 fi.2.2.1 (fun q _ h => h) (fun q h => h) hL hF
    have hh : HR G M' X1 T'.heap := by rw [e1]; exact hh
    have f9 : FI G s T'.heap (locs ++ L') true nL M' (bkX (alM mi) mc ms X X1) ls L (o.toList ++ r) := fi_back fi hh hset hS hn fun w hw => by
      have hw2 : o = some w := by simpa using hw
      subst hw2
      rcases hP.2.2.2.1 w rfl with ⟨x, rfl⟩ | ⟨x, rfl⟩
      · exact ⟨trivial, trivial⟩
      · exact ⟨trivial, trivial⟩
    have h9 := ih _ _ _ _ _ _ _ _ hk2 f9
    rw [c1, c2] at h9
    have e3 : (o.toList ++ r).map (tvG G) = (o.map (tvG G)).toList ++ r.map (tvG G) := by cases o <;> rfl
    rw [e3] at h9
    obtain ⟨t2, a1, b1⟩ := h9 T' rfl X'
    exact ⟨t2, stp t2 a1, b1⟩
  · have ho : o' = .inr x := ho
    subst ho
    subst hE9
    have hk2 : (match hdF hdT mi x with | some v => some (.inl (some (pI v)), M', bkX (alM mi) mc ms X X1) | none => none) = some r0 := hk
    cases hv : hdF hdT mi x with
    | none => rw [hv] at hk2; cases hk2
    | some v =>
      rw [hv] at hk2
      have hk2 := Option.some.inj hk2
      obtain ⟨-, -, hS⟩ := vx_keep (A1 := gA G) h0 e1 fi.2.2.1 (fun q _ h => h) (fun q h => h) hL hF
      have hh : HR G M' X1 T'.heap := by rw [e1]; exact hh
      have hx12 := he12 x v hv
      have f9 : FI G s T'.heap (locs ++ L') true nL M' (bkX (alM mi) mc ms X X1) ls L ([] ++ r) := fi_back fi hh (fun _ => hset) hS hn fun w hw => by cases hw
      have key : vx_W p l e R s m args below meth c T'.heap (locs ++ L') (cX mi X + mc) (sX mi X + ms) Q (F0 m pc ls (r.map (tvG G))) q9 := by
        refine wr_catch (nL := nL) (cc := cc) (v := v) hown ht (hw x hx12 v hv) hx12 hts hSI hNc (by rw [e1]; exact hce) hcv hcl fun h hh9 => ?_
        refine hdl_W hx hb hh9 fi.2.2.2.1 fun pc9 ls9 hz hwf hd => ?_
        have hlr : LRl G nL ls9 (padl nL []) := ⟨plen_padl _ _ (Nat.zero_le _), hz, hwf, fun i v hv hg => by
          rw [nth_padl] at hv
          have hv : p0 = v := hv
          subst hv
          exact absurd rfl hg⟩
        have h10 := hE true pc9 (some (pI v)) (padl nL []) M' (bkX (alM mi) mc ms X X1) T'.heap (locs ++ L') ls9 (Or.inl ⟨hd, hck, v, rfl, by rw [hrk]; rfl⟩) hk2.symm ⟨f9.1, f9.2.1, f9.2.2.1, hlr, fun i => by rw [nth_padl]; exact fun h => absurd rfl h, fun v hv => (by cases hv), fi.2.2.2.2.2.2⟩ (fun _ => rfl)
        rw [c1, c2] at h10
        exact h10
      obtain ⟨t2, a1, b1⟩ := key T' rfl X'
      exact ⟨t2, stp.trans a1, b1⟩
end WRP
end
section
/-! contracts of the methods that catch -/
section WRC
set_option maxRecDepth 100000
variable {p : Program} {l : Launch} {e : Env} {R : Room} {s : State} {m : MethodId} {args : Array Value} {below : List Frame} {meth : Method} {c : Code} {Q : State → Prop} {cc : ByteArray} {G : EG} {mi lv nL : Nat} {ph : Bool} {r0 : PRs} {pc : Nat}
def wrE (cc : ByteArray) (mi : Nat) (e : PE) : Bool := match e.2.1 with
  | .invokevirtual i => Nat.beq e.2.2.1 3 && decide (decode cc e.1 = .ok (.invokevirtual i, 3)) && (match lkp (mthP (ownM mi)) i with
    | some w => Nat.beq w.1 0 && ckC mi i w && Nat.beq (mkM w.2.1) 1 && Nat.beq (rgM w.2.1) 0 && ([1, 2].all fun x => match hdF hdT mi x with
      | some v => wrR cc (mlN mi) e.1 x v (hhN mi)
      | none => true)
    | none => false)
  | _ => false
theorem hd_12 : ∀ {T : List (Nat × Nat × Int32)}, (T.all fun q => Nat.beq q.2.1 1 || Nat.beq q.2.1 2) = true → ∀ (m x : Nat) (v : Int32), hdF T m x = some v → x = 1 ∨ x = 2
  | [], _, _, _, _, h => by cases h
  | (a, b, c) :: T, hT, m, x, v, h => by
    rw [List.all_cons, Bool.and_eq_true, Bool.or_eq_true] at hT
    unfold hdF at h
    cases hb : (Nat.beq a m && Nat.beq b x) with
    | true =>
      rw [Bool.and_eq_true] at hb
      have e2 := nbeq_t hb.2
      rcases hT.1 with h1 | h1
      · exact Or.inl (by rw [← e2]; exact nbeq_t h1)
      · exact Or.inr (by rw [← e2]; exact nbeq_t h1)
    | false =>
      rw [hb, cond_false] at h
      exact hd_12 hT.2 m x v h
theorem hd_ok : ∀ (m x : Nat) (v : Int32), hdF hdT m x = some v → x = 1 ∨ x = 2 := hd_12 (by decide +kernel)
theorem wr_in {mi : Nat} {f : Nat → Int32 → Bool} (h : ([1, 2].all fun x => match hdF hdT mi x with | some v => f x v | none => true) = true) : ∀ x, x = 1 ∨ x = 2 → ∀ v, hdF hdT mi x = some v → f x v = true := by
  intro x hx v hv
  have h1 := List.all_eq_true.mp h x (by rcases hx with rfl | rfl <;> simp)
  simp only [hv] at h1
  exact h1
set_option maxHeartbeats 2000000 in
theorem step_wr {i : Instr × Nat × Nat × Int32} (hx : p.tables.exec = Jvm.exec) (hb : c.code = cc) (hF : CF l R s m args c G mi lv (mlN mi)) (hal : alM mi = true) (hCN : ∀ m', mkM m' = 1 → CONx l G m') (ht : c.exceptionTable.toList = tableOf (hhN mi)) (hmb : cn (ownM mi) = "MergeBeltsLaw") (hNc : NC s)
    (hE : ENDS p l e R s m args below meth c Q cc G mi (mlN mi) true r0) (hck9 : ckI mi (0, .ireturn, 1, 0, 0) = true) (hrk : rkM mi = 0) (hth : wrE cc mi (pc, i) = true) : STEP p l e R s m args below meth c Q G mi lv (mlN mi) true r0 pc i := by
  intro ph cl K L st M X H locs ls h hcl ih fi h0 hB
  have hph := h0 rfl
  subst hph
  have hF0 := hF
  obtain ⟨hml, hown, hts, hSI, hRc, hRs, hRf, hRl, hlv, hCT, hCON⟩ := hF
  obtain ⟨ins, len, tg, cv⟩ := i
  unfold wrE at hth
  dsimp only at hth
  split at hth
  · next _ i =>
    rw [Bool.and_eq_true, Bool.and_eq_true, decide_eq_true_eq] at hth
    obtain ⟨⟨hlen, hd⟩, hth⟩ := hth
    have hlen := nbeq_t hlen
    subst hlen
    unfold stp at h
    dsimp only at h
    obtain ⟨w, hw, h1⟩ := bind_inv h
    rw [hw] at hth
    dsimp only at hth
    rw [Bool.and_eq_true, Bool.and_eq_true, Bool.and_eq_true, Bool.and_eq_true] at hth
    obtain ⟨⟨⟨⟨hk1, hck⟩, hmk⟩, hrg⟩, hwr⟩ := hth
    have hk1 := nbeq_t hk1
    have hmk := nbeq_t hmk
    have hrg := nbeq_t hrg
    unfold ckC at hck
    cases hz : lkp (mwP (ownM mi)) i with
    | none => rw [hz] at hck; cases hck
    | some z =>
    rw [hz] at hck
    dsimp only at hck
    obtain ⟨q, hq, h4⟩ := bind_inv h1
    obtain ⟨as, a1, a2, a3⟩ := popn_inv _ _ _ _ hq
    obtain ⟨q1, st2⟩ := q
    rw [List.append_nil] at a3
    dsimp only at a2 a3 h4
    subst a3
    obtain ⟨t, a, r, rfl, h5⟩ := ur1_inv h4
    subst a2
    obtain ⟨hc, h6⟩ := bif_inv h5
    simp only [Bool.and_eq_true] at hc
    have htt := nbeq_t hc.2
    subst htt
    rw [hk1] at hck
    have hck : (mdOK w z.2.2.2 && rkOK mi w.2.1 && (hasW z.1 (.methodLink (cn (ownM mi)) i (yN w.2.1)) && hasW z.2.1 (.instanceMethod (yN w.2.1)) && hasW z.2.2.1 (.selects (yN w.2.1).cls (yN w.2.1) (yN w.2.1)) && ((Nat.beq (ownM w.2.1) 16 && decide ((yN w.2.1).cls = "java/lang/String")) || (Nat.ble 1 (ownM w.2.1) && Nat.ble (ownM w.2.1) 13 && decide ((clT (ownM w.2.1)).1 = (yN w.2.1).cls))))) = true := hck
    rw [Bool.and_eq_true, Bool.and_eq_true, Bool.and_eq_true, Bool.and_eq_true, Bool.and_eq_true] at hck
    obtain ⟨⟨w1, w2⟩, ⟨⟨w3, w4⟩, w5⟩, w6⟩ := hck
    obtain ⟨g1, g2, lv', X9, q9, g3, g4, g5, g6, g7, g8, g9, g10, g11, g12⟩ := kCall_inv w1 w2 hlv h6
    obtain ⟨ev9, px9⟩ := hcl _ _ _ _ _ _ g3
    have hlv0 := g10 hrg
    subst hlv0
    have fr := fi_rev fi
    have fr2 : FI G s H locs true (mlN mi) M X ls L ((pR (otg (ownM w.2.1)) a :: q1) ++ r) := fi_st fr fun v hv => fr.2.2.2.2.2.1 v (by
      rcases List.mem_append.mp hv with h | h
      · rcases List.mem_cons.mp h with rfl | h
        · exact List.mem_append_right _ List.mem_cons_self
        · exact List.mem_append_left _ h
      · exact List.mem_append_right _ (List.mem_cons_of_mem _ h))
    have frr : FI G s H locs true (mlN mi) M X ls L r := fi_st fr fun v hv => fr.2.2.2.2.2.1 v (List.mem_append_right _ (List.mem_cons_of_mem _ hv))
    have frc : FI G s H locs true (mlN mi) M X ls L (pR (otg (ownM w.2.1)) a :: r) := fi_st fr fun v hv => fr.2.2.2.2.2.1 v (List.mem_append_right _ hv)
    obtain ⟨b, hb1, hb2⟩ := recv9 hSI hCT frc (fi_ok frc).2 w6
    have hM := hCN w.2.1 hmk (pR (otg (ownM w.2.1)) a :: q1) M X9 q9 ev9 (in9 fr2 g2 g5 g7)
    have hwg := cat_wg (G := G) frr.2.2.2.2.2.2 r frr.2.2.2.2.2.1
    obtain ⟨-, -, -, -, m5, -⟩ := md_inv w1
    have hown2 := hown
    rw [hmb] at hown2
    refine call9x (hh := hhN mi) (m9 := w.2.1) (X9 := X9) hx hb (vx_runV (b := b) (C := (yN w.2.1).cls) (As := q1.map (tvG G)) (rest := r.map (tvG G)) ⟨hx, hb, hml, hown, hts⟩ hM ⟨cb_of w1 g8 hRf hRl hts (hasW_in w3), hts _ (hasW_in w4), hts _ (hasW_in w5)⟩ ⟨Pc9_blind, hb2, fun U hU hW => ?_⟩ rfl (by rw [List.length_map]; exact a1) fr.2.2.2.1.2.1 ?_ (by show 2 * 0 + _ ≤ 8; rw [hwg]; omega) hd (room_hf hF0 hB g11 g12 m5)) frr ih g4 px9 g5 hal hown2 ht (wr_in (f := fun x v => wrR cc (mlN mi) pc x v (hhN mi)) hwr) (hd_ok mi) hts hSI hNc hE hck9 hrk
    · have h9 := pc9_at (as := pR (otg (ownM w.2.1)) a :: q1) hSI frr g5 (g6 _ _ frr.1) hU hW
      rw [List.map_cons, hb1] at h9
      exact h9
    · show (q1.reverse ++ pR (otg (ownM w.2.1)) a :: r).map (tvG G) = _
      rw [List.map_append, List.map_reverse, List.map_cons, hb1]
  · cases hth
def okW (m : Nat) : Bool := !(Nat.beq (mkM m) 2) || (MDok m && isCw m && ckI m (0, .ireturn, 1, 0, 0) && Nat.beq (rkM m) 0 && Nat.beq (rgM m) 0 && alM m && decide (cn (ownM m) = "MergeBeltsLaw") && (pt m).all (fun e => ckE (byN m) m e || wrE (byN m) m e))
def PcW (G : EG) (as : List PV) (M : Mem) (X : PX) : Array Value → State → Prop := va_Pc (as.map (tvG G)) (fun U => (SI G U ∧ HR G M X U.heap ∧ (true = true → setA X.2.1 M = true)) ∧ NC U)
theorem PcW_blind {as : List PV} {M : Mem} {X : PX} : FrameBlind (PcW G as M X) := by
  intro a U g mk h
  obtain ⟨h0, ⟨h1, h2, h3⟩, h4⟩ := h
  exact ⟨h0, ⟨SI_move h1 (va_S.rf (A := gA G)) rfl (State.WarmedH.refl U), h2, h3⟩, h4⟩
def CONw (l : Launch) (G : EG) (m : Nat) : Prop := ∀ (as : List PV) (M : Mem) (X : PX) (q : PRs), evc true m 0 (padl (mlN m) (expd as)) M X = some q → IN9 G m as X → Met l (yN m) (cdN m :: gwT) (rmM m 0) (PcW G as M X) (Qc9 G true q) (mcM m) (msM m) (gA G)
set_option maxHeartbeats 2000000 in
theorem con_wr {m0 : Nat} (hm : mkM m0 = 2) (hok : okW m0 = true) (hCN : ∀ m', mkM m' = 1 → CONx l G m') : CONw l G m0 := by
  intro as M X q hev hin
  unfold okW at hok
  rw [hm] at hok
  have hok : (MDok m0 && isCw m0 && ckI m0 (0, .ireturn, 1, 0, 0) && Nat.beq (rkM m0) 0 && Nat.beq (rgM m0) 0 && alM m0 && decide (cn (ownM m0) = "MergeBeltsLaw") && (pt m0).all (fun e => ckE (byN m0) m0 e || wrE (byN m0) m0 e)) = true := hok
  rw [Bool.and_eq_true, Bool.and_eq_true, Bool.and_eq_true, Bool.and_eq_true, Bool.and_eq_true, Bool.and_eq_true, Bool.and_eq_true, decide_eq_true_eq] at hok
  obtain ⟨⟨⟨⟨⟨⟨⟨hmd, hcd⟩, hck9⟩, hrk0⟩, hrg⟩, hal0⟩, hmb⟩, hck⟩ := hok
  have hrk0 := nbeq_t hrk0
  have hcw := cw_gw hcd
  have hcd := cw_ok hcd
  have hlt := mk_lt (m := m0) (by rw [hm]; decide)
  unfold MDok at hmd
  rw [Bool.and_eq_true, Bool.and_eq_true, Bool.and_eq_true, Bool.and_eq_true, decide_eq_true_eq] at hmd
  obtain ⟨⟨⟨⟨d1, d2⟩, d3⟩, d4⟩, d5⟩ := hmd
  have d3 := Nat.le_of_ble_eq_true d3
  have hrk : 11 ≤ rankM m0 0 := d3
  have hal : alM m0 = false → mcM m0 = 0 ∧ msM m0 = 0 := fun ha => by
    rw [ha, Bool.false_or, Bool.and_eq_true] at d5
    exact ⟨nbeq_t d5.1, nbeq_t d5.2⟩
  obtain ⟨n, hn⟩ := run_ev hev
  have hrun := hn n (Nat.le_refl _)
  obtain ⟨i1, i2, i3, i4⟩ := hin
  have hBr : alM m0 = true → q.2.2.2.2.2.1 ≤ mcM m0 ∧ q.2.2.2.2.2.2.1 ≤ msM m0 := fun ha => by
    refine (run_P n q hrun).2.2.1 ha ?_
    rw [(i3 ha).1, (i3 ha).2]
    exact ⟨Nat.zero_le _, Nat.zero_le _⟩
  have hcX : cX m0 X = 0 := by
    unfold cX
    cases ha : alM m0 with
    | true => exact (i3 ha).1
    | false => rfl
  have hsX : sX m0 X = 0 := by
    unfold sX
    cases ha : alM m0 with
    | true => exact (i3 ha).2
    | false => rfl
  refine met_ofWH (cc := byN m0) (maxL := mlN m0) (ret := rtN m0) (hh := hhN m0) d1 (by rw [hcd]) ?_
  intro p e s m args below meth c s₁ B hml hv
  obtain ⟨rfl, ⟨hSI, hHR, hset⟩, hNc⟩ := hv
  have hx := B.exec
  have hb := B.bytes
  have hr := B.returns
  have hts0 := atoms_spec (ws := cdN m0 :: gwT) B.pre
  have hts : ∀ w ∈ gwT, w.before (as.map (tvG G)).toArray s = true := fun w hw => hts0 w (List.mem_cons_of_mem _ hw)
  have htab := vx_table (x := yN m0) B (hts _ hcw)
  have hown : s.vm.findClass (cn (ownM m0)) = some m.cls := by rw [d2]; exact findClass_of_methodNamed B.named
  have hlocks := B.notSynchronized
  have hnm : meth.name = (yN m0).name := (name_of_methodNamed B.named B.method).1
  obtain ⟨ls, he, hlr⟩ := entry_lr (n := mlN m0) i4 i1 i2 m
  rw [he]
  have fi : FI G s s.heap [] true (mlN m0) M X ls (padl (mlN m0) (expd as)) [] := ⟨hHR, hset, va_S.rf, hlr, fun i => by rw [nth_padl]; exact okV_expd as i fun v hv => (i1 v hv).1, fun v hv => (by cases hv), i4⟩
  have hF : CF l (headSpec (cdN m0 :: gwT) (rmM m0 0)).room s m (as.map (tvG G)).toArray c G m0 0 (mlN m0) := ⟨hml, hown, hts, hSI, Nat.le_refl _, Nat.le_refl _, Nat.le_refl _, Nat.le_refl _, ⟨Nat.zero_le _, fun _ => rfl⟩, ct_all, fun m' lv' h1 h2 h3 h4 => con_all _ m' lv' (Nat.le_refl _) h1 h3 h4⟩
  have hfr : 1 ≤ (headSpec (cdN m0 :: gwT) (rmM m0 0)).room.frames := by show 1 ≤ rankM m0 0; omega
  have hlo : 8 + (nativeFrameWords "java/lang/System" "arraycopy" 5 + 11) ≤ (headSpec (cdN m0 :: gwT) (rmM m0 0)).room.locals := by
    show _ ≤ 60 * rankM m0 0
    have : 8 + (nativeFrameWords "java/lang/System" "arraycopy" 5 + 11) ≤ 660 := by decide +kernel
    omega
  have hlo2 : 21 ≤ (headSpec (cdN m0 :: gwT) (rmM m0 0)).room.locals := by show 21 ≤ 60 * rankM m0 0; omega
  have hE := ends_ord (G := G) (mi := m0) (nL := mlN m0) (ph0 := true) (r0 := q) (p := p) (l := l) (e := e) (R := (headSpec (cdN m0 :: gwT) (rmM m0 0)).room) (s := s) (m := m) (args := (as.map (tvG G)).toArray) (below := below) hx hb hr hlocks hal hBr
  have h9 := frame9 (ph0 := true) (lv := 0) (fun pc i hi => by
    have hc := List.all_eq_true.mp hck _ (lkp_mem hi)
    rw [Bool.or_eq_true] at hc
    rcases hc with hc | hc
    · exact step_ck (cc := byN m0) hx hb hF (po_all _ (own_lt m0 hlt)) (fun _ => hnm) hfr hlo hlo2 aw_i aw_l hE hc
    · exact step_wr (cc := byN m0) hx hb hF hal0 hCN htab hmb hNc hE hck9 hrk0 hc) hBr n true 0 _ [] M X s.heap [] ls hrun fi (fun z => z)
  rw [hcX, hsX] at h9
  exact h9
end WRC
end
section
/-! THE CLAIM OUT OF ONE WALK OF THE LAW'S BODY. Your part is whole_start (and what it stands on); all else here is the same for every law, but numbers. -/
def R_law : String := "MergeBeltsLaw"
def lw_P (b : Addr) (xs : List Int32) (args : Array Value) (s : State) : Prop := args = #[.ref b] ∧ s.IntsAt b xs ∧ xs.length ≤ 3072 ∧ (Jvm.Cond.and given_1 narrow_1).before args s = true
def lw_Q (_ : Array Value) (s : State) (o : Outcome) (t : State) : Prop := o = .returned (some (.int 1)) ∧ Framed s o t [] 601024 7293034
def lw_Z (below : List Frame) (a : Array Value) (s : State) : State → Prop := fun t => ∃ o, t.status = .running ∧ Ended t below o ∧ lw_Q a s o t
/-- the law's own end, with 1 on the stack, nothing written that was there before, its room as the claim has it -/
theorem lw_ret {p : Program} {l : Launch} {e : Env} {s : State} {m : MethodId} {below : List Frame} {meth : Method} {c : Code} {b : Nat} (hx : p.tables.exec = Jvm.exec) (hb : c.code = code) (hr : meth.sig.returnType = ret) (hlocks : meth.locks = false) {pc : Nat} {H : Heap} {ls : Array Slot} (hdg : decode code pc = .ok (.ireturn, 1)) : W p l e room_1 s m #[Value.ref b] below meth c H [] 601024 7293034 (lw_Z below #[Value.ref b] s) (F0 m pc ls [.int 1]) := by
  intro T hT X
  obtain ⟨fs, hret, hrun, hended, hW, hframe⟩ := X.leave (v := some (.int 1)) (hlocks := hlocks) (fun h => by rw [hr] at h; cases h)
  have hmeth' : T.vm.method? m = some meth := X.method'
  refine ⟨T.setFrames fs, ?_, .returned (some (.int 1)), hrun, hended, rfl, ⟨_, rfl⟩, hW, hframe⟩
  jvm_step X.here [X.here.top, hx, hb, hdg, hmeth', hr, ret, narrow_b1]
  (try refine ⟨rfl, ?_⟩); (try refine ⟨rfl, ?_⟩)
  first | (intro acts; rw [hret _ acts rfl rfl rfl]) | rw [hret _ _ rfl rfl rfl]
  exact Steps.refl _
/-- what holds at the law's entry: the machine, the code, the tables' words (any of lw_tbl by 'hts w (by decide +kernel)'), the script of L ints xs at the cell b, what the Statement gives of the start (any of its parts by flat_of_before) -/
def lw_At (p : Program) (s : State) (m : MethodId) (meth : Method) (c : Code) (b L : Nat) (xs : Nat → Int32) : Prop :=
  p.tables.exec = Jvm.exec ∧ c.code = code ∧ meth.sig.returnType = ret ∧ c.maxLocals = 8 ∧ s.vm.findClass R_law = some m.cls ∧ (∀ w ∈ lw_tbl, w.before #[Value.ref b] s = true) ∧ va_X b L xs s s.heap ∧ b < s.heap.size ∧ meth.locks = false ∧ (Jvm.Cond.and given_1 narrow_1).before #[Value.ref b] s = true
end
section
/-! the law's frame -/
section LAWF
set_option maxRecDepth 100000
variable {p : Program} {l : Launch} {e : Env} {R : Room} {s : State} {m : MethodId} {args : Array Value} {below : List Frame} {meth : Method} {c : Code} {Q : State → Prop} {cc : ByteArray} {G : EG} {mi lv nL : Nat} {ph : Bool} {r0 : PRs} {pc : Nat} {L st : List PV} {ls : Array Slot} {M : Mem} {X : PX} {H : Heap} {locs : List Loc} {cl : Nat → Nat → List PV → Mem → PX → Option PRs} {K : KT}
theorem kCall_inw {w : Nat × Nat × Nat × Nat × Nat × Nat × Nat} {nx : Nat} {as r : List PV} (hw : w.2.2.2.2.1 = 1) (h : kCall ph cl mi lv K nx w as L r M X = some r0) : wg r ≤ 8 ∧ plen (expd as) ≤ w.2.2.2.1 ∧ alM mi = true ∧ (X.2.2.2.1 + w.2.2.2.2.2.1 ≤ mcM mi ∧ X.2.2.2.2.1 + w.2.2.2.2.2.2 ≤ msM mi) ∧ ∃ q : PRs, cl w.2.1 0 (padl w.2.2.2.1 (expd as)) M (enX 1 X) = some q ∧ kRet ph (alM mi) mi w.2.2.2.2.2.1 w.2.2.2.2.2.2 nx K L r X q = some r0 := by
  unfold kCall at h
  obtain ⟨hc, h1⟩ := bif_inv h
  simp only [Bool.and_eq_true] at hc
  rw [hw] at h1
  obtain ⟨ha, h2⟩ := bif_inv (show (bif alM mi then (if X.2.2.2.1 + w.2.2.2.2.2.1 ≤ mcM mi ∧ X.2.2.2.2.1 + w.2.2.2.2.2.2 ≤ msM mi then (cl w.2.1 0 (padl w.2.2.2.1 (expd as)) M (enX 1 X)).bind (kRet ph (alM mi) mi w.2.2.2.2.2.1 w.2.2.2.2.2.2 nx K L r X) else none) else none) = some r0 from h1)
  obtain ⟨hb, h3⟩ := ite_inv h2
  obtain ⟨q, g1, g2⟩ := bind_inv h3
  exact ⟨Nat.le_of_ble_eq_true hc.1, Nat.le_of_ble_eq_true hc.2, ha, hb, q, g1, g2⟩
def lwE (cc : ByteArray) (mi : Nat) (e : PE) : Bool := match e.2.1 with
  | .invokestatic i => Nat.beq e.2.2.1 3 && decide (decode cc e.1 = .ok (.invokestatic i, 3)) && (match lkp (mthP (ownM mi)) i, lkp (mwP (ownM mi)) i with
    | some w, some z => Nat.beq w.1 1 && Nat.beq (mkM w.2.1) 2 && isCw w.2.1 && Nat.beq w.2.2.2.1 (mlN w.2.1) && Nat.beq w.2.2.2.2.1 1 && (Nat.beq w.2.2.2.2.2.1 (mcM w.2.1) && Nat.beq w.2.2.2.2.2.2 (msM w.2.1)) && hasW z.2.2.2 (.initialized (yN w.2.1).cls) &&
      (decide ((yN w.2.1).cls ≠ "java/lang/invoke/MethodHandle") && decide ((yN w.2.1).cls ≠ "java/lang/invoke/VarHandle")) && decide ((parseMethodDescriptor (yN w.2.1).desc).map (fun d => d.parameters.length) = some w.2.2.1) && Nat.ble (mlN w.2.1) 41 && Nat.blt (rankM w.2.1 0) (rankM mi 0) && (hasW z.1 (.methodLink (cn (ownM mi)) i (yN w.2.1)) && hasW z.2.1 (.static (yN w.2.1)))
    | _, _ => false)
  | _ => false
set_option maxHeartbeats 2000000 in
theorem step_lw {i : Instr × Nat × Nat × Int32} (hx : p.tables.exec = Jvm.exec) (hb : c.code = cc) (hF : CF l R s m args c G mi 0 nL) (hCW : ∀ m', mkM m' = 2 → CONw l G m') (hNc : NC s) (hth : lwE cc mi (pc, i) = true) :
    ∀ (K : KT) (cl : Nat → Nat → List PV → Mem → PX → Option PRs) (L st : List PV) (M : Mem) (X : PX) (H : Heap) (locs : List Loc) (ls : Array Slot), stp true cl mi 0 K (pc, i) L st M X = some r0 → CL true cl → IHK p l e R s m args below meth c Q G mi nL true K r0 → FI G s H locs true nL M X ls L st → BD mi X → W p l e R s m args below meth c H locs (cX mi X) (sX mi X) Q (F0 m pc ls (st.map (tvG G))) := by
  intro K cl L st M X H locs ls h hcl ih fi hB
  have hF0 := hF
  obtain ⟨hml, hown, hts, hSI, hRc, hRs, hRf, hRl, hlv, hCT, hCON⟩ := hF
  obtain ⟨ins, len, tg, cv⟩ := i
  unfold lwE at hth
  dsimp only at hth
  split at hth
  · next _ i =>
    rw [Bool.and_eq_true, Bool.and_eq_true, decide_eq_true_eq] at hth
    obtain ⟨⟨hlen, hd⟩, hth⟩ := hth
    have hlen := nbeq_t hlen
    subst hlen
    unfold stp at h
    dsimp only at h
    obtain ⟨w, hw, h1⟩ := bind_inv h
    rw [hw] at hth
    cases hz : lkp (mwP (ownM mi)) i with
    | none => rw [hz] at hth; cases hth
    | some z =>
    rw [hz] at hth
    dsimp only at hth
    simp only [Bool.and_eq_true, decide_eq_true_eq] at hth
    obtain ⟨⟨⟨⟨⟨⟨⟨⟨⟨⟨⟨k1, kmk⟩, kcw⟩, kml⟩, kal⟩, kmc, kms⟩, kini⟩, kcls⟩, kpar⟩, k41⟩, krk⟩, klink, kst⟩ := hth
    have k1 := nbeq_t k1
    have kmk := nbeq_t kmk
    have kml := nbeq_t kml
    have kal := nbeq_t kal
    have kmc := nbeq_t kmc
    have kms := nbeq_t kms
    have k41 := Nat.le_of_ble_eq_true k41
    have krk := lt_of_blt krk
    have kgw := cw_gw kcw
    have kcd := cw_ok kcw
    rw [k1] at h1
    have h2 : ((popn w.2.2.1 [] st).bind fun q => kCall true cl mi 0 K (pc + 3) w q.1 L q.2 M X) = some r0 := h1
    obtain ⟨q, hq, h4⟩ := bind_inv h2
    obtain ⟨as, a1, a2, a3⟩ := popn_inv _ _ _ _ hq
    obtain ⟨q1, r⟩ := q
    rw [List.append_nil] at a3
    dsimp only at a2 a3 h4
    subst a3
    subst a2
    obtain ⟨g1, g2, g3, g4, q9, g5, g6⟩ := kCall_inw kal h4
    rw [kml] at g2 g5
    rw [kmc, kms] at g4 g6
    obtain ⟨ev9, px9⟩ := hcl _ _ _ _ _ _ g5
    have fr := fi_rev fi
    have frr : FI G s H locs true nL M X ls L r := fi_st fr fun v hv => fr.2.2.2.2.2.1 v (List.mem_append_right _ hv)
    have hM := hCW w.2.1 kmk q1 M (enX 1 X) q9 ev9 (in9 fr g2 rfl (fun _ => ⟨rfl, rfl⟩))
    have hwg := cat_wg (G := G) frr.2.2.2.2.2.2 r frr.2.2.2.2.2.1
    have hcsw : vx_CSW R s args (cn (ownM mi)) i (yN w.2.1) (byN w.2.1) (mlN w.2.1) (rtN w.2.1) (hhN w.2.1) (cdN w.2.1 :: gwT) (rmM w.2.1 0) (mcM w.2.1) (msM w.2.1) w.2.2.1 := by
      refine ⟨⟨rfl, rfl, Nat.le_trans krk hRf, by show 8 + (mlN w.2.1 + 11) + 60 * rankM w.2.1 0 ≤ R.locals; omega, pay_in (big := gwT) hts fun x hx => ?_, by rw [kcd]; exact List.mem_cons_self⟩, hts _ kgw, hts _ (hasW_in kini), kcls, fun sig h => ?_, hts _ (hasW_in klink), hts _ (hasW_in kst)⟩
      · rcases List.mem_cons.mp hx with rfl | hx
        · rw [kcd]; exact gw_good kgw
        · exact gw_good hx
      · rw [h] at kpar
        exact (Option.some.inj kpar).symm
    refine call9 (m9 := w.2.1) (X9 := enX 1 X) (mc := mcM w.2.1) (ms := msM w.2.1) (vx_runSW (hh := hhN w.2.1) (As := q1.map (tvG G)) (rest := r.map (tvG G)) ⟨hx, hb, hml, hown, hts⟩ hM hcsw ⟨PcW_blind, fun U hU hW => ?_⟩ rfl (by rw [List.length_map]; exact a1) fr.2.2.2.1.2.1 (by show (q1.reverse ++ r).map (tvG G) = _; rw [List.map_append, List.map_reverse]) (by show 2 * 0 + _ ≤ 8; rw [hwg]; omega) hd ?_) frr ih g6 px9 rfl (fun z => by rw [g3] at z; cases z)
    · obtain ⟨z0, z1, z2, z3⟩ := pc9_at (as := q1) (X9 := enX 1 X) hSI frr rfl frr.1 hU hW
      exact ⟨z0, ⟨z1, z2, z3⟩, va_Nc.moved hW.alike hNc⟩
    · unfold cX sX
      rw [g3]
      exact ⟨Nat.le_trans g4.1 hRc, Nat.le_trans g4.2 hRs⟩
  · cases hth
end LAWF
end
section
/-! the throwing and the catching methods, by count -/
section TWC0
set_option maxRecDepth 100000
theorem tw_137 : okT 137 = true := by decide +kernel
theorem tw_138 : okT 138 = true := by decide +kernel
theorem tw_139 : okT 139 = true := by decide +kernel
theorem tw_140 : okT 140 = true := by decide +kernel
theorem tw_141 : okT 141 = true := by decide +kernel
theorem tw_199 : okT 199 = true := by decide +kernel
theorem tw_200 : okT 200 = true := by decide +kernel
theorem tw_201 : okT 201 = true := by decide +kernel
theorem tw_229 : okT 229 = true := by decide +kernel
theorem tw_245 : okT 245 = true := by decide +kernel
theorem tw_246 : okT 246 = true := by decide +kernel
theorem tw_257 : okT 257 = true := by decide +kernel
theorem tw_258 : okT 258 = true := by decide +kernel
theorem tw_259 : okT 259 = true := by decide +kernel
theorem tw_260 : okT 260 = true := by decide +kernel
theorem tw_261 : okT 261 = true := by decide +kernel
end TWC0
end
section
/-! the throwing and the catching methods, by count -/
section TWC1
set_option maxRecDepth 100000
theorem tw_262 : okT 262 = true := by decide +kernel
theorem tw_263 : okT 263 = true := by decide +kernel
theorem tw_278 : okT 278 = true := by decide +kernel
theorem tw_279 : okT 279 = true := by decide +kernel
theorem tw_194 : okW 194 = true := by decide +kernel
theorem tw_195 : okW 195 = true := by decide +kernel
theorem tw_196 : okW 196 = true := by decide +kernel
theorem tw_197 : okW 197 = true := by decide +kernel
theorem tw_198 : okW 198 = true := by decide +kernel
theorem tw_223 : okW 223 = true := by decide +kernel
theorem tw_224 : okW 224 = true := by decide +kernel
theorem tw_225 : okW 225 = true := by decide +kernel
theorem tw_242 : okW 242 = true := by decide +kernel
theorem tw_255 : okW 255 = true := by decide +kernel
theorem tw_256 : okW 256 = true := by decide +kernel
theorem tw_267 : okW 267 = true := by decide +kernel
end TWC1
end
section
/-! the throwing and the catching methods, by count -/
section TWC2
set_option maxRecDepth 100000
theorem tw_268 : okW 268 = true := by decide +kernel
theorem tw_269 : okW 269 = true := by decide +kernel
theorem tw_270 : okW 270 = true := by decide +kernel
theorem tw_271 : okW 271 = true := by decide +kernel
theorem tw_272 : okW 272 = true := by decide +kernel
theorem tw_273 : okW 273 = true := by decide +kernel
theorem tw_280 : okW 280 = true := by decide +kernel
theorem tw_281 : okW 281 = true := by decide +kernel
end TWC2
end
section
/-! the throwing and the catching methods -/
section TWA
set_option maxRecDepth 100000
theorem okt_alll : ∀ m, m < 312 → mkM m = 1 → [137, 138, 139, 140, 141, 199, 200, 201, 229, 245, 246, 257, 258, 259, 260, 261, 262, 263, 278, 279].elem m = true := by
  have h : ((List.range 312).all fun m => !(Nat.beq (mkM m) 1) || [137, 138, 139, 140, 141, 199, 200, 201, 229, 245, 246, 257, 258, 259, 260, 261, 262, 263, 278, 279].elem m) = true := by decide +kernel
  intro m hm h1
  have h2 := List.all_eq_true.mp h m (List.mem_range.mpr hm)
  rw [h1] at h2
  exact h2
theorem okt_all : ∀ m, mkM m = 1 → okT m = true := by
  intro m hm
  have h := okt_alll m (mk_lt (by rw [hm]; decide)) hm
  have h := List.elem_iff.mp h
  simp only [List.mem_cons, List.not_mem_nil, or_false] at h
  rcases h with rfl | rfl | rfl | rfl | rfl | rfl | rfl | rfl | rfl | rfl | rfl | rfl | rfl | rfl | rfl | rfl | rfl | rfl | rfl | rfl
  · exact tw_137
  · exact tw_138
  · exact tw_139
  · exact tw_140
  · exact tw_141
  · exact tw_199
  · exact tw_200
  · exact tw_201
  · exact tw_229
  · exact tw_245
  · exact tw_246
  · exact tw_257
  · exact tw_258
  · exact tw_259
  · exact tw_260
  · exact tw_261
  · exact tw_262
  · exact tw_263
  · exact tw_278
  · exact tw_279
theorem okw_alll : ∀ m, m < 312 → mkM m = 2 → [194, 195, 196, 197, 198, 223, 224, 225, 242, 255, 256, 267, 268, 269, 270, 271, 272, 273, 280, 281].elem m = true := by
  have h : ((List.range 312).all fun m => !(Nat.beq (mkM m) 2) || [194, 195, 196, 197, 198, 223, 224, 225, 242, 255, 256, 267, 268, 269, 270, 271, 272, 273, 280, 281].elem m) = true := by decide +kernel
  intro m hm h1
  have h2 := List.all_eq_true.mp h m (List.mem_range.mpr hm)
  rw [h1] at h2
  exact h2
theorem okw_all : ∀ m, mkM m = 2 → okW m = true := by
  intro m hm
  have h := okw_alll m (mk_lt (by rw [hm]; decide)) hm
  have h := List.elem_iff.mp h
  simp only [List.mem_cons, List.not_mem_nil, or_false] at h
  rcases h with rfl | rfl | rfl | rfl | rfl | rfl | rfl | rfl | rfl | rfl | rfl | rfl | rfl | rfl | rfl | rfl | rfl | rfl | rfl | rfl
  · exact tw_194
  · exact tw_195
  · exact tw_196
  · exact tw_197
  · exact tw_198
  · exact tw_223
  · exact tw_224
  · exact tw_225
  · exact tw_242
  · exact tw_255
  · exact tw_256
  · exact tw_267
  · exact tw_268
  · exact tw_269
  · exact tw_270
  · exact tw_271
  · exact tw_272
  · exact tw_273
  · exact tw_280
  · exact tw_281
theorem cx_all {l : Launch} {G : EG} (hl : l.stackTraces = false) : ∀ m, mkM m = 1 → CONx l G m := fun m hm => con_thr hm (okt_all m hm) hl
theorem cw_all {l : Launch} {G : EG} (hl : l.stackTraces = false) : ∀ m, mkM m = 2 → CONw l G m := fun m hm => con_wr hm (okw_all m hm) (cx_all hl)
end TWA
end
section
/-! the law's instructions, by count -/
section LWC1
set_option maxRecDepth 100000
def nPut (e : PE) : Bool := match e.2.1 with
  | .putfield _ => false
  | _ => true
def lwR (e : PE) : Bool := match e.2.1 with
  | .ireturn => decide (decode code e.1 = .ok (.ireturn, 1))
  | _ => false
def lwK (e : PE) : Bool := (ckE code 311 e && nPut e) || lwE code 311 e || lwR e
theorem lwc_0 : (((pt 311).drop 0).take 40).all lwK = true := by decide +kernel
theorem lwc_40 : (((pt 311).drop 40).take 40).all lwK = true := by decide +kernel
theorem lwc_80 : (((pt 311).drop 80).take 40).all lwK = true := by decide +kernel
theorem lwc_120 : (((pt 311).drop 120).take 40).all lwK = true := by decide +kernel
theorem lwc_160 : (((pt 311).drop 160).take 40).all lwK = true := by decide +kernel
theorem lwc_200 : (((pt 311).drop 200).take 40).all lwK = true := by decide +kernel
theorem lwc_240 : (((pt 311).drop 240).take 40).all lwK = true := by decide +kernel
theorem lwc_280 : (((pt 311).drop 280).take 40).all lwK = true := by decide +kernel
theorem lwc_320 : (((pt 311).drop 320).take 40).all lwK = true := by decide +kernel
theorem lwc_360 : (((pt 311).drop 360).take 40).all lwK = true := by decide +kernel
theorem lwc_400 : (((pt 311).drop 400).take 40).all lwK = true := by decide +kernel
theorem lwc_440 : (((pt 311).drop 440).take 40).all lwK = true := by decide +kernel
theorem lwc_480 : (((pt 311).drop 480).take 40).all lwK = true := by decide +kernel
end LWC1
end
section
/-! the law's instructions, by count -/
section LWC2
set_option maxRecDepth 100000
theorem lwc_520 : (((pt 311).drop 520).take 40).all lwK = true := by decide +kernel
theorem lwc_560 : (((pt 311).drop 560).take 40).all lwK = true := by decide +kernel
theorem lwc_600 : (((pt 311).drop 600).take 40).all lwK = true := by decide +kernel
theorem lwc_640 : (((pt 311).drop 640).take 40).all lwK = true := by decide +kernel
theorem lwc_680 : (((pt 311).drop 680).take 40).all lwK = true := by decide +kernel
theorem lwc_720 : (((pt 311).drop 720).take 40).all lwK = true := by decide +kernel
theorem lwc_760 : (((pt 311).drop 760).take 40).all lwK = true := by decide +kernel
theorem lwc_800 : (((pt 311).drop 800).take 40).all lwK = true := by decide +kernel
theorem lwc_840 : (((pt 311).drop 840).take 40).all lwK = true := by decide +kernel
theorem lwc_880 : (((pt 311).drop 880).take 40).all lwK = true := by decide +kernel
theorem lwc_920 : (((pt 311).drop 920).take 40).all lwK = true := by decide +kernel
theorem lwc_960 : (((pt 311).drop 960).take 40).all lwK = true := by decide +kernel
theorem lwc_1000 : (((pt 311).drop 1000).take 40).all lwK = true := by decide +kernel
theorem lwc_e : ((pt 311).drop 1040).all lwK = true := by decide +kernel
theorem lwc_j {α : Type} {l : List α} {f : α → Bool} {a n : Nat} (h1 : ((l.drop a).take n).all f = true) (h2 : (l.drop (a + n)).all f = true) : (l.drop a).all f = true := by
  rw [← List.take_append_drop n (l.drop a), List.all_append, h1, List.drop_drop, h2]
  rfl
theorem lwd_1000 : ((pt 311).drop 1000).all lwK = true := lwc_j (l := pt 311) (f := lwK) (a := 1000) (n := 40) lwc_1000 lwc_e
theorem lwd_960 : ((pt 311).drop 960).all lwK = true := lwc_j (l := pt 311) (f := lwK) (a := 960) (n := 40) lwc_960 lwd_1000
theorem lwd_920 : ((pt 311).drop 920).all lwK = true := lwc_j (l := pt 311) (f := lwK) (a := 920) (n := 40) lwc_920 lwd_960
theorem lwd_880 : ((pt 311).drop 880).all lwK = true := lwc_j (l := pt 311) (f := lwK) (a := 880) (n := 40) lwc_880 lwd_920
theorem lwd_840 : ((pt 311).drop 840).all lwK = true := lwc_j (l := pt 311) (f := lwK) (a := 840) (n := 40) lwc_840 lwd_880
theorem lwd_800 : ((pt 311).drop 800).all lwK = true := lwc_j (l := pt 311) (f := lwK) (a := 800) (n := 40) lwc_800 lwd_840
theorem lwd_760 : ((pt 311).drop 760).all lwK = true := lwc_j (l := pt 311) (f := lwK) (a := 760) (n := 40) lwc_760 lwd_800
theorem lwd_720 : ((pt 311).drop 720).all lwK = true := lwc_j (l := pt 311) (f := lwK) (a := 720) (n := 40) lwc_720 lwd_760
theorem lwd_680 : ((pt 311).drop 680).all lwK = true := lwc_j (l := pt 311) (f := lwK) (a := 680) (n := 40) lwc_680 lwd_720
theorem lwd_640 : ((pt 311).drop 640).all lwK = true := lwc_j (l := pt 311) (f := lwK) (a := 640) (n := 40) lwc_640 lwd_680
theorem lwd_600 : ((pt 311).drop 600).all lwK = true := lwc_j (l := pt 311) (f := lwK) (a := 600) (n := 40) lwc_600 lwd_640
theorem lwd_560 : ((pt 311).drop 560).all lwK = true := lwc_j (l := pt 311) (f := lwK) (a := 560) (n := 40) lwc_560 lwd_600
theorem lwd_520 : ((pt 311).drop 520).all lwK = true := lwc_j (l := pt 311) (f := lwK) (a := 520) (n := 40) lwc_520 lwd_560
theorem lwd_480 : ((pt 311).drop 480).all lwK = true := lwc_j (l := pt 311) (f := lwK) (a := 480) (n := 40) lwc_480 lwd_520
theorem lwd_440 : ((pt 311).drop 440).all lwK = true := lwc_j (l := pt 311) (f := lwK) (a := 440) (n := 40) lwc_440 lwd_480
theorem lwd_400 : ((pt 311).drop 400).all lwK = true := lwc_j (l := pt 311) (f := lwK) (a := 400) (n := 40) lwc_400 lwd_440
theorem lwd_360 : ((pt 311).drop 360).all lwK = true := lwc_j (l := pt 311) (f := lwK) (a := 360) (n := 40) lwc_360 lwd_400
theorem lwd_320 : ((pt 311).drop 320).all lwK = true := lwc_j (l := pt 311) (f := lwK) (a := 320) (n := 40) lwc_320 lwd_360
theorem lwd_280 : ((pt 311).drop 280).all lwK = true := lwc_j (l := pt 311) (f := lwK) (a := 280) (n := 40) lwc_280 lwd_320
theorem lwd_240 : ((pt 311).drop 240).all lwK = true := lwc_j (l := pt 311) (f := lwK) (a := 240) (n := 40) lwc_240 lwd_280
theorem lwd_200 : ((pt 311).drop 200).all lwK = true := lwc_j (l := pt 311) (f := lwK) (a := 200) (n := 40) lwc_200 lwd_240
theorem lwd_160 : ((pt 311).drop 160).all lwK = true := lwc_j (l := pt 311) (f := lwK) (a := 160) (n := 40) lwc_160 lwd_200
theorem lwd_120 : ((pt 311).drop 120).all lwK = true := lwc_j (l := pt 311) (f := lwK) (a := 120) (n := 40) lwc_120 lwd_160
theorem lwd_80 : ((pt 311).drop 80).all lwK = true := lwc_j (l := pt 311) (f := lwK) (a := 80) (n := 40) lwc_80 lwd_120
theorem lwd_40 : ((pt 311).drop 40).all lwK = true := lwc_j (l := pt 311) (f := lwK) (a := 40) (n := 40) lwc_40 lwd_80
theorem lwd_0 : ((pt 311).drop 0).all lwK = true := lwc_j (l := pt 311) (f := lwK) (a := 0) (n := 40) lwc_0 lwd_40
theorem lwc : (pt 311).all lwK = true := by
  have h := lwd_0
  rwa [List.drop_zero] at h
end LWC2
end
section
/-! the law's body, from its entry to its end -/
section LWF
set_option maxRecDepth 100000
def lwP (pc : Nat) : Bool := [0, 3, 4, 7, 8, 11, 12, 15, 16, 17, 19, 20].elem pc
variable {p : Program} {l : Launch} {e : Env} {s : State} {m : MethodId} {below : List Frame} {meth : Method} {c : Code} {G : EG} {b : Nat} {r0 : PRs} {M9 : Mem} {X9 : PX}
/-- the law's frame knows -/
def LK (p : Program) (l : Launch) (s : State) (m : MethodId) (meth : Method) (c : Code) (G : EG) (b : Nat) : Prop :=
  p.tables.exec = Jvm.exec ∧ c.code = code ∧ meth.sig.returnType = ret ∧ meth.locks = false ∧ CF l room_1 s m #[Value.ref b] c G 311 0 8 ∧ NC s ∧ gb G = s.heap.size ∧ l.stackTraces = false
theorem lw_iret {ph : Bool} {pc : Nat} {L : List PV} {x : Int32} {M : Mem} {X : PX} {H : Heap} {locs : List Loc} {ls : Array Slot} (hK : LK p l s m meth c G b) (hB : X9.2.2.2.1 ≤ 601024 ∧ X9.2.2.2.2.1 ≤ 7293034) (hd : decode code pc = .ok (.ireturn, 1)) (h0 : (.inl (some (pI 1)), M9, X9) = ((.inl (some (pI x)), M, X) : PRs)) (fi : FI G s H locs ph 8 M X ls L []) : W p l e room_1 s m #[Value.ref b] below meth c H locs (cX 311 X) (sX 311 X) (lw_Z below #[Value.ref b] s) (F0 m pc ls [.int x]) := by
  obtain ⟨hx, hb, hr, hlocks, hF, hNc, hgb, hl⟩ := hK
  cases h0
  refine va_forget (fun q hq => ?_) (W.widen (k := 601024) (n := 7293034) hB.1 hB.2 (lw_ret hx hb hr hlocks hd))
  have h5 : gb G ≤ q.base := fi.2.2.1.2.2 q hq
  rw [← hgb]
  exact h5
theorem lw_ends {ph0 : Bool} (hK : LK p l s m meth c G b) (hB : X9.2.2.2.1 ≤ 601024 ∧ X9.2.2.2.2.1 ≤ 7293034) : ENDS p l e room_1 s m #[Value.ref b] below meth c (lw_Z below #[Value.ref b] s) code G 311 8 ph0 (.inl (some (pI 1)), M9, X9) := by
  intro ph pc o L M X H locs ls hd h0 fi hph
  rcases hd with ⟨hd, -, x, rfl, -⟩ | ⟨hd, -, x, rfl⟩ | ⟨hd, -, rfl⟩
  · exact lw_iret hK hB hd h0 fi
  · cases h0
  · cases h0
theorem lw_step_r {ph0 : Bool} {lv pc : Nat} {i : Instr × Nat × Nat × Int32} (hK : LK p l s m meth c G b) (hB : X9.2.2.2.1 ≤ 601024 ∧ X9.2.2.2.2.1 ≤ 7293034) (hc : lwR (pc, i) = true) : STEP p l e room_1 s m #[Value.ref b] below meth c (lw_Z below #[Value.ref b] s) G 311 lv 8 ph0 (.inl (some (pI 1)), M9, X9) pc i := by
  intro ph cl K L st M X H locs ls h hcl ih fi h0 hB9
  obtain ⟨ins, len, tg, cv⟩ := i
  unfold lwR at hc
  dsimp only at hc
  split at hc
  · have hd := of_decide_eq_true hc
    unfold stp at h
    dsimp only at h
    obtain ⟨x, q, rfl, h1⟩ := u1_inv h
    obtain ⟨rfl, h3⟩ := ue_inv h1
    obtain ⟨h4, h5⟩ := ite_inv h3
    exact lw_iret hK hB hd (Option.some.inj h5).symm (fi_tl fi)
  · cases hc
theorem lw_true (hK : LK p l s m meth c G b) (hB : X9.2.2.2.1 ≤ 601024 ∧ X9.2.2.2.2.1 ≤ 7293034) : ∀ (n : Nat) (pc : Nat) (L st : List PV) (M : Mem) (X : PX) (H : Heap) (locs : List Loc) (ls : Array Slot), run n true 311 0 pc L st M X = some (.inl (some (pI 1)), M9, X9) → FI G s H locs true 8 M X ls L st → W p l e room_1 s m #[Value.ref b] below meth c H locs (cX 311 X) (sX 311 X) (lw_Z below #[Value.ref b] s) (F0 m pc ls (st.map (tvG G))) := by
  intro n pc L st M X H locs ls h fi
  have hE := lw_ends (e := e) (below := below) (M9 := M9) (X9 := X9) (ph0 := true) hK hB
  have hK9 := hK
  obtain ⟨hx, hb, hr, hlocks, hF, hNc, hgb, hl⟩ := hK
  refine frame9 (ph0 := true) (lv := 0) (fun pc i hi => ?_) (fun _ => hB) n true pc L st M X H locs ls h fi (fun z => z)
  have hc := List.all_eq_true.mp lwc _ (lkp_mem hi)
  unfold lwK at hc
  rw [Bool.or_eq_true, Bool.or_eq_true, Bool.and_eq_true] at hc
  rcases hc with (⟨hc, hp⟩ | hc) | hc
  · refine step_ck (cc := code) hx hb hF (po_all _ (own_lt 311 (by decide))) (fun hk => ?_) (by decide +kernel) (by decide +kernel) (by decide +kernel) aw_i aw_l hE hc
    obtain ⟨k, hk⟩ := hk
    unfold nPut at hp
    rw [hk] at hp
    cases hp
  · intro ph cl K L st M X H locs ls h hcl ih fi h0 hB9
    have hph := h0 rfl
    subst hph
    exact step_lw (cc := code) hx hb hF (cw_all hl) hNc hc K cl L st M X H locs ls h hcl ih fi hB9
  · exact lw_step_r hK9 hB hc
def kCut (K : KT) : KT := fun pc L st M X => bif lwP pc then K pc L st M X else none
theorem cut_all {cl : Nat → Nat → List PV → Mem → PX → Option PRs} {K : KT} {pc : Nat} {L st : List PV} {M : Mem} {X : PX} (h : lwP pc = true) (h20 : pc ≠ 20) : ∃ i, lkp (pt 311) pc = some i ∧ psw 311 pc = false ∧ lwE code 311 (pc, i) = false ∧ lwR (pc, i) = false ∧ stp false cl 311 0 K (pc, i) L st M X = stp false cl 311 0 (kCut K) (pc, i) L st M X := by
  unfold lwP at h
  have h := List.elem_iff.mp h
  simp only [List.mem_cons, List.not_mem_nil, or_false] at h
  rcases h with rfl | rfl | rfl | rfl | rfl | rfl | rfl | rfl | rfl | rfl | rfl | rfl
  · exact ⟨_, rfl, rfl, rfl, rfl, rfl⟩
  · exact ⟨_, rfl, rfl, rfl, rfl, rfl⟩
  · exact ⟨_, rfl, rfl, rfl, rfl, rfl⟩
  · exact ⟨_, rfl, rfl, rfl, rfl, rfl⟩
  · exact ⟨_, rfl, rfl, rfl, rfl, rfl⟩
  · exact ⟨_, rfl, rfl, rfl, rfl, rfl⟩
  · exact ⟨_, rfl, rfl, rfl, rfl, rfl⟩
  · exact ⟨_, rfl, rfl, rfl, rfl, rfl⟩
  · exact ⟨_, rfl, rfl, rfl, rfl, rfl⟩
  · exact ⟨_, rfl, rfl, rfl, rfl, rfl⟩
  · exact ⟨_, rfl, rfl, rfl, rfl, rfl⟩
  · exact absurd rfl h20
theorem lw_false (hK : LK p l s m meth c G b) (hB : X9.2.2.2.1 ≤ 601024 ∧ X9.2.2.2.2.1 ≤ 7293034) : ∀ (n : Nat) (pc : Nat) (L st : List PV) (M : Mem) (X : PX) (H : Heap) (locs : List Loc) (ls : Array Slot), lwP pc = true → run n false 311 0 pc L st M X = some (.inl (some (pI 1)), M9, X9) → FI G s H locs false 8 M X ls L st → W p l e room_1 s m #[Value.ref b] below meth c H locs (cX 311 X) (sX 311 X) (lw_Z below #[Value.ref b] s) (F0 m pc ls (st.map (tvG G))) := by
  intro n
  induction n with
  | zero => intro pc L st M X H locs ls hp h; cases h
  | succ n ih =>
    intro pc L st M X H locs ls hp h fi
    have hBx : BD 311 X := fun ha => by
      have h1 := (run_P (n + 1) _ h).2.2.2.2 ha
      exact ⟨Nat.le_trans h1.1 hB.1, Nat.le_trans h1.2 hB.2⟩
    have h : stA (fun ph m' lv' as M X => run n ph m' lv' 0 as [] M X) (fun ph => run n ph 311 0) false 311 0 pc L st M X = some (.inl (some (pI 1)), M9, X9) := h
    unfold stA at h
    by_cases h20 : pc = 20
    · subst h20
      obtain ⟨h1, h2⟩ := ite_inv (show (if setA X.2.1 M = true then run n true 311 0 20 L st M X else none) = some (.inl (some (pI 1)), M9, X9) from h)
      exact lw_true hK hB n 20 L st M X H locs ls h2 ⟨fi.1, fun _ => h1, fi.2.2⟩
    · obtain ⟨i, hi, hp0, hl0, hl1, hcut⟩ := cut_all (cl := fun m' lv' as M X => run n false m' lv' 0 as [] M X) (K := run n false 311 0) (L := L) (st := st) (M := M) (X := X) hp h20
      rw [hp0, hi] at h
      have h1 : stp false (fun m' lv' as M X => run n false m' lv' 0 as [] M X) 311 0 (run n false 311 0) (pc, i) L st M X = some (.inl (some (pI 1)), M9, X9) := h
      rw [hcut] at h1
      have hE := lw_ends (e := e) (below := below) (M9 := M9) (X9 := X9) (ph0 := false) hK hB
      have hK9 := hK
      obtain ⟨hx, hb, hr, hlocks, hF, hNc, hgb, hl⟩ := hK
      have hc := List.all_eq_true.mp lwc _ (lkp_mem hi)
      unfold lwK at hc
      rw [hl0, hl1, Bool.or_false, Bool.or_false, Bool.and_eq_true] at hc
      refine step_ck (ph0 := false) (cc := code) hx hb hF (po_all _ (own_lt 311 (by decide))) (fun hk => ?_) (by decide +kernel) (by decide +kernel) (by decide +kernel) aw_i aw_l hE hc.1 false _ _ L st M X H locs ls h1 (fun m' lv' as M X q hq => ⟨ev_run hq, run_P n q hq⟩) (fun pc L st M X H locs ls h2 f2 => ?_) fi (fun z => z) hBx
      · obtain ⟨k, hk⟩ := hk
        have hp := hc.2
        unfold nPut at hp
        rw [hk] at hp
        cases hp
      · unfold kCut at h2
        obtain ⟨hp2, h3⟩ := bif_inv h2
        exact ih pc L st M X H locs ls hp2 h3 f2
end LWF
end
section
/-! the state at the law's entry -/
section SIB
set_option maxRecDepth 100000
def flN : List Cond := flatC (Jvm.Cond.and given_1 narrow_1)
def smT : List (String × Nat) := [("MergeBelts$Question", 58), ("MergeBelts$BeltText", 27), ("MergeBelts$BeltText", 72), ("MergeBelts$BeltText", 211), ("MergeBelts$BeltText", 52), ("MergeBelts$Question", 44), ("MergeBelts$Question", 127), ("MergeBelts$BeltText", 219), ("MergeBelts$BeltText", 221), ("MergeBelts$Question", 35), ("MergeBelts$Question", 89), ("MergeBelts$Question", 60), ("MergeBelts$Question", 123), ("MergeBelts$Question", 131), ("MergeBelts$BeltText", 217), ("MergeBelts$Question", 129), ("MergeBelts$BeltText", 213), ("MergeBelts$BeltText", 67), ("MergeBelts$BeltText", 77), ("MergeBelts$BeltText", 130), ("MergeBelts$BeltText", 215), ("MergeBelts$BeltText", 62)]
def smO (k : Nat) : String × Nat := smT.getD k ("", 0)
def smTm (k : Nat) : Term := .string (smO k).1 (smO k).2
def stW (t : Term) (len : Nat) (byt : List Int32) : List Cond := [.exactly t "java/lang/String", .eq (.field t "java/lang/String" "coder" "B") (.int 0), .arrayOf (.field t "java/lang/String" "value" "[B") .byte, .eq (.length (.field t "java/lang/String" "value" "[B")) (.int (Int32.ofNat len))] ++ (List.range len).map fun j => .eq (.elem (.field t "java/lang/String" "value" "[B") (.int (Int32.ofNat j))) (.int (byt.getD j 0))
def stx : List (List Nat) := [[246, 247, 248, 249, 250, 251, 252], [39, 40, 41, 42, 43, 44, 45, 46], [81, 82, 83, 84, 85, 86, 87, 88, 89], [99, 100, 101, 102, 103, 104, 105, 106, 107, 108], [47, 48, 49, 50, 51, 52, 53, 54], [159, 160, 161, 162, 163, 164, 165, 166, 167], [193, 194, 195, 196, 197, 198, 199, 200], [135, 136, 137, 138, 139, 140, 141, 142], [143, 144, 145, 146, 147, 148, 149, 150], [151, 152, 153, 154, 155, 156, 157, 158], [168, 169, 170, 171, 172, 173, 174], [253, 254, 255, 256, 257, 258], [175, 176, 177, 178, 179, 180, 181, 182, 183], [210, 211, 212, 213, 214, 215, 216, 217, 218], [127, 128, 129, 130, 131, 132, 133, 134], [201, 202, 203, 204, 205, 206, 207, 208, 209], [109, 110, 111, 112, 113, 114, 115, 116, 117], [73, 74, 75, 76, 77, 78, 79, 80], [90, 91, 92, 93, 94, 95, 96, 97, 98], [63, 64, 65, 66, 67, 68, 69, 70, 71, 72], [118, 119, 120, 121, 122, 123, 124, 125, 126], [55, 56, 57, 58, 59, 60, 61, 62]]
def inN (w : Cond) (i : Nat) : Bool := decide (flN[i]? = some w)
theorem st_ck : ((List.range 22).all fun k => zipB inN (stW (smTm k) (slnL.getD k 0) (sbyt.getD k [])) (stx.getD k [])) = true := by decide +kernel
def ctx : List (List (String × Nat × Nat)) := [[], [("", 0, 0), ("", 0, 0)], [("", 0, 0)], [("belt", 810, 0), ("exit", 901, 0), ("ware", 926, 0), ("side", 932, 0), ("comes", 937, 0), ("turns", 942, 0), ("urgent", 931, 0), ("credit", 964, 0), ("share", 965, 0), ("waits", 966, 0), ("room", 967, 0), ("held", 968, 0), ("late", 969, 0)], [("many", 1402, 0), ("first", 1404, 0), ("and", 1446, 0), ("or", 1447, 0), ("not", 1411, 0), ("place", 1427, 0), ("ware", 1428, 192), ("from", 1429, 0), ("round", 1430, 0), ("rides", 1431, 0), ("held", 1432, 227), ("exit", 1433, 236), ("side", 1434, 245)], [("", 0, 0)], [], [], [], [], [], [], [], [("", 0, 0), ("", 0, 0), ("", 0, 0), ("urgent", 1978, 298), ("credit", 2006, 339), ("share", 2007, 349), ("waits", 2008, 359), ("room", 2009, 368), ("held", 2010, 377), ("late", 2011, 387), ("side", 1979, 307), ("exit", 1964, 276), ("ware", 1973, 286), ("comes", 1984, 318), ("turns", 1989, 328), ("belt", 1928, 267), ("place", 2047, 424), ("from", 2048, 433), ("round", 2049, 443), ("rides", 2050, 453), ("not", 2038, 414), ("and", 2055, 461), ("or", 2056, 468), ("many", 2025, 406), ("first", 2020, 397), ("", 0, 0)], [], [], [], [], []]
def csB (o : Nat) (q : Nat × PV) (z : String × Nat × Nat) : Bool := match q.2 with
  | .inr (.inr (_, k)) => Nat.blt k 22 && decide (lw_tbl[z.2.1]? = some (.stringRef (cn o) q.1 z.1)) && (decide (smO k = (cn o, q.1)) || inN (.eq (smTm k) (.string (cn o) q.1)) z.2.2)
  | _ => true
def zipC {α β : Type} (f : α → β → Bool) : List α → List β → Bool
  | [], _ => true
  | _ :: _, [] => false
  | x :: l, i :: is => f x i && zipC f l is
theorem zipC_in {α β : Type} {f : α → β → Bool} : ∀ {l : List α} {is : List β}, zipC f l is = true → ∀ q ∈ l, ∃ i, f q i = true
  | [], _, _, q, hq => by cases hq
  | _ :: _, [], h, _, _ => by cases h
  | x :: l, i :: is, h, q, hq => by
    have h : (f x i && zipC f l is) = true := h
    rw [Bool.and_eq_true] at h
    rcases List.mem_cons.mp hq with rfl | hq
    · exact ⟨i, h.1⟩
    · exact zipC_in h.2 q hq
theorem cs_ck : ((List.range 19).all fun o => zipC (csB o) (cstP o) (ctx.getD o [])) = true := by decide +kernel
def stD (i j : Nat) : Bool := Nat.beq i j || !(decide (Int32.ofNat (slnL.getD i 0) = Int32.ofNat (slnL.getD j 0))) || (List.range (slnL.getD i 0)).any (fun x => Nat.blt x (slnL.getD j 0) && !(decide ((sbyt.getD i []).getD x 0 = (sbyt.getD j []).getD x 0)))
theorem sd_ck : ((List.range 22).all fun i => (List.range 22).all fun j => stD i j) = true := by decide +kernel
def ktI (k : Nat) : Nat := [7, 3, 12, 11, 5, 4, 10, 9, 8, 6, 2, 1, 13].getD k 0
theorem kt_ck : ((List.range 13).all fun k => Nat.beq (kci (ktI k)) k && Nat.ble 1 (ktI k) && Nat.ble (ktI k) 13 && hasW (inT.getD (ktI k) 0) (.instantiable (clT (ktI k)).1 (clT (ktI k)).2.2)) = true := by decide +kernel
theorem len_ck : ((List.range 22).all fun k => Nat.blt (slnL.getD k 0) 100) = true := by decide +kernel
variable {s : State} {args : Array Value} {A : Nat → Prop}
theorem inN_of (h0 : (Jvm.Cond.and given_1 narrow_1).before args s = true) {w : Cond} {i : Nat} (h : inN w i = true) : w.before args s = true := flat_of_before _ h0 w (List.mem_of_getElem? (of_decide_eq_true h))
/-- what is said of one String -/
def SO (k a v : Nat) (A : Nat → Prop) (s : State) : Prop := va_O "java/lang/String" a A s s.heap ∧ va_OF "java/lang/String" "coder" "B" (.int 0) a A s s.heap ∧ va_OF "java/lang/String" "value" "[B" (.ref v) a A s s.heap ∧ va_T .byte v (slnL.getD k 0) (fun j => .int ((sbyt.getD k []).getD j 0)) A s s.heap
theorem st_one (h0 : (Jvm.Cond.and given_1 narrow_1).before args s = true) (hA : ∀ a : Nat, a < s.heap.size → ¬ A a) (k : Nat) : ∃ q : Nat × Nat, k < 22 → SO k q.1 q.2 A s ∧ (smTm k).eval args s none [] s = some (.ref q.1) := by
  rcases Nat.lt_or_ge k 22 with hk | hk
  · have h1 := List.all_eq_true.mp st_ck k (List.mem_range.mpr hk)
    have h2 : ∀ w ∈ stW (smTm k) (slnL.getD k 0) (sbyt.getD k []), w.before args s = true := fun w hw => (zipB_in h1 w hw).elim fun _ g => inN_of h0 g
    have hl := lt_of_blt (List.all_eq_true.mp len_ck k (List.mem_range.mpr hk))
    obtain ⟨adK, adV, g1, g2⟩ := vk_Sof (args := args) (s := s) (N := 1) (tm := fun _ => smTm k) (len := [slnL.getD k 0]) (byt := [sbyt.getD k []]) (A := A)
      (fun i hi => by obtain rfl : i = 0 := by omega
                      show slnL.getD k 0 < _; omega)
      (fun i hi => h2 _ (by unfold stW; simp)) (fun i hi => h2 _ (by unfold stW; simp)) (fun i hi => h2 _ (by unfold stW; simp))
      (fun i hi => by obtain rfl : i = 0 := by omega
                      exact h2 _ (by unfold stW; simp))
      (fun i hi j hj => by obtain rfl : i = 0 := by omega
                           exact h2 _ (List.mem_append_right _ (List.mem_map.mpr ⟨j, List.mem_range.mpr hj, rfl⟩)))
      (fun i j hi hj hne => absurd (by omega : i = j) hne) hA
    exact ⟨(adK 0, adV 0), fun _ => ⟨g1.1 0 (by omega), g2 0 (by omega)⟩⟩
  · exact ⟨(0, 0), fun h => absurd h (by omega)⟩
theorem so_inj {i j a v1 v2 : Nat} (hi : i < 22) (hj : j < 22) (h1 : SO i a v1 A s) (h2 : SO j a v2 A s) : i = j := by
  obtain ⟨-, -, ⟨c1, k1, i1, f1, e1, a1, a2, a3, a4, a5, a6⟩, ⟨t1, b1, b2, b3, b4, b5, b6, b7⟩⟩ := h1
  obtain ⟨-, -, ⟨c2, k2, i2, f2, e2, d1, d2, d3, d4, d5, d6⟩, ⟨t2, g1, g2, g3, g4, g5, g6, g7⟩⟩ := h2
  rw [a1] at d1
  cases d1
  rw [a3] at d3
  cases d3
  rw [a5] at d5
  cases d5
  rw [b1] at g1
  cases g1
  have h := List.all_eq_true.mp (List.all_eq_true.mp sd_ck i (List.mem_range.mpr hi)) j (List.mem_range.mpr hj)
  unfold stD at h
  rw [Bool.or_eq_true, Bool.or_eq_true] at h
  rcases h with (h | h) | h
  · exact nbeq_t h
  · exfalso
    rw [← b5, ← g5, decide_eq_true rfl] at h
    cases h
  · exfalso
    obtain ⟨x, hx, hx2⟩ := List.any_eq_true.mp h
    rw [Bool.and_eq_true] at hx2
    have y1 := b6 x (List.mem_range.mp hx)
    have y2 := g6 x (lt_of_blt hx2.1)
    rw [y1] at y2
    have y3 : (sbyt.getD i []).getD x 0 = (sbyt.getD j []).getD x 0 := by injection y2 with y2; injection y2
    rw [y3, decide_eq_true rfl] at hx2
    cases hx2.2
theorem arr_of {ty : FieldType} {c : ClassId} {k : Class} {comp : ClassId} (h2 : s.vm.classes[c]? = some k) (h3 : k.kind = .array comp ty) : ArrOfT s c ty := fun n z => ⟨fun q h => (by cases h), k, h2, comp, h3⟩
end SIB
end
section
/-! the law's contract out of the small machine's run -/
section SIA
set_option maxRecDepth 100000
theorem kt_ok {k : Nat} (hk : k < 13) : kci (ktI k) = k ∧ 1 ≤ ktI k ∧ ktI k ≤ 13 ∧ Cond.instantiable (clT (ktI k)).1 (clT (ktI k)).2.2 ∈ gwT := by
  have h := List.all_eq_true.mp kt_ck k (List.mem_range.mpr hk)
  rw [Bool.and_eq_true, Bool.and_eq_true, Bool.and_eq_true] at h
  exact ⟨nbeq_t h.1.1.1, Nat.le_of_ble_eq_true h.1.1.2, Nat.le_of_ble_eq_true h.1.2, hasW_in h.2⟩
theorem kn_one {s : State} {args : Array Value} (hts : ∀ w ∈ gwT, w.before args s = true) (k : Nat) : ∃ q : ClassId × (Nat → Nat), k < 13 → ∀ r, vwCl[k]? = some r → u_Kn s r.1 r.2.1 r.2.2 q.1 q.2 := by
  rcases Nat.lt_or_ge k 13 with hk | hk
  · obtain ⟨h1, h2, h3, h4⟩ := kt_ok hk
    obtain ⟨c1, -, c3, -⟩ := ct_all _ h2 h3
    obtain ⟨cC, iS, h⟩ := u_known (C := (clT (ktI k)).1) (T := (clT (ktI k)).2.1) (N := (clT (ktI k)).2.2) hts c3 (hts _ h4)
    refine ⟨(cC, iS), fun _ r hr => ?_⟩
    rw [h1] at c1
    rw [c1] at hr
    cases hr
    exact h
  · exact ⟨(0, fun _ => 0), fun h => absurd h (by omega)⟩
/-- the small machine's start -/
def M00 (xs : Nat → Int32) : Mem := fun a k => if a = 900 then xs k else 0
theorem whole_of {p : Program} {e : Env} {s : State} {m : MethodId} {below : List Frame} {meth : Method} {c : Code} (l : Launch) (hflags : l.flags = flags0) {b L : Nat} {xs : Nat → Int32} (C0 : lw_At p s m meth c b L xs)
    (hgo : ∃ M' X', ev false 311 0 0 (padl 8 (expd [pR 17 0])) [] (M00 xs) (0, 0, 0, 0, 0, L) = some (.inl (some (pI 1)), M', X')) : W p l e room_1 s m #[Value.ref b] below meth c s.heap [] 0 0 (lw_Z below #[Value.ref b] s) (entryFrame m ([Value.ref b] : List Value).toArray 8) := by
  obtain ⟨hx, hb, hr, hml, hown, htl, hX, hbl, hlocks, hgv⟩ := C0
  have hts : ∀ w ∈ gwT, w.before #[Value.ref b] s = true := fun w hw => htl w (List.mem_filter.mp hw).1
  have hst : l.stackTraces = false := by unfold Launch.stackTraces; rw [hflags]; decide +kernel
  have hA : ∀ a : Nat, a < s.heap.size → ¬ (fun q : Nat => s.heap.size ≤ q) a := fun a ha h => absurd h (Nat.not_le.mpr ha)
  have hwd : ∀ {i : Nat} {w : Cond}, lw_tbl[i]? = some w → w.before #[Value.ref b] s = true := fun h => htl _ (List.mem_of_getElem? h)
  -- classes
  have k0 := kn_one hts
  let dC : Nat → ClassId := fun k => (k0 k).choose.1
  let dI : Nat → Nat → Nat := fun k => (k0 k).choose.2
  have kK : ∀ (k : Nat) (q : vw_C), vwCl[k]? = some q → u_Kn s q.1 q.2.1 q.2.2 (dC k) (dI k) := fun k q hq => (k0 k).choose_spec (by
    have := (List.getElem?_eq_some_iff.mp hq).1
    exact this) q hq
  -- array classes
  obtain ⟨cI, kI, pI9, i1, i2, i3⟩ := Cond.arrayClass_spec (hts _ aw_i)
  obtain ⟨cL, kL, pL9, j1, j2, j3⟩ := Cond.arrayClass_spec (hts _ aw_l)
  have hao : (Cond.arrayOver (.object "MergeBelts$State")).before #[Value.ref b] s = true := hwd (i := 528) (by decide +kernel)
  obtain ⟨pS, cS, kS, s1, s2, s3, s4, s5⟩ := Cond.arrayOver_spec hao
  -- Strings
  have t0 := st_one (A := fun q : Nat => s.heap.size ≤ q) hgv hA
  let K : Nat → Nat := fun k => (t0 k).choose.1
  let V : Nat → Nat := fun k => (t0 k).choose.2
  have hK : ∀ k, k < 22 → SO k (K k) (V k) (fun q : Nat => s.heap.size ≤ q) s ∧ (smTm k).eval #[Value.ref b] s none [] s = some (.ref (K k)) := fun k hk => (t0 k).choose_spec hk
  -- the carried reference
  have hsf : (Cond.isRef (.static "jdk/internal/util/Preconditions" "SIOOBE_FORMATTER" "Ljava/util/function/BiFunction;")).before #[Value.ref b] s = true := inN_of hgv (i := 7) (by decide +kernel)
  obtain ⟨u, hu, hur⟩ : ∃ u, (Term.static "jdk/internal/util/Preconditions" "SIOOBE_FORMATTER" sioD).eval #[Value.ref b] s none [] s = some u ∧ (u = .null ∨ ∃ q, u = .ref q) := by
    cases hv : (Term.static "jdk/internal/util/Preconditions" "SIOOBE_FORMATTER" "Ljava/util/function/BiFunction;").eval #[Value.ref b] s none [] s with
    | none => simp [Cond.before, Cond.holds, Cond.value, hv] at hsf
    | some u =>
      refine ⟨u, rfl, ?_⟩
      cases u <;> simp [Cond.before, Cond.holds, Cond.value, hv, Value.isRef] at hsf ⊢
  have hcs : (Term.static "java/lang/String" "COMPACT_STRINGS" "Z").eval #[Value.ref b] s none [] s = some (.int 1) := by
    obtain ⟨y, h1, h2⟩ := Cond.eq_one (inN_of hgv (w := .eq (.static "java/lang/String" "COMPACT_STRINGS" "Z") (.int 1)) (i := 6) (by decide +kernel))
    have h2 : some (Value.int 1) = some y := h2
    rw [h1, ← h2]
  let G : EG := (s.heap.size, dC, dI, cI, cL, cS, K, V, u, b, xs, L)
  have hgA : gA G = fun q : Nat => s.heap.size ≤ q := rfl
  have hSI : SI G s := by
    refine ⟨Nat.le_refl _, ⟨kK, fun k q hk => ?_⟩, ⟨fun i hi => (hK i hi).1, fun i j hi hj hij => ?_⟩, fun o i k ho hk => ?_, ?_, ?_, va_AO.of hao, fun w hw hs => ?_, ?_, ?_, hbl, hX⟩
    · match k, hk with
      | 0, hk => cases hk; exact ⟨arr_of i2 i3, i1⟩
      | 1, hk => cases hk; exact ⟨arr_of j2 j3, j1⟩
      | 2, hk => cases hk; exact ⟨arr_of s3 s4, kS, pS, s3, s4, s1, s5⟩
      | k + 3, hk => cases hk
    · have h2 := (hK j hj).1
      have h1 := (hK i hi).1
      have hij : K i = K j := hij
      rw [← hij] at h2
      exact so_inj hi hj h1 h2
    · obtain ⟨z, hz⟩ := zipC_in (List.all_eq_true.mp cs_ck o (List.mem_range.mpr ho)) _ (lkp_mem hk)
      have hz : (Nat.blt k 22 && decide (lw_tbl[z.2.1]? = some (.stringRef (cn o) i z.1)) && (decide (smO k = (cn o, i)) || inN (.eq (smTm k) (.string (cn o) i)) z.2.2)) = true := hz
      rw [Bool.and_eq_true, Bool.and_eq_true, decide_eq_true_eq, Bool.or_eq_true, decide_eq_true_eq] at hz
      obtain ⟨⟨z1, z2⟩, z3⟩ := hz
      have z1 := lt_of_blt z1
      refine ⟨z1, z.1, vk_R.of (hwd z2) ?_⟩
      have h1 := (hK k z1).2
      rcases z3 with z3 | z3
      · unfold smTm at h1
        rw [z3] at h1
        exact h1
      · obtain ⟨y, y1, y2⟩ := Cond.eq_one (inN_of hgv z3)
        rw [h1] at y1
        rw [y2, ← y1]
        rfl
    · exact va_Zof (hwd (i := 828) (by decide +kernel)) (hwd (i := 129) (by decide +kernel)) hcs hA
    · exact va_Zof (hwd (i := 844) (by decide +kernel)) (hwd (i := 131) (by decide +kernel)) hu hA
    · refine va_Nw.of ?_ (htl w hw)
      cases w <;> first | rfl | cases hs
    · exact vx_Zqof (hwd (i := 751) (by decide +kernel)) (hwd (i := 125) (by decide +kernel)) (inN_of hgv (i := 4) (by decide +kernel)) hA
    · exact vx_Zqof (hwd (i := 753) (by decide +kernel)) (hwd (i := 125) (by decide +kernel)) (inN_of hgv (i := 5) (by decide +kernel)) hA
  have hNc : NC s := va_Nc.of (inN_of hgv (w := .not (.castable "java/lang/IllegalArgumentException" "java/util/NoSuchElementException")) (i := 38) (by decide +kernel))
  have hF : CF l room_1 s m #[Value.ref b] c G 311 0 8 := ⟨hml, hown, hts, hSI, by decide +kernel, by decide +kernel, by decide +kernel, by decide +kernel, ⟨Nat.zero_le _, fun _ => rfl⟩, ct_all, fun m' lv' h1 h2 h3 h4 => con_all _ m' lv' (Nat.le_refl _) h1 h3 h4⟩
  have hLK : LK p l s m meth c G b := ⟨hx, hb, hr, hlocks, hF, hNc, rfl, hst⟩
  obtain ⟨M', X', hev⟩ := hgo
  obtain ⟨n, hn⟩ := run_ev hev
  have hrun := hn n (Nat.le_refl _)
  have hB : X'.2.2.2.1 ≤ 601024 ∧ X'.2.2.2.2.1 ≤ 7293034 := (run_P n _ hrun).2.2.1 rfl ⟨Nat.zero_le _, Nat.zero_le _⟩
  have hok : ∀ v ∈ [pR 17 0], okV 0 v ∧ gv v := fun v hv => by
    obtain rfl := List.mem_singleton.mp hv
    have hr : okR 0 17 0 := ⟨fun h => absurd h (by decide), fun _ => rfl, fun h => absurd h (by decide), by decide⟩
    exact ⟨fun _ => hr, fun h => by cases h⟩
  obtain ⟨ls, he, hlr⟩ := entry_lr (G := G) (n := 8) (na := 0) (as := [pR 17 0]) hur hok (by decide) m
  have he : entryFrame m ([Value.ref b] : List Value).toArray 8 = F0 m 0 ls [] := he
  rw [he]
  have hHR : HR G (M00 xs) (0, 0, 0, 0, 0, L) s.heap := ⟨fun k q hk => (by cases hk), fun _ => rfl, Nat.le_refl _, fun j _ => (by show (if 900 = 900 then xs j else 0) = xs j; rw [if_pos rfl]), fun a k ha => absurd ha (Nat.not_lt_zero _), rfl⟩
  have fi : FI G s s.heap [] false 8 (M00 xs) (0, 0, 0, 0, 0, L) ls (padl 8 (expd [pR 17 0])) [] := ⟨hHR, fun h => (by cases h), va_S.rf, hlr, fun i => by rw [nth_padl]; exact okV_expd _ i fun v hv => (hok v hv).1, fun v hv => (by cases hv), hur⟩
  have h9 := lw_false (e := e) (below := below) (M9 := M') (X9 := X') hLK hB n 0 _ [] (M00 xs) (0, 0, 0, 0, 0, L) s.heap [] ls rfl hrun fi
  exact h9
end SIA
end
