section
-- ===== PART A: goes FIRST, ahead of the names: the tables' words, and 'selects' of the private methods out of them =====
/-- a private method of a class that the tables say can be made, by its rows of tables_1 -/
def lw_okq (q : MethodName × Nat) : Prop := (q.1.cls ≠ "java/lang/invoke/MethodHandle" ∧ q.1.cls ≠ "java/lang/invoke/VarHandle") ∧ Cond.instantiable q.1.cls q.2 ∈ tables_1 ∧ Cond.privateMethod q.1 ∈ tables_1 ∧ Cond.instanceMethod q.1 ∈ tables_1
theorem lw_p0 : lw_okq (⟨"TransitSeals$Net", "measureWays", "()V"⟩, 9) := ⟨⟨by decide +kernel, by decide +kernel⟩, List.mem_of_getElem? (i := 296) (by decide +kernel), List.mem_of_getElem? (i := 304) (by decide +kernel), List.mem_of_getElem? (i := 305) (by decide +kernel)⟩
theorem lw_p1 : lw_okq (⟨"TransitSeals$Net", "writeDown", "()V"⟩, 9) := ⟨⟨by decide +kernel, by decide +kernel⟩, List.mem_of_getElem? (i := 296) (by decide +kernel), List.mem_of_getElem? (i := 333) (by decide +kernel), List.mem_of_getElem? (i := 334) (by decide +kernel)⟩
theorem lw_p2 : lw_okq (⟨"TransitSeals$Net", "writeRoad", "(IIZ)V"⟩, 9) := ⟨⟨by decide +kernel, by decide +kernel⟩, List.mem_of_getElem? (i := 296) (by decide +kernel), List.mem_of_getElem? (i := 355) (by decide +kernel), List.mem_of_getElem? (i := 356) (by decide +kernel)⟩
theorem lw_p3 : lw_okq (⟨"TransitSeals$Net", "clear", "()V"⟩, 9) := ⟨⟨by decide +kernel, by decide +kernel⟩, List.mem_of_getElem? (i := 296) (by decide +kernel), List.mem_of_getElem? (i := 452) (by decide +kernel), List.mem_of_getElem? (i := 453) (by decide +kernel)⟩
theorem lw_p4 : lw_okq (⟨"TransitSeals$Net", "readCountries", "(LTransitSeals$Reader;)V"⟩, 9) := ⟨⟨by decide +kernel, by decide +kernel⟩, List.mem_of_getElem? (i := 296) (by decide +kernel), List.mem_of_getElem? (i := 459) (by decide +kernel), List.mem_of_getElem? (i := 460) (by decide +kernel)⟩
theorem lw_p5 : lw_okq (⟨"TransitSeals$Net", "readRoads", "(LTransitSeals$Reader;)V"⟩, 9) := ⟨⟨by decide +kernel, by decide +kernel⟩, List.mem_of_getElem? (i := 296) (by decide +kernel), List.mem_of_getElem? (i := 500) (by decide +kernel), List.mem_of_getElem? (i := 501) (by decide +kernel)⟩
theorem lw_p6 : lw_okq (⟨"TransitSeals$Net", "readRoad", "(LTransitSeals$Reader;)V"⟩, 9) := ⟨⟨by decide +kernel, by decide +kernel⟩, List.mem_of_getElem? (i := 296) (by decide +kernel), List.mem_of_getElem? (i := 514) (by decide +kernel), List.mem_of_getElem? (i := 515) (by decide +kernel)⟩
theorem lw_p7 : lw_okq (⟨"TransitSeals$Net", "join", "(III)V"⟩, 9) := ⟨⟨by decide +kernel, by decide +kernel⟩, List.mem_of_getElem? (i := 296) (by decide +kernel), List.mem_of_getElem? (i := 519) (by decide +kernel), List.mem_of_getElem? (i := 520) (by decide +kernel)⟩
theorem lw_p8 : lw_okq (⟨"TransitSeals$Net", "readDuties", "(LTransitSeals$Reader;)V"⟩, 9) := ⟨⟨by decide +kernel, by decide +kernel⟩, List.mem_of_getElem? (i := 296) (by decide +kernel), List.mem_of_getElem? (i := 528) (by decide +kernel), List.mem_of_getElem? (i := 529) (by decide +kernel)⟩
theorem lw_p9 : lw_okq (⟨"TransitSeals$Net", "firstOnTheWay", "(II)I"⟩, 9) := ⟨⟨by decide +kernel, by decide +kernel⟩, List.mem_of_getElem? (i := 296) (by decide +kernel), List.mem_of_getElem? (i := 617) (by decide +kernel), List.mem_of_getElem? (i := 618) (by decide +kernel)⟩
theorem lw_p10 : lw_okq (⟨"TransitSeals$Search", "arrive", "(I)V"⟩, 5) := ⟨⟨by decide +kernel, by decide +kernel⟩, List.mem_of_getElem? (i := 123) (by decide +kernel), List.mem_of_getElem? (i := 634) (by decide +kernel), List.mem_of_getElem? (i := 635) (by decide +kernel)⟩
theorem lw_p11 : lw_okq (⟨"TransitSeals", "tell", "(II)V"⟩, 9) := ⟨⟨by decide +kernel, by decide +kernel⟩, List.mem_of_getElem? (i := 21) (by decide +kernel), List.mem_of_getElem? (i := 643) (by decide +kernel), List.mem_of_getElem? (i := 644) (by decide +kernel)⟩
theorem lw_p12 : lw_okq (⟨"TransitSeals", "tell", "(I)V"⟩, 9) := ⟨⟨by decide +kernel, by decide +kernel⟩, List.mem_of_getElem? (i := 21) (by decide +kernel), List.mem_of_getElem? (i := 647) (by decide +kernel), List.mem_of_getElem? (i := 648) (by decide +kernel)⟩
theorem lw_p13 : lw_okq (⟨"TransitSeals$History", "latestBefore", "()LTransitSeals$Ledger;"⟩, 5) := ⟨⟨by decide +kernel, by decide +kernel⟩, List.mem_of_getElem? (i := 270) (by decide +kernel), List.mem_of_getElem? (i := 677) (by decide +kernel), List.mem_of_getElem? (i := 678) (by decide +kernel)⟩
theorem lw_p14 : lw_okq (⟨"TransitSeals$Ledger", "movementAt", "(I)LTransitSeals$Movement;"⟩, 7) := ⟨⟨by decide +kernel, by decide +kernel⟩, List.mem_of_getElem? (i := 148) (by decide +kernel), List.mem_of_getElem? (i := 784) (by decide +kernel), List.mem_of_getElem? (i := 785) (by decide +kernel)⟩
theorem lw_p15 : lw_okq (⟨"TransitSeals$Ledger", "firstToChange", "(I)LTransitSeals$Movement;"⟩, 7) := ⟨⟨by decide +kernel, by decide +kernel⟩, List.mem_of_getElem? (i := 148) (by decide +kernel), List.mem_of_getElem? (i := 872) (by decide +kernel), List.mem_of_getElem? (i := 873) (by decide +kernel)⟩
def lw_privs_1 : List (MethodName × Nat) := [(⟨"TransitSeals$Net", "measureWays", "()V"⟩, 9), (⟨"TransitSeals$Net", "writeDown", "()V"⟩, 9), (⟨"TransitSeals$Net", "writeRoad", "(IIZ)V"⟩, 9), (⟨"TransitSeals$Net", "clear", "()V"⟩, 9), (⟨"TransitSeals$Net", "readCountries", "(LTransitSeals$Reader;)V"⟩, 9), (⟨"TransitSeals$Net", "readRoads", "(LTransitSeals$Reader;)V"⟩, 9), (⟨"TransitSeals$Net", "readRoad", "(LTransitSeals$Reader;)V"⟩, 9), (⟨"TransitSeals$Net", "join", "(III)V"⟩, 9), (⟨"TransitSeals$Net", "readDuties", "(LTransitSeals$Reader;)V"⟩, 9), (⟨"TransitSeals$Net", "firstOnTheWay", "(II)I"⟩, 9), (⟨"TransitSeals$Search", "arrive", "(I)V"⟩, 5), (⟨"TransitSeals", "tell", "(II)V"⟩, 9), (⟨"TransitSeals", "tell", "(I)V"⟩, 9), (⟨"TransitSeals$History", "latestBefore", "()LTransitSeals$Ledger;"⟩, 5), (⟨"TransitSeals$Ledger", "movementAt", "(I)LTransitSeals$Movement;"⟩, 7), (⟨"TransitSeals$Ledger", "firstToChange", "(I)LTransitSeals$Movement;"⟩, 7)]
theorem lw_r1 : ∀ q ∈ lw_privs_1, lw_okq q := List.forall_mem_cons.mpr ⟨lw_p0, List.forall_mem_cons.mpr ⟨lw_p1, List.forall_mem_cons.mpr ⟨lw_p2, List.forall_mem_cons.mpr ⟨lw_p3, List.forall_mem_cons.mpr ⟨lw_p4, List.forall_mem_cons.mpr ⟨lw_p5, List.forall_mem_cons.mpr ⟨lw_p6, List.forall_mem_cons.mpr ⟨lw_p7, List.forall_mem_cons.mpr ⟨lw_p8, List.forall_mem_cons.mpr ⟨lw_p9, List.forall_mem_cons.mpr ⟨lw_p10, List.forall_mem_cons.mpr ⟨lw_p11, List.forall_mem_cons.mpr ⟨lw_p12, List.forall_mem_cons.mpr ⟨lw_p13, List.forall_mem_cons.mpr ⟨lw_p14, List.forall_mem_cons.mpr ⟨lw_p15, fun _ h => absurd h List.not_mem_nil⟩⟩⟩⟩⟩⟩⟩⟩⟩⟩⟩⟩⟩⟩⟩⟩
theorem lw_p16 : lw_okq (⟨"TransitSeals$Ledger", "change", "(LTransitSeals$Movement;)V"⟩, 7) := ⟨⟨by decide +kernel, by decide +kernel⟩, List.mem_of_getElem? (i := 148) (by decide +kernel), List.mem_of_getElem? (i := 881) (by decide +kernel), List.mem_of_getElem? (i := 882) (by decide +kernel)⟩
theorem lw_p17 : lw_okq (⟨"TransitSeals", "hoursToGo", "(LTransitSeals$Movement;)I"⟩, 9) := ⟨⟨by decide +kernel, by decide +kernel⟩, List.mem_of_getElem? (i := 21) (by decide +kernel), List.mem_of_getElem? (i := 905) (by decide +kernel), List.mem_of_getElem? (i := 906) (by decide +kernel)⟩
theorem lw_p18 : lw_okq (⟨"TransitSeals", "isLate", "(LTransitSeals$Movement;)Z"⟩, 9) := ⟨⟨by decide +kernel, by decide +kernel⟩, List.mem_of_getElem? (i := 21) (by decide +kernel), List.mem_of_getElem? (i := 939) (by decide +kernel), List.mem_of_getElem? (i := 940) (by decide +kernel)⟩
theorem lw_p19 : lw_okq (⟨"TransitSeals", "hourOfArrival", "(LTransitSeals$Movement;)I"⟩, 9) := ⟨⟨by decide +kernel, by decide +kernel⟩, List.mem_of_getElem? (i := 21) (by decide +kernel), List.mem_of_getElem? (i := 943) (by decide +kernel), List.mem_of_getElem? (i := 944) (by decide +kernel)⟩
theorem lw_p20 : lw_okq (⟨"TransitSeals", "fewestFreeing", "(II)I"⟩, 9) := ⟨⟨by decide +kernel, by decide +kernel⟩, List.mem_of_getElem? (i := 21) (by decide +kernel), List.mem_of_getElem? (i := 974) (by decide +kernel), List.mem_of_getElem? (i := 975) (by decide +kernel)⟩
theorem lw_p21 : lw_okq (⟨"TransitSeals", "leastBitsFreeing", "(III)I"⟩, 9) := ⟨⟨by decide +kernel, by decide +kernel⟩, List.mem_of_getElem? (i := 21) (by decide +kernel), List.mem_of_getElem? (i := 982) (by decide +kernel), List.mem_of_getElem? (i := 983) (by decide +kernel)⟩
theorem lw_p22 : lw_okq (⟨"TransitSeals", "closingHour", "(LTransitSeals$Movement;)I"⟩, 9) := ⟨⟨by decide +kernel, by decide +kernel⟩, List.mem_of_getElem? (i := 21) (by decide +kernel), List.mem_of_getElem? (i := 990) (by decide +kernel), List.mem_of_getElem? (i := 991) (by decide +kernel)⟩
theorem lw_p23 : lw_okq (⟨"TransitSeals", "freedUntil", "(II)I"⟩, 9) := ⟨⟨by decide +kernel, by decide +kernel⟩, List.mem_of_getElem? (i := 21) (by decide +kernel), List.mem_of_getElem? (i := 995) (by decide +kernel), List.mem_of_getElem? (i := 996) (by decide +kernel)⟩
theorem lw_p24 : lw_okq (⟨"TransitSeals$Loads", "together", "([II)I"⟩, 7) := ⟨⟨by decide +kernel, by decide +kernel⟩, List.mem_of_getElem? (i := 92) (by decide +kernel), List.mem_of_getElem? (i := 1021) (by decide +kernel), List.mem_of_getElem? (i := 1022) (by decide +kernel)⟩
theorem lw_p25 : lw_okq (⟨"TransitSeals$Loads", "isBetter", "(II)Z"⟩, 7) := ⟨⟨by decide +kernel, by decide +kernel⟩, List.mem_of_getElem? (i := 92) (by decide +kernel), List.mem_of_getElem? (i := 1025) (by decide +kernel), List.mem_of_getElem? (i := 1026) (by decide +kernel)⟩
theorem lw_p26 : lw_okq (⟨"java/lang/Throwable", "fillInStackTrace", "(I)Ljava/lang/Throwable;"⟩, 6) := ⟨⟨by decide +kernel, by decide +kernel⟩, List.mem_of_getElem? (i := 1140) (by decide +kernel), List.mem_of_getElem? (i := 1138) (by decide +kernel), List.mem_of_getElem? (i := 1139) (by decide +kernel)⟩
theorem lw_p27 : lw_okq (⟨"TransitSealsModel", "begin", "()V"⟩, 39) := ⟨⟨by decide +kernel, by decide +kernel⟩, List.mem_of_getElem? (i := 1170) (by decide +kernel), List.mem_of_getElem? (i := 1315) (by decide +kernel), List.mem_of_getElem? (i := 1316) (by decide +kernel)⟩
theorem lw_p28 : lw_okq (⟨"TransitSealsModel", "readsNet", "()V"⟩, 39) := ⟨⟨by decide +kernel, by decide +kernel⟩, List.mem_of_getElem? (i := 1170) (by decide +kernel), List.mem_of_getElem? (i := 1319) (by decide +kernel), List.mem_of_getElem? (i := 1320) (by decide +kernel)⟩
theorem lw_p29 : lw_okq (⟨"TransitSealsModel", "readsOffices", "()V"⟩, 39) := ⟨⟨by decide +kernel, by decide +kernel⟩, List.mem_of_getElem? (i := 1170) (by decide +kernel), List.mem_of_getElem? (i := 1323) (by decide +kernel), List.mem_of_getElem? (i := 1324) (by decide +kernel)⟩
theorem lw_p30 : lw_okq (⟨"TransitSealsModel", "sees", "()I"⟩, 39) := ⟨⟨by decide +kernel, by decide +kernel⟩, List.mem_of_getElem? (i := 1170) (by decide +kernel), List.mem_of_getElem? (i := 1327) (by decide +kernel), List.mem_of_getElem? (i := 1328) (by decide +kernel)⟩
theorem lw_p31 : lw_okq (⟨"TransitSealsModel", "fault", "(I)V"⟩, 39) := ⟨⟨by decide +kernel, by decide +kernel⟩, List.mem_of_getElem? (i := 1170) (by decide +kernel), List.mem_of_getElem? (i := 1331) (by decide +kernel), List.mem_of_getElem? (i := 1332) (by decide +kernel)⟩
def lw_privs_2 : List (MethodName × Nat) := [(⟨"TransitSeals$Ledger", "change", "(LTransitSeals$Movement;)V"⟩, 7), (⟨"TransitSeals", "hoursToGo", "(LTransitSeals$Movement;)I"⟩, 9), (⟨"TransitSeals", "isLate", "(LTransitSeals$Movement;)Z"⟩, 9), (⟨"TransitSeals", "hourOfArrival", "(LTransitSeals$Movement;)I"⟩, 9), (⟨"TransitSeals", "fewestFreeing", "(II)I"⟩, 9), (⟨"TransitSeals", "leastBitsFreeing", "(III)I"⟩, 9), (⟨"TransitSeals", "closingHour", "(LTransitSeals$Movement;)I"⟩, 9), (⟨"TransitSeals", "freedUntil", "(II)I"⟩, 9), (⟨"TransitSeals$Loads", "together", "([II)I"⟩, 7), (⟨"TransitSeals$Loads", "isBetter", "(II)Z"⟩, 7), (⟨"java/lang/Throwable", "fillInStackTrace", "(I)Ljava/lang/Throwable;"⟩, 6), (⟨"TransitSealsModel", "begin", "()V"⟩, 39), (⟨"TransitSealsModel", "readsNet", "()V"⟩, 39), (⟨"TransitSealsModel", "readsOffices", "()V"⟩, 39), (⟨"TransitSealsModel", "sees", "()I"⟩, 39), (⟨"TransitSealsModel", "fault", "(I)V"⟩, 39)]
theorem lw_r2 : ∀ q ∈ lw_privs_2, lw_okq q := List.forall_mem_cons.mpr ⟨lw_p16, List.forall_mem_cons.mpr ⟨lw_p17, List.forall_mem_cons.mpr ⟨lw_p18, List.forall_mem_cons.mpr ⟨lw_p19, List.forall_mem_cons.mpr ⟨lw_p20, List.forall_mem_cons.mpr ⟨lw_p21, List.forall_mem_cons.mpr ⟨lw_p22, List.forall_mem_cons.mpr ⟨lw_p23, List.forall_mem_cons.mpr ⟨lw_p24, List.forall_mem_cons.mpr ⟨lw_p25, List.forall_mem_cons.mpr ⟨lw_p26, List.forall_mem_cons.mpr ⟨lw_p27, List.forall_mem_cons.mpr ⟨lw_p28, List.forall_mem_cons.mpr ⟨lw_p29, List.forall_mem_cons.mpr ⟨lw_p30, List.forall_mem_cons.mpr ⟨lw_p31, fun _ h => absurd h List.not_mem_nil⟩⟩⟩⟩⟩⟩⟩⟩⟩⟩⟩⟩⟩⟩⟩⟩
theorem lw_p32 : lw_okq (⟨"TransitSealsModel", "number", "(III)I"⟩, 39) := ⟨⟨by decide +kernel, by decide +kernel⟩, List.mem_of_getElem? (i := 1170) (by decide +kernel), List.mem_of_getElem? (i := 1335) (by decide +kernel), List.mem_of_getElem? (i := 1336) (by decide +kernel)⟩
theorem lw_p33 : lw_okq (⟨"TransitSealsModel", "expect", "(C)V"⟩, 39) := ⟨⟨by decide +kernel, by decide +kernel⟩, List.mem_of_getElem? (i := 1170) (by decide +kernel), List.mem_of_getElem? (i := 1341) (by decide +kernel), List.mem_of_getElem? (i := 1342) (by decide +kernel)⟩
theorem lw_p34 : lw_okq (⟨"TransitSealsModel", "readsRoad", "()V"⟩, 39) := ⟨⟨by decide +kernel, by decide +kernel⟩, List.mem_of_getElem? (i := 1170) (by decide +kernel), List.mem_of_getElem? (i := 1345) (by decide +kernel), List.mem_of_getElem? (i := 1346) (by decide +kernel)⟩
theorem lw_p35 : lw_okq (⟨"TransitSealsModel", "officeNumber", "(I)I"⟩, 39) := ⟨⟨by decide +kernel, by decide +kernel⟩, List.mem_of_getElem? (i := 1170) (by decide +kernel), List.mem_of_getElem? (i := 1349) (by decide +kernel), List.mem_of_getElem? (i := 1350) (by decide +kernel)⟩
theorem lw_p36 : lw_okq (⟨"TransitSealsModel", "isOffice", "(I)Z"⟩, 39) := ⟨⟨by decide +kernel, by decide +kernel⟩, List.mem_of_getElem? (i := 1170) (by decide +kernel), List.mem_of_getElem? (i := 1357) (by decide +kernel), List.mem_of_getElem? (i := 1358) (by decide +kernel)⟩
theorem lw_p37 : lw_okq (⟨"TransitSealsModel", "hoursOf", "(II)I"⟩, 39) := ⟨⟨by decide +kernel, by decide +kernel⟩, List.mem_of_getElem? (i := 1170) (by decide +kernel), List.mem_of_getElem? (i := 1361) (by decide +kernel), List.mem_of_getElem? (i := 1362) (by decide +kernel)⟩
theorem lw_p38 : lw_okq (⟨"TransitSealsModel", "goes", "(I)Z"⟩, 39) := ⟨⟨by decide +kernel, by decide +kernel⟩, List.mem_of_getElem? (i := 1170) (by decide +kernel), List.mem_of_getElem? (i := 1370) (by decide +kernel), List.mem_of_getElem? (i := 1371) (by decide +kernel)⟩
theorem lw_p39 : lw_okq (⟨"TransitSealsModel", "state", "(I)I"⟩, 39) := ⟨⟨by decide +kernel, by decide +kernel⟩, List.mem_of_getElem? (i := 1170) (by decide +kernel), List.mem_of_getElem? (i := 1374) (by decide +kernel), List.mem_of_getElem? (i := 1375) (by decide +kernel)⟩
theorem lw_p40 : lw_okq (⟨"TransitSealsModel", "of", "(II)I"⟩, 39) := ⟨⟨by decide +kernel, by decide +kernel⟩, List.mem_of_getElem? (i := 1170) (by decide +kernel), List.mem_of_getElem? (i := 1378) (by decide +kernel), List.mem_of_getElem? (i := 1379) (by decide +kernel)⟩
theorem lw_p41 : lw_okq (⟨"TransitSealsModel", "seenAt", "(I)I"⟩, 39) := ⟨⟨by decide +kernel, by decide +kernel⟩, List.mem_of_getElem? (i := 1170) (by decide +kernel), List.mem_of_getElem? (i := 1382) (by decide +kernel), List.mem_of_getElem? (i := 1383) (by decide +kernel)⟩
theorem lw_p42 : lw_okq (⟨"TransitSealsModel", "goesTo", "(I)V"⟩, 39) := ⟨⟨by decide +kernel, by decide +kernel⟩, List.mem_of_getElem? (i := 1170) (by decide +kernel), List.mem_of_getElem? (i := 1390) (by decide +kernel), List.mem_of_getElem? (i := 1391) (by decide +kernel)⟩
theorem lw_p43 : lw_okq (⟨"TransitSealsModel", "tell", "(J)V"⟩, 39) := ⟨⟨by decide +kernel, by decide +kernel⟩, List.mem_of_getElem? (i := 1170) (by decide +kernel), List.mem_of_getElem? (i := 1396) (by decide +kernel), List.mem_of_getElem? (i := 1397) (by decide +kernel)⟩
theorem lw_p44 : lw_okq (⟨"TransitSealsModel", "findsRoutes", "(II)Z"⟩, 39) := ⟨⟨by decide +kernel, by decide +kernel⟩, List.mem_of_getElem? (i := 1170) (by decide +kernel), List.mem_of_getElem? (i := 1404) (by decide +kernel), List.mem_of_getElem? (i := 1405) (by decide +kernel)⟩
theorem lw_p45 : lw_okq (⟨"TransitSealsModel", "walks", "(IIII)V"⟩, 39) := ⟨⟨by decide +kernel, by decide +kernel⟩, List.mem_of_getElem? (i := 1170) (by decide +kernel), List.mem_of_getElem? (i := 1408) (by decide +kernel), List.mem_of_getElem? (i := 1409) (by decide +kernel)⟩
theorem lw_p46 : lw_okq (⟨"TransitSealsModel", "does", "()V"⟩, 39) := ⟨⟨by decide +kernel, by decide +kernel⟩, List.mem_of_getElem? (i := 1170) (by decide +kernel), List.mem_of_getElem? (i := 1432) (by decide +kernel), List.mem_of_getElem? (i := 1433) (by decide +kernel)⟩
theorem lw_p47 : lw_okq (⟨"TransitSealsModel", "isTrader", "(I)Z"⟩, 39) := ⟨⟨by decide +kernel, by decide +kernel⟩, List.mem_of_getElem? (i := 1170) (by decide +kernel), List.mem_of_getElem? (i := 1440) (by decide +kernel), List.mem_of_getElem? (i := 1441) (by decide +kernel)⟩
def lw_privs_3 : List (MethodName × Nat) := [(⟨"TransitSealsModel", "number", "(III)I"⟩, 39), (⟨"TransitSealsModel", "expect", "(C)V"⟩, 39), (⟨"TransitSealsModel", "readsRoad", "()V"⟩, 39), (⟨"TransitSealsModel", "officeNumber", "(I)I"⟩, 39), (⟨"TransitSealsModel", "isOffice", "(I)Z"⟩, 39), (⟨"TransitSealsModel", "hoursOf", "(II)I"⟩, 39), (⟨"TransitSealsModel", "goes", "(I)Z"⟩, 39), (⟨"TransitSealsModel", "state", "(I)I"⟩, 39), (⟨"TransitSealsModel", "of", "(II)I"⟩, 39), (⟨"TransitSealsModel", "seenAt", "(I)I"⟩, 39), (⟨"TransitSealsModel", "goesTo", "(I)V"⟩, 39), (⟨"TransitSealsModel", "tell", "(J)V"⟩, 39), (⟨"TransitSealsModel", "findsRoutes", "(II)Z"⟩, 39), (⟨"TransitSealsModel", "walks", "(IIII)V"⟩, 39), (⟨"TransitSealsModel", "does", "()V"⟩, 39), (⟨"TransitSealsModel", "isTrader", "(I)Z"⟩, 39)]
theorem lw_r3 : ∀ q ∈ lw_privs_3, lw_okq q := List.forall_mem_cons.mpr ⟨lw_p32, List.forall_mem_cons.mpr ⟨lw_p33, List.forall_mem_cons.mpr ⟨lw_p34, List.forall_mem_cons.mpr ⟨lw_p35, List.forall_mem_cons.mpr ⟨lw_p36, List.forall_mem_cons.mpr ⟨lw_p37, List.forall_mem_cons.mpr ⟨lw_p38, List.forall_mem_cons.mpr ⟨lw_p39, List.forall_mem_cons.mpr ⟨lw_p40, List.forall_mem_cons.mpr ⟨lw_p41, List.forall_mem_cons.mpr ⟨lw_p42, List.forall_mem_cons.mpr ⟨lw_p43, List.forall_mem_cons.mpr ⟨lw_p44, List.forall_mem_cons.mpr ⟨lw_p45, List.forall_mem_cons.mpr ⟨lw_p46, List.forall_mem_cons.mpr ⟨lw_p47, fun _ h => absurd h List.not_mem_nil⟩⟩⟩⟩⟩⟩⟩⟩⟩⟩⟩⟩⟩⟩⟩⟩
theorem lw_p48 : lw_okq (⟨"TransitSealsModel", "used", "(I)I"⟩, 39) := ⟨⟨by decide +kernel, by decide +kernel⟩, List.mem_of_getElem? (i := 1170) (by decide +kernel), List.mem_of_getElem? (i := 1444) (by decide +kernel), List.mem_of_getElem? (i := 1445) (by decide +kernel)⟩
theorem lw_p49 : lw_okq (⟨"TransitSealsModel", "isOpen", "(I)Z"⟩, 39) := ⟨⟨by decide +kernel, by decide +kernel⟩, List.mem_of_getElem? (i := 1170) (by decide +kernel), List.mem_of_getElem? (i := 1448) (by decide +kernel), List.mem_of_getElem? (i := 1449) (by decide +kernel)⟩
theorem lw_p50 : lw_okq (⟨"TransitSealsModel", "sumOf", "(I)I"⟩, 39) := ⟨⟨by decide +kernel, by decide +kernel⟩, List.mem_of_getElem? (i := 1170) (by decide +kernel), List.mem_of_getElem? (i := 1456) (by decide +kernel), List.mem_of_getElem? (i := 1457) (by decide +kernel)⟩
theorem lw_p51 : lw_okq (⟨"TransitSealsModel", "levelOf", "(I)I"⟩, 39) := ⟨⟨by decide +kernel, by decide +kernel⟩, List.mem_of_getElem? (i := 1170) (by decide +kernel), List.mem_of_getElem? (i := 1460) (by decide +kernel), List.mem_of_getElem? (i := 1461) (by decide +kernel)⟩
theorem lw_p52 : lw_okq (⟨"TransitSealsModel", "free", "(I)I"⟩, 39) := ⟨⟨by decide +kernel, by decide +kernel⟩, List.mem_of_getElem? (i := 1170) (by decide +kernel), List.mem_of_getElem? (i := 1464) (by decide +kernel), List.mem_of_getElem? (i := 1465) (by decide +kernel)⟩
theorem lw_p53 : lw_okq (⟨"TransitSealsModel", "openSet", "(I)I"⟩, 39) := ⟨⟨by decide +kernel, by decide +kernel⟩, List.mem_of_getElem? (i := 1170) (by decide +kernel), List.mem_of_getElem? (i := 1468) (by decide +kernel), List.mem_of_getElem? (i := 1469) (by decide +kernel)⟩
theorem lw_p54 : lw_okq (⟨"TransitSealsModel", "debts", "(II)I"⟩, 39) := ⟨⟨by decide +kernel, by decide +kernel⟩, List.mem_of_getElem? (i := 1170) (by decide +kernel), List.mem_of_getElem? (i := 1476) (by decide +kernel), List.mem_of_getElem? (i := 1477) (by decide +kernel)⟩
theorem lw_p55 : lw_okq (⟨"TransitSealsModel", "readsRoute", "()V"⟩, 39) := ⟨⟨by decide +kernel, by decide +kernel⟩, List.mem_of_getElem? (i := 1170) (by decide +kernel), List.mem_of_getElem? (i := 1484) (by decide +kernel), List.mem_of_getElem? (i := 1485) (by decide +kernel)⟩
theorem lw_p56 : lw_okq (⟨"TransitSealsModel", "isOnRoute", "(I)Z"⟩, 39) := ⟨⟨by decide +kernel, by decide +kernel⟩, List.mem_of_getElem? (i := 1170) (by decide +kernel), List.mem_of_getElem? (i := 1488) (by decide +kernel), List.mem_of_getElem? (i := 1489) (by decide +kernel)⟩
theorem lw_p57 : lw_okq (⟨"TransitSealsModel", "isGoods", "(I)Z"⟩, 39) := ⟨⟨by decide +kernel, by decide +kernel⟩, List.mem_of_getElem? (i := 1170) (by decide +kernel), List.mem_of_getElem? (i := 1492) (by decide +kernel), List.mem_of_getElem? (i := 1493) (by decide +kernel)⟩
theorem lw_p58 : lw_okq (⟨"TransitSealsModel", "sets", "(III)V"⟩, 39) := ⟨⟨by decide +kernel, by decide +kernel⟩, List.mem_of_getElem? (i := 1170) (by decide +kernel), List.mem_of_getElem? (i := 1500) (by decide +kernel), List.mem_of_getElem? (i := 1501) (by decide +kernel)⟩
theorem lw_p59 : lw_okq (⟨"TransitSealsModel", "notes", "(III)V"⟩, 39) := ⟨⟨by decide +kernel, by decide +kernel⟩, List.mem_of_getElem? (i := 1170) (by decide +kernel), List.mem_of_getElem? (i := 1504) (by decide +kernel), List.mem_of_getElem? (i := 1505) (by decide +kernel)⟩
theorem lw_p60 : lw_okq (⟨"TransitSealsModel", "isMove", "(I)Z"⟩, 39) := ⟨⟨by decide +kernel, by decide +kernel⟩, List.mem_of_getElem? (i := 1170) (by decide +kernel), List.mem_of_getElem? (i := 1512) (by decide +kernel), List.mem_of_getElem? (i := 1513) (by decide +kernel)⟩
theorem lw_p61 : lw_okq (⟨"TransitSealsModel", "brokenSeals", "()I"⟩, 39) := ⟨⟨by decide +kernel, by decide +kernel⟩, List.mem_of_getElem? (i := 1170) (by decide +kernel), List.mem_of_getElem? (i := 1520) (by decide +kernel), List.mem_of_getElem? (i := 1521) (by decide +kernel)⟩
theorem lw_p62 : lw_okq (⟨"TransitSealsModel", "becomes", "(III)V"⟩, 39) := ⟨⟨by decide +kernel, by decide +kernel⟩, List.mem_of_getElem? (i := 1170) (by decide +kernel), List.mem_of_getElem? (i := 1528) (by decide +kernel), List.mem_of_getElem? (i := 1529) (by decide +kernel)⟩
theorem lw_p63 : lw_okq (⟨"TransitSealsModel", "stepOf", "(I)I"⟩, 39) := ⟨⟨by decide +kernel, by decide +kernel⟩, List.mem_of_getElem? (i := 1170) (by decide +kernel), List.mem_of_getElem? (i := 1536) (by decide +kernel), List.mem_of_getElem? (i := 1537) (by decide +kernel)⟩
def lw_privs_4 : List (MethodName × Nat) := [(⟨"TransitSealsModel", "used", "(I)I"⟩, 39), (⟨"TransitSealsModel", "isOpen", "(I)Z"⟩, 39), (⟨"TransitSealsModel", "sumOf", "(I)I"⟩, 39), (⟨"TransitSealsModel", "levelOf", "(I)I"⟩, 39), (⟨"TransitSealsModel", "free", "(I)I"⟩, 39), (⟨"TransitSealsModel", "openSet", "(I)I"⟩, 39), (⟨"TransitSealsModel", "debts", "(II)I"⟩, 39), (⟨"TransitSealsModel", "readsRoute", "()V"⟩, 39), (⟨"TransitSealsModel", "isOnRoute", "(I)Z"⟩, 39), (⟨"TransitSealsModel", "isGoods", "(I)Z"⟩, 39), (⟨"TransitSealsModel", "sets", "(III)V"⟩, 39), (⟨"TransitSealsModel", "notes", "(III)V"⟩, 39), (⟨"TransitSealsModel", "isMove", "(I)Z"⟩, 39), (⟨"TransitSealsModel", "brokenSeals", "()I"⟩, 39), (⟨"TransitSealsModel", "becomes", "(III)V"⟩, 39), (⟨"TransitSealsModel", "stepOf", "(I)I"⟩, 39)]
theorem lw_r4 : ∀ q ∈ lw_privs_4, lw_okq q := List.forall_mem_cons.mpr ⟨lw_p48, List.forall_mem_cons.mpr ⟨lw_p49, List.forall_mem_cons.mpr ⟨lw_p50, List.forall_mem_cons.mpr ⟨lw_p51, List.forall_mem_cons.mpr ⟨lw_p52, List.forall_mem_cons.mpr ⟨lw_p53, List.forall_mem_cons.mpr ⟨lw_p54, List.forall_mem_cons.mpr ⟨lw_p55, List.forall_mem_cons.mpr ⟨lw_p56, List.forall_mem_cons.mpr ⟨lw_p57, List.forall_mem_cons.mpr ⟨lw_p58, List.forall_mem_cons.mpr ⟨lw_p59, List.forall_mem_cons.mpr ⟨lw_p60, List.forall_mem_cons.mpr ⟨lw_p61, List.forall_mem_cons.mpr ⟨lw_p62, List.forall_mem_cons.mpr ⟨lw_p63, fun _ h => absurd h List.not_mem_nil⟩⟩⟩⟩⟩⟩⟩⟩⟩⟩⟩⟩⟩⟩⟩⟩
theorem lw_p64 : lw_okq (⟨"TransitSealsModel", "turns", "(I)I"⟩, 39) := ⟨⟨by decide +kernel, by decide +kernel⟩, List.mem_of_getElem? (i := 1170) (by decide +kernel), List.mem_of_getElem? (i := 1549) (by decide +kernel), List.mem_of_getElem? (i := 1550) (by decide +kernel)⟩
theorem lw_p65 : lw_okq (⟨"TransitSealsModel", "dutyOf", "(I)I"⟩, 39) := ⟨⟨by decide +kernel, by decide +kernel⟩, List.mem_of_getElem? (i := 1170) (by decide +kernel), List.mem_of_getElem? (i := 1553) (by decide +kernel), List.mem_of_getElem? (i := 1554) (by decide +kernel)⟩
theorem lw_p66 : lw_okq (⟨"TransitSealsModel", "leftOf", "(I)I"⟩, 39) := ⟨⟨by decide +kernel, by decide +kernel⟩, List.mem_of_getElem? (i := 1170) (by decide +kernel), List.mem_of_getElem? (i := 1570) (by decide +kernel), List.mem_of_getElem? (i := 1571) (by decide +kernel)⟩
theorem lw_p67 : lw_okq (⟨"TransitSealsModel", "isLate", "(I)Z"⟩, 39) := ⟨⟨by decide +kernel, by decide +kernel⟩, List.mem_of_getElem? (i := 1170) (by decide +kernel), List.mem_of_getElem? (i := 1595) (by decide +kernel), List.mem_of_getElem? (i := 1596) (by decide +kernel)⟩
theorem lw_p68 : lw_okq (⟨"TransitSealsModel", "endOf", "(I)I"⟩, 39) := ⟨⟨by decide +kernel, by decide +kernel⟩, List.mem_of_getElem? (i := 1170) (by decide +kernel), List.mem_of_getElem? (i := 1599) (by decide +kernel), List.mem_of_getElem? (i := 1600) (by decide +kernel)⟩
theorem lw_p69 : lw_okq (⟨"TransitSealsModel", "most", "(II)I"⟩, 39) := ⟨⟨by decide +kernel, by decide +kernel⟩, List.mem_of_getElem? (i := 1170) (by decide +kernel), List.mem_of_getElem? (i := 1626) (by decide +kernel), List.mem_of_getElem? (i := 1627) (by decide +kernel)⟩
theorem lw_p70 : lw_okq (⟨"TransitSealsModel", "readsLoads", "()V"⟩, 39) := ⟨⟨by decide +kernel, by decide +kernel⟩, List.mem_of_getElem? (i := 1170) (by decide +kernel), List.mem_of_getElem? (i := 1638) (by decide +kernel), List.mem_of_getElem? (i := 1639) (by decide +kernel)⟩
theorem lw_p71 : lw_okq (⟨"TransitSealsModel", "writes", "(I)V"⟩, 39) := ⟨⟨by decide +kernel, by decide +kernel⟩, List.mem_of_getElem? (i := 1170) (by decide +kernel), List.mem_of_getElem? (i := 1663) (by decide +kernel), List.mem_of_getElem? (i := 1664) (by decide +kernel)⟩
theorem lw_p72 : lw_okq (⟨"TransitSealsModel", "writesNumber", "(I)V"⟩, 39) := ⟨⟨by decide +kernel, by decide +kernel⟩, List.mem_of_getElem? (i := 1170) (by decide +kernel), List.mem_of_getElem? (i := 1667) (by decide +kernel), List.mem_of_getElem? (i := 1668) (by decide +kernel)⟩
theorem lw_p73 : lw_okq (⟨"TransitSealsModel", "lost", "()I"⟩, 39) := ⟨⟨by decide +kernel, by decide +kernel⟩, List.mem_of_getElem? (i := 1170) (by decide +kernel), List.mem_of_getElem? (i := 1691) (by decide +kernel), List.mem_of_getElem? (i := 1692) (by decide +kernel)⟩
def lw_privs_5 : List (MethodName × Nat) := [(⟨"TransitSealsModel", "turns", "(I)I"⟩, 39), (⟨"TransitSealsModel", "dutyOf", "(I)I"⟩, 39), (⟨"TransitSealsModel", "leftOf", "(I)I"⟩, 39), (⟨"TransitSealsModel", "isLate", "(I)Z"⟩, 39), (⟨"TransitSealsModel", "endOf", "(I)I"⟩, 39), (⟨"TransitSealsModel", "most", "(II)I"⟩, 39), (⟨"TransitSealsModel", "readsLoads", "()V"⟩, 39), (⟨"TransitSealsModel", "writes", "(I)V"⟩, 39), (⟨"TransitSealsModel", "writesNumber", "(I)V"⟩, 39), (⟨"TransitSealsModel", "lost", "()I"⟩, 39)]
theorem lw_r5 : ∀ q ∈ lw_privs_5, lw_okq q := List.forall_mem_cons.mpr ⟨lw_p64, List.forall_mem_cons.mpr ⟨lw_p65, List.forall_mem_cons.mpr ⟨lw_p66, List.forall_mem_cons.mpr ⟨lw_p67, List.forall_mem_cons.mpr ⟨lw_p68, List.forall_mem_cons.mpr ⟨lw_p69, List.forall_mem_cons.mpr ⟨lw_p70, List.forall_mem_cons.mpr ⟨lw_p71, List.forall_mem_cons.mpr ⟨lw_p72, List.forall_mem_cons.mpr ⟨lw_p73, fun _ h => absurd h List.not_mem_nil⟩⟩⟩⟩⟩⟩⟩⟩⟩⟩
def lw_privs : List (MethodName × Nat) := lw_privs_1 ++ (lw_privs_2 ++ (lw_privs_3 ++ (lw_privs_4 ++ (lw_privs_5))))
def lw_tbl : List Cond := k2_sels lw_privs ++ tables_1
theorem lw_privs_ok : ∀ q ∈ lw_privs, lw_okq q := by
  show ∀ q ∈ lw_privs_1 ++ (lw_privs_2 ++ (lw_privs_3 ++ (lw_privs_4 ++ (lw_privs_5)))), lw_okq q
  exact List.forall_mem_append.mpr ⟨lw_r1, List.forall_mem_append.mpr ⟨lw_r2, List.forall_mem_append.mpr ⟨lw_r3, List.forall_mem_append.mpr ⟨lw_r4, lw_r5⟩⟩⟩⟩
def RX0 : String := "TransitSeals$Book"
def TX0 : u_T := fun k => match k with
  | 0 => ("TransitSeals$Book", "kinds", "[I", true)
  | 1 => ("TransitSeals$Book", "movements", "[I", true)
  | 2 => ("TransitSeals$Book", "hours", "[I", true)
  | _ => ("TransitSeals$Book", "total", "I", false)
def tyX0 : Nat → FieldType := fun k => match k with
  | 0 => .array .int
  | 1 => .array .int
  | 2 => .array .int
  | _ => .int
abbrev wsX00 : List Cond := u_ws RX0 TX0 4
theorem nmX0 : ∀ a, a < 4 → ∀ b, b < 4 → a ≠ b → (TX0 a).2.1 ≠ (TX0 b).2.1 := by decide +kernel
theorem tyX0_ok : ∀ k, k < 4 → parseFieldDescriptor (TX0 k).2.2.1 = some (tyX0 k) := by decide +kernel
abbrev cX0_init : ByteArray := prog_2_method_1_code
def yX0_init : MethodName := ⟨RX0, "<init>", "()V"⟩
abbrev cX0_size : ByteArray := prog_2_method_2_code
def yX0_size : MethodName := ⟨RX0, "size", "()I"⟩
abbrev cX0_clear : ByteArray := prog_2_method_3_code
def yX0_clear : MethodName := ⟨RX0, "clear", "()V"⟩
abbrev cX0_add : ByteArray := prog_2_method_4_code
def yX0_add : MethodName := ⟨RX0, "add", "(III)V"⟩
abbrev cX0_read : ByteArray := prog_2_method_5_code
def yX0_read : MethodName := ⟨RX0, "read", "(II)I"⟩
abbrev cX0_copyFrom : ByteArray := prog_2_method_6_code
def yX0_copyFrom : MethodName := ⟨RX0, "copyFrom", "(LTransitSeals$Book;)V"⟩
def RX1 : String := "TransitSeals$History"
def TX1 : u_T := fun k => match k with
  | 0 => ("TransitSeals$History", "before", "[LTransitSeals$Ledger;", true)
  | 1 => ("TransitSeals$History", "kept", "LTransitSeals$Ledger;", true)
  | 2 => ("TransitSeals$History", "keeping", "Z", false)
  | 3 => ("TransitSeals$History", "latest", "I", false)
  | _ => ("TransitSeals$History", "depth", "I", false)
def tyX1 : Nat → FieldType := fun k => match k with
  | 0 => .array (.object "TransitSeals$Ledger")
  | 1 => .object "TransitSeals$Ledger"
  | 2 => .boolean
  | 3 => .int
  | _ => .int
abbrev wsX10 : List Cond := u_ws RX1 TX1 5
theorem nmX1 : ∀ a, a < 5 → ∀ b, b < 5 → a ≠ b → (TX1 a).2.1 ≠ (TX1 b).2.1 := by decide +kernel
theorem tyX1_ok : ∀ k, k < 5 → parseFieldDescriptor (TX1 k).2.2.1 = some (tyX1 k) := by decide +kernel
abbrev cX1_init : ByteArray := prog_3_method_1_code
def yX1_init : MethodName := ⟨RX1, "<init>", "()V"⟩
abbrev cX1_clear : ByteArray := prog_3_method_2_code
def yX1_clear : MethodName := ⟨RX1, "clear", "()V"⟩
abbrev cX1_remember : ByteArray := prog_3_method_3_code
def yX1_remember : MethodName := ⟨RX1, "remember", "(LTransitSeals$Ledger;)V"⟩
abbrev cX1_takeBack : ByteArray := prog_3_method_4_code
def yX1_takeBack : MethodName := ⟨RX1, "takeBack", "(LTransitSeals$Ledger;)Z"⟩
abbrev cX1_latestBefore : ByteArray := prog_3_method_5_code
def yX1_latestBefore : MethodName := ⟨RX1, "latestBefore", "()LTransitSeals$Ledger;"⟩
abbrev cX1_keep : ByteArray := prog_3_method_6_code
def yX1_keep : MethodName := ⟨RX1, "keep", "(LTransitSeals$Ledger;)V"⟩
abbrev cX1_bringBack : ByteArray := prog_3_method_7_code
def yX1_bringBack : MethodName := ⟨RX1, "bringBack", "(LTransitSeals$Ledger;)Z"⟩
def RX2 : String := "TransitSeals$Ledger"
def TX2 : u_T := fun k => match k with
  | 0 => ("TransitSeals$Ledger", "sums", "[I", true)
  | 1 => ("TransitSeals$Ledger", "levels", "[I", true)
  | 2 => ("TransitSeals$Ledger", "movements", "[LTransitSeals$Movement;", true)
  | 3 => ("TransitSeals$Ledger", "book", "LTransitSeals$Book;", true)
  | 4 => ("TransitSeals$Ledger", "hour", "I", false)
  | 5 => ("TransitSeals$Ledger", "traders", "I", false)
  | _ => ("TransitSeals$Ledger", "started", "I", false)
def tyX2 : Nat → FieldType := fun k => match k with
  | 0 => .array .int
  | 1 => .array .int
  | 2 => .array (.object "TransitSeals$Movement")
  | 3 => .object "TransitSeals$Book"
  | 4 => .int
  | 5 => .int
  | _ => .int
abbrev wsX20 : List Cond := u_ws RX2 TX2 7
theorem nmX2 : ∀ a, a < 7 → ∀ b, b < 7 → a ≠ b → (TX2 a).2.1 ≠ (TX2 b).2.1 := by decide +kernel
theorem tyX2_ok : ∀ k, k < 7 → parseFieldDescriptor (TX2 k).2.2.1 = some (tyX2 k) := by decide +kernel
abbrev cX2_init : ByteArray := prog_4_method_1_code
def yX2_init : MethodName := ⟨RX2, "<init>", "()V"⟩
abbrev cX2_clear : ByteArray := prog_4_method_2_code
def yX2_clear : MethodName := ⟨RX2, "clear", "()V"⟩
abbrev cX2_copyFrom : ByteArray := prog_4_method_3_code
def yX2_copyFrom : MethodName := ⟨RX2, "copyFrom", "(LTransitSeals$Ledger;)V"⟩
abbrev cX2_hasTrader : ByteArray := prog_4_method_4_code
def yX2_hasTrader : MethodName := ⟨RX2, "hasTrader", "(I)Z"⟩
abbrev cX2_addTrader : ByteArray := prog_4_method_5_code
def yX2_addTrader : MethodName := ⟨RX2, "addTrader", "(II)I"⟩
abbrev cX2_setTrader : ByteArray := prog_4_method_6_code
def yX2_setTrader : MethodName := ⟨RX2, "setTrader", "(III)V"⟩
abbrev cX2_sumOf : ByteArray := prog_4_method_7_code
def yX2_sumOf : MethodName := ⟨RX2, "sumOf", "(I)I"⟩
abbrev cX2_levelOf : ByteArray := prog_4_method_8_code
def yX2_levelOf : MethodName := ⟨RX2, "levelOf", "(I)I"⟩
abbrev cX2_freeOf : ByteArray := prog_4_method_9_code
def yX2_freeOf : MethodName := ⟨RX2, "freeOf", "(I)I"⟩
abbrev cX2_sharesOf : ByteArray := prog_4_method_10_code
def yX2_sharesOf : MethodName := ⟨RX2, "sharesOf", "(I)I"⟩
abbrev cX2_openOf : ByteArray := prog_4_method_11_code
def yX2_openOf : MethodName := ⟨RX2, "openOf", "(I)I"⟩
abbrev cX2_debtsOf : ByteArray := prog_4_method_12_code
def yX2_debtsOf : MethodName := ⟨RX2, "debtsOf", "(II)I"⟩
abbrev cX2_brokenSeals : ByteArray := prog_4_method_13_code
def yX2_brokenSeals : MethodName := ⟨RX2, "brokenSeals", "()I"⟩
abbrev cX2_underwaySeenAt : ByteArray := prog_4_method_14_code
def yX2_underwaySeenAt : MethodName := ⟨RX2, "underwaySeenAt", "(I)I"⟩
abbrev cX2_stillToCome : ByteArray := prog_4_method_15_code
def yX2_stillToCome : MethodName := ⟨RX2, "stillToCome", "(I)I"⟩
abbrev cX2_greatestShares : ByteArray := prog_4_method_16_code
def yX2_greatestShares : MethodName := ⟨RX2, "greatestShares", "(II)I"⟩
abbrev cX2_find : ByteArray := prog_4_method_17_code
def yX2_find : MethodName := ⟨RX2, "find", "(I)LTransitSeals$Movement;"⟩
abbrev cX2_movementAt : ByteArray := prog_4_method_18_code
def yX2_movementAt : MethodName := ⟨RX2, "movementAt", "(I)LTransitSeals$Movement;"⟩
abbrev cX2_write : ByteArray := prog_4_method_19_code
def yX2_write : MethodName := ⟨RX2, "write", "(ILTransitSeals$Movement;)V"⟩
abbrev cX2_nextToStart : ByteArray := prog_4_method_20_code
def yX2_nextToStart : MethodName := ⟨RX2, "nextToStart", "()LTransitSeals$Movement;"⟩
abbrev cX2_letPass : ByteArray := prog_4_method_21_code
def yX2_letPass : MethodName := ⟨RX2, "letPass", "(I)I"⟩
abbrev cX2_firstToChange : ByteArray := prog_4_method_22_code
def yX2_firstToChange : MethodName := ⟨RX2, "firstToChange", "(I)LTransitSeals$Movement;"⟩
abbrev cX2_change : ByteArray := prog_4_method_23_code
def yX2_change : MethodName := ⟨RX2, "change", "(LTransitSeals$Movement;)V"⟩
def RX3 : String := "TransitSeals$Loads"
def TX3 : u_T := fun k => match k with
  | 0 => ("TransitSeals$Loads", "goods", "[I", true)
  | 1 => ("TransitSeals$Loads", "units", "[I", true)
  | 2 => ("TransitSeals$Loads", "shares", "[I", true)
  | 3 => ("TransitSeals$Loads", "size", "I", false)
  | 4 => ("TransitSeals$Loads", "chosen", "I", false)
  | 5 => ("TransitSeals$Loads", "chosenUnits", "I", false)
  | _ => ("TransitSeals$Loads", "chosenShares", "I", false)
def tyX3 : Nat → FieldType := fun k => match k with
  | 0 => .array .int
  | 1 => .array .int
  | 2 => .array .int
  | 3 => .int
  | 4 => .int
  | 5 => .int
  | _ => .int
abbrev wsX30 : List Cond := u_ws RX3 TX3 7
theorem nmX3 : ∀ a, a < 7 → ∀ b, b < 7 → a ≠ b → (TX3 a).2.1 ≠ (TX3 b).2.1 := by decide +kernel
theorem tyX3_ok : ∀ k, k < 7 → parseFieldDescriptor (TX3 k).2.2.1 = some (tyX3 k) := by decide +kernel
abbrev cX3_init : ByteArray := prog_5_method_1_code
def yX3_init : MethodName := ⟨RX3, "<init>", "()V"⟩
abbrev cX3_readFrom : ByteArray := prog_5_method_2_code
def yX3_readFrom : MethodName := ⟨RX3, "readFrom", "(LTransitSeals$Reader;LTransitSeals$Net;)V"⟩
abbrev cX3_choose : ByteArray := prog_5_method_3_code
def yX3_choose : MethodName := ⟨RX3, "choose", "(LTransitSeals$Net;II)V"⟩
abbrev cX3_isBetter : ByteArray := prog_5_method_4_code
def yX3_isBetter : MethodName := ⟨RX3, "isBetter", "(II)Z"⟩
abbrev cX3_together : ByteArray := prog_5_method_5_code
def yX3_together : MethodName := ⟨RX3, "together", "([II)I"⟩
def RX4 : String := "TransitSeals$Movement"
def TX4 : u_T := fun k => match k with
  | 0 => ("TransitSeals$Movement", "number", "I", true)
  | 1 => ("TransitSeals$Movement", "trader", "I", false)
  | 2 => ("TransitSeals$Movement", "goods", "I", false)
  | 3 => ("TransitSeals$Movement", "units", "I", false)
  | 4 => ("TransitSeals$Movement", "duty", "I", false)
  | 5 => ("TransitSeals$Movement", "share", "I", false)
  | 6 => ("TransitSeals$Movement", "term", "I", false)
  | 7 => ("TransitSeals$Movement", "state", "I", false)
  | 8 => ("TransitSeals$Movement", "stops", "I", false)
  | 9 => ("TransitSeals$Movement", "stamps", "I", false)
  | 10 => ("TransitSeals$Movement", "debt", "I", false)
  | 11 => ("TransitSeals$Movement", "broken", "Z", false)
  | 12 => ("TransitSeals$Movement", "offices", "[I", true)
  | _ => ("TransitSeals$Movement", "stampHours", "[I", true)
def tyX4 : Nat → FieldType := fun k => match k with
  | 0 => .int
  | 1 => .int
  | 2 => .int
  | 3 => .int
  | 4 => .int
  | 5 => .int
  | 6 => .int
  | 7 => .int
  | 8 => .int
  | 9 => .int
  | 10 => .int
  | 11 => .boolean
  | 12 => .array .int
  | _ => .array .int
abbrev wsX40 : List Cond := u_ws RX4 TX4 14
theorem nmX4 : ∀ a, a < 14 → ∀ b, b < 14 → a ≠ b → (TX4 a).2.1 ≠ (TX4 b).2.1 := by decide +kernel
theorem tyX4_ok : ∀ k, k < 14 → parseFieldDescriptor (TX4 k).2.2.1 = some (tyX4 k) := by decide +kernel
abbrev cX4_init : ByteArray := prog_6_method_1_code
def yX4_init : MethodName := ⟨RX4, "<init>", "(I)V"⟩
abbrev cX4_bit : ByteArray := prog_6_method_2_code
def yX4_bit : MethodName := ⟨RX4, "bit", "()I"⟩
abbrev cX4_isUnderway : ByteArray := prog_6_method_3_code
def yX4_isUnderway : MethodName := ⟨RX4, "isUnderway", "()Z"⟩
abbrev cX4_isIndebted : ByteArray := prog_6_method_4_code
def yX4_isIndebted : MethodName := ⟨RX4, "isIndebted", "()Z"⟩
abbrev cX4_isOpenFor : ByteArray := prog_6_method_5_code
def yX4_isOpenFor : MethodName := ⟨RX4, "isOpenFor", "(I)Z"⟩
abbrev cX4_officeAt : ByteArray := prog_6_method_6_code
def yX4_officeAt : MethodName := ⟨RX4, "officeAt", "(I)I"⟩
abbrev cX4_stampedAt : ByteArray := prog_6_method_7_code
def yX4_stampedAt : MethodName := ⟨RX4, "stampedAt", "(I)I"⟩
abbrev cX4_seen : ByteArray := prog_6_method_8_code
def yX4_seen : MethodName := ⟨RX4, "seen", "()I"⟩
abbrev cX4_comesTo : ByteArray := prog_6_method_9_code
def yX4_comesTo : MethodName := ⟨RX4, "comesTo", "()I"⟩
abbrev cX4_officesFrom : ByteArray := prog_6_method_10_code
def yX4_officesFrom : MethodName := ⟨RX4, "officesFrom", "(I)I"⟩
abbrev cX4_step : ByteArray := prog_6_method_11_code
def yX4_step : MethodName := ⟨RX4, "step", "(I)I"⟩
abbrev cX4_changesAt : ByteArray := prog_6_method_12_code
def yX4_changesAt : MethodName := ⟨RX4, "changesAt", "()I"⟩
abbrev cX4_load : ByteArray := prog_6_method_13_code
def yX4_load : MethodName := ⟨RX4, "load", "(IIIII)V"⟩
abbrev cX4_start : ByteArray := prog_6_method_14_code
def yX4_start : MethodName := ⟨RX4, "start", "(LTransitSeals$Route;I)V"⟩
abbrev cX4_stamp : ByteArray := prog_6_method_15_code
def yX4_stamp : MethodName := ⟨RX4, "stamp", "(I)V"⟩
abbrev cX4_owe : ByteArray := prog_6_method_16_code
def yX4_owe : MethodName := ⟨RX4, "owe", "(I)V"⟩
abbrev cX4_copyFrom : ByteArray := prog_6_method_17_code
def yX4_copyFrom : MethodName := ⟨RX4, "copyFrom", "(LTransitSeals$Movement;)V"⟩
def RX5 : String := "TransitSeals$Net"
def TX5 : u_T := fun k => match k with
  | 0 => ("TransitSeals$Net", "countries", "[I", true)
  | 1 => ("TransitSeals$Net", "duties", "[I", true)
  | 2 => ("TransitSeals$Net", "roadHours", "[I", true)
  | 3 => ("TransitSeals$Net", "wayHours", "[I", true)
  | 4 => ("TransitSeals$Net", "near", "[I", true)
  | 5 => ("TransitSeals$Net", "written", "LTransitSeals$Text;", true)
  | 6 => ("TransitSeals$Net", "offices", "I", false)
  | 7 => ("TransitSeals$Net", "roads", "I", false)
  | _ => ("TransitSeals$Net", "goods", "I", false)
def tyX5 : Nat → FieldType := fun k => match k with
  | 0 => .array .int
  | 1 => .array .int
  | 2 => .array .int
  | 3 => .array .int
  | 4 => .array .int
  | 5 => .object "TransitSeals$Text"
  | 6 => .int
  | 7 => .int
  | _ => .int
abbrev wsX50 : List Cond := u_ws RX5 TX5 9
theorem nmX5 : ∀ a, a < 9 → ∀ b, b < 9 → a ≠ b → (TX5 a).2.1 ≠ (TX5 b).2.1 := by decide +kernel
theorem tyX5_ok : ∀ k, k < 9 → parseFieldDescriptor (TX5 k).2.2.1 = some (tyX5 k) := by decide +kernel
abbrev cX5_init : ByteArray := prog_7_method_1_code
def yX5_init : MethodName := ⟨RX5, "<init>", "()V"⟩
abbrev cX5_hasOffice : ByteArray := prog_7_method_2_code
def yX5_hasOffice : MethodName := ⟨RX5, "hasOffice", "(I)Z"⟩
abbrev cX5_hasGoods : ByteArray := prog_7_method_3_code
def yX5_hasGoods : MethodName := ⟨RX5, "hasGoods", "(I)Z"⟩
abbrev cX5_countryOf : ByteArray := prog_7_method_4_code
def yX5_countryOf : MethodName := ⟨RX5, "countryOf", "(I)I"⟩
abbrev cX5_near : ByteArray := prog_7_method_5_code
def yX5_near : MethodName := ⟨RX5, "near", "(I)I"⟩
abbrev cX5_roadsAt : ByteArray := prog_7_method_6_code
def yX5_roadsAt : MethodName := ⟨RX5, "roadsAt", "(I)I"⟩
abbrev cX5_dutyOf : ByteArray := prog_7_method_7_code
def yX5_dutyOf : MethodName := ⟨RX5, "dutyOf", "(I)I"⟩
abbrev cX5_roadHours : ByteArray := prog_7_method_8_code
def yX5_roadHours : MethodName := ⟨RX5, "roadHours", "(II)I"⟩
abbrev cX5_wayHours : ByteArray := prog_7_method_9_code
def yX5_wayHours : MethodName := ⟨RX5, "wayHours", "(II)I"⟩
abbrev cX5_pair : ByteArray := prog_7_method_10_code
def yX5_pair : MethodName := ⟨RX5, "pair", "(II)I"⟩
abbrev cX5_readFrom : ByteArray := prog_7_method_11_code
def yX5_readFrom : MethodName := ⟨RX5, "readFrom", "(LTransitSeals$Reader;)V"⟩
abbrev cX5_clear : ByteArray := prog_7_method_12_code
def yX5_clear : MethodName := ⟨RX5, "clear", "()V"⟩
abbrev cX5_readCountries : ByteArray := prog_7_method_13_code
def yX5_readCountries : MethodName := ⟨RX5, "readCountries", "(LTransitSeals$Reader;)V"⟩
abbrev cX5_readRoads : ByteArray := prog_7_method_14_code
def yX5_readRoads : MethodName := ⟨RX5, "readRoads", "(LTransitSeals$Reader;)V"⟩
abbrev cX5_readRoad : ByteArray := prog_7_method_15_code
def yX5_readRoad : MethodName := ⟨RX5, "readRoad", "(LTransitSeals$Reader;)V"⟩
abbrev cX5_join : ByteArray := prog_7_method_16_code
def yX5_join : MethodName := ⟨RX5, "join", "(III)V"⟩
abbrev cX5_readDuties : ByteArray := prog_7_method_17_code
def yX5_readDuties : MethodName := ⟨RX5, "readDuties", "(LTransitSeals$Reader;)V"⟩
abbrev cX5_measureWays : ByteArray := prog_7_method_18_code
def yX5_measureWays : MethodName := ⟨RX5, "measureWays", "()V"⟩
abbrev cX5_writeDown : ByteArray := prog_7_method_19_code
def yX5_writeDown : MethodName := ⟨RX5, "writeDown", "()V"⟩
abbrev cX5_writeRoad : ByteArray := prog_7_method_20_code
def yX5_writeRoad : MethodName := ⟨RX5, "writeRoad", "(IIZ)V"⟩
abbrev cX5_tellWay : ByteArray := prog_7_method_21_code
def yX5_tellWay : MethodName := ⟨RX5, "tellWay", "(IILTransitSeals$Row;)V"⟩
abbrev cX5_firstOnTheWay : ByteArray := prog_7_method_22_code
def yX5_firstOnTheWay : MethodName := ⟨RX5, "firstOnTheWay", "(II)I"⟩
abbrev cX5_hasRoute : ByteArray := prog_7_method_23_code
def yX5_hasRoute : MethodName := ⟨RX5, "hasRoute", "(III)Z"⟩
def RX6 : String := "TransitSeals$Reader"
def TX6 : u_T := fun k => match k with
  | 0 => ("TransitSeals$Reader", "text", "LTransitSeals$Text;", true)
  | 1 => ("TransitSeals$Reader", "place", "I", false)
  | _ => ("TransitSeals$Reader", "wrong", "I", false)
def tyX6 : Nat → FieldType := fun k => match k with
  | 0 => .object "TransitSeals$Text"
  | 1 => .int
  | _ => .int
abbrev wsX60 : List Cond := u_ws RX6 TX6 3
theorem nmX6 : ∀ a, a < 3 → ∀ b, b < 3 → a ≠ b → (TX6 a).2.1 ≠ (TX6 b).2.1 := by decide +kernel
theorem tyX6_ok : ∀ k, k < 3 → parseFieldDescriptor (TX6 k).2.2.1 = some (tyX6 k) := by decide +kernel
abbrev cX6_init : ByteArray := prog_8_method_1_code
def yX6_init : MethodName := ⟨RX6, "<init>", "()V"⟩
abbrev cX6_begin : ByteArray := prog_8_method_2_code
def yX6_begin : MethodName := ⟨RX6, "begin", "()V"⟩
abbrev cX6_failed : ByteArray := prog_8_method_3_code
def yX6_failed : MethodName := ⟨RX6, "failed", "()Z"⟩
abbrev cX6_refusal : ByteArray := prog_8_method_4_code
def yX6_refusal : MethodName := ⟨RX6, "refusal", "()I"⟩
abbrev cX6_atEnd : ByteArray := prog_8_method_5_code
def yX6_atEnd : MethodName := ⟨RX6, "atEnd", "()Z"⟩
abbrev cX6_sees : ByteArray := prog_8_method_6_code
def yX6_sees : MethodName := ⟨RX6, "sees", "(C)Z"⟩
abbrev cX6_takes : ByteArray := prog_8_method_7_code
def yX6_takes : MethodName := ⟨RX6, "takes", "(C)Z"⟩
abbrev cX6_needs : ByteArray := prog_8_method_8_code
def yX6_needs : MethodName := ⟨RX6, "needs", "(C)V"⟩
abbrev cX6_finish : ByteArray := prog_8_method_9_code
def yX6_finish : MethodName := ⟨RX6, "finish", "()V"⟩
abbrev cX6_refuseHere : ByteArray := prog_8_method_10_code
def yX6_refuseHere : MethodName := ⟨RX6, "refuseHere", "()V"⟩
abbrev cX6_refuseLast : ByteArray := prog_8_method_11_code
def yX6_refuseLast : MethodName := ⟨RX6, "refuseLast", "()V"⟩
abbrev cX6_digit : ByteArray := prog_8_method_12_code
def yX6_digit : MethodName := ⟨RX6, "digit", "()I"⟩
abbrev cX6_number : ByteArray := prog_8_method_13_code
def yX6_number : MethodName := ⟨RX6, "number", "(II)I"⟩
def RX7 : String := "TransitSeals$Route"
def TX7 : u_T := fun k => match k with
  | 0 => ("TransitSeals$Route", "offices", "[I", true)
  | 1 => ("TransitSeals$Route", "stops", "I", false)
  | _ => ("TransitSeals$Route", "span", "I", false)
def tyX7 : Nat → FieldType := fun k => match k with
  | 0 => .array .int
  | 1 => .int
  | _ => .int
abbrev wsX70 : List Cond := u_ws RX7 TX7 3
theorem nmX7 : ∀ a, a < 3 → ∀ b, b < 3 → a ≠ b → (TX7 a).2.1 ≠ (TX7 b).2.1 := by decide +kernel
theorem tyX7_ok : ∀ k, k < 3 → parseFieldDescriptor (TX7 k).2.2.1 = some (tyX7 k) := by decide +kernel
abbrev cX7_init : ByteArray := prog_9_method_1_code
def yX7_init : MethodName := ⟨RX7, "<init>", "()V"⟩
abbrev cX7_officeAt : ByteArray := prog_9_method_2_code
def yX7_officeAt : MethodName := ⟨RX7, "officeAt", "(I)I"⟩
abbrev cX7_termFrom : ByteArray := prog_9_method_3_code
def yX7_termFrom : MethodName := ⟨RX7, "termFrom", "(I)I"⟩
abbrev cX7_readFrom : ByteArray := prog_9_method_4_code
def yX7_readFrom : MethodName := ⟨RX7, "readFrom", "(LTransitSeals$Reader;LTransitSeals$Net;)V"⟩
def RX8 : String := "TransitSeals$Row"
def TX8 : u_T := fun k => match k with
  | 0 => ("TransitSeals$Row", "numbers", "[I", true)
  | _ => ("TransitSeals$Row", "size", "I", false)
def tyX8 : Nat → FieldType := fun k => match k with
  | 0 => .array .int
  | _ => .int
abbrev wsX80 : List Cond := u_ws RX8 TX8 2
theorem nmX8 : ∀ a, a < 2 → ∀ b, b < 2 → a ≠ b → (TX8 a).2.1 ≠ (TX8 b).2.1 := by decide +kernel
theorem tyX8_ok : ∀ k, k < 2 → parseFieldDescriptor (TX8 k).2.2.1 = some (tyX8 k) := by decide +kernel
abbrev cX8_init : ByteArray := prog_10_method_1_code
def yX8_init : MethodName := ⟨RX8, "<init>", "()V"⟩
abbrev cX8_size : ByteArray := prog_10_method_2_code
def yX8_size : MethodName := ⟨RX8, "size", "()I"⟩
abbrev cX8_clear : ByteArray := prog_10_method_3_code
def yX8_clear : MethodName := ⟨RX8, "clear", "()V"⟩
abbrev cX8_add : ByteArray := prog_10_method_4_code
def yX8_add : MethodName := ⟨RX8, "add", "(I)V"⟩
abbrev cX8_numberAt : ByteArray := prog_10_method_5_code
def yX8_numberAt : MethodName := ⟨RX8, "numberAt", "(I)I"⟩
def RX9 : String := "TransitSeals$Search"
def TX9 : u_T := fun k => match k with
  | 0 => ("TransitSeals$Search", "net", "LTransitSeals$Net;", false)
  | 1 => ("TransitSeals$Search", "goal", "I", false)
  | 2 => ("TransitSeals$Search", "found", "I", false)
  | 3 => ("TransitSeals$Search", "least", "I", false)
  | _ => ("TransitSeals$Search", "greatest", "I", false)
def tyX9 : Nat → FieldType := fun k => match k with
  | 0 => .object "TransitSeals$Net"
  | 1 => .int
  | 2 => .int
  | 3 => .int
  | _ => .int
abbrev wsX90 : List Cond := u_ws RX9 TX9 5
theorem nmX9 : ∀ a, a < 5 → ∀ b, b < 5 → a ≠ b → (TX9 a).2.1 ≠ (TX9 b).2.1 := by decide +kernel
theorem tyX9_ok : ∀ k, k < 5 → parseFieldDescriptor (TX9 k).2.2.1 = some (tyX9 k) := by decide +kernel
abbrev cX9_init : ByteArray := prog_11_method_1_code
def yX9_init : MethodName := ⟨RX9, "<init>", "()V"⟩
abbrev cX9_run : ByteArray := prog_11_method_2_code
def yX9_run : MethodName := ⟨RX9, "run", "(LTransitSeals$Net;II)V"⟩
abbrev cX9_follow : ByteArray := prog_11_method_3_code
def yX9_follow : MethodName := ⟨RX9, "follow", "(LTransitSeals$Search;IIII)V"⟩
abbrev cX9_arrive : ByteArray := prog_11_method_4_code
def yX9_arrive : MethodName := ⟨RX9, "arrive", "(I)V"⟩
def RX10 : String := "TransitSeals$Text"
def TX10 : u_T := fun k => match k with
  | 0 => ("TransitSeals$Text", "signs", "[I", true)
  | _ => ("TransitSeals$Text", "size", "I", false)
def tyX10 : Nat → FieldType := fun k => match k with
  | 0 => .array .int
  | _ => .int
abbrev wsX100 : List Cond := u_ws RX10 TX10 2
theorem nmX10 : ∀ a, a < 2 → ∀ b, b < 2 → a ≠ b → (TX10 a).2.1 ≠ (TX10 b).2.1 := by decide +kernel
theorem tyX10_ok : ∀ k, k < 2 → parseFieldDescriptor (TX10 k).2.2.1 = some (tyX10 k) := by decide +kernel
abbrev cX10_init : ByteArray := prog_12_method_1_code
def yX10_init : MethodName := ⟨RX10, "<init>", "()V"⟩
abbrev cX10_size : ByteArray := prog_12_method_2_code
def yX10_size : MethodName := ⟨RX10, "size", "()I"⟩
abbrev cX10_signAt : ByteArray := prog_12_method_3_code
def yX10_signAt : MethodName := ⟨RX10, "signAt", "(I)I"⟩
abbrev cX10_add : ByteArray := prog_12_method_4_code
def yX10_add : MethodName := ⟨RX10, "add", "(I)V"⟩
abbrev cX10_addNumber : ByteArray := prog_12_method_5_code
def yX10_addNumber : MethodName := ⟨RX10, "addNumber", "(I)V"⟩
abbrev cX10_cutTo : ByteArray := prog_12_method_6_code
def yX10_cutTo : MethodName := ⟨RX10, "cutTo", "(I)V"⟩
def RX11 : String := "TransitSeals"
def TX11 : u_T := fun k => match k with
  | 0 => ("TransitSeals", "reader", "LTransitSeals$Reader;", true)
  | 1 => ("TransitSeals", "told", "LTransitSeals$Row;", true)
  | 2 => ("TransitSeals", "route", "LTransitSeals$Route;", true)
  | 3 => ("TransitSeals", "loads", "LTransitSeals$Loads;", true)
  | 4 => ("TransitSeals", "search", "LTransitSeals$Search;", true)
  | 5 => ("TransitSeals", "ledger", "LTransitSeals$Ledger;", true)
  | 6 => ("TransitSeals", "history", "LTransitSeals$History;", true)
  | 7 => ("TransitSeals", "net", "LTransitSeals$Net;", false)
  | _ => ("TransitSeals", "draft", "LTransitSeals$Net;", false)
def tyX11 : Nat → FieldType := fun k => match k with
  | 0 => .object "TransitSeals$Reader"
  | 1 => .object "TransitSeals$Row"
  | 2 => .object "TransitSeals$Route"
  | 3 => .object "TransitSeals$Loads"
  | 4 => .object "TransitSeals$Search"
  | 5 => .object "TransitSeals$Ledger"
  | 6 => .object "TransitSeals$History"
  | 7 => .object "TransitSeals$Net"
  | _ => .object "TransitSeals$Net"
abbrev wsX110 : List Cond := u_ws RX11 TX11 9
theorem nmX11 : ∀ a, a < 9 → ∀ b, b < 9 → a ≠ b → (TX11 a).2.1 ≠ (TX11 b).2.1 := by decide +kernel
theorem tyX11_ok : ∀ k, k < 9 → parseFieldDescriptor (TX11 k).2.2.1 = some (tyX11 k) := by decide +kernel
abbrev cX11_init : ByteArray := prog_1_method_1_code
def yX11_init : MethodName := ⟨RX11, "<init>", "()V"⟩
abbrev cX11_sign : ByteArray := prog_1_method_2_code
def yX11_sign : MethodName := ⟨RX11, "sign", "(I)I"⟩
abbrev cX11_end : ByteArray := prog_1_method_3_code
def yX11_end : MethodName := ⟨RX11, "end", "(I)Z"⟩
abbrev cX11_net : ByteArray := prog_1_method_4_code
def yX11_net : MethodName := ⟨RX11, "net", "()I"⟩
abbrev cX11_road : ByteArray := prog_1_method_5_code
def yX11_road : MethodName := ⟨RX11, "road", "(II)I"⟩
abbrev cX11_office : ByteArray := prog_1_method_6_code
def yX11_office : MethodName := ⟨RX11, "office", "(II)I"⟩
abbrev cX11_way : ByteArray := prog_1_method_7_code
def yX11_way : MethodName := ⟨RX11, "way", "(II)I"⟩
abbrev cX11_routes : ByteArray := prog_1_method_8_code
def yX11_routes : MethodName := ⟨RX11, "routes", "(II)I"⟩
abbrev cX11_gates : ByteArray := prog_1_method_9_code
def yX11_gates : MethodName := ⟨RX11, "gates", "(II)I"⟩
abbrev cX11_trader : ByteArray := prog_1_method_10_code
def yX11_trader : MethodName := ⟨RX11, "trader", "(II)I"⟩
abbrev cX11_sums : ByteArray := prog_1_method_11_code
def yX11_sums : MethodName := ⟨RX11, "sums", "(III)I"⟩
abbrev cX11_inUse : ByteArray := prog_1_method_12_code
def yX11_inUse : MethodName := ⟨RX11, "inUse", "(I)I"⟩
abbrev cX11_owes : ByteArray := prog_1_method_13_code
def yX11_owes : MethodName := ⟨RX11, "owes", "(I)I"⟩
abbrev cX11_starts : ByteArray := prog_1_method_14_code
def yX11_starts : MethodName := ⟨RX11, "starts", "(III)I"⟩
abbrev cX11_stamps : ByteArray := prog_1_method_15_code
def yX11_stamps : MethodName := ⟨RX11, "stamps", "(II)I"⟩
abbrev cX11_breaks : ByteArray := prog_1_method_16_code
def yX11_breaks : MethodName := ⟨RX11, "breaks", "(I)I"⟩
abbrev cX11_controls : ByteArray := prog_1_method_17_code
def yX11_controls : MethodName := ⟨RX11, "controls", "(II)I"⟩
abbrev cX11_proves : ByteArray := prog_1_method_18_code
def yX11_proves : MethodName := ⟨RX11, "proves", "(I)I"⟩
abbrev cX11_pays : ByteArray := prog_1_method_19_code
def yX11_pays : MethodName := ⟨RX11, "pays", "(I)I"⟩
abbrev cX11_hours : ByteArray := prog_1_method_20_code
def yX11_hours : MethodName := ⟨RX11, "hours", "(I)I"⟩
abbrev cX11_movement : ByteArray := prog_1_method_21_code
def yX11_movement : MethodName := ⟨RX11, "movement", "(II)I"⟩
abbrev cX11_stop : ByteArray := prog_1_method_22_code
def yX11_stop : MethodName := ⟨RX11, "stop", "(II)I"⟩
abbrev cX11_left : ByteArray := prog_1_method_23_code
def yX11_left : MethodName := ⟨RX11, "left", "(I)I"⟩
abbrev cX11_borders : ByteArray := prog_1_method_24_code
def yX11_borders : MethodName := ⟨RX11, "borders", "(I)I"⟩
abbrev cX11_asked : ByteArray := prog_1_method_25_code
def yX11_asked : MethodName := ⟨RX11, "asked", "(I)I"⟩
abbrev cX11_states : ByteArray := prog_1_method_26_code
def yX11_states : MethodName := ⟨RX11, "states", "(I)I"⟩
abbrev cX11_owed : ByteArray := prog_1_method_27_code
def yX11_owed : MethodName := ⟨RX11, "owed", "(I)I"⟩
abbrev cX11_late : ByteArray := prog_1_method_28_code
def yX11_late : MethodName := ⟨RX11, "late", "()I"⟩
abbrev cX11_next : ByteArray := prog_1_method_29_code
def yX11_next : MethodName := ⟨RX11, "next", "(I)I"⟩
abbrev cX11_worth : ByteArray := prog_1_method_30_code
def yX11_worth : MethodName := ⟨RX11, "worth", "(I)I"⟩
abbrev cX11_busiest : ByteArray := prog_1_method_31_code
def yX11_busiest : MethodName := ⟨RX11, "busiest", "()I"⟩
abbrev cX11_can : ByteArray := prog_1_method_32_code
def yX11_can : MethodName := ⟨RX11, "can", "(II)I"⟩
abbrev cX11_frees : ByteArray := prog_1_method_33_code
def yX11_frees : MethodName := ⟨RX11, "frees", "(II)I"⟩
abbrev cX11_when : ByteArray := prog_1_method_34_code
def yX11_when : MethodName := ⟨RX11, "when", "(II)I"⟩
abbrev cX11_fits : ByteArray := prog_1_method_35_code
def yX11_fits : MethodName := ⟨RX11, "fits", "(I)I"⟩
abbrev cX11_detour : ByteArray := prog_1_method_36_code
def yX11_detour : MethodName := ⟨RX11, "detour", "()I"⟩
abbrev cX11_risk : ByteArray := prog_1_method_37_code
def yX11_risk : MethodName := ⟨RX11, "risk", "(I)I"⟩
abbrev cX11_tightest : ByteArray := prog_1_method_38_code
def yX11_tightest : MethodName := ⟨RX11, "tightest", "()I"⟩
abbrev cX11_book : ByteArray := prog_1_method_39_code
def yX11_book : MethodName := ⟨RX11, "book", "(II)I"⟩
abbrev cX11_written : ByteArray := prog_1_method_40_code
def yX11_written : MethodName := ⟨RX11, "written", "(I)I"⟩
abbrev cX11_undo : ByteArray := prog_1_method_41_code
def yX11_undo : MethodName := ⟨RX11, "undo", "()I"⟩
abbrev cX11_keeps : ByteArray := prog_1_method_42_code
def yX11_keeps : MethodName := ⟨RX11, "keeps", "()I"⟩
abbrev cX11_back : ByteArray := prog_1_method_43_code
def yX11_back : MethodName := ⟨RX11, "back", "()I"⟩
abbrev cX11_count : ByteArray := prog_1_method_44_code
def yX11_count : MethodName := ⟨RX11, "count", "(I)I"⟩
abbrev cX11_row : ByteArray := prog_1_method_45_code
def yX11_row : MethodName := ⟨RX11, "row", "(I)J"⟩
abbrev cX11_tell : ByteArray := prog_1_method_46_code
def yX11_tell : MethodName := ⟨RX11, "tell", "(I)V"⟩
abbrev cX11_tell_ : ByteArray := prog_1_method_47_code
def yX11_tell_ : MethodName := ⟨RX11, "tell", "(II)V"⟩
abbrev cX11_hoursToGo : ByteArray := prog_1_method_48_code
def yX11_hoursToGo : MethodName := ⟨RX11, "hoursToGo", "(LTransitSeals$Movement;)I"⟩
abbrev cX11_hourOfArrival : ByteArray := prog_1_method_49_code
def yX11_hourOfArrival : MethodName := ⟨RX11, "hourOfArrival", "(LTransitSeals$Movement;)I"⟩
abbrev cX11_isLate : ByteArray := prog_1_method_50_code
def yX11_isLate : MethodName := ⟨RX11, "isLate", "(LTransitSeals$Movement;)Z"⟩
abbrev cX11_closingHour : ByteArray := prog_1_method_51_code
def yX11_closingHour : MethodName := ⟨RX11, "closingHour", "(LTransitSeals$Movement;)I"⟩
abbrev cX11_freedUntil : ByteArray := prog_1_method_52_code
def yX11_freedUntil : MethodName := ⟨RX11, "freedUntil", "(II)I"⟩
abbrev cX11_fewestFreeing : ByteArray := prog_1_method_53_code
def yX11_fewestFreeing : MethodName := ⟨RX11, "fewestFreeing", "(II)I"⟩
abbrev cX11_leastBitsFreeing : ByteArray := prog_1_method_54_code
def yX11_leastBitsFreeing : MethodName := ⟨RX11, "leastBitsFreeing", "(III)I"⟩
abbrev cX11_isSum : ByteArray := prog_1_method_55_code
def yX11_isSum : MethodName := ⟨RX11, "isSum", "(I)Z"⟩
abbrev cX11_isLevel : ByteArray := prog_1_method_56_code
def yX11_isLevel : MethodName := ⟨RX11, "isLevel", "(I)Z"⟩
abbrev cX11_partsOf : ByteArray := prog_1_method_57_code
def yX11_partsOf : MethodName := ⟨RX11, "partsOf", "(I)I"⟩
abbrev cX11_share : ByteArray := prog_1_method_58_code
def yX11_share : MethodName := ⟨RX11, "share", "(II)I"⟩
abbrev cX11_digitsOf : ByteArray := prog_1_method_59_code
def yX11_digitsOf : MethodName := ⟨RX11, "digitsOf", "(I)I"⟩
abbrev cX11_numberIn : ByteArray := prog_1_method_60_code
def yX11_numberIn : MethodName := ⟨RX11, "numberIn", "([II)I"⟩
abbrev cX11_put : ByteArray := prog_1_method_61_code
def yX11_put : MethodName := ⟨RX11, "put", "([III)V"⟩
abbrev cX11_copy : ByteArray := prog_1_method_62_code
def yX11_copy : MethodName := ⟨RX11, "copy", "([I[I)V"⟩
abbrev cX11_wipe : ByteArray := prog_1_method_63_code
def yX11_wipe : MethodName := ⟨RX11, "wipe", "([I)V"⟩
def RX12 : String := "TransitSealsModel"
def TX12 : u_T := fun k => match k with
  | 0 => ("TransitSealsModel", "w", "[I", true)
  | 1 => ("TransitSealsModel", "kept", "[I", true)
  | 2 => ("TransitSealsModel", "isKept", "Z", false)
  | 3 => ("TransitSealsModel", "past", "[I", true)
  | 4 => ("TransitSealsModel", "pastMany", "I", false)
  | 5 => ("TransitSealsModel", "country", "[I", true)
  | 6 => ("TransitSealsModel", "road", "[I", true)
  | 7 => ("TransitSealsModel", "duty", "[I", true)
  | 8 => ("TransitSealsModel", "officeMany", "I", false)
  | 9 => ("TransitSealsModel", "roadMany", "I", false)
  | 10 => ("TransitSealsModel", "goodsMany", "I", false)
  | 11 => ("TransitSealsModel", "text", "[B", true)
  | 12 => ("TransitSealsModel", "typed", "I", false)
  | 13 => ("TransitSealsModel", "row", "[J", true)
  | 14 => ("TransitSealsModel", "rowMany", "I", false)
  | 15 => ("TransitSealsModel", "thrown", "I", false)
  | 16 => ("TransitSealsModel", "size", "I", false)
  | 17 => ("TransitSealsModel", "here", "I", false)
  | 18 => ("TransitSealsModel", "wrong", "I", false)
  | 19 => ("TransitSealsModel", "readOffices", "I", false)
  | 20 => ("TransitSealsModel", "readCountry", "[I", true)
  | 21 => ("TransitSealsModel", "readRoad", "[I", true)
  | 22 => ("TransitSealsModel", "readRoads", "I", false)
  | 23 => ("TransitSealsModel", "readDuty", "[I", true)
  | 24 => ("TransitSealsModel", "readGoods", "I", false)
  | 25 => ("TransitSealsModel", "route", "[I", true)
  | 26 => ("TransitSealsModel", "routeMany", "I", false)
  | 27 => ("TransitSealsModel", "routeSpan", "I", false)
  | 28 => ("TransitSealsModel", "to", "[I", true)
  | 29 => ("TransitSealsModel", "routesFound", "I", false)
  | 30 => ("TransitSealsModel", "leastSpan", "I", false)
  | 31 => ("TransitSealsModel", "greatestSpan", "I", false)
  | 32 => ("TransitSealsModel", "inAll", "I", false)
  | 33 => ("TransitSealsModel", "loadUnits", "[I", true)
  | 34 => ("TransitSealsModel", "loadShare", "[I", true)
  | 35 => ("TransitSealsModel", "loadGoods", "[I", true)
  | 36 => ("TransitSealsModel", "loadMany", "I", false)
  | 37 => ("TransitSealsModel", "page", "[B", true)
  | _ => ("TransitSealsModel", "pageMany", "I", false)
def tyX12 : Nat → FieldType := fun k => match k with
  | 0 => .array .int
  | 1 => .array .int
  | 2 => .boolean
  | 3 => .array .int
  | 4 => .int
  | 5 => .array .int
  | 6 => .array .int
  | 7 => .array .int
  | 8 => .int
  | 9 => .int
  | 10 => .int
  | 11 => .array .byte
  | 12 => .int
  | 13 => .array .long
  | 14 => .int
  | 15 => .int
  | 16 => .int
  | 17 => .int
  | 18 => .int
  | 19 => .int
  | 20 => .array .int
  | 21 => .array .int
  | 22 => .int
  | 23 => .array .int
  | 24 => .int
  | 25 => .array .int
  | 26 => .int
  | 27 => .int
  | 28 => .array .int
  | 29 => .int
  | 30 => .int
  | 31 => .int
  | 32 => .int
  | 33 => .array .int
  | 34 => .array .int
  | 35 => .array .int
  | 36 => .int
  | 37 => .array .byte
  | _ => .int
abbrev wsX120 : List Cond := u_ws RX12 TX12 39
theorem nmX12 : ∀ a, a < 39 → ∀ b, b < 39 → a ≠ b → (TX12 a).2.1 ≠ (TX12 b).2.1 := by decide +kernel
theorem tyX12_ok : ∀ k, k < 39 → parseFieldDescriptor (TX12 k).2.2.1 = some (tyX12 k) := by decide +kernel
abbrev cX12_init : ByteArray := prog_14_method_1_code
def yX12_init : MethodName := ⟨RX12, "<init>", "()V"⟩
abbrev cX12_thrown : ByteArray := prog_14_method_2_code
def yX12_thrown : MethodName := ⟨RX12, "thrown", "()I"⟩
abbrev cX12_in : ByteArray := prog_14_method_3_code
def yX12_in : MethodName := ⟨RX12, "in", "(JJJ)Z"⟩
abbrev cX12_lost : ByteArray := prog_14_method_4_code
def yX12_lost : MethodName := ⟨RX12, "lost", "()I"⟩
abbrev cX12_tell : ByteArray := prog_14_method_5_code
def yX12_tell : MethodName := ⟨RX12, "tell", "(J)V"⟩
abbrev cX12_ones : ByteArray := prog_14_method_6_code
def yX12_ones : MethodName := ⟨RX12, "ones", "(I)I"⟩
abbrev cX12_has : ByteArray := prog_14_method_7_code
def yX12_has : MethodName := ⟨RX12, "has", "(II)Z"⟩
abbrev cX12_sign : ByteArray := prog_14_method_8_code
def yX12_sign : MethodName := ⟨RX12, "sign", "(I)I"⟩
abbrev cX12_end : ByteArray := prog_14_method_9_code
def yX12_end : MethodName := ⟨RX12, "end", "(I)Z"⟩
abbrev cX12_isOffice : ByteArray := prog_14_method_10_code
def yX12_isOffice : MethodName := ⟨RX12, "isOffice", "(I)Z"⟩
abbrev cX12_isTrader : ByteArray := prog_14_method_11_code
def yX12_isTrader : MethodName := ⟨RX12, "isTrader", "(I)Z"⟩
abbrev cX12_isGoods : ByteArray := prog_14_method_12_code
def yX12_isGoods : MethodName := ⟨RX12, "isGoods", "(I)Z"⟩
abbrev cX12_isMove : ByteArray := prog_14_method_13_code
def yX12_isMove : MethodName := ⟨RX12, "isMove", "(I)Z"⟩
abbrev cX12_of : ByteArray := prog_14_method_14_code
def yX12_of : MethodName := ⟨RX12, "of", "(II)I"⟩
abbrev cX12_sets : ByteArray := prog_14_method_15_code
def yX12_sets : MethodName := ⟨RX12, "sets", "(III)V"⟩
abbrev cX12_state : ByteArray := prog_14_method_16_code
def yX12_state : MethodName := ⟨RX12, "state", "(I)I"⟩
abbrev cX12_sumOf : ByteArray := prog_14_method_17_code
def yX12_sumOf : MethodName := ⟨RX12, "sumOf", "(I)I"⟩
abbrev cX12_levelOf : ByteArray := prog_14_method_18_code
def yX12_levelOf : MethodName := ⟨RX12, "levelOf", "(I)I"⟩
abbrev cX12_goes : ByteArray := prog_14_method_19_code
def yX12_goes : MethodName := ⟨RX12, "goes", "(I)Z"⟩
abbrev cX12_isOpen : ByteArray := prog_14_method_20_code
def yX12_isOpen : MethodName := ⟨RX12, "isOpen", "(I)Z"⟩
abbrev cX12_does : ByteArray := prog_14_method_21_code
def yX12_does : MethodName := ⟨RX12, "does", "()V"⟩
abbrev cX12_notes : ByteArray := prog_14_method_22_code
def yX12_notes : MethodName := ⟨RX12, "notes", "(III)V"⟩
abbrev cX12_becomes : ByteArray := prog_14_method_23_code
def yX12_becomes : MethodName := ⟨RX12, "becomes", "(III)V"⟩
abbrev cX12_begin : ByteArray := prog_14_method_24_code
def yX12_begin : MethodName := ⟨RX12, "begin", "()V"⟩
abbrev cX12_sees : ByteArray := prog_14_method_25_code
def yX12_sees : MethodName := ⟨RX12, "sees", "()I"⟩
abbrev cX12_fault : ByteArray := prog_14_method_26_code
def yX12_fault : MethodName := ⟨RX12, "fault", "(I)V"⟩
abbrev cX12_expect : ByteArray := prog_14_method_27_code
def yX12_expect : MethodName := ⟨RX12, "expect", "(C)V"⟩
abbrev cX12_number : ByteArray := prog_14_method_28_code
def yX12_number : MethodName := ⟨RX12, "number", "(III)I"⟩
abbrev cX12_officeNumber : ByteArray := prog_14_method_29_code
def yX12_officeNumber : MethodName := ⟨RX12, "officeNumber", "(I)I"⟩
abbrev cX12_readsOffices : ByteArray := prog_14_method_30_code
def yX12_readsOffices : MethodName := ⟨RX12, "readsOffices", "()V"⟩
abbrev cX12_readsRoad : ByteArray := prog_14_method_31_code
def yX12_readsRoad : MethodName := ⟨RX12, "readsRoad", "()V"⟩
abbrev cX12_readsNet : ByteArray := prog_14_method_32_code
def yX12_readsNet : MethodName := ⟨RX12, "readsNet", "()V"⟩
abbrev cX12_net : ByteArray := prog_14_method_33_code
def yX12_net : MethodName := ⟨RX12, "net", "()I"⟩
abbrev cX12_isOnRoute : ByteArray := prog_14_method_34_code
def yX12_isOnRoute : MethodName := ⟨RX12, "isOnRoute", "(I)Z"⟩
abbrev cX12_readsRoute : ByteArray := prog_14_method_35_code
def yX12_readsRoute : MethodName := ⟨RX12, "readsRoute", "()V"⟩
abbrev cX12_hoursOf : ByteArray := prog_14_method_36_code
def yX12_hoursOf : MethodName := ⟨RX12, "hoursOf", "(II)I"⟩
abbrev cX12_road : ByteArray := prog_14_method_37_code
def yX12_road : MethodName := ⟨RX12, "road", "(II)I"⟩
abbrev cX12_seenAt : ByteArray := prog_14_method_38_code
def yX12_seenAt : MethodName := ⟨RX12, "seenAt", "(I)I"⟩
abbrev cX12_office : ByteArray := prog_14_method_39_code
def yX12_office : MethodName := ⟨RX12, "office", "(II)I"⟩
abbrev cX12_goesTo : ByteArray := prog_14_method_40_code
def yX12_goesTo : MethodName := ⟨RX12, "goesTo", "(I)V"⟩
abbrev cX12_way : ByteArray := prog_14_method_41_code
def yX12_way : MethodName := ⟨RX12, "way", "(II)I"⟩
abbrev cX12_walks : ByteArray := prog_14_method_42_code
def yX12_walks : MethodName := ⟨RX12, "walks", "(IIII)V"⟩
abbrev cX12_findsRoutes : ByteArray := prog_14_method_43_code
def yX12_findsRoutes : MethodName := ⟨RX12, "findsRoutes", "(II)Z"⟩
abbrev cX12_routes : ByteArray := prog_14_method_44_code
def yX12_routes : MethodName := ⟨RX12, "routes", "(II)I"⟩
abbrev cX12_gates : ByteArray := prog_14_method_45_code
def yX12_gates : MethodName := ⟨RX12, "gates", "(II)I"⟩
abbrev cX12_isSum : ByteArray := prog_14_method_46_code
def yX12_isSum : MethodName := ⟨RX12, "isSum", "(II)Z"⟩
abbrev cX12_used : ByteArray := prog_14_method_47_code
def yX12_used : MethodName := ⟨RX12, "used", "(I)I"⟩
abbrev cX12_openSet : ByteArray := prog_14_method_48_code
def yX12_openSet : MethodName := ⟨RX12, "openSet", "(I)I"⟩
abbrev cX12_free : ByteArray := prog_14_method_49_code
def yX12_free : MethodName := ⟨RX12, "free", "(I)I"⟩
abbrev cX12_shareBy : ByteArray := prog_14_method_50_code
def yX12_shareBy : MethodName := ⟨RX12, "shareBy", "(II)I"⟩
abbrev cX12_trader : ByteArray := prog_14_method_51_code
def yX12_trader : MethodName := ⟨RX12, "trader", "(II)I"⟩
abbrev cX12_sums : ByteArray := prog_14_method_52_code
def yX12_sums : MethodName := ⟨RX12, "sums", "(III)I"⟩
abbrev cX12_inUse : ByteArray := prog_14_method_53_code
def yX12_inUse : MethodName := ⟨RX12, "inUse", "(I)I"⟩
abbrev cX12_debts : ByteArray := prog_14_method_54_code
def yX12_debts : MethodName := ⟨RX12, "debts", "(II)I"⟩
abbrev cX12_owes : ByteArray := prog_14_method_55_code
def yX12_owes : MethodName := ⟨RX12, "owes", "(I)I"⟩
abbrev cX12_dutyOf : ByteArray := prog_14_method_56_code
def yX12_dutyOf : MethodName := ⟨RX12, "dutyOf", "(I)I"⟩
abbrev cX12_starts : ByteArray := prog_14_method_57_code
def yX12_starts : MethodName := ⟨RX12, "starts", "(III)I"⟩
abbrev cX12_stamps : ByteArray := prog_14_method_58_code
def yX12_stamps : MethodName := ⟨RX12, "stamps", "(II)I"⟩
abbrev cX12_brokenSeals : ByteArray := prog_14_method_59_code
def yX12_brokenSeals : MethodName := ⟨RX12, "brokenSeals", "()I"⟩
abbrev cX12_breaks : ByteArray := prog_14_method_60_code
def yX12_breaks : MethodName := ⟨RX12, "breaks", "(I)I"⟩
abbrev cX12_controls : ByteArray := prog_14_method_61_code
def yX12_controls : MethodName := ⟨RX12, "controls", "(II)I"⟩
abbrev cX12_stepOf : ByteArray := prog_14_method_62_code
def yX12_stepOf : MethodName := ⟨RX12, "stepOf", "(I)I"⟩
abbrev cX12_proves : ByteArray := prog_14_method_63_code
def yX12_proves : MethodName := ⟨RX12, "proves", "(I)I"⟩
abbrev cX12_pays : ByteArray := prog_14_method_64_code
def yX12_pays : MethodName := ⟨RX12, "pays", "(I)I"⟩
abbrev cX12_turns : ByteArray := prog_14_method_65_code
def yX12_turns : MethodName := ⟨RX12, "turns", "(I)I"⟩
abbrev cX12_hours : ByteArray := prog_14_method_66_code
def yX12_hours : MethodName := ⟨RX12, "hours", "(I)I"⟩
abbrev cX12_movement : ByteArray := prog_14_method_67_code
def yX12_movement : MethodName := ⟨RX12, "movement", "(II)I"⟩
abbrev cX12_stop : ByteArray := prog_14_method_68_code
def yX12_stop : MethodName := ⟨RX12, "stop", "(II)I"⟩
abbrev cX12_leftOf : ByteArray := prog_14_method_69_code
def yX12_leftOf : MethodName := ⟨RX12, "leftOf", "(I)I"⟩
abbrev cX12_left : ByteArray := prog_14_method_70_code
def yX12_left : MethodName := ⟨RX12, "left", "(I)I"⟩
abbrev cX12_borders : ByteArray := prog_14_method_71_code
def yX12_borders : MethodName := ⟨RX12, "borders", "(I)I"⟩
abbrev cX12_asked : ByteArray := prog_14_method_72_code
def yX12_asked : MethodName := ⟨RX12, "asked", "(I)I"⟩
abbrev cX12_states : ByteArray := prog_14_method_73_code
def yX12_states : MethodName := ⟨RX12, "states", "(I)I"⟩
abbrev cX12_owed : ByteArray := prog_14_method_74_code
def yX12_owed : MethodName := ⟨RX12, "owed", "(I)I"⟩
abbrev cX12_endOf : ByteArray := prog_14_method_75_code
def yX12_endOf : MethodName := ⟨RX12, "endOf", "(I)I"⟩
abbrev cX12_isLate : ByteArray := prog_14_method_76_code
def yX12_isLate : MethodName := ⟨RX12, "isLate", "(I)Z"⟩
abbrev cX12_late : ByteArray := prog_14_method_77_code
def yX12_late : MethodName := ⟨RX12, "late", "()I"⟩
abbrev cX12_busiest : ByteArray := prog_14_method_78_code
def yX12_busiest : MethodName := ⟨RX12, "busiest", "()I"⟩
abbrev cX12_next : ByteArray := prog_14_method_79_code
def yX12_next : MethodName := ⟨RX12, "next", "(I)I"⟩
abbrev cX12_worth : ByteArray := prog_14_method_80_code
def yX12_worth : MethodName := ⟨RX12, "worth", "(I)I"⟩
abbrev cX12_can : ByteArray := prog_14_method_81_code
def yX12_can : MethodName := ⟨RX12, "can", "(II)I"⟩
abbrev cX12_isShare : ByteArray := prog_14_method_82_code
def yX12_isShare : MethodName := ⟨RX12, "isShare", "(I)Z"⟩
abbrev cX12_most : ByteArray := prog_14_method_83_code
def yX12_most : MethodName := ⟨RX12, "most", "(II)I"⟩
abbrev cX12_frees : ByteArray := prog_14_method_84_code
def yX12_frees : MethodName := ⟨RX12, "frees", "(II)I"⟩
abbrev cX12_when : ByteArray := prog_14_method_85_code
def yX12_when : MethodName := ⟨RX12, "when", "(II)I"⟩
abbrev cX12_readsLoads : ByteArray := prog_14_method_86_code
def yX12_readsLoads : MethodName := ⟨RX12, "readsLoads", "()V"⟩
abbrev cX12_fits : ByteArray := prog_14_method_87_code
def yX12_fits : MethodName := ⟨RX12, "fits", "(I)I"⟩
abbrev cX12_detour : ByteArray := prog_14_method_88_code
def yX12_detour : MethodName := ⟨RX12, "detour", "()I"⟩
abbrev cX12_risk : ByteArray := prog_14_method_89_code
def yX12_risk : MethodName := ⟨RX12, "risk", "(I)I"⟩
abbrev cX12_tightest : ByteArray := prog_14_method_90_code
def yX12_tightest : MethodName := ⟨RX12, "tightest", "()I"⟩
abbrev cX12_book : ByteArray := prog_14_method_91_code
def yX12_book : MethodName := ⟨RX12, "book", "(II)I"⟩
abbrev cX12_writes : ByteArray := prog_14_method_92_code
def yX12_writes : MethodName := ⟨RX12, "writes", "(I)V"⟩
abbrev cX12_writesNumber : ByteArray := prog_14_method_93_code
def yX12_writesNumber : MethodName := ⟨RX12, "writesNumber", "(I)V"⟩
abbrev cX12_written : ByteArray := prog_14_method_94_code
def yX12_written : MethodName := ⟨RX12, "written", "(I)I"⟩
abbrev cX12_undo : ByteArray := prog_14_method_95_code
def yX12_undo : MethodName := ⟨RX12, "undo", "()I"⟩
abbrev cX12_keeps : ByteArray := prog_14_method_96_code
def yX12_keeps : MethodName := ⟨RX12, "keeps", "()I"⟩
abbrev cX12_back : ByteArray := prog_14_method_97_code
def yX12_back : MethodName := ⟨RX12, "back", "()I"⟩
abbrev cX12_count : ByteArray := prog_14_method_98_code
def yX12_count : MethodName := ⟨RX12, "count", "(I)I"⟩
abbrev cX12_row : ByteArray := prog_14_method_99_code
def yX12_row : MethodName := ⟨RX12, "row", "(I)J"⟩
def RJx145de : String := "java/io/Serializable"
def TJx145de : u_T := fun k => match k with
  | _ => ("", "", "", false)
def tyJx145de : Nat → FieldType := fun k => match k with
  | _ => .int
abbrev wsJx145de0 : List Cond := u_ws RJx145de TJx145de 0
theorem nmJx145de : ∀ a, a < 0 → ∀ b, b < 0 → a ≠ b → (TJx145de a).2.1 ≠ (TJx145de b).2.1 := by decide +kernel
theorem tyJx145de_ok : ∀ k, k < 0 → parseFieldDescriptor (TJx145de k).2.2.1 = some (tyJx145de k) := by decide +kernel
def RJ6 : String := "java/lang/Integer"
def TJ6 : u_T := fun k => match k with
  | _ => ("", "", "", false)
def tyJ6 : Nat → FieldType := fun k => match k with
  | _ => .int
abbrev wsJ60 : List Cond := u_ws RJ6 TJ6 0
theorem nmJ6 : ∀ a, a < 0 → ∀ b, b < 0 → a ≠ b → (TJ6 a).2.1 ≠ (TJ6 b).2.1 := by decide +kernel
theorem tyJ6_ok : ∀ k, k < 0 → parseFieldDescriptor (TJ6 k).2.2.1 = some (tyJ6 k) := by decide +kernel
abbrev cJ6_bitCount_0f7a4 : ByteArray := prog_17_method_49_code
def yJ6_bitCount_0f7a4 : MethodName := ⟨RJ6, "bitCount", "(I)I"⟩
def RJ9 : String := "java/lang/Math"
def TJ9 : u_T := fun k => match k with
  | _ => ("", "", "", false)
def tyJ9 : Nat → FieldType := fun k => match k with
  | _ => .int
abbrev wsJ90 : List Cond := u_ws RJ9 TJ9 0
theorem nmJ9 : ∀ a, a < 0 → ∀ b, b < 0 → a ≠ b → (TJ9 a).2.1 ≠ (TJ9 b).2.1 := by decide +kernel
theorem tyJ9_ok : ∀ k, k < 0 → parseFieldDescriptor (TJ9 k).2.2.1 = some (tyJ9 k) := by decide +kernel
abbrev cJ9_max_7cf53 : ByteArray := prog_18_method_65_code
def yJ9_max_7cf53 : MethodName := ⟨RJ9, "max", "(II)I"⟩
abbrev cJ9_min_7cf53 : ByteArray := prog_18_method_69_code
def yJ9_min_7cf53 : MethodName := ⟨RJ9, "min", "(II)I"⟩
def RL : String := "TransitSealsLaw"
abbrev cL_row : ByteArray := method_3_code
def yL_row : MethodName := ⟨RL, "row", "(LTransitSeals;I[J)I"⟩
abbrev cL_law : ByteArray := code
def yL_law : MethodName := ⟨RL, "law", "([I)Z"⟩
/-! ===== the tables of the interpreter ===== -/
def ts_cn : Nat → String := fun k => match k with
  | 0 => RX0
  | 1 => RX1
  | 2 => RX2
  | 3 => RX3
  | 4 => RX4
  | 5 => RX5
  | 6 => RX6
  | 7 => RX7
  | 8 => RX8
  | 9 => RX9
  | 10 => RX10
  | 11 => RX11
  | 12 => RX12
  | _ => RJ6
def ts_T : Nat → u_T := fun k => match k with
  | 0 => TX0
  | 1 => TX1
  | 2 => TX2
  | 3 => TX3
  | 4 => TX4
  | 5 => TX5
  | 6 => TX6
  | 7 => TX7
  | 8 => TX8
  | 9 => TX9
  | 10 => TX10
  | 11 => TX11
  | 12 => TX12
  | _ => TJ6
def ts_ty : Nat → Nat → FieldType := fun k => match k with
  | 0 => tyX0
  | 1 => tyX1
  | 2 => tyX2
  | 3 => tyX3
  | 4 => tyX4
  | 5 => tyX5
  | 6 => tyX6
  | 7 => tyX7
  | 8 => tyX8
  | 9 => tyX9
  | 10 => tyX10
  | 11 => tyX11
  | 12 => tyX12
  | _ => tyJ6
def ts_N : Nat → Nat := fun k => match k with
  | 0 => 4
  | 1 => 5
  | 2 => 7
  | 3 => 7
  | 4 => 14
  | 5 => 9
  | 6 => 3
  | 7 => 3
  | 8 => 2
  | 9 => 5
  | 10 => 2
  | 11 => 9
  | 12 => 39
  | _ => 0
abbrev ts_Y : Type := MethodName × ByteArray × Nat × Option FieldType × Nat
def ts_cw (q : ts_Y) : Cond := Cond.code q.1 q.2.1 q.2.2.1 q.2.2.2.1
theorem ts_ch1 {w : Cond} (h : w ∈ tables_1_1) : w ∈ lw_tbl := List.mem_append_right _ (List.mem_append_left _ h)
theorem ts_ch2 {w : Cond} (h : w ∈ tables_1_2) : w ∈ lw_tbl := List.mem_append_right _ (List.mem_append_right _ (List.mem_append_left _ h))
theorem ts_ch3 {w : Cond} (h : w ∈ tables_1_3) : w ∈ lw_tbl := List.mem_append_right _ (List.mem_append_right _ (List.mem_append_right _ (List.mem_append_left _ h)))
theorem ts_ch4 {w : Cond} (h : w ∈ tables_1_4) : w ∈ lw_tbl := List.mem_append_right _ (List.mem_append_right _ (List.mem_append_right _ (List.mem_append_right _ (List.mem_append_left _ h))))
theorem ts_ch5 {w : Cond} (h : w ∈ tables_1_5) : w ∈ lw_tbl := List.mem_append_right _ (List.mem_append_right _ (List.mem_append_right _ (List.mem_append_right _ (List.mem_append_right _ (List.mem_append_left _ h)))))
theorem ts_ch6 {w : Cond} (h : w ∈ tables_1_6) : w ∈ lw_tbl := List.mem_append_right _ (List.mem_append_right _ (List.mem_append_right _ (List.mem_append_right _ (List.mem_append_right _ (List.mem_append_right _ (List.mem_append_left _ h))))))
theorem ts_ch7 {w : Cond} (h : w ∈ tables_1_7) : w ∈ lw_tbl := List.mem_append_right _ (List.mem_append_right _ (List.mem_append_right _ (List.mem_append_right _ (List.mem_append_right _ (List.mem_append_right _ (List.mem_append_right _ (List.mem_append_left _ h)))))))
theorem ts_ch8 {w : Cond} (h : w ∈ tables_1_8) : w ∈ lw_tbl := List.mem_append_right _ (List.mem_append_right _ (List.mem_append_right _ (List.mem_append_right _ (List.mem_append_right _ (List.mem_append_right _ (List.mem_append_right _ (List.mem_append_right _ (h))))))))
theorem ts_cw0 : ts_cw (yX11_init, cX11_init, 1, none, 11) ∈ lw_tbl := ts_ch1 (List.mem_of_getElem? (i := 24) rfl)
theorem ts_cw1 : ts_cw (yX6_init, cX6_init, 1, none, 6) ∈ lw_tbl := ts_ch1 (List.mem_of_getElem? (i := 32) rfl)
theorem ts_cw2 : ts_cw (yX10_init, cX10_init, 1, none, 10) ∈ lw_tbl := ts_ch1 (List.mem_of_getElem? (i := 38) rfl)
theorem ts_cw3 : ts_cw (yX8_init, cX8_init, 1, none, 8) ∈ lw_tbl := ts_ch1 (List.mem_of_getElem? (i := 63) rfl)
theorem ts_cw4 : ts_cw (yX7_init, cX7_init, 1, none, 7) ∈ lw_tbl := ts_ch1 (List.mem_of_getElem? (i := 76) rfl)
theorem ts_cw5 : ts_cw (yX3_init, cX3_init, 1, none, 3) ∈ lw_tbl := ts_ch1 (List.mem_of_getElem? (i := 95) rfl)
theorem ts_cw6 : ts_cw (yX9_init, cX9_init, 1, none, 9) ∈ lw_tbl := ts_ch1 (List.mem_of_getElem? (i := 126) rfl)
theorem ts_cw7 : ts_cw (yX2_init, cX2_init, 2, none, 2) ∈ lw_tbl := ts_ch1 (List.mem_of_getElem? (i := 151) rfl)
theorem ts_cw8 : ts_cw (yX0_init, cX0_init, 1, none, 0) ∈ lw_tbl := ts_ch1 (List.mem_of_getElem? (i := 159) rfl)
theorem ts_cw9 : ts_cw (yX4_init, cX4_init, 2, none, 4) ∈ lw_tbl := ts_ch1 (List.mem_of_getElem? (i := 177) rfl)
theorem ts_cw10 : ts_cw (yX1_init, cX1_init, 2, none, 1) ∈ lw_tbl := ts_ch2 (List.mem_of_getElem? (i := 33) rfl)
theorem ts_cw11 : ts_cw (yX5_init, cX5_init, 1, none, 5) ∈ lw_tbl := ts_ch2 (List.mem_of_getElem? (i := 59) rfl)
theorem ts_cw12 : ts_cw (yX5_measureWays, cX5_measureWays, 5, none, 5) ∈ lw_tbl := ts_ch2 (List.mem_of_getElem? (i := 66) rfl)
theorem ts_cw13 : ts_cw (yX5_roadHours, cX5_roadHours, 3, (some .int), 5) ∈ lw_tbl := ts_ch2 (List.mem_of_getElem? (i := 70) rfl)
theorem ts_cw14 : ts_cw (yX5_hasOffice, cX5_hasOffice, 2, (some .boolean), 5) ∈ lw_tbl := ts_ch2 (List.mem_of_getElem? (i := 74) rfl)
theorem ts_cw15 : ts_cw (yX5_pair, cX5_pair, 2, (some .int), 5) ∈ lw_tbl := ts_ch2 (List.mem_of_getElem? (i := 77) rfl)
theorem ts_cw16 : ts_cw (yX11_numberIn, cX11_numberIn, 2, (some .int), 11) ∈ lw_tbl := ts_ch2 (List.mem_of_getElem? (i := 80) rfl)
theorem ts_cw17 : ts_cw (yX11_put, cX11_put, 3, none, 11) ∈ lw_tbl := ts_ch2 (List.mem_of_getElem? (i := 84) rfl)
theorem ts_cw18 : ts_cw (yX5_wayHours, cX5_wayHours, 3, (some .int), 5) ∈ lw_tbl := ts_ch2 (List.mem_of_getElem? (i := 88) rfl)
theorem ts_cw19 : ts_cw (yX5_writeDown, cX5_writeDown, 4, none, 5) ∈ lw_tbl := ts_ch2 (List.mem_of_getElem? (i := 95) rfl)
theorem ts_cw20 : ts_cw (yX10_cutTo, cX10_cutTo, 2, none, 10) ∈ lw_tbl := ts_ch2 (List.mem_of_getElem? (i := 99) rfl)
theorem ts_cw21 : ts_cw (yX5_countryOf, cX5_countryOf, 2, (some .int), 5) ∈ lw_tbl := ts_ch2 (List.mem_of_getElem? (i := 103) rfl)
theorem ts_cw22 : ts_cw (yX10_addNumber, cX10_addNumber, 2, none, 10) ∈ lw_tbl := ts_ch2 (List.mem_of_getElem? (i := 107) rfl)
theorem ts_cw23 : ts_cw (yX10_add, cX10_add, 2, none, 10) ∈ lw_tbl := ts_ch2 (List.mem_of_getElem? (i := 111) rfl)
theorem ts_cw24 : ts_cw (yX5_writeRoad, cX5_writeRoad, 4, none, 5) ∈ lw_tbl := ts_ch2 (List.mem_of_getElem? (i := 117) rfl)
theorem ts_cw25 : ts_cw (yX5_dutyOf, cX5_dutyOf, 2, (some .int), 5) ∈ lw_tbl := ts_ch2 (List.mem_of_getElem? (i := 121) rfl)
theorem ts_cw26 : ts_cw (yX11_sign, cX11_sign, 4, (some .int), 11) ∈ lw_tbl := ts_ch2 (List.mem_of_getElem? (i := 188) rfl)
theorem ts_cw27 : ts_cw (yX10_size, cX10_size, 1, (some .int), 10) ∈ lw_tbl := ts_ch2 (List.mem_of_getElem? (i := 192) rfl)
theorem ts_cw28 : ts_cw (yX11_end, cX11_end, 2, (some .boolean), 11) ∈ lw_tbl := ts_ch2 (List.mem_of_getElem? (i := 197) rfl)
theorem ts_cw29 : ts_cw (yX11_net, cX11_net, 2, (some .int), 11) ∈ lw_tbl := ts_ch2 (List.mem_of_getElem? (i := 202) rfl)
theorem ts_cw30 : ts_cw (yX5_readFrom, cX5_readFrom, 2, none, 5) ∈ lw_tbl := ts_ch2 (List.mem_of_getElem? (i := 206) rfl)
theorem ts_cw31 : ts_cw (yX6_begin, cX6_begin, 1, none, 6) ∈ lw_tbl := ts_ch2 (List.mem_of_getElem? (i := 210) rfl)
theorem ts_cw32 : ts_cw (yX5_clear, cX5_clear, 1, none, 5) ∈ lw_tbl := ts_ch2 (List.mem_of_getElem? (i := 214) rfl)
theorem ts_cw33 : ts_cw (yX11_wipe, cX11_wipe, 2, none, 11) ∈ lw_tbl := ts_ch2 (List.mem_of_getElem? (i := 217) rfl)
theorem ts_cw34 : ts_cw (yX5_readCountries, cX5_readCountries, 3, none, 5) ∈ lw_tbl := ts_ch2 (List.mem_of_getElem? (i := 221) rfl)
theorem ts_cw35 : ts_cw (yX6_digit, cX6_digit, 2, (some .int), 6) ∈ lw_tbl := ts_ch2 (List.mem_of_getElem? (i := 225) rfl)
theorem ts_cw36 : ts_cw (yX10_signAt, cX10_signAt, 2, (some .int), 10) ∈ lw_tbl := ts_ch2 (List.mem_of_getElem? (i := 229) rfl)
theorem ts_cw37 : ts_cw (yX6_number, cX6_number, 6, (some .int), 6) ∈ lw_tbl := ts_ch2 (List.mem_of_getElem? (i := 233) rfl)
theorem ts_cw38 : ts_cw (yX6_failed, cX6_failed, 1, (some .boolean), 6) ∈ lw_tbl := ts_ch2 (List.mem_of_getElem? (i := 237) rfl)
theorem ts_cw39 : ts_cw (yX6_refuseHere, cX6_refuseHere, 1, none, 6) ∈ lw_tbl := ts_ch3 (List.mem_of_getElem? (i := 2) rfl)
theorem ts_cw40 : ts_cw (yX11_digitsOf, cX11_digitsOf, 1, (some .int), 11) ∈ lw_tbl := ts_ch3 (List.mem_of_getElem? (i := 5) rfl)
theorem ts_cw41 : ts_cw (yX6_refuseLast, cX6_refuseLast, 1, none, 6) ∈ lw_tbl := ts_ch3 (List.mem_of_getElem? (i := 9) rfl)
theorem ts_cw42 : ts_cw (yX6_needs, cX6_needs, 2, none, 6) ∈ lw_tbl := ts_ch3 (List.mem_of_getElem? (i := 14) rfl)
theorem ts_cw43 : ts_cw (yX6_takes, cX6_takes, 2, (some .boolean), 6) ∈ lw_tbl := ts_ch3 (List.mem_of_getElem? (i := 18) rfl)
theorem ts_cw44 : ts_cw (yX5_readRoads, cX5_readRoads, 3, none, 5) ∈ lw_tbl := ts_ch3 (List.mem_of_getElem? (i := 22) rfl)
theorem ts_cw45 : ts_cw (yX6_atEnd, cX6_atEnd, 1, (some .boolean), 6) ∈ lw_tbl := ts_ch3 (List.mem_of_getElem? (i := 27) rfl)
theorem ts_cw46 : ts_cw (yX6_sees, cX6_sees, 2, (some .boolean), 6) ∈ lw_tbl := ts_ch3 (List.mem_of_getElem? (i := 32) rfl)
theorem ts_cw47 : ts_cw (yX5_readRoad, cX5_readRoad, 5, none, 5) ∈ lw_tbl := ts_ch3 (List.mem_of_getElem? (i := 36) rfl)
theorem ts_cw48 : ts_cw (yX5_join, cX5_join, 4, none, 5) ∈ lw_tbl := ts_ch3 (List.mem_of_getElem? (i := 41) rfl)
theorem ts_cw49 : ts_cw (yX5_near, cX5_near, 2, (some .int), 5) ∈ lw_tbl := ts_ch3 (List.mem_of_getElem? (i := 45) rfl)
theorem ts_cw50 : ts_cw (yX5_readDuties, cX5_readDuties, 3, none, 5) ∈ lw_tbl := ts_ch3 (List.mem_of_getElem? (i := 50) rfl)
theorem ts_cw51 : ts_cw (yX6_finish, cX6_finish, 1, none, 6) ∈ lw_tbl := ts_ch3 (List.mem_of_getElem? (i := 54) rfl)
theorem ts_cw52 : ts_cw (yX6_refusal, cX6_refusal, 1, (some .int), 6) ∈ lw_tbl := ts_ch3 (List.mem_of_getElem? (i := 61) rfl)
theorem ts_cw53 : ts_cw (yX2_clear, cX2_clear, 5, none, 2) ∈ lw_tbl := ts_ch3 (List.mem_of_getElem? (i := 65) rfl)
theorem ts_cw54 : ts_cw (yX0_clear, cX0_clear, 1, none, 0) ∈ lw_tbl := ts_ch3 (List.mem_of_getElem? (i := 69) rfl)
theorem ts_cw55 : ts_cw (yX1_clear, cX1_clear, 1, none, 1) ∈ lw_tbl := ts_ch3 (List.mem_of_getElem? (i := 73) rfl)
theorem ts_cw56 : ts_cw (yX8_clear, cX8_clear, 1, none, 8) ∈ lw_tbl := ts_ch3 (List.mem_of_getElem? (i := 77) rfl)
theorem ts_cw57 : ts_cw (yX11_road, cX11_road, 4, (some .int), 11) ∈ lw_tbl := ts_ch3 (List.mem_of_getElem? (i := 81) rfl)
theorem ts_cw58 : ts_cw (yX11_office, cX11_office, 3, (some .int), 11) ∈ lw_tbl := ts_ch3 (List.mem_of_getElem? (i := 87) rfl)
theorem ts_cw59 : ts_cw (yX5_roadsAt, cX5_roadsAt, 2, (some .int), 5) ∈ lw_tbl := ts_ch3 (List.mem_of_getElem? (i := 92) rfl)
theorem ts_cw60 : ts_cw (yJ6_bitCount_0f7a4, cJ6_bitCount_0f7a4, 1, (some .int), 13) ∈ lw_tbl := ts_ch3 (List.mem_of_getElem? (i := 95) rfl)
theorem ts_cw61 : ts_cw (yX2_underwaySeenAt, cX2_underwaySeenAt, 7, (some .int), 2) ∈ lw_tbl := ts_ch3 (List.mem_of_getElem? (i := 102) rfl)
theorem ts_cw62 : ts_cw (yX4_isUnderway, cX4_isUnderway, 1, (some .boolean), 4) ∈ lw_tbl := ts_ch3 (List.mem_of_getElem? (i := 106) rfl)
theorem ts_cw63 : ts_cw (yX4_seen, cX4_seen, 1, (some .int), 4) ∈ lw_tbl := ts_ch3 (List.mem_of_getElem? (i := 110) rfl)
theorem ts_cw64 : ts_cw (yX4_officeAt, cX4_officeAt, 2, (some .int), 4) ∈ lw_tbl := ts_ch3 (List.mem_of_getElem? (i := 114) rfl)
theorem ts_cw65 : ts_cw (yX4_bit, cX4_bit, 1, (some .int), 4) ∈ lw_tbl := ts_ch3 (List.mem_of_getElem? (i := 119) rfl)
theorem ts_cw66 : ts_cw (yX11_way, cX11_way, 4, (some .int), 11) ∈ lw_tbl := ts_ch3 (List.mem_of_getElem? (i := 123) rfl)
theorem ts_cw67 : ts_cw (yX5_tellWay, cX5_tellWay, 6, none, 5) ∈ lw_tbl := ts_ch3 (List.mem_of_getElem? (i := 129) rfl)
theorem ts_cw68 : ts_cw (yX8_add, cX8_add, 2, none, 8) ∈ lw_tbl := ts_ch3 (List.mem_of_getElem? (i := 134) rfl)
theorem ts_cw69 : ts_cw (yX5_firstOnTheWay, cX5_firstOnTheWay, 5, (some .int), 5) ∈ lw_tbl := ts_ch3 (List.mem_of_getElem? (i := 139) rfl)
theorem ts_cw70 : ts_cw (yX11_routes, cX11_routes, 3, (some .int), 11) ∈ lw_tbl := ts_ch3 (List.mem_of_getElem? (i := 143) rfl)
theorem ts_cw71 : ts_cw (yX9_run, cX9_run, 4, none, 9) ∈ lw_tbl := ts_ch3 (List.mem_of_getElem? (i := 147) rfl)
theorem ts_cw72 : ts_cw (yX9_follow, cX9_follow, 9, none, 9) ∈ lw_tbl := ts_ch3 (List.mem_of_getElem? (i := 151) rfl)
theorem ts_cw73 : ts_cw (yX9_arrive, cX9_arrive, 2, none, 9) ∈ lw_tbl := ts_ch3 (List.mem_of_getElem? (i := 156) rfl)
theorem ts_cw74 : ts_cw (yX11_tell_, cX11_tell_, 3, none, 11) ∈ lw_tbl := ts_ch3 (List.mem_of_getElem? (i := 165) rfl)
theorem ts_cw75 : ts_cw (yX11_tell, cX11_tell, 2, none, 11) ∈ lw_tbl := ts_ch3 (List.mem_of_getElem? (i := 169) rfl)
theorem ts_cw76 : ts_cw (yX11_gates, cX11_gates, 5, (some .int), 11) ∈ lw_tbl := ts_ch3 (List.mem_of_getElem? (i := 174) rfl)
theorem ts_cw77 : ts_cw (yX5_hasRoute, cX5_hasRoute, 9, (some .boolean), 5) ∈ lw_tbl := ts_ch3 (List.mem_of_getElem? (i := 178) rfl)
theorem ts_cw78 : ts_cw (yX11_trader, cX11_trader, 3, (some .int), 11) ∈ lw_tbl := ts_ch3 (List.mem_of_getElem? (i := 183) rfl)
theorem ts_cw79 : ts_cw (yX11_isSum, cX11_isSum, 1, (some .boolean), 11) ∈ lw_tbl := ts_ch3 (List.mem_of_getElem? (i := 186) rfl)
theorem ts_cw80 : ts_cw (yX11_isLevel, cX11_isLevel, 1, (some .boolean), 11) ∈ lw_tbl := ts_ch3 (List.mem_of_getElem? (i := 190) rfl)
theorem ts_cw81 : ts_cw (yX1_remember, cX1_remember, 3, none, 1) ∈ lw_tbl := ts_ch3 (List.mem_of_getElem? (i := 194) rfl)
theorem ts_cw82 : ts_cw (yX1_latestBefore, cX1_latestBefore, 1, (some (.object "TransitSeals$Ledger")), 1) ∈ lw_tbl := ts_ch3 (List.mem_of_getElem? (i := 199) rfl)
theorem ts_cw83 : ts_cw (yX2_copyFrom, cX2_copyFrom, 3, none, 2) ∈ lw_tbl := ts_ch3 (List.mem_of_getElem? (i := 203) rfl)
theorem ts_cw84 : ts_cw (yX11_copy, cX11_copy, 3, none, 11) ∈ lw_tbl := ts_ch3 (List.mem_of_getElem? (i := 206) rfl)
theorem ts_cw85 : ts_cw (yX4_copyFrom, cX4_copyFrom, 2, none, 4) ∈ lw_tbl := ts_ch3 (List.mem_of_getElem? (i := 210) rfl)
theorem ts_cw86 : ts_cw (yX0_copyFrom, cX0_copyFrom, 2, none, 0) ∈ lw_tbl := ts_ch3 (List.mem_of_getElem? (i := 215) rfl)
theorem ts_cw87 : ts_cw (yX2_addTrader, cX2_addTrader, 3, (some .int), 2) ∈ lw_tbl := ts_ch3 (List.mem_of_getElem? (i := 220) rfl)
theorem ts_cw88 : ts_cw (yX2_setTrader, cX2_setTrader, 4, none, 2) ∈ lw_tbl := ts_ch3 (List.mem_of_getElem? (i := 224) rfl)
theorem ts_cw89 : ts_cw (yX11_sums, cX11_sums, 5, (some .int), 11) ∈ lw_tbl := ts_ch3 (List.mem_of_getElem? (i := 229) rfl)
theorem ts_cw90 : ts_cw (yX2_hasTrader, cX2_hasTrader, 2, (some .boolean), 2) ∈ lw_tbl := ts_ch3 (List.mem_of_getElem? (i := 233) rfl)
theorem ts_cw91 : ts_cw (yX2_sharesOf, cX2_sharesOf, 7, (some .int), 2) ∈ lw_tbl := ts_ch3 (List.mem_of_getElem? (i := 237) rfl)
theorem ts_cw92 : ts_cw (yX4_isOpenFor, cX4_isOpenFor, 2, (some .boolean), 4) ∈ lw_tbl := ts_ch4 (List.mem_of_getElem? (i := 1) rfl)
theorem ts_cw93 : ts_cw (yX11_inUse, cX11_inUse, 2, (some .int), 11) ∈ lw_tbl := ts_ch4 (List.mem_of_getElem? (i := 6) rfl)
theorem ts_cw94 : ts_cw (yX2_sumOf, cX2_sumOf, 2, (some .int), 2) ∈ lw_tbl := ts_ch4 (List.mem_of_getElem? (i := 10) rfl)
theorem ts_cw95 : ts_cw (yX2_levelOf, cX2_levelOf, 2, (some .int), 2) ∈ lw_tbl := ts_ch4 (List.mem_of_getElem? (i := 15) rfl)
theorem ts_cw96 : ts_cw (yX2_freeOf, cX2_freeOf, 2, (some .int), 2) ∈ lw_tbl := ts_ch4 (List.mem_of_getElem? (i := 19) rfl)
theorem ts_cw97 : ts_cw (yX2_openOf, cX2_openOf, 7, (some .int), 2) ∈ lw_tbl := ts_ch4 (List.mem_of_getElem? (i := 25) rfl)
theorem ts_cw98 : ts_cw (yX11_owes, cX11_owes, 2, (some .int), 11) ∈ lw_tbl := ts_ch4 (List.mem_of_getElem? (i := 29) rfl)
theorem ts_cw99 : ts_cw (yX2_debtsOf, cX2_debtsOf, 8, (some .int), 2) ∈ lw_tbl := ts_ch4 (List.mem_of_getElem? (i := 33) rfl)
theorem ts_cw100 : ts_cw (yX11_starts, cX11_starts, 7, (some .int), 11) ∈ lw_tbl := ts_ch4 (List.mem_of_getElem? (i := 37) rfl)
theorem ts_cw101 : ts_cw (yX7_readFrom, cX7_readFrom, 7, none, 7) ∈ lw_tbl := ts_ch4 (List.mem_of_getElem? (i := 41) rfl)
theorem ts_cw102 : ts_cw (yX7_officeAt, cX7_officeAt, 2, (some .int), 7) ∈ lw_tbl := ts_ch4 (List.mem_of_getElem? (i := 47) rfl)
theorem ts_cw103 : ts_cw (yX5_hasGoods, cX5_hasGoods, 2, (some .boolean), 5) ∈ lw_tbl := ts_ch4 (List.mem_of_getElem? (i := 58) rfl)
theorem ts_cw104 : ts_cw (yX2_nextToStart, cX2_nextToStart, 1, (some (.object "TransitSeals$Movement")), 2) ∈ lw_tbl := ts_ch4 (List.mem_of_getElem? (i := 62) rfl)
theorem ts_cw105 : ts_cw (yX2_movementAt, cX2_movementAt, 2, (some (.object "TransitSeals$Movement")), 2) ∈ lw_tbl := ts_ch4 (List.mem_of_getElem? (i := 66) rfl)
theorem ts_cw106 : ts_cw (yX11_share, cX11_share, 3, (some .int), 11) ∈ lw_tbl := ts_ch4 (List.mem_of_getElem? (i := 70) rfl)
theorem ts_cw107 : ts_cw (yX11_partsOf, cX11_partsOf, 1, (some .int), 11) ∈ lw_tbl := ts_ch4 (List.mem_of_getElem? (i := 73) rfl)
theorem ts_cw108 : ts_cw (yX4_load, cX4_load, 6, none, 4) ∈ lw_tbl := ts_ch4 (List.mem_of_getElem? (i := 77) rfl)
theorem ts_cw109 : ts_cw (yX4_start, cX4_start, 4, none, 4) ∈ lw_tbl := ts_ch4 (List.mem_of_getElem? (i := 81) rfl)
theorem ts_cw110 : ts_cw (yX7_termFrom, cX7_termFrom, 2, (some .int), 7) ∈ lw_tbl := ts_ch4 (List.mem_of_getElem? (i := 87) rfl)
theorem ts_cw111 : ts_cw (yX2_write, cX2_write, 3, none, 2) ∈ lw_tbl := ts_ch4 (List.mem_of_getElem? (i := 91) rfl)
theorem ts_cw112 : ts_cw (yX0_add, cX0_add, 5, none, 0) ∈ lw_tbl := ts_ch4 (List.mem_of_getElem? (i := 95) rfl)
theorem ts_cw113 : ts_cw (yX11_stamps, cX11_stamps, 4, (some .int), 11) ∈ lw_tbl := ts_ch4 (List.mem_of_getElem? (i := 100) rfl)
theorem ts_cw114 : ts_cw (yX2_find, cX2_find, 2, (some (.object "TransitSeals$Movement")), 2) ∈ lw_tbl := ts_ch4 (List.mem_of_getElem? (i := 104) rfl)
theorem ts_cw115 : ts_cw (yX4_comesTo, cX4_comesTo, 1, (some .int), 4) ∈ lw_tbl := ts_ch4 (List.mem_of_getElem? (i := 109) rfl)
theorem ts_cw116 : ts_cw (yX4_stamp, cX4_stamp, 2, none, 4) ∈ lw_tbl := ts_ch4 (List.mem_of_getElem? (i := 113) rfl)
theorem ts_cw117 : ts_cw (yX11_breaks, cX11_breaks, 3, (some .int), 11) ∈ lw_tbl := ts_ch4 (List.mem_of_getElem? (i := 117) rfl)
theorem ts_cw118 : ts_cw (yX2_brokenSeals, cX2_brokenSeals, 6, (some .int), 2) ∈ lw_tbl := ts_ch4 (List.mem_of_getElem? (i := 121) rfl)
theorem ts_cw119 : ts_cw (yX11_controls, cX11_controls, 5, (some .int), 11) ∈ lw_tbl := ts_ch4 (List.mem_of_getElem? (i := 125) rfl)
theorem ts_cw120 : ts_cw (yX4_owe, cX4_owe, 2, none, 4) ∈ lw_tbl := ts_ch4 (List.mem_of_getElem? (i := 129) rfl)
theorem ts_cw121 : ts_cw (yX11_proves, cX11_proves, 4, (some .int), 11) ∈ lw_tbl := ts_ch4 (List.mem_of_getElem? (i := 133) rfl)
theorem ts_cw122 : ts_cw (yX4_step, cX4_step, 2, (some .int), 4) ∈ lw_tbl := ts_ch4 (List.mem_of_getElem? (i := 137) rfl)
theorem ts_cw123 : ts_cw (yX11_pays, cX11_pays, 3, (some .int), 11) ∈ lw_tbl := ts_ch4 (List.mem_of_getElem? (i := 141) rfl)
theorem ts_cw124 : ts_cw (yX11_hours, cX11_hours, 2, (some .int), 11) ∈ lw_tbl := ts_ch4 (List.mem_of_getElem? (i := 145) rfl)
theorem ts_cw125 : ts_cw (yX2_letPass, cX2_letPass, 6, (some .int), 2) ∈ lw_tbl := ts_ch4 (List.mem_of_getElem? (i := 150) rfl)
theorem ts_cw126 : ts_cw (yX2_firstToChange, cX2_firstToChange, 7, (some (.object "TransitSeals$Movement")), 2) ∈ lw_tbl := ts_ch4 (List.mem_of_getElem? (i := 154) rfl)
theorem ts_cw127 : ts_cw (yX4_changesAt, cX4_changesAt, 1, (some .int), 4) ∈ lw_tbl := ts_ch4 (List.mem_of_getElem? (i := 158) rfl)
theorem ts_cw128 : ts_cw (yX2_change, cX2_change, 3, none, 2) ∈ lw_tbl := ts_ch4 (List.mem_of_getElem? (i := 163) rfl)
theorem ts_cw129 : ts_cw (yX11_movement, cX11_movement, 4, (some .int), 11) ∈ lw_tbl := ts_ch4 (List.mem_of_getElem? (i := 169) rfl)
theorem ts_cw130 : ts_cw (yX11_stop, cX11_stop, 4, (some .int), 11) ∈ lw_tbl := ts_ch4 (List.mem_of_getElem? (i := 174) rfl)
theorem ts_cw131 : ts_cw (yX4_stampedAt, cX4_stampedAt, 2, (some .int), 4) ∈ lw_tbl := ts_ch4 (List.mem_of_getElem? (i := 179) rfl)
theorem ts_cw132 : ts_cw (yX11_left, cX11_left, 3, (some .int), 11) ∈ lw_tbl := ts_ch4 (List.mem_of_getElem? (i := 183) rfl)
theorem ts_cw133 : ts_cw (yX11_hoursToGo, cX11_hoursToGo, 4, (some .int), 11) ∈ lw_tbl := ts_ch4 (List.mem_of_getElem? (i := 187) rfl)
theorem ts_cw134 : ts_cw (yX11_borders, cX11_borders, 7, (some .int), 11) ∈ lw_tbl := ts_ch4 (List.mem_of_getElem? (i := 191) rfl)
theorem ts_cw135 : ts_cw (yX11_asked, cX11_asked, 4, (some .int), 11) ∈ lw_tbl := ts_ch4 (List.mem_of_getElem? (i := 195) rfl)
theorem ts_cw136 : ts_cw (yX4_officesFrom, cX4_officesFrom, 4, (some .int), 4) ∈ lw_tbl := ts_ch4 (List.mem_of_getElem? (i := 199) rfl)
theorem ts_cw137 : ts_cw (yX11_states, cX11_states, 8, (some .int), 11) ∈ lw_tbl := ts_ch4 (List.mem_of_getElem? (i := 204) rfl)
theorem ts_cw138 : ts_cw (yX11_owed, cX11_owed, 9, (some .int), 11) ∈ lw_tbl := ts_ch4 (List.mem_of_getElem? (i := 209) rfl)
theorem ts_cw139 : ts_cw (yX4_isIndebted, cX4_isIndebted, 1, (some .boolean), 4) ∈ lw_tbl := ts_ch4 (List.mem_of_getElem? (i := 213) rfl)
theorem ts_cw140 : ts_cw (yX11_late, cX11_late, 6, (some .int), 11) ∈ lw_tbl := ts_ch4 (List.mem_of_getElem? (i := 217) rfl)
theorem ts_cw141 : ts_cw (yX11_isLate, cX11_isLate, 2, (some .boolean), 11) ∈ lw_tbl := ts_ch4 (List.mem_of_getElem? (i := 221) rfl)
theorem ts_cw142 : ts_cw (yX11_hourOfArrival, cX11_hourOfArrival, 2, (some .int), 11) ∈ lw_tbl := ts_ch4 (List.mem_of_getElem? (i := 225) rfl)
theorem ts_cw143 : ts_cw (yX11_next, cX11_next, 8, (some .int), 11) ∈ lw_tbl := ts_ch4 (List.mem_of_getElem? (i := 229) rfl)
theorem ts_cw144 : ts_cw (yX11_worth, cX11_worth, 8, (some .int), 11) ∈ lw_tbl := ts_ch4 (List.mem_of_getElem? (i := 233) rfl)
theorem ts_cw145 : ts_cw (yX11_busiest, cX11_busiest, 5, (some .int), 11) ∈ lw_tbl := ts_ch4 (List.mem_of_getElem? (i := 238) rfl)
theorem ts_cw146 : ts_cw (yX2_stillToCome, cX2_stillToCome, 7, (some .int), 2) ∈ lw_tbl := ts_ch5 (List.mem_of_getElem? (i := 2) rfl)
theorem ts_cw147 : ts_cw (yX11_can, cX11_can, 6, (some .int), 11) ∈ lw_tbl := ts_ch5 (List.mem_of_getElem? (i := 7) rfl)
theorem ts_cw148 : ts_cw (yX11_frees, cX11_frees, 6, (some .int), 11) ∈ lw_tbl := ts_ch5 (List.mem_of_getElem? (i := 12) rfl)
theorem ts_cw149 : ts_cw (yX11_fewestFreeing, cX11_fewestFreeing, 4, (some .int), 11) ∈ lw_tbl := ts_ch5 (List.mem_of_getElem? (i := 16) rfl)
theorem ts_cw150 : ts_cw (yX2_greatestShares, cX2_greatestShares, 11, (some .int), 2) ∈ lw_tbl := ts_ch5 (List.mem_of_getElem? (i := 20) rfl)
theorem ts_cw151 : ts_cw (yX11_leastBitsFreeing, cX11_leastBitsFreeing, 10, (some .int), 11) ∈ lw_tbl := ts_ch5 (List.mem_of_getElem? (i := 24) rfl)
theorem ts_cw152 : ts_cw (yX11_when, cX11_when, 10, (some .int), 11) ∈ lw_tbl := ts_ch5 (List.mem_of_getElem? (i := 28) rfl)
theorem ts_cw153 : ts_cw (yX11_closingHour, cX11_closingHour, 3, (some .int), 11) ∈ lw_tbl := ts_ch5 (List.mem_of_getElem? (i := 32) rfl)
theorem ts_cw154 : ts_cw (yX11_freedUntil, cX11_freedUntil, 8, (some .int), 11) ∈ lw_tbl := ts_ch5 (List.mem_of_getElem? (i := 37) rfl)
theorem ts_cw155 : ts_cw (yX11_fits, cX11_fits, 2, (some .int), 11) ∈ lw_tbl := ts_ch5 (List.mem_of_getElem? (i := 41) rfl)
theorem ts_cw156 : ts_cw (yX3_readFrom, cX3_readFrom, 4, none, 3) ∈ lw_tbl := ts_ch5 (List.mem_of_getElem? (i := 45) rfl)
theorem ts_cw157 : ts_cw (yX3_choose, cX3_choose, 7, none, 3) ∈ lw_tbl := ts_ch5 (List.mem_of_getElem? (i := 56) rfl)
theorem ts_cw158 : ts_cw (yX3_together, cX3_together, 5, (some .int), 3) ∈ lw_tbl := ts_ch5 (List.mem_of_getElem? (i := 63) rfl)
theorem ts_cw159 : ts_cw (yX3_isBetter, cX3_isBetter, 3, (some .boolean), 3) ∈ lw_tbl := ts_ch5 (List.mem_of_getElem? (i := 67) rfl)
theorem ts_cw160 : ts_cw (yX11_detour, cX11_detour, 1, (some .int), 11) ∈ lw_tbl := ts_ch5 (List.mem_of_getElem? (i := 71) rfl)
theorem ts_cw161 : ts_cw (yX11_risk, cX11_risk, 3, (some .int), 11) ∈ lw_tbl := ts_ch5 (List.mem_of_getElem? (i := 77) rfl)
theorem ts_cw162 : ts_cw (yX11_tightest, cX11_tightest, 6, (some .int), 11) ∈ lw_tbl := ts_ch5 (List.mem_of_getElem? (i := 81) rfl)
theorem ts_cw163 : ts_cw (yX11_book, cX11_book, 3, (some .int), 11) ∈ lw_tbl := ts_ch5 (List.mem_of_getElem? (i := 85) rfl)
theorem ts_cw164 : ts_cw (yX0_read, cX0_read, 4, (some .int), 0) ∈ lw_tbl := ts_ch5 (List.mem_of_getElem? (i := 89) rfl)
theorem ts_cw165 : ts_cw (yX0_size, cX0_size, 1, (some .int), 0) ∈ lw_tbl := ts_ch5 (List.mem_of_getElem? (i := 93) rfl)
theorem ts_cw166 : ts_cw (yX11_written, cX11_written, 2, (some .int), 11) ∈ lw_tbl := ts_ch5 (List.mem_of_getElem? (i := 99) rfl)
theorem ts_cw167 : ts_cw (yX11_undo, cX11_undo, 1, (some .int), 11) ∈ lw_tbl := ts_ch5 (List.mem_of_getElem? (i := 104) rfl)
theorem ts_cw168 : ts_cw (yX1_takeBack, cX1_takeBack, 3, (some .boolean), 1) ∈ lw_tbl := ts_ch5 (List.mem_of_getElem? (i := 108) rfl)
theorem ts_cw169 : ts_cw (yX11_keeps, cX11_keeps, 1, (some .int), 11) ∈ lw_tbl := ts_ch5 (List.mem_of_getElem? (i := 112) rfl)
theorem ts_cw170 : ts_cw (yX1_keep, cX1_keep, 2, none, 1) ∈ lw_tbl := ts_ch5 (List.mem_of_getElem? (i := 116) rfl)
theorem ts_cw171 : ts_cw (yX11_back, cX11_back, 1, (some .int), 11) ∈ lw_tbl := ts_ch5 (List.mem_of_getElem? (i := 120) rfl)
theorem ts_cw172 : ts_cw (yX1_bringBack, cX1_bringBack, 2, (some .boolean), 1) ∈ lw_tbl := ts_ch5 (List.mem_of_getElem? (i := 124) rfl)
theorem ts_cw173 : ts_cw (yX11_count, cX11_count, 2, (some .int), 11) ∈ lw_tbl := ts_ch5 (List.mem_of_getElem? (i := 129) rfl)
theorem ts_cw174 : ts_cw (yX8_size, cX8_size, 1, (some .int), 8) ∈ lw_tbl := ts_ch5 (List.mem_of_getElem? (i := 134) rfl)
theorem ts_cw175 : ts_cw (yX11_row, cX11_row, 2, (some .long), 11) ∈ lw_tbl := ts_ch5 (List.mem_of_getElem? (i := 142) rfl)
theorem ts_cw176 : ts_cw (yX8_numberAt, cX8_numberAt, 2, (some .int), 8) ∈ lw_tbl := ts_ch5 (List.mem_of_getElem? (i := 207) rfl)
theorem ts_cw177 : ts_cw (yX12_init, cX12_init, 1, none, 12) ∈ lw_tbl := ts_ch5 (List.mem_of_getElem? (i := 213) rfl)
theorem ts_cw178 : ts_cw (yX12_thrown, cX12_thrown, 1, (some .int), 12) ∈ lw_tbl := ts_ch6 (List.mem_of_getElem? (i := 98) rfl)
theorem ts_cw179 : ts_cw (yX12_sign, cX12_sign, 3, (some .int), 12) ∈ lw_tbl := ts_ch6 (List.mem_of_getElem? (i := 102) rfl)
theorem ts_cw180 : ts_cw (yX12_end, cX12_end, 2, (some .boolean), 12) ∈ lw_tbl := ts_ch6 (List.mem_of_getElem? (i := 106) rfl)
theorem ts_cw181 : ts_cw (yX12_in, cX12_in, 6, (some .boolean), 12) ∈ lw_tbl := ts_ch6 (List.mem_of_getElem? (i := 109) rfl)
theorem ts_cw182 : ts_cw (yX12_net, cX12_net, 2, (some .int), 12) ∈ lw_tbl := ts_ch6 (List.mem_of_getElem? (i := 113) rfl)
theorem ts_cw183 : ts_cw (yX12_begin, cX12_begin, 1, none, 12) ∈ lw_tbl := ts_ch6 (List.mem_of_getElem? (i := 117) rfl)
theorem ts_cw184 : ts_cw (yX12_readsNet, cX12_readsNet, 3, none, 12) ∈ lw_tbl := ts_ch6 (List.mem_of_getElem? (i := 121) rfl)
theorem ts_cw185 : ts_cw (yX12_readsOffices, cX12_readsOffices, 2, none, 12) ∈ lw_tbl := ts_ch6 (List.mem_of_getElem? (i := 125) rfl)
theorem ts_cw186 : ts_cw (yX12_sees, cX12_sees, 1, (some .int), 12) ∈ lw_tbl := ts_ch6 (List.mem_of_getElem? (i := 129) rfl)
theorem ts_cw187 : ts_cw (yX12_fault, cX12_fault, 2, none, 12) ∈ lw_tbl := ts_ch6 (List.mem_of_getElem? (i := 133) rfl)
theorem ts_cw188 : ts_cw (yX12_number, cX12_number, 6, (some .int), 12) ∈ lw_tbl := ts_ch6 (List.mem_of_getElem? (i := 137) rfl)
theorem ts_cw189 : ts_cw (yX12_expect, cX12_expect, 2, none, 12) ∈ lw_tbl := ts_ch6 (List.mem_of_getElem? (i := 143) rfl)
theorem ts_cw190 : ts_cw (yX12_readsRoad, cX12_readsRoad, 4, none, 12) ∈ lw_tbl := ts_ch6 (List.mem_of_getElem? (i := 147) rfl)
theorem ts_cw191 : ts_cw (yX12_officeNumber, cX12_officeNumber, 2, (some .int), 12) ∈ lw_tbl := ts_ch6 (List.mem_of_getElem? (i := 151) rfl)
theorem ts_cw192 : ts_cw (yX12_road, cX12_road, 3, (some .int), 12) ∈ lw_tbl := ts_ch6 (List.mem_of_getElem? (i := 155) rfl)
theorem ts_cw193 : ts_cw (yX12_isOffice, cX12_isOffice, 2, (some .boolean), 12) ∈ lw_tbl := ts_ch6 (List.mem_of_getElem? (i := 159) rfl)
theorem ts_cw194 : ts_cw (yX12_hoursOf, cX12_hoursOf, 3, (some .int), 12) ∈ lw_tbl := ts_ch6 (List.mem_of_getElem? (i := 163) rfl)
theorem ts_cw195 : ts_cw (yX12_office, cX12_office, 6, (some .int), 12) ∈ lw_tbl := ts_ch6 (List.mem_of_getElem? (i := 167) rfl)
theorem ts_cw196 : ts_cw (yX12_goes, cX12_goes, 2, (some .boolean), 12) ∈ lw_tbl := ts_ch6 (List.mem_of_getElem? (i := 172) rfl)
theorem ts_cw197 : ts_cw (yX12_state, cX12_state, 2, (some .int), 12) ∈ lw_tbl := ts_ch6 (List.mem_of_getElem? (i := 176) rfl)
theorem ts_cw198 : ts_cw (yX12_of, cX12_of, 3, (some .int), 12) ∈ lw_tbl := ts_ch6 (List.mem_of_getElem? (i := 180) rfl)
theorem ts_cw199 : ts_cw (yX12_seenAt, cX12_seenAt, 2, (some .int), 12) ∈ lw_tbl := ts_ch6 (List.mem_of_getElem? (i := 184) rfl)
theorem ts_cw200 : ts_cw (yX12_way, cX12_way, 5, (some .int), 12) ∈ lw_tbl := ts_ch6 (List.mem_of_getElem? (i := 188) rfl)
theorem ts_cw201 : ts_cw (yX12_goesTo, cX12_goesTo, 5, none, 12) ∈ lw_tbl := ts_ch6 (List.mem_of_getElem? (i := 192) rfl)
theorem ts_cw202 : ts_cw (yX12_tell, cX12_tell, 3, none, 12) ∈ lw_tbl := ts_ch6 (List.mem_of_getElem? (i := 198) rfl)
theorem ts_cw203 : ts_cw (yX12_routes, cX12_routes, 3, (some .int), 12) ∈ lw_tbl := ts_ch6 (List.mem_of_getElem? (i := 202) rfl)
theorem ts_cw204 : ts_cw (yX12_findsRoutes, cX12_findsRoutes, 3, (some .boolean), 12) ∈ lw_tbl := ts_ch6 (List.mem_of_getElem? (i := 206) rfl)
theorem ts_cw205 : ts_cw (yX12_walks, cX12_walks, 6, none, 12) ∈ lw_tbl := ts_ch6 (List.mem_of_getElem? (i := 210) rfl)
theorem ts_cw206 : ts_cw (yX12_ones, cX12_ones, 3, (some .int), 12) ∈ lw_tbl := ts_ch6 (List.mem_of_getElem? (i := 214) rfl)
theorem ts_cw207 : ts_cw (yX12_has, cX12_has, 2, (some .boolean), 12) ∈ lw_tbl := ts_ch6 (List.mem_of_getElem? (i := 217) rfl)
theorem ts_cw208 : ts_cw (yX12_gates, cX12_gates, 4, (some .int), 12) ∈ lw_tbl := ts_ch6 (List.mem_of_getElem? (i := 221) rfl)
theorem ts_cw209 : ts_cw (yX12_trader, cX12_trader, 3, (some .int), 12) ∈ lw_tbl := ts_ch6 (List.mem_of_getElem? (i := 225) rfl)
theorem ts_cw210 : ts_cw (yX12_isSum, cX12_isSum, 2, (some .boolean), 12) ∈ lw_tbl := ts_ch6 (List.mem_of_getElem? (i := 228) rfl)
theorem ts_cw211 : ts_cw (yX12_does, cX12_does, 2, none, 12) ∈ lw_tbl := ts_ch6 (List.mem_of_getElem? (i := 234) rfl)
theorem ts_cw212 : ts_cw (yX12_sums, cX12_sums, 4, (some .int), 12) ∈ lw_tbl := ts_ch6 (List.mem_of_getElem? (i := 238) rfl)
theorem ts_cw213 : ts_cw (yX12_isTrader, cX12_isTrader, 2, (some .boolean), 12) ∈ lw_tbl := ts_ch7 (List.mem_of_getElem? (i := 2) rfl)
theorem ts_cw214 : ts_cw (yX12_used, cX12_used, 4, (some .int), 12) ∈ lw_tbl := ts_ch7 (List.mem_of_getElem? (i := 6) rfl)
theorem ts_cw215 : ts_cw (yX12_isOpen, cX12_isOpen, 2, (some .boolean), 12) ∈ lw_tbl := ts_ch7 (List.mem_of_getElem? (i := 10) rfl)
theorem ts_cw216 : ts_cw (yX12_inUse, cX12_inUse, 2, (some .int), 12) ∈ lw_tbl := ts_ch7 (List.mem_of_getElem? (i := 14) rfl)
theorem ts_cw217 : ts_cw (yX12_sumOf, cX12_sumOf, 2, (some .int), 12) ∈ lw_tbl := ts_ch7 (List.mem_of_getElem? (i := 18) rfl)
theorem ts_cw218 : ts_cw (yX12_levelOf, cX12_levelOf, 2, (some .int), 12) ∈ lw_tbl := ts_ch7 (List.mem_of_getElem? (i := 22) rfl)
theorem ts_cw219 : ts_cw (yX12_free, cX12_free, 2, (some .int), 12) ∈ lw_tbl := ts_ch7 (List.mem_of_getElem? (i := 26) rfl)
theorem ts_cw220 : ts_cw (yX12_openSet, cX12_openSet, 4, (some .int), 12) ∈ lw_tbl := ts_ch7 (List.mem_of_getElem? (i := 30) rfl)
theorem ts_cw221 : ts_cw (yX12_owes, cX12_owes, 2, (some .int), 12) ∈ lw_tbl := ts_ch7 (List.mem_of_getElem? (i := 34) rfl)
theorem ts_cw222 : ts_cw (yX12_debts, cX12_debts, 5, (some .int), 12) ∈ lw_tbl := ts_ch7 (List.mem_of_getElem? (i := 38) rfl)
theorem ts_cw223 : ts_cw (yX12_starts, cX12_starts, 7, (some .int), 12) ∈ lw_tbl := ts_ch7 (List.mem_of_getElem? (i := 42) rfl)
theorem ts_cw224 : ts_cw (yX12_readsRoute, cX12_readsRoute, 4, none, 12) ∈ lw_tbl := ts_ch7 (List.mem_of_getElem? (i := 46) rfl)
theorem ts_cw225 : ts_cw (yX12_isOnRoute, cX12_isOnRoute, 3, (some .boolean), 12) ∈ lw_tbl := ts_ch7 (List.mem_of_getElem? (i := 50) rfl)
theorem ts_cw226 : ts_cw (yX12_isGoods, cX12_isGoods, 2, (some .boolean), 12) ∈ lw_tbl := ts_ch7 (List.mem_of_getElem? (i := 54) rfl)
theorem ts_cw227 : ts_cw (yX12_shareBy, cX12_shareBy, 2, (some .int), 12) ∈ lw_tbl := ts_ch7 (List.mem_of_getElem? (i := 58) rfl)
theorem ts_cw228 : ts_cw (yX12_sets, cX12_sets, 4, none, 12) ∈ lw_tbl := ts_ch7 (List.mem_of_getElem? (i := 62) rfl)
theorem ts_cw229 : ts_cw (yX12_notes, cX12_notes, 5, none, 12) ∈ lw_tbl := ts_ch7 (List.mem_of_getElem? (i := 66) rfl)
theorem ts_cw230 : ts_cw (yX12_stamps, cX12_stamps, 5, (some .int), 12) ∈ lw_tbl := ts_ch7 (List.mem_of_getElem? (i := 70) rfl)
theorem ts_cw231 : ts_cw (yX12_isMove, cX12_isMove, 2, (some .boolean), 12) ∈ lw_tbl := ts_ch7 (List.mem_of_getElem? (i := 74) rfl)
theorem ts_cw232 : ts_cw (yX12_breaks, cX12_breaks, 2, (some .int), 12) ∈ lw_tbl := ts_ch7 (List.mem_of_getElem? (i := 78) rfl)
theorem ts_cw233 : ts_cw (yX12_brokenSeals, cX12_brokenSeals, 3, (some .int), 12) ∈ lw_tbl := ts_ch7 (List.mem_of_getElem? (i := 82) rfl)
theorem ts_cw234 : ts_cw (yX12_controls, cX12_controls, 4, (some .int), 12) ∈ lw_tbl := ts_ch7 (List.mem_of_getElem? (i := 86) rfl)
theorem ts_cw235 : ts_cw (yX12_becomes, cX12_becomes, 4, none, 12) ∈ lw_tbl := ts_ch7 (List.mem_of_getElem? (i := 90) rfl)
theorem ts_cw236 : ts_cw (yX12_proves, cX12_proves, 2, (some .int), 12) ∈ lw_tbl := ts_ch7 (List.mem_of_getElem? (i := 94) rfl)
theorem ts_cw237 : ts_cw (yX12_stepOf, cX12_stepOf, 2, (some .int), 12) ∈ lw_tbl := ts_ch7 (List.mem_of_getElem? (i := 98) rfl)
theorem ts_cw238 : ts_cw (yX12_pays, cX12_pays, 2, (some .int), 12) ∈ lw_tbl := ts_ch7 (List.mem_of_getElem? (i := 102) rfl)
theorem ts_cw239 : ts_cw (yX12_hours, cX12_hours, 4, (some .int), 12) ∈ lw_tbl := ts_ch7 (List.mem_of_getElem? (i := 106) rfl)
theorem ts_cw240 : ts_cw (yX12_turns, cX12_turns, 4, (some .int), 12) ∈ lw_tbl := ts_ch7 (List.mem_of_getElem? (i := 111) rfl)
theorem ts_cw241 : ts_cw (yX12_dutyOf, cX12_dutyOf, 2, (some .int), 12) ∈ lw_tbl := ts_ch7 (List.mem_of_getElem? (i := 115) rfl)
theorem ts_cw242 : ts_cw (yX12_movement, cX12_movement, 3, (some .int), 12) ∈ lw_tbl := ts_ch7 (List.mem_of_getElem? (i := 119) rfl)
theorem ts_cw243 : ts_cw (yX12_stop, cX12_stop, 3, (some .int), 12) ∈ lw_tbl := ts_ch7 (List.mem_of_getElem? (i := 123) rfl)
theorem ts_cw244 : ts_cw (yX12_left, cX12_left, 3, (some .int), 12) ∈ lw_tbl := ts_ch7 (List.mem_of_getElem? (i := 128) rfl)
theorem ts_cw245 : ts_cw (yX12_leftOf, cX12_leftOf, 4, (some .int), 12) ∈ lw_tbl := ts_ch7 (List.mem_of_getElem? (i := 132) rfl)
theorem ts_cw246 : ts_cw (yX12_borders, cX12_borders, 6, (some .int), 12) ∈ lw_tbl := ts_ch7 (List.mem_of_getElem? (i := 136) rfl)
theorem ts_cw247 : ts_cw (yX12_asked, cX12_asked, 5, (some .int), 12) ∈ lw_tbl := ts_ch7 (List.mem_of_getElem? (i := 140) rfl)
theorem ts_cw248 : ts_cw (yX12_states, cX12_states, 5, (some .int), 12) ∈ lw_tbl := ts_ch7 (List.mem_of_getElem? (i := 144) rfl)
theorem ts_cw249 : ts_cw (yX12_owed, cX12_owed, 6, (some .int), 12) ∈ lw_tbl := ts_ch7 (List.mem_of_getElem? (i := 149) rfl)
theorem ts_cw250 : ts_cw (yX12_late, cX12_late, 3, (some .int), 12) ∈ lw_tbl := ts_ch7 (List.mem_of_getElem? (i := 153) rfl)
theorem ts_cw251 : ts_cw (yX12_isLate, cX12_isLate, 2, (some .boolean), 12) ∈ lw_tbl := ts_ch7 (List.mem_of_getElem? (i := 157) rfl)
theorem ts_cw252 : ts_cw (yX12_endOf, cX12_endOf, 2, (some .int), 12) ∈ lw_tbl := ts_ch7 (List.mem_of_getElem? (i := 161) rfl)
theorem ts_cw253 : ts_cw (yX12_busiest, cX12_busiest, 7, (some .int), 12) ∈ lw_tbl := ts_ch7 (List.mem_of_getElem? (i := 165) rfl)
theorem ts_cw254 : ts_cw (yX12_next, cX12_next, 5, (some .int), 12) ∈ lw_tbl := ts_ch7 (List.mem_of_getElem? (i := 169) rfl)
theorem ts_cw255 : ts_cw (yX12_worth, cX12_worth, 5, (some .int), 12) ∈ lw_tbl := ts_ch7 (List.mem_of_getElem? (i := 173) rfl)
theorem ts_cw256 : ts_cw (yX12_can, cX12_can, 4, (some .int), 12) ∈ lw_tbl := ts_ch7 (List.mem_of_getElem? (i := 177) rfl)
theorem ts_cw257 : ts_cw (yX12_frees, cX12_frees, 9, (some .int), 12) ∈ lw_tbl := ts_ch7 (List.mem_of_getElem? (i := 181) rfl)
theorem ts_cw258 : ts_cw (yX12_isShare, cX12_isShare, 1, (some .boolean), 12) ∈ lw_tbl := ts_ch7 (List.mem_of_getElem? (i := 184) rfl)
theorem ts_cw259 : ts_cw (yX12_most, cX12_most, 8, (some .int), 12) ∈ lw_tbl := ts_ch7 (List.mem_of_getElem? (i := 188) rfl)
theorem ts_cw260 : ts_cw (yX12_when, cX12_when, 8, (some .int), 12) ∈ lw_tbl := ts_ch7 (List.mem_of_getElem? (i := 192) rfl)
theorem ts_cw261 : ts_cw (yX12_fits, cX12_fits, 9, (some .int), 12) ∈ lw_tbl := ts_ch7 (List.mem_of_getElem? (i := 196) rfl)
theorem ts_cw262 : ts_cw (yX12_readsLoads, cX12_readsLoads, 2, none, 12) ∈ lw_tbl := ts_ch7 (List.mem_of_getElem? (i := 200) rfl)
theorem ts_cw263 : ts_cw (yX12_detour, cX12_detour, 1, (some .int), 12) ∈ lw_tbl := ts_ch7 (List.mem_of_getElem? (i := 204) rfl)
theorem ts_cw264 : ts_cw (yX12_risk, cX12_risk, 2, (some .int), 12) ∈ lw_tbl := ts_ch7 (List.mem_of_getElem? (i := 208) rfl)
theorem ts_cw265 : ts_cw (yX12_tightest, cX12_tightest, 7, (some .int), 12) ∈ lw_tbl := ts_ch7 (List.mem_of_getElem? (i := 212) rfl)
theorem ts_cw266 : ts_cw (yX12_book, cX12_book, 3, (some .int), 12) ∈ lw_tbl := ts_ch7 (List.mem_of_getElem? (i := 217) rfl)
theorem ts_cw267 : ts_cw (yX12_written, cX12_written, 4, (some .int), 12) ∈ lw_tbl := ts_ch7 (List.mem_of_getElem? (i := 221) rfl)
theorem ts_cw268 : ts_cw (yX12_writes, cX12_writes, 2, none, 12) ∈ lw_tbl := ts_ch7 (List.mem_of_getElem? (i := 225) rfl)
theorem ts_cw269 : ts_cw (yX12_writesNumber, cX12_writesNumber, 2, none, 12) ∈ lw_tbl := ts_ch7 (List.mem_of_getElem? (i := 229) rfl)
theorem ts_cw270 : ts_cw (yX12_undo, cX12_undo, 2, (some .int), 12) ∈ lw_tbl := ts_ch7 (List.mem_of_getElem? (i := 233) rfl)
theorem ts_cw271 : ts_cw (yX12_keeps, cX12_keeps, 2, (some .int), 12) ∈ lw_tbl := ts_ch7 (List.mem_of_getElem? (i := 237) rfl)
theorem ts_cw272 : ts_cw (yX12_back, cX12_back, 2, (some .int), 12) ∈ lw_tbl := ts_ch8 (List.mem_of_getElem? (i := 1) rfl)
theorem ts_cw273 : ts_cw (yX12_count, cX12_count, 2, (some .int), 12) ∈ lw_tbl := ts_ch8 (List.mem_of_getElem? (i := 5) rfl)
theorem ts_cw274 : ts_cw (yX12_row, cX12_row, 2, (some .long), 12) ∈ lw_tbl := ts_ch8 (List.mem_of_getElem? (i := 9) rfl)
theorem ts_cw275 : ts_cw (yX12_lost, cX12_lost, 1, (some .int), 12) ∈ lw_tbl := ts_ch8 (List.mem_of_getElem? (i := 13) rfl)
def ts_mL_0 : List ts_Y := [
  (yX11_init, cX11_init, 1, none, 11),
  (yX6_init, cX6_init, 1, none, 6),
  (yX10_init, cX10_init, 1, none, 10),
  (yX8_init, cX8_init, 1, none, 8),
  (yX7_init, cX7_init, 1, none, 7),
  (yX3_init, cX3_init, 1, none, 3),
  (yX9_init, cX9_init, 1, none, 9),
  (yX2_init, cX2_init, 2, none, 2),
  (yX0_init, cX0_init, 1, none, 0),
  (yX4_init, cX4_init, 2, none, 4),
  (yX1_init, cX1_init, 2, none, 1),
  (yX5_init, cX5_init, 1, none, 5),
  (yX5_measureWays, cX5_measureWays, 5, none, 5),
  (yX5_roadHours, cX5_roadHours, 3, (some .int), 5),
  (yX5_hasOffice, cX5_hasOffice, 2, (some .boolean), 5),
  (yX5_pair, cX5_pair, 2, (some .int), 5)]
theorem ts_cwg0 : ∀ q ∈ ts_mL_0, ts_cw q ∈ lw_tbl := List.forall_mem_cons.mpr ⟨ts_cw0, List.forall_mem_cons.mpr ⟨ts_cw1, List.forall_mem_cons.mpr ⟨ts_cw2, List.forall_mem_cons.mpr ⟨ts_cw3, List.forall_mem_cons.mpr ⟨ts_cw4, List.forall_mem_cons.mpr ⟨ts_cw5, List.forall_mem_cons.mpr ⟨ts_cw6, List.forall_mem_cons.mpr ⟨ts_cw7, List.forall_mem_cons.mpr ⟨ts_cw8, List.forall_mem_cons.mpr ⟨ts_cw9, List.forall_mem_cons.mpr ⟨ts_cw10, List.forall_mem_cons.mpr ⟨ts_cw11, List.forall_mem_cons.mpr ⟨ts_cw12, List.forall_mem_cons.mpr ⟨ts_cw13, List.forall_mem_cons.mpr ⟨ts_cw14, List.forall_mem_cons.mpr ⟨ts_cw15, List.forall_mem_nil _⟩⟩⟩⟩⟩⟩⟩⟩⟩⟩⟩⟩⟩⟩⟩⟩
def ts_mL_1 : List ts_Y := [
  (yX11_numberIn, cX11_numberIn, 2, (some .int), 11),
  (yX11_put, cX11_put, 3, none, 11),
  (yX5_wayHours, cX5_wayHours, 3, (some .int), 5),
  (yX5_writeDown, cX5_writeDown, 4, none, 5),
  (yX10_cutTo, cX10_cutTo, 2, none, 10),
  (yX5_countryOf, cX5_countryOf, 2, (some .int), 5),
  (yX10_addNumber, cX10_addNumber, 2, none, 10),
  (yX10_add, cX10_add, 2, none, 10),
  (yX5_writeRoad, cX5_writeRoad, 4, none, 5),
  (yX5_dutyOf, cX5_dutyOf, 2, (some .int), 5),
  (yX11_sign, cX11_sign, 4, (some .int), 11),
  (yX10_size, cX10_size, 1, (some .int), 10),
  (yX11_end, cX11_end, 2, (some .boolean), 11),
  (yX11_net, cX11_net, 2, (some .int), 11),
  (yX5_readFrom, cX5_readFrom, 2, none, 5),
  (yX6_begin, cX6_begin, 1, none, 6)]
theorem ts_cwg1 : ∀ q ∈ ts_mL_1, ts_cw q ∈ lw_tbl := List.forall_mem_cons.mpr ⟨ts_cw16, List.forall_mem_cons.mpr ⟨ts_cw17, List.forall_mem_cons.mpr ⟨ts_cw18, List.forall_mem_cons.mpr ⟨ts_cw19, List.forall_mem_cons.mpr ⟨ts_cw20, List.forall_mem_cons.mpr ⟨ts_cw21, List.forall_mem_cons.mpr ⟨ts_cw22, List.forall_mem_cons.mpr ⟨ts_cw23, List.forall_mem_cons.mpr ⟨ts_cw24, List.forall_mem_cons.mpr ⟨ts_cw25, List.forall_mem_cons.mpr ⟨ts_cw26, List.forall_mem_cons.mpr ⟨ts_cw27, List.forall_mem_cons.mpr ⟨ts_cw28, List.forall_mem_cons.mpr ⟨ts_cw29, List.forall_mem_cons.mpr ⟨ts_cw30, List.forall_mem_cons.mpr ⟨ts_cw31, List.forall_mem_nil _⟩⟩⟩⟩⟩⟩⟩⟩⟩⟩⟩⟩⟩⟩⟩⟩
def ts_mL_2 : List ts_Y := [
  (yX5_clear, cX5_clear, 1, none, 5),
  (yX11_wipe, cX11_wipe, 2, none, 11),
  (yX5_readCountries, cX5_readCountries, 3, none, 5),
  (yX6_digit, cX6_digit, 2, (some .int), 6),
  (yX10_signAt, cX10_signAt, 2, (some .int), 10),
  (yX6_number, cX6_number, 6, (some .int), 6),
  (yX6_failed, cX6_failed, 1, (some .boolean), 6),
  (yX6_refuseHere, cX6_refuseHere, 1, none, 6),
  (yX11_digitsOf, cX11_digitsOf, 1, (some .int), 11),
  (yX6_refuseLast, cX6_refuseLast, 1, none, 6),
  (yX6_needs, cX6_needs, 2, none, 6),
  (yX6_takes, cX6_takes, 2, (some .boolean), 6),
  (yX5_readRoads, cX5_readRoads, 3, none, 5),
  (yX6_atEnd, cX6_atEnd, 1, (some .boolean), 6),
  (yX6_sees, cX6_sees, 2, (some .boolean), 6),
  (yX5_readRoad, cX5_readRoad, 5, none, 5)]
theorem ts_cwg2 : ∀ q ∈ ts_mL_2, ts_cw q ∈ lw_tbl := List.forall_mem_cons.mpr ⟨ts_cw32, List.forall_mem_cons.mpr ⟨ts_cw33, List.forall_mem_cons.mpr ⟨ts_cw34, List.forall_mem_cons.mpr ⟨ts_cw35, List.forall_mem_cons.mpr ⟨ts_cw36, List.forall_mem_cons.mpr ⟨ts_cw37, List.forall_mem_cons.mpr ⟨ts_cw38, List.forall_mem_cons.mpr ⟨ts_cw39, List.forall_mem_cons.mpr ⟨ts_cw40, List.forall_mem_cons.mpr ⟨ts_cw41, List.forall_mem_cons.mpr ⟨ts_cw42, List.forall_mem_cons.mpr ⟨ts_cw43, List.forall_mem_cons.mpr ⟨ts_cw44, List.forall_mem_cons.mpr ⟨ts_cw45, List.forall_mem_cons.mpr ⟨ts_cw46, List.forall_mem_cons.mpr ⟨ts_cw47, List.forall_mem_nil _⟩⟩⟩⟩⟩⟩⟩⟩⟩⟩⟩⟩⟩⟩⟩⟩
def ts_mL_3 : List ts_Y := [
  (yX5_join, cX5_join, 4, none, 5),
  (yX5_near, cX5_near, 2, (some .int), 5),
  (yX5_readDuties, cX5_readDuties, 3, none, 5),
  (yX6_finish, cX6_finish, 1, none, 6),
  (yX6_refusal, cX6_refusal, 1, (some .int), 6),
  (yX2_clear, cX2_clear, 5, none, 2),
  (yX0_clear, cX0_clear, 1, none, 0),
  (yX1_clear, cX1_clear, 1, none, 1),
  (yX8_clear, cX8_clear, 1, none, 8),
  (yX11_road, cX11_road, 4, (some .int), 11),
  (yX11_office, cX11_office, 3, (some .int), 11),
  (yX5_roadsAt, cX5_roadsAt, 2, (some .int), 5),
  (yJ6_bitCount_0f7a4, cJ6_bitCount_0f7a4, 1, (some .int), 13),
  (yX2_underwaySeenAt, cX2_underwaySeenAt, 7, (some .int), 2),
  (yX4_isUnderway, cX4_isUnderway, 1, (some .boolean), 4),
  (yX4_seen, cX4_seen, 1, (some .int), 4)]
theorem ts_cwg3 : ∀ q ∈ ts_mL_3, ts_cw q ∈ lw_tbl := List.forall_mem_cons.mpr ⟨ts_cw48, List.forall_mem_cons.mpr ⟨ts_cw49, List.forall_mem_cons.mpr ⟨ts_cw50, List.forall_mem_cons.mpr ⟨ts_cw51, List.forall_mem_cons.mpr ⟨ts_cw52, List.forall_mem_cons.mpr ⟨ts_cw53, List.forall_mem_cons.mpr ⟨ts_cw54, List.forall_mem_cons.mpr ⟨ts_cw55, List.forall_mem_cons.mpr ⟨ts_cw56, List.forall_mem_cons.mpr ⟨ts_cw57, List.forall_mem_cons.mpr ⟨ts_cw58, List.forall_mem_cons.mpr ⟨ts_cw59, List.forall_mem_cons.mpr ⟨ts_cw60, List.forall_mem_cons.mpr ⟨ts_cw61, List.forall_mem_cons.mpr ⟨ts_cw62, List.forall_mem_cons.mpr ⟨ts_cw63, List.forall_mem_nil _⟩⟩⟩⟩⟩⟩⟩⟩⟩⟩⟩⟩⟩⟩⟩⟩
def ts_mL_4 : List ts_Y := [
  (yX4_officeAt, cX4_officeAt, 2, (some .int), 4),
  (yX4_bit, cX4_bit, 1, (some .int), 4),
  (yX11_way, cX11_way, 4, (some .int), 11),
  (yX5_tellWay, cX5_tellWay, 6, none, 5),
  (yX8_add, cX8_add, 2, none, 8),
  (yX5_firstOnTheWay, cX5_firstOnTheWay, 5, (some .int), 5),
  (yX11_routes, cX11_routes, 3, (some .int), 11),
  (yX9_run, cX9_run, 4, none, 9),
  (yX9_follow, cX9_follow, 9, none, 9),
  (yX9_arrive, cX9_arrive, 2, none, 9),
  (yX11_tell_, cX11_tell_, 3, none, 11),
  (yX11_tell, cX11_tell, 2, none, 11),
  (yX11_gates, cX11_gates, 5, (some .int), 11),
  (yX5_hasRoute, cX5_hasRoute, 9, (some .boolean), 5),
  (yX11_trader, cX11_trader, 3, (some .int), 11),
  (yX11_isSum, cX11_isSum, 1, (some .boolean), 11)]
theorem ts_cwg4 : ∀ q ∈ ts_mL_4, ts_cw q ∈ lw_tbl := List.forall_mem_cons.mpr ⟨ts_cw64, List.forall_mem_cons.mpr ⟨ts_cw65, List.forall_mem_cons.mpr ⟨ts_cw66, List.forall_mem_cons.mpr ⟨ts_cw67, List.forall_mem_cons.mpr ⟨ts_cw68, List.forall_mem_cons.mpr ⟨ts_cw69, List.forall_mem_cons.mpr ⟨ts_cw70, List.forall_mem_cons.mpr ⟨ts_cw71, List.forall_mem_cons.mpr ⟨ts_cw72, List.forall_mem_cons.mpr ⟨ts_cw73, List.forall_mem_cons.mpr ⟨ts_cw74, List.forall_mem_cons.mpr ⟨ts_cw75, List.forall_mem_cons.mpr ⟨ts_cw76, List.forall_mem_cons.mpr ⟨ts_cw77, List.forall_mem_cons.mpr ⟨ts_cw78, List.forall_mem_cons.mpr ⟨ts_cw79, List.forall_mem_nil _⟩⟩⟩⟩⟩⟩⟩⟩⟩⟩⟩⟩⟩⟩⟩⟩
def ts_mL_5 : List ts_Y := [
  (yX11_isLevel, cX11_isLevel, 1, (some .boolean), 11),
  (yX1_remember, cX1_remember, 3, none, 1),
  (yX1_latestBefore, cX1_latestBefore, 1, (some (.object "TransitSeals$Ledger")), 1),
  (yX2_copyFrom, cX2_copyFrom, 3, none, 2),
  (yX11_copy, cX11_copy, 3, none, 11),
  (yX4_copyFrom, cX4_copyFrom, 2, none, 4),
  (yX0_copyFrom, cX0_copyFrom, 2, none, 0),
  (yX2_addTrader, cX2_addTrader, 3, (some .int), 2),
  (yX2_setTrader, cX2_setTrader, 4, none, 2),
  (yX11_sums, cX11_sums, 5, (some .int), 11),
  (yX2_hasTrader, cX2_hasTrader, 2, (some .boolean), 2),
  (yX2_sharesOf, cX2_sharesOf, 7, (some .int), 2),
  (yX4_isOpenFor, cX4_isOpenFor, 2, (some .boolean), 4),
  (yX11_inUse, cX11_inUse, 2, (some .int), 11),
  (yX2_sumOf, cX2_sumOf, 2, (some .int), 2),
  (yX2_levelOf, cX2_levelOf, 2, (some .int), 2)]
theorem ts_cwg5 : ∀ q ∈ ts_mL_5, ts_cw q ∈ lw_tbl := List.forall_mem_cons.mpr ⟨ts_cw80, List.forall_mem_cons.mpr ⟨ts_cw81, List.forall_mem_cons.mpr ⟨ts_cw82, List.forall_mem_cons.mpr ⟨ts_cw83, List.forall_mem_cons.mpr ⟨ts_cw84, List.forall_mem_cons.mpr ⟨ts_cw85, List.forall_mem_cons.mpr ⟨ts_cw86, List.forall_mem_cons.mpr ⟨ts_cw87, List.forall_mem_cons.mpr ⟨ts_cw88, List.forall_mem_cons.mpr ⟨ts_cw89, List.forall_mem_cons.mpr ⟨ts_cw90, List.forall_mem_cons.mpr ⟨ts_cw91, List.forall_mem_cons.mpr ⟨ts_cw92, List.forall_mem_cons.mpr ⟨ts_cw93, List.forall_mem_cons.mpr ⟨ts_cw94, List.forall_mem_cons.mpr ⟨ts_cw95, List.forall_mem_nil _⟩⟩⟩⟩⟩⟩⟩⟩⟩⟩⟩⟩⟩⟩⟩⟩
def ts_mL_6 : List ts_Y := [
  (yX2_freeOf, cX2_freeOf, 2, (some .int), 2),
  (yX2_openOf, cX2_openOf, 7, (some .int), 2),
  (yX11_owes, cX11_owes, 2, (some .int), 11),
  (yX2_debtsOf, cX2_debtsOf, 8, (some .int), 2),
  (yX11_starts, cX11_starts, 7, (some .int), 11),
  (yX7_readFrom, cX7_readFrom, 7, none, 7),
  (yX7_officeAt, cX7_officeAt, 2, (some .int), 7),
  (yX5_hasGoods, cX5_hasGoods, 2, (some .boolean), 5),
  (yX2_nextToStart, cX2_nextToStart, 1, (some (.object "TransitSeals$Movement")), 2),
  (yX2_movementAt, cX2_movementAt, 2, (some (.object "TransitSeals$Movement")), 2),
  (yX11_share, cX11_share, 3, (some .int), 11),
  (yX11_partsOf, cX11_partsOf, 1, (some .int), 11),
  (yX4_load, cX4_load, 6, none, 4),
  (yX4_start, cX4_start, 4, none, 4),
  (yX7_termFrom, cX7_termFrom, 2, (some .int), 7),
  (yX2_write, cX2_write, 3, none, 2)]
theorem ts_cwg6 : ∀ q ∈ ts_mL_6, ts_cw q ∈ lw_tbl := List.forall_mem_cons.mpr ⟨ts_cw96, List.forall_mem_cons.mpr ⟨ts_cw97, List.forall_mem_cons.mpr ⟨ts_cw98, List.forall_mem_cons.mpr ⟨ts_cw99, List.forall_mem_cons.mpr ⟨ts_cw100, List.forall_mem_cons.mpr ⟨ts_cw101, List.forall_mem_cons.mpr ⟨ts_cw102, List.forall_mem_cons.mpr ⟨ts_cw103, List.forall_mem_cons.mpr ⟨ts_cw104, List.forall_mem_cons.mpr ⟨ts_cw105, List.forall_mem_cons.mpr ⟨ts_cw106, List.forall_mem_cons.mpr ⟨ts_cw107, List.forall_mem_cons.mpr ⟨ts_cw108, List.forall_mem_cons.mpr ⟨ts_cw109, List.forall_mem_cons.mpr ⟨ts_cw110, List.forall_mem_cons.mpr ⟨ts_cw111, List.forall_mem_nil _⟩⟩⟩⟩⟩⟩⟩⟩⟩⟩⟩⟩⟩⟩⟩⟩
def ts_mL_7 : List ts_Y := [
  (yX0_add, cX0_add, 5, none, 0),
  (yX11_stamps, cX11_stamps, 4, (some .int), 11),
  (yX2_find, cX2_find, 2, (some (.object "TransitSeals$Movement")), 2),
  (yX4_comesTo, cX4_comesTo, 1, (some .int), 4),
  (yX4_stamp, cX4_stamp, 2, none, 4),
  (yX11_breaks, cX11_breaks, 3, (some .int), 11),
  (yX2_brokenSeals, cX2_brokenSeals, 6, (some .int), 2),
  (yX11_controls, cX11_controls, 5, (some .int), 11),
  (yX4_owe, cX4_owe, 2, none, 4),
  (yX11_proves, cX11_proves, 4, (some .int), 11),
  (yX4_step, cX4_step, 2, (some .int), 4),
  (yX11_pays, cX11_pays, 3, (some .int), 11),
  (yX11_hours, cX11_hours, 2, (some .int), 11),
  (yX2_letPass, cX2_letPass, 6, (some .int), 2),
  (yX2_firstToChange, cX2_firstToChange, 7, (some (.object "TransitSeals$Movement")), 2),
  (yX4_changesAt, cX4_changesAt, 1, (some .int), 4)]
theorem ts_cwg7 : ∀ q ∈ ts_mL_7, ts_cw q ∈ lw_tbl := List.forall_mem_cons.mpr ⟨ts_cw112, List.forall_mem_cons.mpr ⟨ts_cw113, List.forall_mem_cons.mpr ⟨ts_cw114, List.forall_mem_cons.mpr ⟨ts_cw115, List.forall_mem_cons.mpr ⟨ts_cw116, List.forall_mem_cons.mpr ⟨ts_cw117, List.forall_mem_cons.mpr ⟨ts_cw118, List.forall_mem_cons.mpr ⟨ts_cw119, List.forall_mem_cons.mpr ⟨ts_cw120, List.forall_mem_cons.mpr ⟨ts_cw121, List.forall_mem_cons.mpr ⟨ts_cw122, List.forall_mem_cons.mpr ⟨ts_cw123, List.forall_mem_cons.mpr ⟨ts_cw124, List.forall_mem_cons.mpr ⟨ts_cw125, List.forall_mem_cons.mpr ⟨ts_cw126, List.forall_mem_cons.mpr ⟨ts_cw127, List.forall_mem_nil _⟩⟩⟩⟩⟩⟩⟩⟩⟩⟩⟩⟩⟩⟩⟩⟩
def ts_mL_8 : List ts_Y := [
  (yX2_change, cX2_change, 3, none, 2),
  (yX11_movement, cX11_movement, 4, (some .int), 11),
  (yX11_stop, cX11_stop, 4, (some .int), 11),
  (yX4_stampedAt, cX4_stampedAt, 2, (some .int), 4),
  (yX11_left, cX11_left, 3, (some .int), 11),
  (yX11_hoursToGo, cX11_hoursToGo, 4, (some .int), 11),
  (yX11_borders, cX11_borders, 7, (some .int), 11),
  (yX11_asked, cX11_asked, 4, (some .int), 11),
  (yX4_officesFrom, cX4_officesFrom, 4, (some .int), 4),
  (yX11_states, cX11_states, 8, (some .int), 11),
  (yX11_owed, cX11_owed, 9, (some .int), 11),
  (yX4_isIndebted, cX4_isIndebted, 1, (some .boolean), 4),
  (yX11_late, cX11_late, 6, (some .int), 11),
  (yX11_isLate, cX11_isLate, 2, (some .boolean), 11),
  (yX11_hourOfArrival, cX11_hourOfArrival, 2, (some .int), 11),
  (yX11_next, cX11_next, 8, (some .int), 11)]
theorem ts_cwg8 : ∀ q ∈ ts_mL_8, ts_cw q ∈ lw_tbl := List.forall_mem_cons.mpr ⟨ts_cw128, List.forall_mem_cons.mpr ⟨ts_cw129, List.forall_mem_cons.mpr ⟨ts_cw130, List.forall_mem_cons.mpr ⟨ts_cw131, List.forall_mem_cons.mpr ⟨ts_cw132, List.forall_mem_cons.mpr ⟨ts_cw133, List.forall_mem_cons.mpr ⟨ts_cw134, List.forall_mem_cons.mpr ⟨ts_cw135, List.forall_mem_cons.mpr ⟨ts_cw136, List.forall_mem_cons.mpr ⟨ts_cw137, List.forall_mem_cons.mpr ⟨ts_cw138, List.forall_mem_cons.mpr ⟨ts_cw139, List.forall_mem_cons.mpr ⟨ts_cw140, List.forall_mem_cons.mpr ⟨ts_cw141, List.forall_mem_cons.mpr ⟨ts_cw142, List.forall_mem_cons.mpr ⟨ts_cw143, List.forall_mem_nil _⟩⟩⟩⟩⟩⟩⟩⟩⟩⟩⟩⟩⟩⟩⟩⟩
def ts_mL_9 : List ts_Y := [
  (yX11_worth, cX11_worth, 8, (some .int), 11),
  (yX11_busiest, cX11_busiest, 5, (some .int), 11),
  (yX2_stillToCome, cX2_stillToCome, 7, (some .int), 2),
  (yX11_can, cX11_can, 6, (some .int), 11),
  (yX11_frees, cX11_frees, 6, (some .int), 11),
  (yX11_fewestFreeing, cX11_fewestFreeing, 4, (some .int), 11),
  (yX2_greatestShares, cX2_greatestShares, 11, (some .int), 2),
  (yX11_leastBitsFreeing, cX11_leastBitsFreeing, 10, (some .int), 11),
  (yX11_when, cX11_when, 10, (some .int), 11),
  (yX11_closingHour, cX11_closingHour, 3, (some .int), 11),
  (yX11_freedUntil, cX11_freedUntil, 8, (some .int), 11),
  (yX11_fits, cX11_fits, 2, (some .int), 11),
  (yX3_readFrom, cX3_readFrom, 4, none, 3),
  (yX3_choose, cX3_choose, 7, none, 3),
  (yX3_together, cX3_together, 5, (some .int), 3),
  (yX3_isBetter, cX3_isBetter, 3, (some .boolean), 3)]
theorem ts_cwg9 : ∀ q ∈ ts_mL_9, ts_cw q ∈ lw_tbl := List.forall_mem_cons.mpr ⟨ts_cw144, List.forall_mem_cons.mpr ⟨ts_cw145, List.forall_mem_cons.mpr ⟨ts_cw146, List.forall_mem_cons.mpr ⟨ts_cw147, List.forall_mem_cons.mpr ⟨ts_cw148, List.forall_mem_cons.mpr ⟨ts_cw149, List.forall_mem_cons.mpr ⟨ts_cw150, List.forall_mem_cons.mpr ⟨ts_cw151, List.forall_mem_cons.mpr ⟨ts_cw152, List.forall_mem_cons.mpr ⟨ts_cw153, List.forall_mem_cons.mpr ⟨ts_cw154, List.forall_mem_cons.mpr ⟨ts_cw155, List.forall_mem_cons.mpr ⟨ts_cw156, List.forall_mem_cons.mpr ⟨ts_cw157, List.forall_mem_cons.mpr ⟨ts_cw158, List.forall_mem_cons.mpr ⟨ts_cw159, List.forall_mem_nil _⟩⟩⟩⟩⟩⟩⟩⟩⟩⟩⟩⟩⟩⟩⟩⟩
def ts_mL_10 : List ts_Y := [
  (yX11_detour, cX11_detour, 1, (some .int), 11),
  (yX11_risk, cX11_risk, 3, (some .int), 11),
  (yX11_tightest, cX11_tightest, 6, (some .int), 11),
  (yX11_book, cX11_book, 3, (some .int), 11),
  (yX0_read, cX0_read, 4, (some .int), 0),
  (yX0_size, cX0_size, 1, (some .int), 0),
  (yX11_written, cX11_written, 2, (some .int), 11),
  (yX11_undo, cX11_undo, 1, (some .int), 11),
  (yX1_takeBack, cX1_takeBack, 3, (some .boolean), 1),
  (yX11_keeps, cX11_keeps, 1, (some .int), 11),
  (yX1_keep, cX1_keep, 2, none, 1),
  (yX11_back, cX11_back, 1, (some .int), 11),
  (yX1_bringBack, cX1_bringBack, 2, (some .boolean), 1),
  (yX11_count, cX11_count, 2, (some .int), 11),
  (yX8_size, cX8_size, 1, (some .int), 8),
  (yX11_row, cX11_row, 2, (some .long), 11)]
theorem ts_cwg10 : ∀ q ∈ ts_mL_10, ts_cw q ∈ lw_tbl := List.forall_mem_cons.mpr ⟨ts_cw160, List.forall_mem_cons.mpr ⟨ts_cw161, List.forall_mem_cons.mpr ⟨ts_cw162, List.forall_mem_cons.mpr ⟨ts_cw163, List.forall_mem_cons.mpr ⟨ts_cw164, List.forall_mem_cons.mpr ⟨ts_cw165, List.forall_mem_cons.mpr ⟨ts_cw166, List.forall_mem_cons.mpr ⟨ts_cw167, List.forall_mem_cons.mpr ⟨ts_cw168, List.forall_mem_cons.mpr ⟨ts_cw169, List.forall_mem_cons.mpr ⟨ts_cw170, List.forall_mem_cons.mpr ⟨ts_cw171, List.forall_mem_cons.mpr ⟨ts_cw172, List.forall_mem_cons.mpr ⟨ts_cw173, List.forall_mem_cons.mpr ⟨ts_cw174, List.forall_mem_cons.mpr ⟨ts_cw175, List.forall_mem_nil _⟩⟩⟩⟩⟩⟩⟩⟩⟩⟩⟩⟩⟩⟩⟩⟩
def ts_mL_11 : List ts_Y := [
  (yX8_numberAt, cX8_numberAt, 2, (some .int), 8),
  (yX12_init, cX12_init, 1, none, 12),
  (yX12_thrown, cX12_thrown, 1, (some .int), 12),
  (yX12_sign, cX12_sign, 3, (some .int), 12),
  (yX12_end, cX12_end, 2, (some .boolean), 12),
  (yX12_in, cX12_in, 6, (some .boolean), 12),
  (yX12_net, cX12_net, 2, (some .int), 12),
  (yX12_begin, cX12_begin, 1, none, 12),
  (yX12_readsNet, cX12_readsNet, 3, none, 12),
  (yX12_readsOffices, cX12_readsOffices, 2, none, 12),
  (yX12_sees, cX12_sees, 1, (some .int), 12),
  (yX12_fault, cX12_fault, 2, none, 12),
  (yX12_number, cX12_number, 6, (some .int), 12),
  (yX12_expect, cX12_expect, 2, none, 12),
  (yX12_readsRoad, cX12_readsRoad, 4, none, 12),
  (yX12_officeNumber, cX12_officeNumber, 2, (some .int), 12)]
theorem ts_cwg11 : ∀ q ∈ ts_mL_11, ts_cw q ∈ lw_tbl := List.forall_mem_cons.mpr ⟨ts_cw176, List.forall_mem_cons.mpr ⟨ts_cw177, List.forall_mem_cons.mpr ⟨ts_cw178, List.forall_mem_cons.mpr ⟨ts_cw179, List.forall_mem_cons.mpr ⟨ts_cw180, List.forall_mem_cons.mpr ⟨ts_cw181, List.forall_mem_cons.mpr ⟨ts_cw182, List.forall_mem_cons.mpr ⟨ts_cw183, List.forall_mem_cons.mpr ⟨ts_cw184, List.forall_mem_cons.mpr ⟨ts_cw185, List.forall_mem_cons.mpr ⟨ts_cw186, List.forall_mem_cons.mpr ⟨ts_cw187, List.forall_mem_cons.mpr ⟨ts_cw188, List.forall_mem_cons.mpr ⟨ts_cw189, List.forall_mem_cons.mpr ⟨ts_cw190, List.forall_mem_cons.mpr ⟨ts_cw191, List.forall_mem_nil _⟩⟩⟩⟩⟩⟩⟩⟩⟩⟩⟩⟩⟩⟩⟩⟩
def ts_mL_12 : List ts_Y := [
  (yX12_road, cX12_road, 3, (some .int), 12),
  (yX12_isOffice, cX12_isOffice, 2, (some .boolean), 12),
  (yX12_hoursOf, cX12_hoursOf, 3, (some .int), 12),
  (yX12_office, cX12_office, 6, (some .int), 12),
  (yX12_goes, cX12_goes, 2, (some .boolean), 12),
  (yX12_state, cX12_state, 2, (some .int), 12),
  (yX12_of, cX12_of, 3, (some .int), 12),
  (yX12_seenAt, cX12_seenAt, 2, (some .int), 12),
  (yX12_way, cX12_way, 5, (some .int), 12),
  (yX12_goesTo, cX12_goesTo, 5, none, 12),
  (yX12_tell, cX12_tell, 3, none, 12),
  (yX12_routes, cX12_routes, 3, (some .int), 12),
  (yX12_findsRoutes, cX12_findsRoutes, 3, (some .boolean), 12),
  (yX12_walks, cX12_walks, 6, none, 12),
  (yX12_ones, cX12_ones, 3, (some .int), 12),
  (yX12_has, cX12_has, 2, (some .boolean), 12)]
theorem ts_cwg12 : ∀ q ∈ ts_mL_12, ts_cw q ∈ lw_tbl := List.forall_mem_cons.mpr ⟨ts_cw192, List.forall_mem_cons.mpr ⟨ts_cw193, List.forall_mem_cons.mpr ⟨ts_cw194, List.forall_mem_cons.mpr ⟨ts_cw195, List.forall_mem_cons.mpr ⟨ts_cw196, List.forall_mem_cons.mpr ⟨ts_cw197, List.forall_mem_cons.mpr ⟨ts_cw198, List.forall_mem_cons.mpr ⟨ts_cw199, List.forall_mem_cons.mpr ⟨ts_cw200, List.forall_mem_cons.mpr ⟨ts_cw201, List.forall_mem_cons.mpr ⟨ts_cw202, List.forall_mem_cons.mpr ⟨ts_cw203, List.forall_mem_cons.mpr ⟨ts_cw204, List.forall_mem_cons.mpr ⟨ts_cw205, List.forall_mem_cons.mpr ⟨ts_cw206, List.forall_mem_cons.mpr ⟨ts_cw207, List.forall_mem_nil _⟩⟩⟩⟩⟩⟩⟩⟩⟩⟩⟩⟩⟩⟩⟩⟩
def ts_mL_13 : List ts_Y := [
  (yX12_gates, cX12_gates, 4, (some .int), 12),
  (yX12_trader, cX12_trader, 3, (some .int), 12),
  (yX12_isSum, cX12_isSum, 2, (some .boolean), 12),
  (yX12_does, cX12_does, 2, none, 12),
  (yX12_sums, cX12_sums, 4, (some .int), 12),
  (yX12_isTrader, cX12_isTrader, 2, (some .boolean), 12),
  (yX12_used, cX12_used, 4, (some .int), 12),
  (yX12_isOpen, cX12_isOpen, 2, (some .boolean), 12),
  (yX12_inUse, cX12_inUse, 2, (some .int), 12),
  (yX12_sumOf, cX12_sumOf, 2, (some .int), 12),
  (yX12_levelOf, cX12_levelOf, 2, (some .int), 12),
  (yX12_free, cX12_free, 2, (some .int), 12),
  (yX12_openSet, cX12_openSet, 4, (some .int), 12),
  (yX12_owes, cX12_owes, 2, (some .int), 12),
  (yX12_debts, cX12_debts, 5, (some .int), 12),
  (yX12_starts, cX12_starts, 7, (some .int), 12)]
theorem ts_cwg13 : ∀ q ∈ ts_mL_13, ts_cw q ∈ lw_tbl := List.forall_mem_cons.mpr ⟨ts_cw208, List.forall_mem_cons.mpr ⟨ts_cw209, List.forall_mem_cons.mpr ⟨ts_cw210, List.forall_mem_cons.mpr ⟨ts_cw211, List.forall_mem_cons.mpr ⟨ts_cw212, List.forall_mem_cons.mpr ⟨ts_cw213, List.forall_mem_cons.mpr ⟨ts_cw214, List.forall_mem_cons.mpr ⟨ts_cw215, List.forall_mem_cons.mpr ⟨ts_cw216, List.forall_mem_cons.mpr ⟨ts_cw217, List.forall_mem_cons.mpr ⟨ts_cw218, List.forall_mem_cons.mpr ⟨ts_cw219, List.forall_mem_cons.mpr ⟨ts_cw220, List.forall_mem_cons.mpr ⟨ts_cw221, List.forall_mem_cons.mpr ⟨ts_cw222, List.forall_mem_cons.mpr ⟨ts_cw223, List.forall_mem_nil _⟩⟩⟩⟩⟩⟩⟩⟩⟩⟩⟩⟩⟩⟩⟩⟩
def ts_mL_14 : List ts_Y := [
  (yX12_readsRoute, cX12_readsRoute, 4, none, 12),
  (yX12_isOnRoute, cX12_isOnRoute, 3, (some .boolean), 12),
  (yX12_isGoods, cX12_isGoods, 2, (some .boolean), 12),
  (yX12_shareBy, cX12_shareBy, 2, (some .int), 12),
  (yX12_sets, cX12_sets, 4, none, 12),
  (yX12_notes, cX12_notes, 5, none, 12),
  (yX12_stamps, cX12_stamps, 5, (some .int), 12),
  (yX12_isMove, cX12_isMove, 2, (some .boolean), 12),
  (yX12_breaks, cX12_breaks, 2, (some .int), 12),
  (yX12_brokenSeals, cX12_brokenSeals, 3, (some .int), 12),
  (yX12_controls, cX12_controls, 4, (some .int), 12),
  (yX12_becomes, cX12_becomes, 4, none, 12),
  (yX12_proves, cX12_proves, 2, (some .int), 12),
  (yX12_stepOf, cX12_stepOf, 2, (some .int), 12),
  (yX12_pays, cX12_pays, 2, (some .int), 12),
  (yX12_hours, cX12_hours, 4, (some .int), 12)]
theorem ts_cwg14 : ∀ q ∈ ts_mL_14, ts_cw q ∈ lw_tbl := List.forall_mem_cons.mpr ⟨ts_cw224, List.forall_mem_cons.mpr ⟨ts_cw225, List.forall_mem_cons.mpr ⟨ts_cw226, List.forall_mem_cons.mpr ⟨ts_cw227, List.forall_mem_cons.mpr ⟨ts_cw228, List.forall_mem_cons.mpr ⟨ts_cw229, List.forall_mem_cons.mpr ⟨ts_cw230, List.forall_mem_cons.mpr ⟨ts_cw231, List.forall_mem_cons.mpr ⟨ts_cw232, List.forall_mem_cons.mpr ⟨ts_cw233, List.forall_mem_cons.mpr ⟨ts_cw234, List.forall_mem_cons.mpr ⟨ts_cw235, List.forall_mem_cons.mpr ⟨ts_cw236, List.forall_mem_cons.mpr ⟨ts_cw237, List.forall_mem_cons.mpr ⟨ts_cw238, List.forall_mem_cons.mpr ⟨ts_cw239, List.forall_mem_nil _⟩⟩⟩⟩⟩⟩⟩⟩⟩⟩⟩⟩⟩⟩⟩⟩
def ts_mL_15 : List ts_Y := [
  (yX12_turns, cX12_turns, 4, (some .int), 12),
  (yX12_dutyOf, cX12_dutyOf, 2, (some .int), 12),
  (yX12_movement, cX12_movement, 3, (some .int), 12),
  (yX12_stop, cX12_stop, 3, (some .int), 12),
  (yX12_left, cX12_left, 3, (some .int), 12),
  (yX12_leftOf, cX12_leftOf, 4, (some .int), 12),
  (yX12_borders, cX12_borders, 6, (some .int), 12),
  (yX12_asked, cX12_asked, 5, (some .int), 12),
  (yX12_states, cX12_states, 5, (some .int), 12),
  (yX12_owed, cX12_owed, 6, (some .int), 12),
  (yX12_late, cX12_late, 3, (some .int), 12),
  (yX12_isLate, cX12_isLate, 2, (some .boolean), 12),
  (yX12_endOf, cX12_endOf, 2, (some .int), 12),
  (yX12_busiest, cX12_busiest, 7, (some .int), 12),
  (yX12_next, cX12_next, 5, (some .int), 12),
  (yX12_worth, cX12_worth, 5, (some .int), 12)]
theorem ts_cwg15 : ∀ q ∈ ts_mL_15, ts_cw q ∈ lw_tbl := List.forall_mem_cons.mpr ⟨ts_cw240, List.forall_mem_cons.mpr ⟨ts_cw241, List.forall_mem_cons.mpr ⟨ts_cw242, List.forall_mem_cons.mpr ⟨ts_cw243, List.forall_mem_cons.mpr ⟨ts_cw244, List.forall_mem_cons.mpr ⟨ts_cw245, List.forall_mem_cons.mpr ⟨ts_cw246, List.forall_mem_cons.mpr ⟨ts_cw247, List.forall_mem_cons.mpr ⟨ts_cw248, List.forall_mem_cons.mpr ⟨ts_cw249, List.forall_mem_cons.mpr ⟨ts_cw250, List.forall_mem_cons.mpr ⟨ts_cw251, List.forall_mem_cons.mpr ⟨ts_cw252, List.forall_mem_cons.mpr ⟨ts_cw253, List.forall_mem_cons.mpr ⟨ts_cw254, List.forall_mem_cons.mpr ⟨ts_cw255, List.forall_mem_nil _⟩⟩⟩⟩⟩⟩⟩⟩⟩⟩⟩⟩⟩⟩⟩⟩
def ts_mL_16 : List ts_Y := [
  (yX12_can, cX12_can, 4, (some .int), 12),
  (yX12_frees, cX12_frees, 9, (some .int), 12),
  (yX12_isShare, cX12_isShare, 1, (some .boolean), 12),
  (yX12_most, cX12_most, 8, (some .int), 12),
  (yX12_when, cX12_when, 8, (some .int), 12),
  (yX12_fits, cX12_fits, 9, (some .int), 12),
  (yX12_readsLoads, cX12_readsLoads, 2, none, 12),
  (yX12_detour, cX12_detour, 1, (some .int), 12),
  (yX12_risk, cX12_risk, 2, (some .int), 12),
  (yX12_tightest, cX12_tightest, 7, (some .int), 12),
  (yX12_book, cX12_book, 3, (some .int), 12),
  (yX12_written, cX12_written, 4, (some .int), 12),
  (yX12_writes, cX12_writes, 2, none, 12),
  (yX12_writesNumber, cX12_writesNumber, 2, none, 12),
  (yX12_undo, cX12_undo, 2, (some .int), 12),
  (yX12_keeps, cX12_keeps, 2, (some .int), 12)]
theorem ts_cwg16 : ∀ q ∈ ts_mL_16, ts_cw q ∈ lw_tbl := List.forall_mem_cons.mpr ⟨ts_cw256, List.forall_mem_cons.mpr ⟨ts_cw257, List.forall_mem_cons.mpr ⟨ts_cw258, List.forall_mem_cons.mpr ⟨ts_cw259, List.forall_mem_cons.mpr ⟨ts_cw260, List.forall_mem_cons.mpr ⟨ts_cw261, List.forall_mem_cons.mpr ⟨ts_cw262, List.forall_mem_cons.mpr ⟨ts_cw263, List.forall_mem_cons.mpr ⟨ts_cw264, List.forall_mem_cons.mpr ⟨ts_cw265, List.forall_mem_cons.mpr ⟨ts_cw266, List.forall_mem_cons.mpr ⟨ts_cw267, List.forall_mem_cons.mpr ⟨ts_cw268, List.forall_mem_cons.mpr ⟨ts_cw269, List.forall_mem_cons.mpr ⟨ts_cw270, List.forall_mem_cons.mpr ⟨ts_cw271, List.forall_mem_nil _⟩⟩⟩⟩⟩⟩⟩⟩⟩⟩⟩⟩⟩⟩⟩⟩
def ts_mL_17 : List ts_Y := [
  (yX12_back, cX12_back, 2, (some .int), 12),
  (yX12_count, cX12_count, 2, (some .int), 12),
  (yX12_row, cX12_row, 2, (some .long), 12),
  (yX12_lost, cX12_lost, 1, (some .int), 12)]
theorem ts_cwg17 : ∀ q ∈ ts_mL_17, ts_cw q ∈ lw_tbl := List.forall_mem_cons.mpr ⟨ts_cw272, List.forall_mem_cons.mpr ⟨ts_cw273, List.forall_mem_cons.mpr ⟨ts_cw274, List.forall_mem_cons.mpr ⟨ts_cw275, List.forall_mem_nil _⟩⟩⟩⟩
/-- the methods: name, bytes, locals, what they answer, their class -/
def ts_mL : List ts_Y := ts_mL_0 ++ (ts_mL_1 ++ (ts_mL_2 ++ (ts_mL_3 ++ (ts_mL_4 ++ (ts_mL_5 ++ (ts_mL_6 ++ (ts_mL_7 ++ (ts_mL_8 ++ (ts_mL_9 ++ (ts_mL_10 ++ (ts_mL_11 ++ (ts_mL_12 ++ (ts_mL_13 ++ (ts_mL_14 ++ (ts_mL_15 ++ (ts_mL_16 ++ (ts_mL_17)))))))))))))))))
theorem ts_wm_in : ∀ q ∈ ts_mL, ts_cw q ∈ lw_tbl := List.forall_mem_append.mpr ⟨ts_cwg0, List.forall_mem_append.mpr ⟨ts_cwg1, List.forall_mem_append.mpr ⟨ts_cwg2, List.forall_mem_append.mpr ⟨ts_cwg3, List.forall_mem_append.mpr ⟨ts_cwg4, List.forall_mem_append.mpr ⟨ts_cwg5, List.forall_mem_append.mpr ⟨ts_cwg6, List.forall_mem_append.mpr ⟨ts_cwg7, List.forall_mem_append.mpr ⟨ts_cwg8, List.forall_mem_append.mpr ⟨ts_cwg9, List.forall_mem_append.mpr ⟨ts_cwg10, List.forall_mem_append.mpr ⟨ts_cwg11, List.forall_mem_append.mpr ⟨ts_cwg12, List.forall_mem_append.mpr ⟨ts_cwg13, List.forall_mem_append.mpr ⟨ts_cwg14, List.forall_mem_append.mpr ⟨ts_cwg15, List.forall_mem_append.mpr ⟨ts_cwg16, ts_cwg17⟩⟩⟩⟩⟩⟩⟩⟩⟩⟩⟩⟩⟩⟩⟩⟩⟩
/-- fields by owner and place in its pool: class, slot -/
def ts_fL : List (Nat × Nat × Nat × Nat) := [(10, 9, 10, 0), (10, 15, 10, 1), (6, 12, 6, 0), (11, 68, 6, 0), (6, 22, 6, 1), (6, 18, 6, 2), (8, 9, 8, 0), (8, 15, 8, 1), (7, 9, 7, 0), (7, 15, 7, 1), (4, 64, 7, 1), (11, 376, 7, 1), (7, 23, 7, 2), (11, 369, 7, 2), (3, 9, 3, 0), (3, 15, 3, 1), (3, 18, 3, 2), (3, 26, 3, 3), (3, 68, 3, 4), (11, 366, 3, 4), (3, 71, 3, 5), (11, 360, 3, 5), (3, 74, 3, 6), (11, 363, 3, 6), (9, 9, 9, 0), (9, 15, 9, 1), (9, 19, 9, 2), (11, 135, 9, 2), (9, 23, 9, 3), (11, 138, 9, 3), (9, 26, 9, 4), (11, 141, 9, 4), (0, 9, 0, 0), (0, 15, 0, 1), (0, 18, 0, 2), (0, 21, 0, 3), (4, 22, 4, 0), (11, 237, 4, 0), (2, 118, 4, 0), (4, 25, 4, 1), (2, 91, 4, 1), (11, 288, 4, 1), (4, 52, 4, 2), (11, 272, 4, 2), (4, 55, 4, 3), (11, 266, 4, 3), (4, 58, 4, 4), (11, 291, 4, 4), (2, 138, 4, 4), (2, 84, 4, 5), (4, 61, 4, 5), (11, 294, 4, 5), (4, 48, 4, 6), (11, 296, 4, 6), (4, 9, 4, 7), (2, 44, 4, 7), (11, 269, 4, 7), (4, 28, 4, 8), (11, 253, 4, 8), (4, 35, 4, 9), (2, 108, 4, 9), (11, 256, 4, 9), (2, 94, 4, 10), (4, 75, 4, 10), (11, 278, 4, 10), (2, 97, 4, 11), (4, 78, 4, 11), (11, 259, 4, 11), (4, 15, 4, 12), (4, 19, 4, 13), (2, 9, 2, 0), (2, 15, 2, 1), (2, 20, 2, 2), (11, 315, 2, 2), (2, 27, 2, 3), (11, 377, 2, 3), (2, 34, 2, 4), (11, 223, 2, 4), (2, 38, 2, 5), (11, 165, 2, 5), (2, 41, 2, 6), (11, 230, 2, 6), (1, 11, 1, 0), (1, 18, 1, 1), (1, 26, 1, 2), (1, 30, 1, 3), (1, 22, 1, 4), (11, 396, 1, 4), (5, 9, 5, 0), (5, 15, 5, 1), (5, 18, 5, 2), (5, 21, 5, 3), (5, 24, 5, 4), (5, 30, 5, 5), (11, 386, 5, 5), (5, 34, 5, 6), (9, 47, 5, 6), (7, 31, 5, 6), (11, 101, 5, 6), (5, 93, 5, 7), (11, 405, 5, 7), (3, 34, 5, 8), (5, 44, 5, 8), (11, 408, 5, 8), (11, 10, 11, 0), (11, 19, 11, 1), (11, 26, 11, 2), (11, 33, 11, 3), (11, 40, 11, 4), (11, 47, 11, 5), (11, 54, 11, 6), (11, 61, 11, 7), (11, 65, 11, 8), (12, 7, 12, 0), (12, 13, 12, 1), (12, 157, 12, 2), (12, 16, 12, 3), (12, 91, 12, 4), (12, 19, 12, 5), (12, 22, 12, 6), (12, 25, 12, 7), (12, 28, 12, 8), (12, 154, 12, 9), (12, 80, 12, 10), (12, 32, 12, 11), (12, 73, 12, 12), (12, 36, 12, 13), (12, 70, 12, 14), (12, 67, 12, 15), (12, 101, 12, 16), (12, 104, 12, 17), (12, 107, 12, 18), (12, 126, 12, 19), (12, 40, 12, 20), (12, 43, 12, 21), (12, 136, 12, 22), (12, 46, 12, 23), (12, 139, 12, 24), (12, 49, 12, 25), (12, 161, 12, 26), (12, 164, 12, 27), (12, 52, 12, 28), (12, 198, 12, 29), (12, 201, 12, 30), (12, 204, 12, 31), (12, 210, 12, 32), (12, 55, 12, 33), (12, 58, 12, 34), (12, 61, 12, 35), (12, 310, 12, 36), (12, 64, 12, 37), (12, 318, 12, 38)]
/-- calls by owner and place: method, parameters, 0 virtual 1 static 2 constructor, 1 where the link is a nest mate's -/
def ts_cL : List (Nat × Nat × Nat × Nat × Nat × Nat) := [(11, 9, 1, 0, 2, 1), (6, 11, 2, 0, 2, 1), (11, 18, 3, 0, 2, 1), (11, 25, 4, 0, 2, 1), (11, 32, 5, 0, 2, 1), (11, 39, 6, 0, 2, 1), (11, 46, 7, 0, 2, 0), (2, 26, 8, 0, 2, 1), (2, 31, 9, 1, 2, 0), (11, 53, 10, 0, 2, 0), (1, 17, 7, 0, 2, 0), (11, 60, 11, 0, 2, 0), (5, 29, 2, 0, 2, 1), (5, 38, 12, 0, 0, 0), (5, 131, 13, 2, 0, 0), (5, 59, 14, 1, 0, 0), (5, 63, 15, 2, 1, 0), (5, 47, 16, 2, 1, 1), (5, 107, 17, 3, 1, 1), (5, 140, 18, 2, 0, 0), (5, 41, 19, 0, 0, 0), (5, 147, 20, 1, 0, 0), (5, 151, 21, 1, 0, 0), (5, 154, 22, 1, 0, 0), (10, 23, 23, 1, 0, 0), (10, 19, 17, 3, 1, 1), (5, 157, 23, 1, 0, 0), (5, 160, 24, 3, 0, 0), (5, 164, 25, 1, 0, 0), (11, 72, 27, 0, 0, 0), (11, 78, 23, 1, 0, 0), (11, 82, 20, 1, 0, 0), (11, 85, 30, 1, 0, 0), (5, 68, 31, 0, 0, 0), (5, 73, 32, 0, 0, 0), (5, 96, 33, 1, 1, 1), (5, 76, 34, 1, 0, 0), (5, 100, 35, 0, 0, 0), (6, 29, 36, 1, 0, 0), (5, 104, 37, 2, 0, 0), (6, 48, 38, 0, 0, 0), (6, 51, 35, 0, 0, 0), (6, 37, 39, 0, 0, 0), (6, 54, 40, 1, 1, 1), (6, 57, 41, 0, 0, 0), (5, 111, 39, 0, 0, 0), (5, 114, 42, 1, 0, 0), (6, 33, 43, 1, 0, 0), (5, 80, 44, 1, 0, 0), (5, 89, 38, 0, 0, 0), (5, 118, 45, 0, 0, 0), (6, 25, 27, 0, 0, 0), (5, 121, 46, 1, 0, 0), (5, 125, 47, 1, 0, 0), (5, 133, 41, 0, 0, 0), (5, 136, 48, 3, 0, 0), (5, 51, 49, 1, 0, 0), (5, 128, 43, 1, 0, 0), (5, 83, 50, 1, 0, 0), (5, 86, 51, 0, 0, 0), (6, 40, 45, 0, 0, 0), (6, 44, 20, 1, 0, 0), (11, 89, 38, 0, 0, 0), (11, 93, 52, 0, 0, 0), (11, 96, 53, 0, 0, 0), (2, 47, 54, 0, 0, 0), (11, 99, 55, 0, 0, 0), (11, 100, 56, 0, 0, 0), (11, 105, 14, 1, 0, 0), (11, 109, 13, 2, 0, 0), (11, 113, 21, 1, 0, 0), (11, 117, 59, 1, 0, 0), (5, 54, 60, 1, 1, 0), (11, 120, 61, 1, 0, 0), (2, 101, 62, 0, 0, 0), (2, 105, 63, 0, 0, 0), (4, 38, 64, 1, 0, 0), (4, 31, 16, 2, 1, 1), (2, 87, 65, 0, 0, 0), (11, 123, 18, 2, 0, 0), (11, 127, 67, 3, 0, 0), (5, 167, 56, 0, 0, 0), (5, 170, 68, 1, 0, 0), (8, 19, 17, 3, 1, 1), (5, 171, 69, 2, 0, 0), (11, 131, 71, 3, 0, 0), (9, 29, 72, 5, 1, 0), (9, 33, 13, 2, 0, 0), (9, 39, 73, 1, 0, 0), (9, 43, 49, 1, 0, 0), (11, 144, 74, 2, 0, 0), (11, 157, 75, 1, 0, 0), (11, 194, 68, 1, 0, 0), (11, 148, 77, 3, 0, 0), (11, 152, 60, 1, 1, 0), (11, 159, 79, 1, 1, 0), (11, 162, 80, 1, 1, 0), (11, 168, 81, 1, 0, 0), (1, 39, 82, 0, 0, 0), (1, 43, 83, 1, 0, 0), (2, 50, 84, 2, 1, 1), (2, 54, 85, 1, 0, 0), (4, 82, 84, 2, 1, 1), (2, 58, 86, 1, 0, 0), (0, 43, 84, 2, 1, 1), (11, 172, 87, 2, 0, 0), (2, 61, 88, 3, 0, 0), (2, 65, 17, 3, 1, 1), (11, 175, 90, 1, 0, 0), (11, 178, 91, 1, 0, 0), (2, 80, 92, 1, 0, 0), (11, 181, 88, 3, 0, 0), (11, 185, 94, 1, 0, 0), (2, 69, 16, 2, 1, 1), (11, 188, 95, 1, 0, 0), (11, 191, 96, 1, 0, 0), (2, 73, 94, 1, 0, 0), (2, 77, 91, 1, 0, 0), (11, 195, 97, 1, 0, 0), (11, 198, 99, 2, 0, 0), (11, 201, 101, 2, 0, 0), (7, 26, 31, 0, 0, 0), (7, 35, 37, 2, 0, 0), (7, 39, 102, 1, 0, 0), (7, 19, 16, 2, 1, 1), (7, 43, 13, 2, 0, 0), (7, 46, 41, 0, 0, 0), (7, 49, 17, 3, 1, 1), (7, 53, 43, 1, 0, 0), (7, 57, 39, 0, 0, 0), (7, 60, 51, 0, 0, 0), (11, 204, 103, 1, 0, 0), (11, 207, 104, 0, 0, 0), (2, 114, 105, 1, 0, 0), (11, 211, 25, 1, 0, 0), (11, 214, 106, 2, 1, 0), (11, 335, 107, 1, 1, 0), (11, 217, 108, 5, 0, 0), (11, 226, 109, 2, 0, 0), (4, 67, 102, 1, 0, 0), (4, 68, 17, 3, 1, 1), (4, 72, 110, 1, 0, 0), (11, 233, 111, 2, 0, 0), (2, 121, 112, 3, 0, 0), (0, 31, 17, 3, 1, 1), (11, 240, 114, 1, 0, 0), (11, 244, 62, 0, 0, 0), (11, 247, 115, 0, 0, 0), (11, 250, 116, 1, 0, 0), (11, 263, 118, 0, 0, 0), (11, 275, 120, 1, 0, 0), (11, 281, 122, 1, 0, 0), (11, 285, 125, 1, 0, 0), (2, 124, 126, 1, 0, 0), (2, 135, 127, 0, 0, 0), (2, 127, 128, 1, 0, 0), (2, 141, 120, 1, 0, 0), (2, 130, 60, 1, 1, 0), (11, 299, 63, 0, 0, 0), (11, 302, 64, 1, 0, 0), (11, 305, 131, 1, 0, 0), (11, 308, 133, 1, 0, 0), (11, 312, 136, 1, 0, 0), (11, 319, 65, 0, 0, 0), (11, 322, 139, 0, 0, 0), (11, 325, 141, 1, 0, 0), (11, 417, 142, 1, 0, 0), (11, 329, 92, 1, 0, 0), (11, 332, 146, 1, 0, 0), (2, 111, 136, 1, 0, 0), (11, 343, 149, 2, 0, 0), (11, 423, 150, 2, 0, 0), (11, 346, 151, 3, 0, 0), (11, 350, 153, 1, 0, 0), (11, 353, 154, 2, 0, 0), (11, 356, 156, 2, 0, 0), (3, 21, 31, 0, 0, 0), (3, 30, 45, 0, 0, 0), (3, 38, 37, 2, 0, 0), (3, 42, 17, 3, 1, 1), (3, 46, 42, 1, 0, 0), (3, 50, 43, 1, 0, 0), (3, 54, 51, 0, 0, 0), (11, 357, 157, 3, 0, 0), (3, 57, 16, 2, 1, 1), (3, 61, 25, 1, 0, 0), (3, 65, 106, 2, 1, 1), (3, 77, 158, 2, 0, 0), (3, 80, 159, 2, 0, 0), (11, 372, 110, 1, 0, 0), (11, 375, 102, 1, 0, 0), (11, 381, 164, 2, 0, 0), (0, 35, 165, 0, 0, 0), (0, 39, 16, 2, 1, 1), (11, 389, 36, 1, 0, 0), (11, 392, 168, 1, 0, 0), (11, 399, 170, 1, 0, 0), (11, 402, 172, 1, 0, 0), (1, 47, 81, 1, 0, 0), (11, 409, 165, 0, 0, 0), (11, 410, 174, 0, 0, 0), (11, 414, 176, 1, 0, 0), (8, 23, 16, 2, 1, 1), (12, 76, 181, 3, 1, 0), (12, 148, 183, 0, 0, 0), (12, 151, 184, 0, 0, 0), (12, 142, 185, 0, 0, 0), (12, 110, 186, 0, 0, 0), (12, 114, 187, 1, 0, 0), (12, 122, 188, 3, 0, 0), (12, 129, 189, 1, 0, 0), (12, 145, 190, 0, 0, 0), (12, 133, 191, 1, 0, 0), (12, 174, 193, 1, 0, 0), (12, 167, 194, 2, 0, 0), (12, 179, 196, 1, 0, 0), (12, 87, 197, 1, 0, 0), (12, 83, 198, 2, 0, 0), (12, 182, 199, 1, 0, 0), (12, 191, 201, 1, 0, 0), (12, 194, 202, 1, 0, 0), (12, 224, 204, 2, 0, 0), (12, 220, 205, 4, 0, 0), (12, 213, 206, 1, 1, 0), (12, 216, 207, 2, 1, 0), (12, 240, 210, 2, 1, 0), (12, 243, 211, 0, 0, 0), (12, 246, 213, 1, 0, 0), (12, 237, 214, 1, 0, 0), (12, 231, 215, 1, 0, 0), (12, 234, 217, 1, 0, 0), (12, 249, 218, 1, 0, 0), (12, 252, 219, 1, 0, 0), (12, 255, 220, 1, 0, 0), (12, 258, 222, 2, 0, 0), (12, 261, 224, 0, 0, 0), (12, 170, 225, 1, 0, 0), (12, 264, 226, 1, 0, 0), (12, 269, 227, 2, 1, 0), (12, 94, 228, 3, 0, 0), (12, 98, 229, 3, 0, 0), (12, 272, 231, 1, 0, 0), (12, 275, 233, 0, 0, 0), (12, 278, 235, 3, 0, 0), (12, 281, 237, 1, 0, 0), (12, 288, 240, 1, 0, 0), (12, 284, 241, 1, 0, 0), (12, 293, 245, 1, 0, 0), (12, 301, 251, 1, 0, 0), (12, 298, 252, 1, 0, 0), (12, 304, 258, 1, 1, 0), (12, 307, 259, 2, 0, 0), (12, 313, 262, 0, 0, 0), (12, 321, 268, 1, 0, 0), (12, 324, 269, 1, 0, 0), (12, 327, 275, 0, 0, 0)]
def ts_oL : List (Nat × Nat) := [(11, 1), (6, 3), (10, 3), (8, 3), (7, 3), (3, 3), (9, 3), (2, 3), (0, 3), (4, 3), (1, 3), (5, 3), (12, 1)]
def ts_nL : List (Nat × Nat) := [(5, 142), (9, 50), (1, 33), (11, 338), (0, 25), (12, 186)]
def ts_xL : List (Nat × Nat) := [(9, 55), (4, 42), (11, 420), (12, 207)]
def ts_iL : List (Nat × Nat × Int32) := [(5, 67, 1000000), (13, 265, 1431655765), (13, 266, 858993459), (13, 267, 252645135), (11, 126, 1000000), (9, 22, 1000000), (11, 426, 999999), (11, 284, 99999), (4, 51, 1000000), (12, 185, 1000000000), (12, 287, 99999)]
def ts_jL : List (Nat × Nat × Int64) := [(12, 118, 48), (12, 120, 57), (12, 177, 2), (12, 227, 999999), (12, 229, 3), (12, 267, 999), (12, 291, -1), (12, 296, 5), (12, 316, 1000)]
def ts_kL : List (Nat × Nat × Nat) := [(11, 7, 6), (6, 9, 10), (11, 16, 8), (11, 23, 7), (11, 30, 3), (11, 37, 9), (11, 44, 2), (2, 18, 4), (2, 24, 0), (11, 51, 1), (1, 9, 2), (11, 58, 5), (5, 27, 10)]
/-! their words, and where they stand -/
def ts_wf : List Cond := ts_fL.map fun e => Cond.fieldLink (ts_cn e.1) e.2.1 (ts_T e.2.2.1 e.2.2.2).1 (ts_T e.2.2.1 e.2.2.2).2.1 (ts_T e.2.2.1 e.2.2.2).2.2.1
set_option maxRecDepth 100000 in
theorem ts_wf_at : ts_wf.map some = ([114, 115, 122, 123, 124, 125, 139, 140, 152, 153, 154, 155, 156, 157, 171, 172, 173, 174, 175, 176, 177, 178, 179, 180, 202, 203, 204, 205, 206, 207, 208, 209, 235, 236, 237, 238, 253, 254, 255, 256, 257, 258, 259, 260, 261, 262, 263, 264, 265, 266, 267, 268, 269, 270, 271, 272, 273, 274, 275, 276, 277, 278, 279, 280, 281, 282, 283, 284, 285, 286, 316, 317, 318, 319, 320, 321, 322, 323, 324, 325, 326, 327, 352, 353, 354, 355, 356, 357, 436, 437, 438, 439, 440, 441, 442, 443, 444, 445, 446, 447, 448, 449, 450, 451, 471, 472, 473, 474, 475, 476, 477, 478, 479, 1249, 1250, 1251, 1252, 1253, 1254, 1255, 1256, 1257, 1258, 1259, 1260, 1261, 1262, 1263, 1264, 1265, 1266, 1267, 1268, 1269, 1270, 1271, 1272, 1273, 1274, 1275, 1276, 1277, 1278, 1279, 1280, 1281, 1282, 1283, 1284, 1285, 1286, 1287] : List Nat).map (fun i => lw_tbl[i]?) := by decide +kernel
def ts_wi : List Cond := ts_mL.map fun q => Cond.initialized q.1.cls
set_option maxRecDepth 100000 in
theorem ts_wi_at : ts_wi.map some = ([75, 76, 77, 78, 79, 80, 81, 82, 83, 84, 85, 86, 86, 86, 86, 86, 75, 75, 86, 86, 77, 86, 77, 77, 86, 86, 75, 77, 75, 75, 86, 76, 86, 75, 86, 76, 77, 76, 76, 76, 75, 76, 76, 76, 86, 76, 76, 86, 86, 86, 86, 76, 76, 82, 83, 85, 78, 75, 75, 86, 89, 82, 84, 84, 84, 84, 75, 86, 78, 86, 75, 81, 81, 81, 75, 75, 75, 86, 75, 75, 75, 85, 85, 82, 75, 84, 83, 82, 82, 75, 82, 82, 84, 75, 82, 82, 82, 82, 75, 82, 75, 79, 79, 86, 82, 82, 75, 75, 84, 84, 79, 82, 83, 75, 82, 84, 84, 75, 82, 75, 84, 75, 84, 75, 75, 82, 82, 84, 82, 75, 75, 84, 75, 75, 75, 75, 84, 75, 75, 84, 75, 75, 75, 75, 75, 75, 82, 75, 75, 75, 82, 75, 75, 75, 75, 75, 80, 80, 80, 80, 75, 75, 75, 75, 83, 83, 75, 75, 85, 75, 85, 75, 85, 75, 78, 75, 78, 88, 88, 88, 88, 88, 88, 88, 88, 88, 88, 88, 88, 88, 88, 88, 88, 88, 88, 88, 88, 88, 88, 88, 88, 88, 88, 88, 88, 88, 88, 88, 88, 88, 88, 88, 88, 88, 88, 88, 88, 88, 88, 88, 88, 88, 88, 88, 88, 88, 88, 88, 88, 88, 88, 88, 88, 88, 88, 88, 88, 88, 88, 88, 88, 88, 88, 88, 88, 88, 88, 88, 88, 88, 88, 88, 88, 88, 88, 88, 88, 88, 88, 88, 88, 88, 88, 88, 88, 88, 88, 88, 88, 88, 88, 88, 88, 88, 88, 88] : List Nat).map (fun i => lw_tbl[i]?) := by decide +kernel
def ts_st (q : ts_Y) : Bool := match q.1 with
  | ⟨"TransitSeals", "copy", "([I[I)V"⟩ => true
  | ⟨"TransitSeals", "digitsOf", "(I)I"⟩ => true
  | ⟨"TransitSeals", "isLevel", "(I)Z"⟩ => true
  | ⟨"TransitSeals", "isSum", "(I)Z"⟩ => true
  | ⟨"TransitSeals", "numberIn", "([II)I"⟩ => true
  | ⟨"TransitSeals", "partsOf", "(I)I"⟩ => true
  | ⟨"TransitSeals", "put", "([III)V"⟩ => true
  | ⟨"TransitSeals", "share", "(II)I"⟩ => true
  | ⟨"TransitSeals", "wipe", "([I)V"⟩ => true
  | ⟨"TransitSeals$Net", "pair", "(II)I"⟩ => true
  | ⟨"TransitSeals$Search", "follow", "(LTransitSeals$Search;IIII)V"⟩ => true
  | ⟨"TransitSealsModel", "has", "(II)Z"⟩ => true
  | ⟨"TransitSealsModel", "in", "(JJJ)Z"⟩ => true
  | ⟨"TransitSealsModel", "isShare", "(I)Z"⟩ => true
  | ⟨"TransitSealsModel", "isSum", "(II)Z"⟩ => true
  | ⟨"TransitSealsModel", "ones", "(I)I"⟩ => true
  | ⟨"TransitSealsModel", "shareBy", "(II)I"⟩ => true
  | ⟨"java/lang/Integer", "bitCount", "(I)I"⟩ => true
  | _ => false
def ts_wk : List Cond := ts_mL.map fun q => if ts_st q then Cond.static q.1 else Cond.instanceMethod q.1
set_option maxRecDepth 100000 in
theorem ts_wk_at : ts_wk.map some = ([97, 105, 111, 136, 149, 168, 199, 224, 232, 250, 346, 372, 379, 382, 386, 390, 393, 397, 400, 408, 411, 415, 419, 423, 430, 433, 500, 504, 509, 514, 518, 522, 527, 530, 534, 537, 541, 545, 549, 554, 558, 561, 566, 570, 575, 579, 584, 589, 594, 597, 603, 606, 613, 617, 621, 625, 629, 633, 639, 644, 648, 654, 658, 662, 666, 671, 675, 681, 686, 692, 695, 699, 704, 709, 718, 722, 726, 730, 735, 739, 743, 746, 752, 755, 759, 762, 767, 772, 776, 781, 785, 789, 793, 798, 802, 807, 811, 817, 821, 825, 829, 833, 839, 850, 854, 859, 863, 866, 869, 873, 879, 883, 887, 892, 896, 901, 905, 909, 913, 917, 921, 925, 929, 933, 937, 942, 947, 950, 956, 961, 966, 971, 975, 980, 983, 987, 991, 996, 1001, 1005, 1009, 1014, 1018, 1021, 1025, 1030, 1034, 1039, 1044, 1049, 1052, 1057, 1060, 1065, 1070, 1073, 1077, 1088, 1096, 1100, 1103, 1109, 1113, 1117, 1121, 1125, 1131, 1136, 1140, 1144, 1148, 1152, 1156, 1161, 1166, 1174, 1239, 1246, 1370, 1374, 1378, 1382, 1385, 1390, 1394, 1398, 1402, 1406, 1410, 1416, 1420, 1424, 1427, 1432, 1436, 1439, 1445, 1449, 1453, 1457, 1460, 1465, 1471, 1474, 1479, 1483, 1487, 1490, 1493, 1497, 1501, 1507, 1510, 1515, 1519, 1523, 1526, 1531, 1535, 1539, 1543, 1546, 1551, 1554, 1559, 1563, 1567, 1571, 1575, 1579, 1582, 1587, 1590, 1595, 1598, 1603, 1606, 1611, 1614, 1618, 1624, 1628, 1631, 1635, 1640, 1645, 1648, 1652, 1656, 1661, 1665, 1670, 1674, 1677, 1681, 1685, 1689, 1693, 1697, 1701, 1704, 1708, 1713, 1716, 1720, 1724, 1729, 1733, 1738, 1742, 1745, 1749, 1753, 1757, 1761, 1766] : List Nat).map (fun i => lw_tbl[i]?) := by decide +kernel
def ts_vL : List Nat := [12, 13, 14, 18, 19, 20, 21, 22, 23, 24, 25, 27, 30, 31, 32, 34, 35, 36, 37, 38, 39, 41, 42, 43, 44, 45, 46, 47, 48, 49, 50, 51, 52, 53, 54, 55, 56, 59, 61, 62, 63, 64, 65, 67, 68, 69, 71, 73, 74, 75, 77, 81, 82, 83, 85, 86, 87, 88, 90, 91, 92, 94, 95, 96, 97, 99, 101, 102, 103, 104, 105, 108, 109, 110, 111, 112, 114, 115, 116, 118, 120, 122, 125, 126, 127, 128, 131, 133, 136, 139, 141, 142, 146, 149, 150, 151, 153, 154, 156, 157, 158, 159, 164, 165, 168, 170, 172, 174, 176, 183, 184, 185, 186, 187, 188, 189, 190, 191, 193, 194, 196, 197, 198, 199, 201, 202, 204, 205, 211, 213, 214, 215, 217, 218, 219, 220, 222, 224, 225, 226, 228, 229, 231, 233, 235, 237, 240, 241, 245, 251, 252, 259, 262, 268, 269, 275]
def ts_wv : List Cond := ts_vL.map fun k => match ts_mL[k]? with | some q => Cond.selects q.1.cls q.1 q.1 | none => Cond.tt
set_option maxRecDepth 100000 in
theorem ts_wv_at : ts_wv.map some = ([0, 383, 387, 401, 1, 412, 416, 420, 424, 2, 434, 505, 519, 523, 3, 4, 538, 542, 546, 550, 555, 562, 567, 571, 5, 580, 585, 6, 7, 598, 8, 607, 614, 618, 622, 626, 630, 645, 655, 659, 663, 667, 672, 682, 687, 9, 700, 10, 11, 12, 731, 747, 13, 756, 763, 768, 773, 777, 786, 790, 794, 803, 808, 812, 818, 826, 834, 840, 851, 855, 14, 870, 874, 880, 884, 888, 897, 902, 906, 914, 922, 930, 943, 15, 951, 16, 972, 17, 992, 1006, 18, 19, 1035, 20, 1053, 21, 22, 23, 1078, 1089, 24, 25, 1122, 1126, 1141, 1149, 1157, 1167, 1240, 27, 28, 29, 30, 31, 32, 33, 34, 35, 36, 37, 38, 39, 40, 41, 42, 43, 44, 45, 46, 47, 48, 49, 50, 51, 52, 53, 54, 55, 56, 57, 58, 59, 60, 61, 62, 63, 64, 65, 66, 67, 68, 69, 70, 71, 72, 73] : List Nat).map (fun i => lw_tbl[i]?) := by decide +kernel
def ts_wc : List Cond := (ts_cL.filter fun e => e.2.2.2.2.2 == 0).map fun e => match ts_mL[e.2.2.1]? with | some q => Cond.methodLink (ts_cn e.1) e.2.1 q.1 | none => Cond.tt
set_option maxRecDepth 100000 in
theorem ts_wc_at : ts_wc.map some = ([223, 249, 345, 351, 371, 377, 381, 385, 389, 399, 406, 410, 414, 418, 422, 427, 428, 432, 503, 507, 512, 517, 521, 525, 532, 536, 540, 544, 548, 552, 553, 560, 564, 565, 569, 573, 577, 578, 582, 583, 587, 591, 592, 596, 600, 601, 605, 609, 610, 611, 612, 616, 620, 624, 628, 636, 637, 642, 643, 647, 653, 657, 661, 665, 670, 678, 680, 684, 685, 690, 698, 703, 706, 707, 715, 716, 720, 724, 729, 733, 738, 742, 745, 750, 754, 761, 766, 771, 775, 784, 788, 792, 796, 801, 806, 810, 814, 815, 816, 824, 832, 836, 837, 838, 843, 844, 846, 847, 848, 849, 853, 857, 861, 862, 865, 868, 872, 876, 878, 882, 886, 895, 899, 900, 904, 912, 920, 928, 941, 945, 949, 954, 958, 959, 964, 969, 970, 978, 990, 999, 1004, 1012, 1016, 1028, 1033, 1037, 1047, 1051, 1055, 1063, 1068, 1076, 1080, 1081, 1082, 1084, 1085, 1086, 1087, 1092, 1094, 1098, 1106, 1107, 1120, 1124, 1134, 1139, 1147, 1155, 1159, 1164, 1165, 1238, 1381, 1388, 1392, 1396, 1400, 1404, 1408, 1414, 1418, 1422, 1430, 1434, 1443, 1447, 1451, 1455, 1463, 1469, 1477, 1481, 1486, 1489, 1500, 1505, 1513, 1517, 1521, 1529, 1533, 1537, 1541, 1549, 1557, 1561, 1565, 1570, 1573, 1577, 1585, 1593, 1601, 1609, 1622, 1626, 1643, 1668, 1672, 1696, 1699, 1711, 1736, 1740, 1764] : List Nat).map (fun i => lw_tbl[i]?) := by decide +kernel
def ts_wn : List Cond := (ts_cL.filter fun e => e.2.2.2.2.2 == 1).map fun e => match ts_mL[e.2.2.1]? with | some q => Cond.methodLinkNest (ts_cn e.1) e.2.1 q.1 RX11 | none => Cond.tt
set_option maxRecDepth 100000 in
theorem ts_wn_at : ts_wn.map some = ([104, 110, 135, 148, 167, 198, 231, 376, 392, 396, 426, 529, 557, 669, 689, 758, 765, 770, 779, 805, 842, 845, 877, 890, 1083, 1091, 1093, 1129, 1242] : List Nat).map (fun i => lw_tbl[i]?) := by decide +kernel
def ts_wo : List Cond := ts_oL.map fun e => Cond.methodLink (ts_cn e.1) e.2 objectInit
set_option maxRecDepth 100000 in
theorem ts_wo_at : ts_wo.map some = ([99, 107, 113, 138, 151, 170, 201, 226, 234, 252, 348, 374, 1248] : List Nat).map (fun i => lw_tbl[i]?) := by decide +kernel
def ts_wo2 : List Cond := [Cond.instanceMethod objectInit, Cond.code objectInit ⟨#[0xb1]⟩ 1 none]
set_option maxRecDepth 100000 in
theorem ts_wo2_at : ts_wo2.map some = ([100, 101] : List Nat).map (fun i => lw_tbl[i]?) := by decide +kernel
def ts_wx : List Cond := ts_xL.map fun e => Cond.methodLink (ts_cn e.1) e.2 Lib.Math.max.name
set_option maxRecDepth 100000 in
theorem ts_wx_at : ts_wx.map some = ([712, 994, 1067, 1485] : List Nat).map (fun i => lw_tbl[i]?) := by decide +kernel
def ts_wy : List Cond := ts_nL.map fun e => Cond.methodLink (ts_cn e.1) e.2 Lib.Math.min.name
set_option maxRecDepth 100000 in
theorem ts_wy_at : ts_wy.map some = ([403, 711, 749, 1042, 1128, 1468] : List Nat).map (fun i => lw_tbl[i]?) := by decide +kernel
def ts_wz : List Cond := [Cond.static Lib.Math.max.name, Cond.code Lib.Math.max.name Lib.Math.max.code 2 (some .int), Cond.static Lib.Math.min.name, Cond.code Lib.Math.min.name Lib.Math.min.code 2 (some .int), Cond.initialized "java/lang/Math"]
set_option maxRecDepth 100000 in
theorem ts_wz_at : ts_wz.map some = ([713, 714, 404, 405, 87] : List Nat).map (fun i => lw_tbl[i]?) := by decide +kernel
def ts_wI : List Cond := ts_iL.map fun e => Cond.constant (ts_cn e.1) e.2.1 e.2.2
set_option maxRecDepth 100000 in
theorem ts_wI_at : ts_wI.map some = ([395, 650, 651, 652, 679, 702, 741, 940, 953, 1467, 1621] : List Nat).map (fun i => lw_tbl[i]?) := by decide +kernel
def ts_wJ : List Cond := ts_jL.map fun e => Cond.constantLong (ts_cn e.1) e.2.1 e.2.2
set_option maxRecDepth 100000 in
theorem ts_wJ_at : ts_wJ.map some = ([1412, 1413, 1442, 1503, 1504, 1569, 1638, 1659, 1727] : List Nat).map (fun i => lw_tbl[i]?) := by decide +kernel
def ts_wK : List Cond := ts_kL.map fun e => Cond.classLink (ts_cn e.1) e.2.1 (ts_cn e.2.2)
set_option maxRecDepth 100000 in
theorem ts_wK_at : ts_wK.map some = ([102, 108, 133, 146, 165, 196, 221, 227, 229, 343, 349, 369, 375] : List Nat).map (fun i => lw_tbl[i]?) := by decide +kernel
def ts_wL : List Cond := (List.range 13).map fun c => Cond.instantiable (ts_cn c) (ts_N c)
set_option maxRecDepth 100000 in
theorem ts_wL_at : ts_wL.map some = ([230, 344, 222, 166, 248, 370, 103, 147, 134, 197, 109, 95, 1244] : List Nat).map (fun i => lw_tbl[i]?) := by decide +kernel
def ts_wM : List Cond := (List.range 13).map fun c => Cond.initialized (ts_cn c)
set_option maxRecDepth 100000 in
theorem ts_wM_at : ts_wM.map some = ([83, 85, 82, 80, 84, 86, 76, 79, 78, 81, 77, 75, 88] : List Nat).map (fun i => lw_tbl[i]?) := by decide +kernel
def ts_wA : List Cond := [Cond.arrayClass .int, Cond.arrayClass .byte, Cond.arrayClass .long, Cond.arrayOver (.object RX4), Cond.arrayOver (.object RX2)]
set_option maxRecDepth 100000 in
theorem ts_wA_at : ts_wA.map some = ([121, 1367, 1368, 228, 350] : List Nat).map (fun i => lw_tbl[i]?) := by decide +kernel
def ts_wl : List Cond := (List.range 13).flatMap fun c => u_ws (ts_cn c) (ts_T c) (ts_N c)
set_option maxRecDepth 100000 in
theorem ts_wl_at : ts_wl.map some = ([239, 241, 243, 245, 358, 360, 362, 364, 366, 328, 330, 332, 334, 336, 338, 340, 181, 183, 185, 187, 189, 191, 193, 287, 289, 291, 293, 295, 297, 299, 301, 303, 305, 307, 309, 311, 313, 452, 454, 456, 458, 460, 462, 464, 466, 468, 126, 128, 130, 158, 160, 162, 141, 143, 210, 212, 214, 216, 218, 116, 118, 480, 482, 484, 486, 488, 490, 492, 494, 496, 1288, 1290, 1292, 1294, 1296, 1298, 1300, 1302, 1304, 1306, 1308, 1310, 1312, 1314, 1316, 1318, 1320, 1322, 1324, 1326, 1328, 1330, 1332, 1334, 1336, 1338, 1340, 1342, 1344, 1346, 1348, 1350, 1352, 1354, 1356, 1358, 1360, 1362, 1364] : List Nat).map (fun i => lw_tbl[i]?) := by decide +kernel
end
section
/-! ===== the interpreter: values (int, long, reference), a memory of numbered cells, one step, many steps, calls by depth ===== -/
abbrev ts_V : Type := Int32 ⊕ (Int64 ⊕ Option Nat)
abbrev ts_M : Type := (Nat → Nat → Int32) × (Nat → Nat → Int64) × (Nat → Nat → Option Nat) × Nat
abbrev ts_F : Type := Nat × List (Option ts_V) × List ts_V × ts_M
abbrev ts_R : Type := Option ts_V × ts_M
abbrev ts_C : Type := Nat → List ts_V → ts_M → Option ts_R
/-- what each cell is: 0 an object of a class, 1 int[], 2 byte[], 3 long[], 4 Movement[], 5 Ledger[] of a length -/
def ts_sLed : List (Nat × Nat) := [(0, 2), (1, 6), (1, 6), (4, 20), (0, 0), (1, 30), (1, 30), (1, 30)] ++ (List.range 20).flatMap fun _ => [(0, 4), (1, 8), (1, 8)]
def ts_sNet : List (Nat × Nat) := [(0, 5), (1, 12), (1, 6), (1, 144), (1, 144), (1, 12), (0, 10), (1, 200)]
def ts_sAll : List (Nat × Nat) := [(0, 11), (0, 6), (0, 10), (1, 200), (0, 8), (1, 12), (0, 7), (1, 8), (0, 3), (1, 8), (1, 8), (1, 8), (0, 9)] ++ ts_sLed ++ [(0, 1), (5, 8)] ++ (List.range 9).flatMap (fun _ => ts_sLed) ++ ts_sNet ++ ts_sNet ++
  [(0, 12), (1, 626), (1, 626), (1, 5008), (1, 12), (1, 144), (1, 6), (2, 200), (3, 32), (1, 12), (1, 144), (1, 6), (1, 8), (1, 12), (1, 8), (1, 8), (1, 8), (2, 512), (3, 1)]
def ts_sh (k : Nat) : Nat × Nat := ts_sAll.getD k (9, 0)
def ts_NN : Nat := 730
def ts_sz1 (k : Nat) : Nat := if (ts_sh k).1 = 0 then ts_N (ts_sh k).2 else (ts_sh k).2
def ts_sz (n : Nat) : Nat := ((List.range n).map ts_sz1).sum
def ts_isr : FieldType → Bool
  | .object _ => true
  | .array _ => true
  | _ => false
def ts_gv (c k : Nat) (M : ts_M) (a : Nat) : ts_V := if ts_isr (ts_ty c k) then .inr (.inr (M.2.2.1 a k)) else .inl (M.1 a k)
def ts_up {α : Type} (f : Nat → Nat → α) (a j : Nat) (v : α) : Nat → Nat → α := fun b k => if b = a ∧ k = j then v else f b k
def ts_fr {α : Type} (f : Nat → Nat → α) (a : Nat) (v : α) : Nat → Nat → α := fun b k => if b = a then v else f b k
def ts_wrI (M : ts_M) (a j : Nat) (v : Int32) : ts_M := (ts_up M.1 a j v, M.2.1, M.2.2.1, M.2.2.2)
def ts_wrL (M : ts_M) (a j : Nat) (v : Int64) : ts_M := (M.1, ts_up M.2.1 a j v, M.2.2.1, M.2.2.2)
def ts_wrR (M : ts_M) (a j : Nat) (v : Option Nat) : ts_M := (M.1, M.2.1, ts_up M.2.2.1 a j v, M.2.2.2)
def ts_new (M : ts_M) : ts_M := (ts_fr M.1 M.2.2.2 0, ts_fr M.2.1 M.2.2.2 0, ts_fr M.2.2.1 M.2.2.2 none, M.2.2.2 + 1)
def ts_lget (ls : List (Option ts_V)) (i : Nat) : Option ts_V := (ls[i]?).join
def ts_isl : Option ts_V → Bool
  | some (.inr (.inl _)) => true
  | _ => false
/-- storing: a long's second half goes, a long that ends here goes -/
def ts_nol : Option ts_V → Option ts_V
  | some (.inr (.inl _)) => none
  | o => o
def ts_lset (ls : List (Option ts_V)) (i : Nat) (v : ts_V) : List (Option ts_V) :=
  if ts_isl (some v) then ((ls.set (i - 1) (ts_nol (ts_lget ls (i - 1)))).set (i + 1) none).set i (some v) else (ls.set (i - 1) (ts_nol (ts_lget ls (i - 1)))).set i (some v)
def ts_fld (o i : Nat) : Option (Nat × Nat) := (ts_fL.find? fun e => e.1 == o && e.2.1 == i).map fun e => e.2.2
def ts_cal (o i : Nat) : Option (Nat × Nat × Nat × Nat) := (ts_cL.find? fun e => e.1 == o && e.2.1 == i).map fun e => e.2.2
def ts_cI (o i : Nat) : Option Int32 := (ts_iL.find? fun e => e.1 == o && e.2.1 == i).map fun e => e.2.2
def ts_cJ (o i : Nat) : Option Int64 := (ts_jL.find? fun e => e.1 == o && e.2.1 == i).map fun e => e.2.2
def ts_cK (o i : Nat) : Option Nat := (ts_kL.find? fun e => e.1 == o && e.2.1 == i).map fun e => e.2.2
/-- 1 Object's constructor, 2 Math.min, 3 Math.max -/
def ts_bi (o i : Nat) : Nat := if ts_oL.any (fun e => e.1 == o && e.2 == i) then 1 else if ts_nL.any (fun e => e.1 == o && e.2 == i) then 2 else if ts_xL.any (fun e => e.1 == o && e.2 == i) then 3 else 0
def ts_cls (y : Nat) : Nat := match ts_mL[y]? with
  | some q => q.2.2.2.2
  | none => 99
def ts_len (i : Instr) (l : Nat) : Nat := match i with
  | .tableswitch _ _ _ _ => l
  | .aload _ | .iload _ | .lload _ | .astore _ | .istore _ | .lstore _ | .bipush _ | .ldc _ | .newarray _ => 2
  | .iinc _ _ | .sipush _ | .getfield _ | .putfield _ | .goto _ | .if_icmp _ _ | .ifCond _ _ | .ifnull _ | .ifnonnull _ | .invokespecial _ | .invokestatic _ | .invokevirtual _ | .new _ | .anewarray _ | .ldc_w _ | .ldc2_w _ => 3
  | _ => 1
def ts_jmp (pc : Nat) (off : Int) : Option Nat := match (pc : Int) + off with
  | .ofNat t => some t
  | .negSucc _ => none
def ts_to (pc : Nat) (off : Int) (ls : List (Option ts_V)) (st : List ts_V) (M : ts_M) : Option (ts_F ⊕ ts_R) := match ts_jmp pc off with
  | some t => some (.inl (t, ls, st, M))
  | none => none
def ts_br (c : Prop) [Decidable c] (pc : Nat) (off : Int) (ls : List (Option ts_V)) (st : List ts_V) (M : ts_M) : Option (ts_F ⊕ ts_R) := match ts_jmp pc off with
  | some t => if c then some (.inl (t, ls, st, M)) else some (.inl (pc + 3, ls, st, M))
  | none => none
/-- what a method answers: 0 nothing, 1 an int, 2 a long, 3 a reference -/
def ts_knd (y : Nat) : Nat := match ts_mL[y]? with
  | some q => match q.2.2.2.1 with
    | none => 0
    | some .long => 2
    | some (.object _) => 3
    | some _ => 1
  | none => 9
def ts_back (k : Nat) (r : Option ts_R) (pc : Nat) (ls : List (Option ts_V)) (st : List ts_V) : Option (ts_F ⊕ ts_R) := match r with
  | some (none, M) => if k = 0 then some (.inl (pc + 3, ls, st, M)) else none
  | some (some (.inl v), M) => if k = 1 then some (.inl (pc + 3, ls, .inl v :: st, M)) else none
  | some (some (.inr (.inl v)), M) => if k = 2 then some (.inl (pc + 3, ls, .inr (.inl v) :: st, M)) else none
  | some (some (.inr (.inr v)), M) => if k = 3 then some (.inl (pc + 3, ls, .inr (.inr v) :: st, M)) else none
  | none => none
def ts_cat1 : ts_V → Bool
  | .inr (.inl _) => false
  | _ => true
/-- the fields that hold another object later: TransitSeals.net, draft, Search.net -/
def ts_mu (c k : Nat) : Bool := (c == 11 && (k == 7 || k == 8)) || (c == 9 && k == 0)
def ts_step (call : ts_C) (Y : ts_Y) (i : Instr) (len pc : Nat) (ls : List (Option ts_V)) (st : List ts_V) (M : ts_M) : Option (ts_F ⊕ ts_R) := match i with
  | .aaload => match st with
    | .inl j :: .inr (.inr (some a)) :: r => if ((ts_sh a).1 = 4 ∨ (ts_sh a).1 = 5) ∧ a < M.2.2.2 ∧ 0 ≤ j ∧ j.toNatClampNeg < (ts_sh a).2 then some (.inl (pc + 1, ls, .inr (.inr (M.2.2.1 a j.toNatClampNeg)) :: r, M)) else none
    | _ => none
  | .aastore => match st with
    | .inr (.inr (some v)) :: .inl j :: .inr (.inr (some a)) :: r => if ((ts_sh a).1 = 4 ∧ ts_sh v = (0, 4) ∨ (ts_sh a).1 = 5 ∧ ts_sh v = (0, 2)) ∧ v < M.2.2.2 ∧ a < M.2.2.2 ∧ 0 ≤ j ∧ j.toNatClampNeg < (ts_sh a).2 then some (.inl (pc + 1, ls, r, ts_wrR M a j.toNatClampNeg (some v))) else none
    | _ => none
  | .aconst_null => some (.inl (pc + 1, ls, .inr (.inr none) :: st, M))
  | .aload n => match ts_lget ls n with
    | some (.inr (.inr o)) => some (.inl (pc + 2, ls, .inr (.inr o) :: st, M))
    | _ => none
  | .aload_n n => match ts_lget ls n with
    | some (.inr (.inr o)) => some (.inl (pc + 1, ls, .inr (.inr o) :: st, M))
    | _ => none
  | .anewarray x => match st with
    | .inl n :: r => if ((ts_cK Y.2.2.2.2 x = some 4 ∧ ts_sh M.2.2.2 = (4, n.toNatClampNeg)) ∨ (ts_cK Y.2.2.2.2 x = some 2 ∧ ts_sh M.2.2.2 = (5, n.toNatClampNeg))) ∧ 0 ≤ n ∧ n.toNatClampNeg ≤ 10000 ∧ M.2.2.2 < ts_NN then some (.inl (pc + 3, ls, .inr (.inr (some M.2.2.2)) :: r, ts_new M)) else none
    | _ => none
  | .areturn => match st with
    | [.inr (.inr o)] => match Y.2.2.2.1 with
      | some (.object _) => some (.inr (some (.inr (.inr o)), M))
      | _ => none
    | _ => none
  | .arraylength => match st with
    | .inr (.inr (some a)) :: r => if 1 ≤ (ts_sh a).1 ∧ (ts_sh a).1 ≤ 5 ∧ a < M.2.2.2 then some (.inl (pc + 1, ls, .inl (Int32.ofNat (ts_sh a).2) :: r, M)) else none
    | _ => none
  | .astore n => match st with
    | .inr (.inr o) :: r => if n < Y.2.2.1 then some (.inl (pc + 2, ts_lset ls n (.inr (.inr o)), r, M)) else none
    | _ => none
  | .astore_n n => match st with
    | .inr (.inr o) :: r => if (n : Nat) < Y.2.2.1 then some (.inl (pc + 1, ts_lset ls n (.inr (.inr o)), r, M)) else none
    | _ => none
  | .baload => match st with
    | .inl j :: .inr (.inr (some a)) :: r => if (ts_sh a).1 = 2 ∧ a < M.2.2.2 ∧ 0 ≤ j ∧ j.toNatClampNeg < (ts_sh a).2 then some (.inl (pc + 1, ls, .inl (M.1 a j.toNatClampNeg) :: r, M)) else none
    | _ => none
  | .bastore => match st with
    | .inl v :: .inl j :: .inr (.inr (some a)) :: r => if (ts_sh a).1 = 2 ∧ a < M.2.2.2 ∧ 0 ≤ j ∧ j.toNatClampNeg < (ts_sh a).2 then some (.inl (pc + 1, ls, r, ts_wrI M a j.toNatClampNeg (vp_nar .byte v))) else none
    | _ => none
  | .bipush n => some (.inl (pc + 2, ls, .inl (Int8.ofInt n).toInt32 :: st, M))
  | .dup => match st with
    | v :: r => if ts_cat1 v then some (.inl (pc + 1, ls, v :: v :: r, M)) else none
    | _ => none
  | .dup_x1 => match st with
    | v :: u :: r => if ts_cat1 v ∧ ts_cat1 u then some (.inl (pc + 1, ls, v :: u :: v :: r, M)) else none
    | _ => none
  | .dup2 => match st with
    | v :: u :: r => if ts_cat1 v ∧ ts_cat1 u then some (.inl (pc + 1, ls, v :: u :: v :: u :: r, M)) else none
    | _ => none
  | .getfield x => match st with
    | .inr (.inr (some a)) :: r => match ts_fld Y.2.2.2.2 x with
      | some (c, k) => if ts_sh a = (0, c) ∧ a < M.2.2.2 then some (.inl (pc + 3, ls, ts_gv c k M a :: r, M)) else none
      | none => none
    | _ => none
  | .goto off => ts_to pc off ls st M
  | .i2b => match st with
    | .inl x :: r => some (.inl (pc + 1, ls, .inl x.toInt8.toInt32 :: r, M))
    | _ => none
  | .i2l => match st with
    | .inl x :: r => some (.inl (pc + 1, ls, .inr (.inl x.toInt64) :: r, M))
    | _ => none
  | .iadd => match st with
    | .inl y :: .inl x :: r => some (.inl (pc + 1, ls, .inl (x + y) :: r, M))
    | _ => none
  | .isub => match st with
    | .inl y :: .inl x :: r => some (.inl (pc + 1, ls, .inl (x - y) :: r, M))
    | _ => none
  | .imul => match st with
    | .inl y :: .inl x :: r => some (.inl (pc + 1, ls, .inl (x * y) :: r, M))
    | _ => none
  | .idiv => match st with
    | .inl y :: .inl x :: r => if ¬ y = 0 then some (.inl (pc + 1, ls, .inl (x / y) :: r, M)) else none
    | _ => none
  | .irem => match st with
    | .inl y :: .inl x :: r => if ¬ y = 0 then some (.inl (pc + 1, ls, .inl (x - x / y * y) :: r, M)) else none
    | _ => none
  | .iand => match st with
    | .inl y :: .inl x :: r => some (.inl (pc + 1, ls, .inl (x &&& y) :: r, M))
    | _ => none
  | .ior => match st with
    | .inl y :: .inl x :: r => some (.inl (pc + 1, ls, .inl (x ||| y) :: r, M))
    | _ => none
  | .ixor => match st with
    | .inl y :: .inl x :: r => some (.inl (pc + 1, ls, .inl (x ^^^ y) :: r, M))
    | _ => none
  | .ishl => match st with
    | .inl y :: .inl x :: r => some (.inl (pc + 1, ls, .inl (x <<< (y &&& 31)) :: r, M))
    | _ => none
  | .ishr => match st with
    | .inl y :: .inl x :: r => some (.inl (pc + 1, ls, .inl (x >>> (y &&& 31)) :: r, M))
    | _ => none
  | .iushr => match st with
    | .inl y :: .inl x :: r => some (.inl (pc + 1, ls, .inl (x.toUInt32 >>> (y.toUInt32 &&& Int32.toUInt32 31)).toInt32 :: r, M))
    | _ => none
  | .lmul => match st with
    | .inr (.inl y) :: .inr (.inl x) :: r => some (.inl (pc + 1, ls, .inr (.inl (x * y)) :: r, M))
    | _ => none
  | .ldiv => match st with
    | .inr (.inl y) :: .inr (.inl x) :: r => if ¬ y = 0 then some (.inl (pc + 1, ls, .inr (.inl (x / y)) :: r, M)) else none
    | _ => none
  | .lcmp => match st with
    | .inr (.inl y) :: .inr (.inl x) :: r => some (.inl (pc + 1, ls, .inl (lg_cmp x y) :: r, M))
    | _ => none
  | .iaload => match st with
    | .inl j :: .inr (.inr (some a)) :: r => if (ts_sh a).1 = 1 ∧ a < M.2.2.2 ∧ 0 ≤ j ∧ j.toNatClampNeg < (ts_sh a).2 then some (.inl (pc + 1, ls, .inl (M.1 a j.toNatClampNeg) :: r, M)) else none
    | _ => none
  | .iastore => match st with
    | .inl v :: .inl j :: .inr (.inr (some a)) :: r => if (ts_sh a).1 = 1 ∧ a < M.2.2.2 ∧ 0 ≤ j ∧ j.toNatClampNeg < (ts_sh a).2 then some (.inl (pc + 1, ls, r, ts_wrI M a j.toNatClampNeg v)) else none
    | _ => none
  | .laload => match st with
    | .inl j :: .inr (.inr (some a)) :: r => if (ts_sh a).1 = 3 ∧ a < M.2.2.2 ∧ 0 ≤ j ∧ j.toNatClampNeg < (ts_sh a).2 then some (.inl (pc + 1, ls, .inr (.inl (M.2.1 a j.toNatClampNeg)) :: r, M)) else none
    | _ => none
  | .lastore => match st with
    | .inr (.inl v) :: .inl j :: .inr (.inr (some a)) :: r => if (ts_sh a).1 = 3 ∧ a < M.2.2.2 ∧ 0 ≤ j ∧ j.toNatClampNeg < (ts_sh a).2 then some (.inl (pc + 1, ls, r, ts_wrL M a j.toNatClampNeg v)) else none
    | _ => none
  | .iconst n => some (.inl (pc + 1, ls, .inl (Int32.ofInt n) :: st, M))
  | .sipush n => some (.inl (pc + 3, ls, .inl (Int16.ofInt n).toInt32 :: st, M))
  | .lconst n => some (.inl (pc + 1, ls, .inr (.inl (Int64.ofNat (n : Nat))) :: st, M))
  | .ldc x => match ts_cI Y.2.2.2.2 x with
    | some v => some (.inl (pc + 2, ls, .inl v :: st, M))
    | none => none
  | .ldc_w x => match ts_cI Y.2.2.2.2 x with
    | some v => some (.inl (pc + 3, ls, .inl v :: st, M))
    | none => none
  | .ldc2_w x => match ts_cJ Y.2.2.2.2 x with
    | some v => some (.inl (pc + 3, ls, .inr (.inl v) :: st, M))
    | none => none
  | .if_icmp .eq off => match st with
    | .inl y :: .inl x :: r => ts_br (x = y) pc off ls r M
    | _ => none
  | .if_icmp .ne off => match st with
    | .inl y :: .inl x :: r => ts_br (¬ x = y) pc off ls r M
    | _ => none
  | .if_icmp .lt off => match st with
    | .inl y :: .inl x :: r => ts_br (x < y) pc off ls r M
    | _ => none
  | .if_icmp .ge off => match st with
    | .inl y :: .inl x :: r => ts_br (y ≤ x) pc off ls r M
    | _ => none
  | .if_icmp .gt off => match st with
    | .inl y :: .inl x :: r => ts_br (y < x) pc off ls r M
    | _ => none
  | .if_icmp .le off => match st with
    | .inl y :: .inl x :: r => ts_br (x ≤ y) pc off ls r M
    | _ => none
  | .ifCond .eq off => match st with
    | .inl x :: r => ts_br (x = 0) pc off ls r M
    | _ => none
  | .ifCond .ne off => match st with
    | .inl x :: r => ts_br (¬ x = 0) pc off ls r M
    | _ => none
  | .ifCond .lt off => match st with
    | .inl x :: r => ts_br (x < 0) pc off ls r M
    | _ => none
  | .ifCond .ge off => match st with
    | .inl x :: r => ts_br (0 ≤ x) pc off ls r M
    | _ => none
  | .ifCond .gt off => match st with
    | .inl x :: r => ts_br (0 < x) pc off ls r M
    | _ => none
  | .ifCond .le off => match st with
    | .inl x :: r => ts_br (x ≤ 0) pc off ls r M
    | _ => none
  | .ifnull off => match st with
    | .inr (.inr none) :: r => ts_to pc off ls r M
    | .inr (.inr (some _)) :: r => some (.inl (pc + 3, ls, r, M))
    | _ => none
  | .ifnonnull off => match st with
    | .inr (.inr none) :: r => some (.inl (pc + 3, ls, r, M))
    | .inr (.inr (some _)) :: r => ts_to pc off ls r M
    | _ => none
  | .iinc n d => match ts_lget ls n with
    | some (.inl x) => if n < Y.2.2.1 then some (.inl (pc + 3, ts_lset ls n (.inl (x + Int32.ofInt d)), st, M)) else none
    | _ => none
  | .iload n => match ts_lget ls n with
    | some (.inl x) => some (.inl (pc + 2, ls, .inl x :: st, M))
    | _ => none
  | .iload_n n => match ts_lget ls n with
    | some (.inl x) => some (.inl (pc + 1, ls, .inl x :: st, M))
    | _ => none
  | .lload n => match ts_lget ls n with
    | some (.inr (.inl x)) => some (.inl (pc + 2, ls, .inr (.inl x) :: st, M))
    | _ => none
  | .lload_n n => match ts_lget ls n with
    | some (.inr (.inl x)) => some (.inl (pc + 1, ls, .inr (.inl x) :: st, M))
    | _ => none
  | .istore n => match st with
    | .inl x :: r => if n < Y.2.2.1 then some (.inl (pc + 2, ts_lset ls n (.inl x), r, M)) else none
    | _ => none
  | .istore_n n => match st with
    | .inl x :: r => if (n : Nat) < Y.2.2.1 then some (.inl (pc + 1, ts_lset ls n (.inl x), r, M)) else none
    | _ => none
  | .lstore n => match st with
    | .inr (.inl x) :: r => if n + 1 < Y.2.2.1 then some (.inl (pc + 2, ts_lset ls n (.inr (.inl x)), r, M)) else none
    | _ => none
  | .lstore_n n => match st with
    | .inr (.inl x) :: r => if (n : Nat) + 1 < Y.2.2.1 then some (.inl (pc + 1, ts_lset ls n (.inr (.inl x)), r, M)) else none
    | _ => none
  | .invokevirtual x => match ts_cal Y.2.2.2.2 x with
    | some (y, n, 0, _) => match st.drop n with
      | .inr (.inr (some b)) :: r => if ts_sh b = (0, ts_cls y) ∧ b < M.2.2.2 ∧ n ≤ st.length ∧ r.length ≤ 4 then ts_back (ts_knd y) (call y (.inr (.inr (some b)) :: (st.take n).reverse) M) pc ls r else none
      | _ => none
    | _ => none
  | .invokestatic x => match ts_bi Y.2.2.2.2 x with
    | 2 => match st with
      | .inl y :: .inl z :: r => if r.length ≤ 4 then some (.inl (pc + 3, ls, .inl (if y < z then y else z) :: r, M)) else none
      | _ => none
    | 3 => match st with
      | .inl y :: .inl z :: r => if r.length ≤ 4 then some (.inl (pc + 3, ls, .inl (if z < y then y else z) :: r, M)) else none
      | _ => none
    | _ => match ts_cal Y.2.2.2.2 x with
      | some (y, n, 1, _) => if n ≤ st.length ∧ (st.drop n).length ≤ 4 then ts_back (ts_knd y) (call y (st.take n).reverse M) pc ls (st.drop n) else none
      | _ => none
  | .invokespecial x => match ts_bi Y.2.2.2.2 x with
    | 1 => match st with
      | .inr (.inr (some _)) :: r => if r.length ≤ 4 then some (.inl (pc + 3, ls, r, M)) else none
      | _ => none
    | _ => match ts_cal Y.2.2.2.2 x with
      | some (y, n, 2, _) => match st.drop n with
        | .inr (.inr (some b)) :: r => if n ≤ st.length ∧ r.length ≤ 4 then ts_back (ts_knd y) (call y (.inr (.inr (some b)) :: (st.take n).reverse) M) pc ls r else none
        | _ => none
      | _ => none
  | .new x => match ts_cK Y.2.2.2.2 x with
    | some c => if ts_sh M.2.2.2 = (0, c) ∧ M.2.2.2 < ts_NN then some (.inl (pc + 3, ls, .inr (.inr (some M.2.2.2)) :: st, ts_new M)) else none
    | none => none
  | .newarray t => match st with
    | .inl n :: r => if ((t = .int ∧ ts_sh M.2.2.2 = (1, n.toNatClampNeg)) ∨ (t = .byte ∧ ts_sh M.2.2.2 = (2, n.toNatClampNeg)) ∨ (t = .long ∧ ts_sh M.2.2.2 = (3, n.toNatClampNeg))) ∧ 0 ≤ n ∧ n.toNatClampNeg ≤ 10000 ∧ M.2.2.2 < ts_NN then some (.inl (pc + 2, ls, .inr (.inr (some M.2.2.2)) :: r, ts_new M)) else none
    | _ => none
  | .putfield x => match ts_fld Y.2.2.2.2 x with
    | some (c, k) => if (ts_T c k).2.2.2 = true ∧ ¬ (Y.1.name = "<init>" ∧ c = Y.2.2.2.2) then none else match st with
      | .inl v :: .inr (.inr (some a)) :: r => if ts_sh a = (0, c) ∧ a < M.2.2.2 ∧ (ts_ty c k = .int ∨ ts_ty c k = .boolean ∧ (v = 0 ∨ v = 1)) then some (.inl (pc + 3, ls, r, ts_wrI M a k v)) else none
      | .inr (.inr (some o)) :: .inr (.inr (some a)) :: r => if ts_sh a = (0, c) ∧ a < M.2.2.2 ∧ ts_isr (ts_ty c k) = true ∧ (Y.1.name = "<init>" ∨ ts_mu c k = true) then some (.inl (pc + 3, ls, r, ts_wrR M a k (some o))) else none
      | _ => none
    | none => none
  | .tableswitch dflt lo hi offs => match st with
    | .inl x :: r => if x.toInt < lo ∨ hi < x.toInt then ts_to pc dflt ls r M else match offs[(x.toInt - lo).toNat]? with
      | some off => ts_to pc off ls r M
      | none => none
    | _ => none
  | .ireturn => match st with
    | [.inl v] => if Y.2.2.2.1 = some .int ∨ Y.2.2.2.1 = some .boolean ∧ (v = 0 ∨ v = 1) then some (.inr (some (.inl v), M)) else none
    | _ => none
  | .lreturn => match st with
    | [.inr (.inl v)] => if Y.2.2.2.1 = some .long then some (.inr (some (.inr (.inl v)), M)) else none
    | _ => none
  | .return_ => match st with
    | [] => if Y.2.2.2.1 = none then some (.inr (none, M)) else none
    | _ => none
  | _ => none
/-- what only constructors do -/
def ts_ci : Instr → Bool
  | .new _ => true
  | .newarray _ => true
  | .anewarray _ => true
  | .aastore => true
  | .invokespecial _ => true
  | _ => false
def ts_one (call : ts_C) (Y : ts_Y) (f : ts_F) : Option (ts_F ⊕ ts_R) := match decode Y.2.1 f.1 with
  | .ok (i, len) => if len = ts_len i len ∧ (ts_ci i = true → Y.1.name = "<init>") then ts_step call Y i len f.1 f.2.1 f.2.2.1 f.2.2.2 else none
  | .error _ => none
def ts_runN (call : ts_C) (Y : ts_Y) : Nat → ts_F → Option ts_R
  | 0, _ => none
  | n + 1, f => match ts_one call Y f with
    | some (.inl g) => ts_runN call Y n g
    | some (.inr r) => some r
    | none => none
theorem ts_runN_more {call : ts_C} {Y : ts_Y} : ∀ (n : Nat) (f : ts_F) (r : ts_R), ts_runN call Y n f = some r → ts_runN call Y (n + 1) f = some r := by
  intro n
  induction n with
  | zero => intro f r h; simp [ts_runN] at h
  | succ n ih =>
    intro f r h
    rw [ts_runN] at h ⊢
    cases h1 : ts_one call Y f with
    | none => rw [h1] at h; exact h
    | some z => cases z with
      | inl g => rw [h1] at h; exact ih g r h
      | inr q => rw [h1] at h; exact h
theorem ts_runN_le {call : ts_C} {Y : ts_Y} {n m : Nat} (hnm : n ≤ m) {f : ts_F} {r : ts_R} (h : ts_runN call Y n f = some r) : ts_runN call Y m f = some r := by
  obtain ⟨k, rfl⟩ := Nat.le.dest hnm
  induction k with
  | zero => exact h
  | succ k ih => exact ts_runN_more _ _ _ (ih (Nat.le_add_right _ _))
noncomputable def ts_run (call : ts_C) (Y : ts_Y) (f : ts_F) : Option ts_R := @dite (Option ts_R) (∃ (r : ts_R) (n : Nat), ts_runN call Y n f = some r) (Classical.propDecidable _) (fun h => some h.choose) (fun _ => none)
theorem ts_run_of {call : ts_C} {Y : ts_Y} {f : ts_F} {r : ts_R} {n : Nat} (h : ts_runN call Y n f = some r) : ts_run call Y f = some r := by
  have hx : ∃ (r : ts_R) (n : Nat), ts_runN call Y n f = some r := ⟨r, n, h⟩
  unfold ts_run
  rw [dif_pos hx]
  obtain ⟨m, hm⟩ := hx.choose_spec
  have h1 := ts_runN_le (Nat.le_max_left n m) h
  have h2 := ts_runN_le (Nat.le_max_right n m) hm
  rw [h1] at h2
  rw [← Option.some.inj h2]
theorem ts_run_ex {call : ts_C} {Y : ts_Y} {f : ts_F} {r : ts_R} (h : ts_run call Y f = some r) : ∃ n : Nat, ts_runN call Y n f = some r := by
  unfold ts_run at h
  by_cases hx : ∃ (r : ts_R) (n : Nat), ts_runN call Y n f = some r
  · rw [dif_pos hx] at h
    rw [← Option.some.inj h]
    exact hx.choose_spec
  · rw [dif_neg hx] at h
    cases h
theorem ts_run_step (call : ts_C) (Y : ts_Y) (f : ts_F) : ts_run call Y f = match ts_one call Y f with
    | some (.inl g) => ts_run call Y g
    | some (.inr r) => some r
    | none => none := by
  apply Option.ext
  intro r
  constructor
  · intro h
    obtain ⟨n, hn⟩ := ts_run_ex h
    cases n with
    | zero => simp [ts_runN] at hn
    | succ n =>
      rw [ts_runN] at hn
      cases h1 : ts_one call Y f with
      | none => rw [h1] at hn; cases hn
      | some z => cases z with
        | inl g => rw [h1] at hn; exact ts_run_of hn
        | inr q => rw [h1] at hn; exact hn
  · intro h
    cases h1 : ts_one call Y f with
    | none => rw [h1] at h; cases h
    | some z => cases z with
      | inl g =>
        rw [h1] at h
        obtain ⟨n, hn⟩ := ts_run_ex h
        exact ts_run_of (n := n + 1) (by rw [ts_runN, h1]; exact hn)
      | inr q =>
        rw [h1] at h
        exact ts_run_of (n := 1) (by rw [ts_runN, h1]; exact h)
def ts_ar : List ts_V → List (Option ts_V)
  | [] => []
  | v :: t => if ts_isl (some v) then some v :: none :: ts_ar t else some v :: ts_ar t
def ts_l0 (As : List ts_V) (n : Nat) : List (Option ts_V) := ts_ar As ++ List.replicate (n - (ts_ar As).length) none
noncomputable def ts_ev : Nat → ts_C
  | 0 => fun _ _ _ => none
  | d + 1 => fun y As M => match ts_mL[y]? with
    | some Y => if (ts_ar As).length ≤ Y.2.2.1 then ts_run (ts_ev d) Y (0, ts_l0 As Y.2.2.1, [], M) else none
    | none => none
end
section
/-! ===== what the tables say, entry by entry ===== -/
theorem ts_in_of {ws : List Cond} {is : List Nat} (h : ws.map some = is.map (fun i => lw_tbl[i]?)) : ∀ w ∈ ws, w ∈ lw_tbl := by
  intro w hw
  have h1 : some w ∈ is.map (fun i => lw_tbl[i]?) := h ▸ List.mem_map_of_mem hw
  obtain ⟨i, -, hi⟩ := List.mem_map.mp h1
  exact List.mem_of_getElem? hi
def ts_gd (w : Cond) : Prop := w ∈ lw_tbl ∧ goodWord w = true
def ts_tb : List Cond := lw_tbl.filter goodWord
theorem ts_gd_in {w : Cond} (h : ts_gd w) : w ∈ ts_tb := List.mem_filter.mpr h
def ts_ws (Y : ts_Y) : List Cond := ts_cw Y :: ts_tb
theorem ts_cw_good (Y : ts_Y) : goodWord (ts_cw Y) = true := by first | rfl | simp [ts_cw, goodWord, Cond.onTables, Cond.keeps]
theorem ts_ws_good {Y Z : ts_Y} (hZ : Z ∈ ts_mL) : GoodIn (ts_ws Y) (ts_ws Z) := by
  intro w hw
  rcases List.mem_cons.mp hw with rfl | hw
  · exact ⟨List.mem_cons_of_mem _ (ts_gd_in ⟨ts_wm_in _ hZ, ts_cw_good _⟩), good_of_word (ts_cw_good _)⟩
  · exact ⟨List.mem_cons_of_mem _ hw, good_of_word (List.mem_filter.mp hw).2⟩
theorem ts_wf_gd : ∀ w ∈ ts_wf, ts_gd w := by
  intro w hw
  refine ⟨ts_in_of ts_wf_at w hw, ?_⟩
  obtain ⟨e, -, rfl⟩ := List.mem_map.mp hw
  first | rfl | simp [goodWord, Cond.onTables, Cond.keeps]
theorem ts_wi_gd : ∀ w ∈ ts_wi, ts_gd w := by
  intro w hw
  refine ⟨ts_in_of ts_wi_at w hw, ?_⟩
  obtain ⟨e, -, rfl⟩ := List.mem_map.mp hw
  first | rfl | simp [goodWord, Cond.onTables, Cond.keeps]
theorem ts_wk_gd : ∀ w ∈ ts_wk, ts_gd w := by
  intro w hw
  refine ⟨ts_in_of ts_wk_at w hw, ?_⟩
  obtain ⟨e, -, rfl⟩ := List.mem_map.mp hw
  split <;> first | rfl | simp [goodWord, Cond.onTables, Cond.keeps]
theorem ts_tt_notin : (Cond.tt ∈ lw_tbl) → False := by
  intro h
  have h1 : lw_tbl.all (fun w => match w with | .tt => false | _ => true) = true := by decide +kernel
  have h2 := List.all_eq_true.mp h1 _ h
  cases h2
theorem ts_wv_gd : ∀ w ∈ ts_wv, ts_gd w := by
  intro w hw
  have h0 := ts_in_of ts_wv_at w hw
  refine ⟨h0, ?_⟩
  obtain ⟨e, -, rfl⟩ := List.mem_map.mp hw
  revert h0
  split
  · intro _; first | rfl | simp [goodWord, Cond.onTables, Cond.keeps]
  · intro h; exact (ts_tt_notin h).elim
theorem ts_wc_gd : ∀ w ∈ ts_wc, ts_gd w := by
  intro w hw
  have h0 := ts_in_of ts_wc_at w hw
  refine ⟨h0, ?_⟩
  obtain ⟨e, -, rfl⟩ := List.mem_map.mp hw
  revert h0
  split
  · intro _; first | rfl | simp [goodWord, Cond.onTables, Cond.keeps]
  · intro h; exact (ts_tt_notin h).elim
theorem ts_wo_gd : ∀ w ∈ ts_wo, ts_gd w := by
  intro w hw
  refine ⟨ts_in_of ts_wo_at w hw, ?_⟩
  obtain ⟨e, -, rfl⟩ := List.mem_map.mp hw
  first | rfl | simp [goodWord, Cond.onTables, Cond.keeps]
theorem ts_wx_gd : ∀ w ∈ ts_wx, ts_gd w := by
  intro w hw
  refine ⟨ts_in_of ts_wx_at w hw, ?_⟩
  obtain ⟨e, -, rfl⟩ := List.mem_map.mp hw
  first | rfl | simp [goodWord, Cond.onTables, Cond.keeps]
theorem ts_wy_gd : ∀ w ∈ ts_wy, ts_gd w := by
  intro w hw
  refine ⟨ts_in_of ts_wy_at w hw, ?_⟩
  obtain ⟨e, -, rfl⟩ := List.mem_map.mp hw
  first | rfl | simp [goodWord, Cond.onTables, Cond.keeps]
theorem ts_wI_gd : ∀ w ∈ ts_wI, ts_gd w := by
  intro w hw
  refine ⟨ts_in_of ts_wI_at w hw, ?_⟩
  obtain ⟨e, -, rfl⟩ := List.mem_map.mp hw
  first | rfl | simp [goodWord, Cond.onTables, Cond.keeps]
theorem ts_wJ_gd : ∀ w ∈ ts_wJ, ts_gd w := by
  intro w hw
  refine ⟨ts_in_of ts_wJ_at w hw, ?_⟩
  obtain ⟨e, -, rfl⟩ := List.mem_map.mp hw
  first | rfl | simp [goodWord, Cond.onTables, Cond.keeps]
theorem ts_wK_gd : ∀ w ∈ ts_wK, ts_gd w := by
  intro w hw
  refine ⟨ts_in_of ts_wK_at w hw, ?_⟩
  obtain ⟨e, -, rfl⟩ := List.mem_map.mp hw
  first | rfl | simp [goodWord, Cond.onTables, Cond.keeps]
theorem ts_wL_gd : ∀ w ∈ ts_wL, ts_gd w := by
  intro w hw
  refine ⟨ts_in_of ts_wL_at w hw, ?_⟩
  obtain ⟨e, -, rfl⟩ := List.mem_map.mp hw
  first | rfl | simp [goodWord, Cond.onTables, Cond.keeps]
theorem ts_wM_gd : ∀ w ∈ ts_wM, ts_gd w := by
  intro w hw
  refine ⟨ts_in_of ts_wM_at w hw, ?_⟩
  obtain ⟨e, -, rfl⟩ := List.mem_map.mp hw
  first | rfl | simp [goodWord, Cond.onTables, Cond.keeps]
theorem ts_wl_gd : ∀ w ∈ ts_wl, ts_gd w := by
  intro w hw
  refine ⟨ts_in_of ts_wl_at w hw, ?_⟩
  obtain ⟨c, -, hc⟩ := List.mem_flatMap.mp hw
  obtain ⟨k, -, rfl⟩ := List.mem_map.mp hc
  unfold u_lay
  split <;> first | rfl | simp [goodWord, Cond.onTables, Cond.keeps]
theorem ts_wo2_gd : ∀ w ∈ ts_wo2, ts_gd w := fun w hw => ⟨ts_in_of ts_wo2_at w hw, List.all_eq_true.mp (show ts_wo2.all goodWord = true by decide +kernel) w hw⟩
theorem ts_wz_gd : ∀ w ∈ ts_wz, ts_gd w := fun w hw => ⟨ts_in_of ts_wz_at w hw, List.all_eq_true.mp (show ts_wz.all goodWord = true by decide +kernel) w hw⟩
theorem ts_wA_gd : ∀ w ∈ ts_wA.take 3, ts_gd w := fun w hw => ⟨ts_in_of ts_wA_at w (List.mem_of_mem_take hw), List.all_eq_true.mp (show (ts_wA.take 3).all goodWord = true by decide +kernel) w hw⟩
/-- what is so of each method -/
def ts_okY (q : ts_Y) : Bool := decide (q.1.cls = ts_cn q.2.2.2.2) && plainName q.1.cls && decide (q.2.2.1 ≤ 13) && decide (q.1.cls ≠ "java/lang/invoke/MethodHandle") && decide (q.1.cls ≠ "java/lang/invoke/VarHandle")
theorem ts_okY_all : ts_mL.all ts_okY = true := by decide +kernel
theorem ts_okY_of {q : ts_Y} (h : q ∈ ts_mL) : q.1.cls = ts_cn q.2.2.2.2 ∧ plainName q.1.cls = true ∧ q.2.2.1 ≤ 13 ∧ q.1.cls ≠ "java/lang/invoke/MethodHandle" ∧ q.1.cls ≠ "java/lang/invoke/VarHandle" := by
  have h1 := List.all_eq_true.mp ts_okY_all q h
  simp only [ts_okY, Bool.and_eq_true, decide_eq_true_eq] at h1
  exact ⟨h1.1.1.1.1, h1.1.1.1.2, h1.1.1.2, h1.1.2, h1.2⟩
/-- .. of each call -/
def ts_okC (e : Nat × Nat × Nat × Nat × Nat × Nat) : Bool := match ts_mL[e.2.2.1]? with
  | none => false
  | some q => decide ((parseMethodDescriptor q.1.desc).map (fun d => d.parameters.length) = some e.2.2.2.1) && decide (e.2.2.2.2.2 < 2) &&
    (if e.2.2.2.2.1 = 0 then decide (e.2.2.1 ∈ ts_vL) && !ts_st q else if e.2.2.2.2.1 = 1 then ts_st q else decide (e.2.2.2.2.1 = 2) && decide (q.1.name = "<init>") && decide (q.2.2.2.1 = none) && !ts_st q)
theorem ts_okC_all : ts_cL.all ts_okC = true := by decide +kernel
theorem ts_cal_of {o x y n k z : Nat} (h : ts_cal o x = some (y, n, k, z)) : (o, x, y, n, k, z) ∈ ts_cL := by
  unfold ts_cal at h
  cases hf : ts_cL.find? (fun e => e.1 == o && e.2.1 == x) with
  | none => rw [hf] at h; cases h
  | some e =>
    rw [hf] at h
    obtain ⟨a, b, c⟩ := e
    have h1 := List.find?_some hf
    have h2 := List.mem_of_find?_eq_some hf
    simp only [Bool.and_eq_true, beq_iff_eq] at h1
    simp only [Option.map_some, Option.some.injEq] at h
    rw [← h1.1, ← h1.2, ← h]
    exact h2
theorem ts_fld_of {o x c k : Nat} (h : ts_fld o x = some (c, k)) : (o, x, c, k) ∈ ts_fL := by
  unfold ts_fld at h
  cases hf : ts_fL.find? (fun e => e.1 == o && e.2.1 == x) with
  | none => rw [hf] at h; cases h
  | some e =>
    rw [hf] at h
    obtain ⟨a, b, c⟩ := e
    have h1 := List.find?_some hf
    have h2 := List.mem_of_find?_eq_some hf
    simp only [Bool.and_eq_true, beq_iff_eq] at h1
    simp only [Option.map_some, Option.some.injEq] at h
    rw [← h1.1, ← h1.2, ← h]
    exact h2
theorem ts_cI_of {o x : Nat} {v : Int32} (h : ts_cI o x = some v) : (o, x, v) ∈ ts_iL := by
  unfold ts_cI at h
  cases hf : ts_iL.find? (fun e => e.1 == o && e.2.1 == x) with
  | none => rw [hf] at h; cases h
  | some e =>
    rw [hf] at h
    obtain ⟨a, b, c⟩ := e
    have h1 := List.find?_some hf
    have h2 := List.mem_of_find?_eq_some hf
    simp only [Bool.and_eq_true, beq_iff_eq] at h1
    simp only [Option.map_some, Option.some.injEq] at h
    rw [← h1.1, ← h1.2, ← h]
    exact h2
theorem ts_cJ_of {o x : Nat} {v : Int64} (h : ts_cJ o x = some v) : (o, x, v) ∈ ts_jL := by
  unfold ts_cJ at h
  cases hf : ts_jL.find? (fun e => e.1 == o && e.2.1 == x) with
  | none => rw [hf] at h; cases h
  | some e =>
    rw [hf] at h
    obtain ⟨a, b, c⟩ := e
    have h1 := List.find?_some hf
    have h2 := List.mem_of_find?_eq_some hf
    simp only [Bool.and_eq_true, beq_iff_eq] at h1
    simp only [Option.map_some, Option.some.injEq] at h
    rw [← h1.1, ← h1.2, ← h]
    exact h2
theorem ts_cK_of {o x v : Nat} (h : ts_cK o x = some v) : (o, x, v) ∈ ts_kL := by
  unfold ts_cK at h
  cases hf : ts_kL.find? (fun e => e.1 == o && e.2.1 == x) with
  | none => rw [hf] at h; cases h
  | some e =>
    rw [hf] at h
    obtain ⟨a, b, c⟩ := e
    have h1 := List.find?_some hf
    have h2 := List.mem_of_find?_eq_some hf
    simp only [Bool.and_eq_true, beq_iff_eq] at h1
    simp only [Option.map_some, Option.some.injEq] at h
    rw [← h1.1, ← h1.2, ← h]
    exact h2
theorem ts_bi1 {o x : Nat} (h : ts_bi o x = 1) : (o, x) ∈ ts_oL := by
  unfold ts_bi at h
  by_cases h1 : ts_oL.any (fun e => e.1 == o && e.2 == x) = true
  · obtain ⟨e, he, h2⟩ := List.any_eq_true.mp h1
    simp only [Bool.and_eq_true, beq_iff_eq] at h2
    rw [← h2.1, ← h2.2]
    exact he
  · rw [if_neg h1] at h
    split at h
    · cases h
    · split at h <;> cases h
theorem ts_bi2 {o x : Nat} (h : ts_bi o x = 2) : (o, x) ∈ ts_nL := by
  unfold ts_bi at h
  split at h
  · cases h
  · by_cases h1 : ts_nL.any (fun e => e.1 == o && e.2 == x) = true
    · obtain ⟨e, he, h2⟩ := List.any_eq_true.mp h1
      simp only [Bool.and_eq_true, beq_iff_eq] at h2
      rw [← h2.1, ← h2.2]
      exact he
    · rw [if_neg h1] at h
      split at h <;> cases h
theorem ts_bi3 {o x : Nat} (h : ts_bi o x = 3) : (o, x) ∈ ts_xL := by
  unfold ts_bi at h
  split at h
  · cases h
  · split at h
    · cases h
    · by_cases h1 : ts_xL.any (fun e => e.1 == o && e.2 == x) = true
      · obtain ⟨e, he, h2⟩ := List.any_eq_true.mp h1
        simp only [Bool.and_eq_true, beq_iff_eq] at h2
        rw [← h2.1, ← h2.2]
        exact he
      · rw [if_neg h1] at h
        cases h
theorem ts_fL_ok : ts_fL.all (fun e => decide (e.2.2.1 < 13) && decide (e.2.2.2 < ts_N e.2.2.1)) = true := by decide +kernel
theorem ts_kL_ok : ts_kL.all (fun e => decide (e.2.2 < 13)) = true := by decide +kernel
def ts_cl : List vw_C := (List.range 13).map fun c => (ts_cn c, ts_T c, ts_N c)
theorem ts_cl_at {c : Nat} (h : c < 13) : ts_cl[c]? = some (ts_cn c, ts_T c, ts_N c) := by
  unfold ts_cl
  rw [List.getElem?_map, List.getElem?_range h]
  rfl
theorem ts_lay_in {c : Nat} (h : c < 13) : ∀ w ∈ u_ws (ts_cn c) (ts_T c) (ts_N c), w ∈ ts_tb := fun w hw => ts_gd_in (ts_wl_gd w (List.mem_flatMap.mpr ⟨c, List.mem_range.mpr h, hw⟩))
theorem ts_nm {c : Nat} (h : c < 13) : ∀ a, a < ts_N c → ∀ b, b < ts_N c → a ≠ b → (ts_T c a).2.1 ≠ (ts_T c b).2.1 := by
  match c, h with
  | 0, _ => exact nmX0
  | 1, _ => exact nmX1
  | 2, _ => exact nmX2
  | 3, _ => exact nmX3
  | 4, _ => exact nmX4
  | 5, _ => exact nmX5
  | 6, _ => exact nmX6
  | 7, _ => exact nmX7
  | 8, _ => exact nmX8
  | 9, _ => exact nmX9
  | 10, _ => exact nmX10
  | 11, _ => exact nmX11
  | 12, _ => exact nmX12
  | n + 13, h => omega
theorem ts_ty_ok {c : Nat} (h : c < 13) : ∀ k, k < ts_N c → parseFieldDescriptor (ts_T c k).2.2.1 = some (ts_ty c k) := by
  match c, h with
  | 0, _ => exact tyX0_ok
  | 1, _ => exact tyX1_ok
  | 2, _ => exact tyX2_ok
  | 3, _ => exact tyX3_ok
  | 4, _ => exact tyX4_ok
  | 5, _ => exact tyX5_ok
  | 6, _ => exact tyX6_ok
  | 7, _ => exact tyX7_ok
  | 8, _ => exact tyX8_ok
  | 9, _ => exact tyX9_ok
  | 10, _ => exact tyX10_ok
  | 11, _ => exact tyX11_ok
  | 12, _ => exact tyX12_ok
  | n + 13, h => omega
def ts_Nw (U : State) : Prop := ∀ e ∈ ts_cL, e.2.2.2.2.2 = 1 → ∀ q, ts_mL[e.2.2.1]? = some q → va_Nw (.methodLinkNest (ts_cn e.1) e.2.1 q.1 RX11) U
theorem ts_Nw_warm {s U : State} (hW : s.WarmedH U.vm) (h : ts_Nw s) : ts_Nw U := fun e he h1 q hq => va_Nw.warmM hW (h e he h1 q hq)
theorem ts_Nw_same {u U : State} (hvm : u.vm = U.vm) (h : ts_Nw u) : ts_Nw U := fun e he h1 q hq => va_Nw.same rfl hvm (h e he h1 q hq)
theorem ts_Nw_of {args : Array Value} {s : State} (hts : ∀ w ∈ lw_tbl, w.before args s = true) : ts_Nw s := by
  intro e he h1 q hq
  refine va_Nw.of rfl (hts _ (ts_in_of ts_wn_at _ (List.mem_map.mpr ⟨e, List.mem_filter.mpr ⟨he, by simp [h1]⟩, ?_⟩)))
  simp only [hq]
end
section
/-! ===== the picture of the memory in the heap ===== -/
def ts_val (B : Nat) : ts_V → Value
  | .inl x => .int x
  | .inr (.inl x) => .long x
  | .inr (.inr o) => va_rf (o.map fun k => B + k)
def ts_fs (B : Nat) (M : ts_M) (k : Nat) : List Value := (List.range (ts_N (ts_sh k).2)).map fun j => ts_val B (ts_gv (ts_sh k).2 j M k)
def ts_ent (B : Nat) (cA : Nat → ClassId) (M : ts_M) (k : Nat) : va_E := match (ts_sh k).1 with
  | 0 => .inr ((ts_sh k).2, ts_fs B M k)
  | 1 => .inl (cA 0, (ts_sh k).2, .inl (M.1 k))
  | 2 => .inl (cA 1, (ts_sh k).2, .inl (M.1 k))
  | 3 => .inl (cA 2, (ts_sh k).2, .inr (.inl (M.2.1 k)))
  | 4 => .inl (cA 3, (ts_sh k).2, .inr (.inr (.inr (.inr fun j => (M.2.2.1 k j).map fun q => B + q))))
  | _ => .inl (cA 4, (ts_sh k).2, .inr (.inr (.inr (.inr fun j => (M.2.2.1 k j).map fun q => B + q))))
def ts_w (B : Nat) (cA : Nat → ClassId) (M : ts_M) : va_W := (List.range M.2.2.2).map fun k => (B + k, ts_ent B cA M k)
def ts_tys (cA : Nat → ClassId) : List (ClassId × FieldType) := [(cA 0, .int), (cA 1, .byte), (cA 2, .long), (cA 3, .object RX4), (cA 4, .object RX2)]
theorem ts_w_at {B : Nat} {cA : Nat → ClassId} {M : ts_M} {k : Nat} (h : k < M.2.2.2) : (ts_w B cA M)[k]? = some (B + k, ts_ent B cA M k) := by
  unfold ts_w
  rw [List.getElem?_map, List.getElem?_range h]
  rfl
theorem ts_w_len {B : Nat} {cA : Nat → ClassId} {M : ts_M} : (ts_w B cA M).length = M.2.2.2 := by simp [ts_w]
theorem ts_w_set {B : Nat} {cA : Nat → ClassId} {M M' : ts_M} {a : Nat} {e : va_E} (hn : M'.2.2.2 = M.2.2.2) (ha : a < M.2.2.2) (he : ts_ent B cA M' a = e) (ho : ∀ k, k ≠ a → ts_ent B cA M' k = ts_ent B cA M k) : (ts_w B cA M).set a (B + a, e) = ts_w B cA M' := by
  apply List.ext_getElem?
  intro i
  by_cases hl : i < M.2.2.2
  · by_cases hi : i = a
    · subst hi
      rw [List.getElem?_set_self (by rw [ts_w_len]; exact ha), ts_w_at (by rw [hn]; exact ha), he]
    · rw [List.getElem?_set_ne (Ne.symm hi), ts_w_at hl, ts_w_at (by rw [hn]; exact hl), ho i hi]
  · rw [List.getElem?_eq_none (by rw [List.length_set, ts_w_len]; omega), List.getElem?_eq_none (by rw [ts_w_len, hn]; omega)]
theorem ts_ent_congr {B : Nat} {cA : Nat → ClassId} {M M' : ts_M} {k : Nat} (h1 : M'.1 k = M.1 k) (h2 : M'.2.1 k = M.2.1 k) (h3 : M'.2.2.1 k = M.2.2.1 k) : ts_ent B cA M' k = ts_ent B cA M k := by
  unfold ts_ent ts_fs ts_gv
  rw [h1, h2, h3]
theorem ts_up_ne {α : Type} {f : Nat → Nat → α} {a j k : Nat} {v : α} (h : k ≠ a) : ts_up f a j v k = f k := by
  funext q
  simp [ts_up, h]
theorem ts_fr_ne {α : Type} {f : Nat → Nat → α} {a k : Nat} {v : α} (h : k ≠ a) : ts_fr f a v k = f k := by
  funext q
  simp [ts_fr, h]
theorem ts_D {B : Nat} {cA : Nat → ClassId} {M : ts_M} : va_D (fun q : Nat => B ≤ q) (ts_w B cA M) := by
  refine ⟨fun i j p q hi hj h => ?_, fun k q hk => ?_⟩
  · have li : i < M.2.2.2 := by have := (List.getElem?_eq_some_iff.mp hi).1; rwa [ts_w_len] at this
    have lj : j < M.2.2.2 := by have := (List.getElem?_eq_some_iff.mp hj).1; rwa [ts_w_len] at this
    rw [ts_w_at li] at hi
    rw [ts_w_at lj] at hj
    cases hi
    cases hj
    exact Nat.add_left_cancel h
  · have lk : k < M.2.2.2 := by have := (List.getElem?_eq_some_iff.mp hk).1; rwa [ts_w_len] at this
    rw [ts_w_at lk] at hk
    cases hk
    exact Nat.le_add_right _ _
theorem ts_ent_0 {B : Nat} {cA : Nat → ClassId} {M : ts_M} {k c : Nat} (h : ts_sh k = (0, c)) : ts_ent B cA M k = .inr (c, ts_fs B M k) := by
  unfold ts_ent; rw [h]; rfl
theorem ts_ent_1 {B : Nat} {cA : Nat → ClassId} {M : ts_M} {k : Nat} (h : (ts_sh k).1 = 1) : ts_ent B cA M k = .inl (cA 0, (ts_sh k).2, .inl (M.1 k)) := by
  unfold ts_ent; rw [h]; rfl
theorem ts_ent_2 {B : Nat} {cA : Nat → ClassId} {M : ts_M} {k : Nat} (h : (ts_sh k).1 = 2) : ts_ent B cA M k = .inl (cA 1, (ts_sh k).2, .inl (M.1 k)) := by
  unfold ts_ent; rw [h]; rfl
theorem ts_ent_3 {B : Nat} {cA : Nat → ClassId} {M : ts_M} {k : Nat} (h : (ts_sh k).1 = 3) : ts_ent B cA M k = .inl (cA 2, (ts_sh k).2, .inr (.inl (M.2.1 k))) := by
  unfold ts_ent; rw [h]; rfl
theorem ts_ent_4 {B : Nat} {cA : Nat → ClassId} {M : ts_M} {k : Nat} (h : (ts_sh k).1 = 4) : ts_ent B cA M k = .inl (cA 3, (ts_sh k).2, .inr (.inr (.inr (.inr fun j => (M.2.2.1 k j).map fun q => B + q)))) := by
  unfold ts_ent; rw [h]; rfl
theorem ts_ent_5 {B : Nat} {cA : Nat → ClassId} {M : ts_M} {k : Nat} (h : (ts_sh k).1 = 5) : ts_ent B cA M k = .inl (cA 4, (ts_sh k).2, .inr (.inr (.inr (.inr fun j => (M.2.2.1 k j).map fun q => B + q)))) := by
  unfold ts_ent; rw [h]; rfl
theorem ts_fs_at {B : Nat} {M : ts_M} {k c j : Nat} (h : ts_sh k = (0, c)) (hj : j < ts_N c) : (ts_fs B M k)[j]? = some (ts_val B (ts_gv c j M k)) := by
  unfold ts_fs
  rw [h, List.getElem?_map, List.getElem?_range hj]
  rfl
theorem ts_fs_len {B : Nat} {M : ts_M} {k c : Nat} (h : ts_sh k = (0, c)) : (ts_fs B M k).length = ts_N c := by
  unfold ts_fs
  rw [h]; simp
theorem ts_fs_set {B : Nat} {M M' : ts_M} {k c j : Nat} {v : ts_V} (h : ts_sh k = (0, c)) (hj : j < ts_N c) (hv : ts_gv c j M' k = v) (ho : ∀ i, i ≠ j → ts_gv c i M' k = ts_gv c i M k) : (ts_fs B M k).set j (ts_val B v) = ts_fs B M' k := by
  apply List.ext_getElem?
  intro i
  by_cases hl : i < ts_N c
  · by_cases hi : i = j
    · subst hi
      rw [List.getElem?_set_self (by rw [ts_fs_len h]; exact hj), ts_fs_at h hj, hv]
    · rw [List.getElem?_set_ne (Ne.symm hi), ts_fs_at h hl, ts_fs_at h hl, ho i hi]
  · rw [List.getElem?_eq_none (by rw [List.length_set, ts_fs_len h]; omega), List.getElem?_eq_none (by rw [ts_fs_len h]; omega)]
/-! what a write makes of the picture -/
theorem ts_w_putI {B : Nat} {cA : Nat → ClassId} {M : ts_M} {a c j : Nat} {v : Int32} (ha : a < M.2.2.2) (h : ts_sh a = (0, c)) (hj : j < ts_N c) (hr : ts_isr (ts_ty c j) = false) : (ts_w B cA M).set a (B + a, .inr (c, (ts_fs B M a).set j (.int v))) = ts_w B cA (ts_wrI M a j v) := by
  refine ts_w_set rfl ha ?_ fun k hk => ts_ent_congr (ts_up_ne hk) rfl rfl
  rw [ts_ent_0 h]
  have := ts_fs_set (B := B) (M := M) (M' := ts_wrI M a j v) (v := .inl v) h hj (by unfold ts_gv ts_wrI; rw [hr]; simp [ts_up]) (fun i hi => by unfold ts_gv ts_wrI; simp [ts_up, hi])
  rw [← this]
  rfl
theorem ts_w_putR {B : Nat} {cA : Nat → ClassId} {M : ts_M} {a c j : Nat} {v : Option Nat} (ha : a < M.2.2.2) (h : ts_sh a = (0, c)) (hj : j < ts_N c) (hr : ts_isr (ts_ty c j) = true) : (ts_w B cA M).set a (B + a, .inr (c, (ts_fs B M a).set j (va_rf (v.map fun q => B + q)))) = ts_w B cA (ts_wrR M a j v) := by
  refine ts_w_set rfl ha ?_ fun k hk => ts_ent_congr rfl rfl (ts_up_ne hk)
  rw [ts_ent_0 h]
  have := ts_fs_set (B := B) (M := M) (M' := ts_wrR M a j v) (v := .inr (.inr v)) h hj (by unfold ts_gv ts_wrR; rw [hr]; simp [ts_up]) (fun i hi => by unfold ts_gv ts_wrR; simp [ts_up, hi])
  rw [← this]
  rfl
theorem ts_w_astI {B : Nat} {cA : Nat → ClassId} {M : ts_M} {a j : Nat} {v : Int32} (ha : a < M.2.2.2) (h : (ts_sh a).1 = 1) : (ts_w B cA M).set a (B + a, .inl (cA 0, (ts_sh a).2, .inl (upd (M.1 a) j v))) = ts_w B cA (ts_wrI M a j v) := by
  refine ts_w_set rfl ha ?_ fun k hk => ts_ent_congr (ts_up_ne hk) rfl rfl
  rw [ts_ent_1 h]
  congr 4
  funext q
  simp [ts_wrI, ts_up, upd]
theorem ts_w_astB {B : Nat} {cA : Nat → ClassId} {M : ts_M} {a j : Nat} {v : Int32} (ha : a < M.2.2.2) (h : (ts_sh a).1 = 2) : (ts_w B cA M).set a (B + a, .inl (cA 1, (ts_sh a).2, .inl (upd (M.1 a) j v))) = ts_w B cA (ts_wrI M a j v) := by
  refine ts_w_set rfl ha ?_ fun k hk => ts_ent_congr (ts_up_ne hk) rfl rfl
  rw [ts_ent_2 h]
  congr 4
  funext q
  simp [ts_wrI, ts_up, upd]
theorem ts_w_astL {B : Nat} {cA : Nat → ClassId} {M : ts_M} {a j : Nat} {v : Int64} (ha : a < M.2.2.2) (h : (ts_sh a).1 = 3) : (ts_w B cA M).set a (B + a, .inl (cA 2, (ts_sh a).2, .inr (.inl (vp_updL (M.2.1 a) j v)))) = ts_w B cA (ts_wrL M a j v) := by
  refine ts_w_set rfl ha ?_ fun k hk => ts_ent_congr rfl (ts_up_ne hk) rfl
  rw [ts_ent_3 h]
  congr 5
  funext q
  simp [ts_wrL, ts_up, vp_updL]
theorem ts_w_astQ {B : Nat} {cA : Nat → ClassId} {M : ts_M} {a j v : Nat} (ha : a < M.2.2.2) (h : (ts_sh a).1 = 4) : (ts_w B cA M).set a (B + a, .inl (cA 3, (ts_sh a).2, .inr (.inr (.inr (.inr (va_up (fun j => (M.2.2.1 a j).map fun q => B + q) j (some (B + v)))))))) = ts_w B cA (ts_wrR M a j (some v)) := by
  refine ts_w_set rfl ha ?_ fun k hk => ts_ent_congr rfl rfl (ts_up_ne hk)
  rw [ts_ent_4 h]
  congr 8
  funext q
  by_cases hq : q = j <;> simp [ts_wrR, ts_up, va_up, hq]
theorem ts_w_astQ5 {B : Nat} {cA : Nat → ClassId} {M : ts_M} {a j v : Nat} (ha : a < M.2.2.2) (h : (ts_sh a).1 = 5) : (ts_w B cA M).set a (B + a, .inl (cA 4, (ts_sh a).2, .inr (.inr (.inr (.inr (va_up (fun j => (M.2.2.1 a j).map fun q => B + q) j (some (B + v)))))))) = ts_w B cA (ts_wrR M a j (some v)) := by
  refine ts_w_set rfl ha ?_ fun k hk => ts_ent_congr rfl rfl (ts_up_ne hk)
  rw [ts_ent_5 h]
  congr 8
  funext q
  by_cases hq : q = j <;> simp [ts_wrR, ts_up, va_up, hq]
theorem ts_w_new {B : Nat} {cA : Nat → ClassId} {M : ts_M} : ts_w B cA (ts_new M) = ts_w B cA M ++ [(B + M.2.2.2, ts_ent B cA (ts_new M) M.2.2.2)] := by
  unfold ts_w
  rw [show (ts_new M).2.2.2 = M.2.2.2 + 1 from rfl, List.range_succ, List.map_append]
  congr 1
  apply List.map_congr_left
  intro k hk
  have hk : k ≠ M.2.2.2 := by have := List.mem_range.mp hk; omega
  rw [ts_ent_congr (M := M) (M' := ts_new M) (ts_fr_ne hk) (ts_fr_ne hk) (ts_fr_ne hk)]
/-- the heap holds the memory -/
def ts_Wd (D : va_G) (B : Nat) (cA : Nat → ClassId) (M : ts_M) (H : Heap) : Prop := va_P D ts_cl (ts_w B cA M) H ∧ M.2.2.2 ≤ ts_NN
theorem ts_Wd.le {D : va_G} {B : Nat} {cA : Nat → ClassId} {M : ts_M} {H : Heap} (h : ts_Wd D B cA M H) (hB : B ≤ H.size) : B + M.2.2.2 ≤ H.size := by
  by_cases h0 : M.2.2.2 = 0
  · omega
  · have h1 := (h.1 (M.2.2.2 - 1) _ (ts_w_at (by omega))).lt
    dsimp only at h1
    omega
theorem ts_vin {j : Int32} {n : Nat} (h0 : 0 ≤ j) (h : j.toNatClampNeg < n) : vp_in j n := by
  rintro (q | q)
  · rw [Int32.lt_iff_toInt_lt] at q
    rw [Int32.le_iff_toInt_le] at h0
    simp at q h0
    omega
  · omega
/-! locals -/
def ts_Lr (B nL : Nat) (ls : List (Option ts_V)) (sl : Array Slot) : Prop := sl.size = nL ∧ lv_wf sl ∧ ∀ (i : Nat) (v : ts_V), ts_lget ls i = some v → sl[i]? = some (.val (ts_val B v))
def ts_lv (B : Nat) (ls : List (Option ts_V)) : List (Nat × Value) := (List.range ls.length).filterMap fun i => (ts_lget ls i).map fun v => (i, ts_val B v)
theorem ts_lget_lt {ls : List (Option ts_V)} {i : Nat} {v : ts_V} (h : ts_lget ls i = some v) : i < ls.length := by
  unfold ts_lget at h
  rcases Nat.lt_or_ge i ls.length with q | q
  · exact q
  · rw [List.getElem?_eq_none q] at h; cases h
theorem ts_lv_mem {B : Nat} {ls : List (Option ts_V)} {i : Nat} {v : ts_V} (h : ts_lget ls i = some v) : (i, ts_val B v) ∈ ts_lv B ls :=
  List.mem_filterMap.mpr ⟨i, List.mem_range.mpr (ts_lget_lt h), by rw [h]; rfl⟩
theorem ts_Lr.has {B nL : Nat} {ls : List (Option ts_V)} {sl : Array Slot} (h : ts_Lr B nL ls sl) : lv_has sl nL (ts_lv B ls) := by
  refine ⟨h.1, h.2.1, fun q hq => ?_⟩
  obtain ⟨i, -, hi⟩ := List.mem_filterMap.mp hq
  cases hv : ts_lget ls i with
  | none => rw [hv] at hi; cases hi
  | some v =>
    rw [hv] at hi
    cases hi
    exact h.2.2 i v hv
theorem ts_val_cat {B : Nat} (v : ts_V) : (ts_val B v).category = if ts_isl (some v) then 2 else 1 := by
  rcases v with x | x | x
  · rfl
  · rfl
  · cases x <;> rfl
theorem ts_lget_set {ls : List (Option ts_V)} {i j : Nat} {v w : ts_V} (h : ts_lget (ts_lset ls i v) j = some w) : (j = i ∧ w = v) ∨ (j ≠ i ∧ ts_lget ls j = some w ∧ (j + 1 = i → ts_isl (some w) = false) ∧ (ts_isl (some v) = true → j ≠ i + 1)) := by
  have g : ∀ (l : List (Option ts_V)) (a b : Nat) (x : Option ts_V) (y : ts_V), ts_lget (l.set a x) b = some y → (b = a ∧ x = some y) ∨ (b ≠ a ∧ ts_lget l b = some y) := by
    intro l a b x y hy
    have hlt := ts_lget_lt hy
    rw [List.length_set] at hlt
    by_cases hb : b = a
    · subst hb
      refine Or.inl ⟨rfl, ?_⟩
      unfold ts_lget at hy
      rw [List.getElem?_set_self hlt] at hy
      exact hy
    · refine Or.inr ⟨hb, ?_⟩
      unfold ts_lget at hy ⊢
      rwa [List.getElem?_set_ne (Ne.symm hb)] at hy
  have base : ∀ b y, ts_lget (ls.set (i - 1) (ts_nol (ts_lget ls (i - 1)))) b = some y → ts_lget ls b = some y ∧ (b + 1 = i → ts_isl (some y) = false) := by
    intro b y hy
    rcases g _ _ _ _ _ hy with ⟨rfl, h2⟩ | ⟨h1, h2⟩
    · unfold ts_nol at h2
      split at h2
      · cases h2
      · next o hno =>
        refine ⟨h2, fun _ => ?_⟩
        rcases y with x | x | x
        · rfl
        · exact absurd h2 (hno x)
        · rfl
    · exact ⟨h2, fun q => by omega⟩
  unfold ts_lset at h
  by_cases hv : ts_isl (some v) = true
  · rw [if_pos hv] at h
    rcases g _ _ _ _ _ h with ⟨h1, h2⟩ | ⟨h1, h2⟩
    · cases h2; exact Or.inl ⟨h1, rfl⟩
    · rcases g _ _ _ _ _ h2 with ⟨_, q⟩ | ⟨q1, q2⟩
      · cases q
      · exact Or.inr ⟨h1, (base _ _ q2).1, (base _ _ q2).2, fun _ => q1⟩
  · rw [if_neg hv] at h
    rcases g _ _ _ _ _ h with ⟨h1, h2⟩ | ⟨h1, h2⟩
    · cases h2; exact Or.inl ⟨h1, rfl⟩
    · exact Or.inr ⟨h1, (base _ _ h2).1, (base _ _ h2).2, fun q => absurd q hv⟩
theorem ts_Lr.store1 {B nL i : Nat} {ls : List (Option ts_V)} {v : ts_V} {sl' : Array Slot} (hv : ts_isl (some v) = false) (h : lv_has sl' nL ((i, ts_val B v) :: (ts_lv B ls).filter (fun q => !(q.1 == i) && !(q.1 + 1 == i && q.2.category == 2)))) : ts_Lr B nL (ts_lset ls i v) sl' := by
  refine ⟨h.1, h.2.1, fun j w hj => ?_⟩
  rcases ts_lget_set hj with ⟨rfl, rfl⟩ | ⟨h1, h2, h3, -⟩
  · exact h.2.2 _ List.mem_cons_self
  · refine h.2.2 (j, ts_val B w) (List.mem_cons_of_mem _ (List.mem_filter.mpr ⟨ts_lv_mem h2, ?_⟩))
    have e := ts_val_cat (B := B) w
    by_cases hji : j + 1 = i
    · rw [h3 hji] at e
      simp [h1, e]
    · simp [h1, hji]
theorem ts_Lr.store2 {B nL i : Nat} {ls : List (Option ts_V)} {v : ts_V} {sl' : Array Slot} (hv : ts_isl (some v) = true) (h : lv_has sl' nL ((i, ts_val B v) :: (ts_lv B ls).filter (fun q => !(q.1 == i) && (!(q.1 == i + 1) && !(q.1 + 1 == i && q.2.category == 2))))) : ts_Lr B nL (ts_lset ls i v) sl' := by
  refine ⟨h.1, h.2.1, fun j w hj => ?_⟩
  rcases ts_lget_set hj with ⟨rfl, rfl⟩ | ⟨h1, h2, h3, h4⟩
  · exact h.2.2 _ List.mem_cons_self
  · refine h.2.2 (j, ts_val B w) (List.mem_cons_of_mem _ (List.mem_filter.mpr ⟨ts_lv_mem h2, ?_⟩))
    have e := ts_val_cat (B := B) w
    by_cases hji : j + 1 = i
    · rw [h3 hji] at e
      simp [h1, h4 hv, e]
    · simp [h1, h4 hv, hji]
end
section
/-! ===== methods' contracts, calls ===== -/
def ts_rm (d : Nat) (M M' : ts_M) : Room := { frames := d, cells := M'.2.2.2 - M.2.2.2, slots := ts_sz M'.2.2.2 - ts_sz M.2.2.2, locals := 40 * d }
def ts_St (D : va_G) (B : Nat) (cA : Nat → ClassId) (M : ts_M) (U : State) : Prop := ts_Wd D B cA M U.heap ∧ va_K D ts_cl (ts_tys cA) U ∧ ts_Nw U ∧ va_AO RX4 U ∧ va_AO RX2 U ∧ B ≤ U.heap.size ∧ (U.heap.size = B + M.2.2.2 ∨ M.2.2.2 = ts_NN)
def ts_Pc (D : va_G) (B : Nat) (cA : Nat → ClassId) (M : ts_M) (As : List ts_V) : Array Value → State → Prop := va_Pc (As.map (ts_val B)) (ts_St D B cA M)
def ts_Qc (D : va_G) (B : Nat) (cA : Nat → ClassId) (v : Option ts_V) (M' : ts_M) : Array Value → State → Outcome → State → Prop := fun _ st o t => o = .returned (v.map (ts_val B)) ∧ ts_Wd D B cA M' t.heap ∧ va_F (fun q : Nat => B ≤ q) st t
/-- the contract that a run of the interpreter gives -/
def ts_Met (l : Launch) (D : va_G) (B : Nat) (cA : Nat → ClassId) (d y : Nat) (As : List ts_V) (M : ts_M) (v : Option ts_V) (M' : ts_M) : Prop :=
  ∀ q, ts_mL[y]? = some q → Met l q.1 (ts_ws q) (ts_rm d M M') (ts_Pc D B cA M As) (ts_Qc D B cA v M') (M'.2.2.2 - M.2.2.2) (ts_sz M'.2.2.2 - ts_sz M.2.2.2) (fun q : Nat => B ≤ q)
theorem ts_sz_succ (n : Nat) : ts_sz (n + 1) = ts_sz n + ts_sz1 n := by simp [ts_sz, List.range_succ]
theorem ts_sz_le {a b : Nat} (h : a ≤ b) : ts_sz a ≤ ts_sz b := by
  obtain ⟨k, rfl⟩ := Nat.le.dest h
  induction k with
  | zero => exact Nat.le_refl _
  | succ k ih => rw [← Nat.add_assoc, ts_sz_succ]; have := ih (Nat.le_add_right _ _); omega
theorem ts_St.blind {D : va_G} {B : Nat} {cA : Nat → ClassId} {M : ts_M} {As : List ts_V} : FrameBlind (ts_Pc D B cA M As) := by
  intro a U g mk ⟨h1, h2, h3, h4, h5, h6, h7⟩
  exact ⟨h1, h2, va_K.moved (u := U) (U := U.calling g mk a) (Vm.Alike.refl U.vm) h3, ts_Nw_same (u := U) (U := U.calling g mk a) rfl h4, va_AO.moved (u := U) (U := U.calling g mk a) (Vm.Alike.refl U.vm) h5, va_AO.moved (u := U) (U := U.calling g mk a) (Vm.Alike.refl U.vm) h6, h7⟩
/-- what stays through a method's walk -/
def ts_Fx (p : Program) (R : Room) (s : State) (m : MethodId) (args : Array Value) (meth : Method) (c : Code) (Y : ts_Y) (D : va_G) (B : Nat) (cA : Nat → ClassId) (d N0 N1 : Nat) : Prop :=
  p.tables.exec = Jvm.exec ∧ c.code = Y.2.1 ∧ c.maxLocals = Y.2.2.1 ∧ s.vm.findClass Y.1.cls = some m.cls ∧ (∀ w ∈ ts_ws Y, w.before args s = true) ∧ va_K D ts_cl (ts_tys cA) s ∧ ts_Nw s ∧ va_AO RX4 s ∧ va_AO RX2 s ∧
  B ≤ s.heap.size ∧ (s.heap.size = B + N0 ∨ N0 = ts_NN) ∧ meth.name = Y.1.name ∧ Y ∈ ts_mL ∧ meth.sig.returnType = Y.2.2.2.1 ∧ meth.locks = false ∧
  R.frames = d + 1 ∧ R.locals = 40 * (d + 1) ∧ R.cells = N1 - N0 ∧ R.slots = ts_sz N1 - ts_sz N0
section CALL
variable {p : Program} {l : Launch} {e : Env} {R : Room} {s : State} {m : MethodId} {args : Array Value} {below : List Frame} {meth : Method} {c : Code} {H : Heap} {locs : List Loc} {Q : State → Prop} {Y : ts_Y} {D : va_G} {B : Nat} {cA : Nat → ClassId} {d N0 N1 : Nat}
theorem ts_Fx.word (F : ts_Fx p R s m args meth c Y D B cA d N0 N1) {w : Cond} (h : ts_gd w) : w.before args s = true := F.2.2.2.2.1 w (List.mem_cons_of_mem _ (ts_gd_in h))
theorem ts_after {cells slots mc ms pc : Nat} {sl : Array Slot} {st0 rest : List Value} {a : Array Value} {v : Option ts_V} {M' : ts_M} (hr : va_Run p l e R s m args below meth c H locs cells slots mc ms (F0 m pc sl st0) rest (ts_Qc D B cA v M' a) (fun q : Nat => B ≤ q)) (hS : va_S (fun q : Nat => B ≤ q) s.heap H locs)
    (kk : ∀ (H1 : Heap) (locs1 : List Loc), ts_Wd D B cA M' H1 → va_S (fun q : Nat => B ≤ q) s.heap H1 locs1 → W p l e R s m args below meth c H1 locs1 (cells + mc) (slots + ms) Q (F0 m (pc + 3) sl ((v.map (ts_val B)).toList ++ rest))) : W p l e R s m args below meth c H locs cells slots Q (F0 m pc sl st0) := by
  intro T hT X
  obtain ⟨v', st₀, t, T', L, h0, X', hL, e1, e2, ⟨hv, hWd, hz, hk⟩, st⟩ := hr T hT X
  cases hv
  rw [h0] at hz hk
  obtain ⟨t2, a1, b1⟩ := kk T'.heap (locs ++ L) (by rw [e1]; exact hWd)
    ⟨Nat.le_trans hS.1 (by rw [e1]; exact hz), fun q h1 h2 => by rw [e1, hk q (Nat.lt_of_lt_of_le h1 hS.1) h2]; exact hS.2.1 q h1 h2, fun q hq => by
      rcases List.mem_append.mp hq with h | h
      · exact hS.2.2 q h
      · exact hL q h⟩ T' rfl X'
  exact ⟨t2, st t2 a1, b1⟩
theorem ts_sum {r : List ts_V} (h : r.length ≤ 4) : ((r.map (ts_val B)).map fun v => v.category).sum ≤ 8 := by
  have : ∀ r : List ts_V, ((r.map (ts_val B)).map fun v => v.category).sum ≤ 2 * r.length := by
    intro r
    induction r with
    | nil => simp
    | cons a r ih =>
      have := ts_val_cat (B := B) a
      simp only [List.map_cons, List.sum_cons, List.length_cons]
      split at this <;> omega
  have := this r
  omega
theorem ts_size (F : ts_Fx p R s m args meth c Y D B cA d N0 N1) {M : ts_M} {T : State} {slots : Nat} (hN : N0 ≤ M.2.2.2) (hW : ts_Wd D B cA M H) (hS : va_S (fun q : Nat => B ≤ q) s.heap H locs) (hT : T.heap = H) (X : Stand p l e R s m args below meth c T locs (M.2.2.2 - N0) slots) : H.size = B + M.2.2.2 ∨ M.2.2.2 = ts_NN := by
  obtain ⟨-, -, -, -, -, -, -, -, -, hB, hz, -⟩ := F
  have h1 : T.heap.size ≤ s.heap.size + (M.2.2.2 - N0) := X.same.2.2.1
  rw [hT] at h1
  have h2 := hW.le (Nat.le_trans hB hS.1)
  have h3 := hW.2
  rcases hz with q | q
  · exact Or.inl (by omega)
  · exact Or.inr (by omega)
theorem ts_hent {M : ts_M} {a c : Nat} (h : ts_sh a = (0, c)) (ha : a < M.2.2.2) : (ts_w B cA M)[a]? = some (B + a, .inr (c, ts_fs B M a)) := by rw [ts_w_at ha, ts_ent_0 h]
/-- the words of a call's link: kinds 0 virtual, 1 static, 2 constructor -/
theorem ts_callW (F : ts_Fx p R s m args meth c Y D B cA d N0 N1) {x y n k z : Nat} {As : List ts_V} {M M' : ts_M} {v : Option ts_V} {q : ts_Y} (hc : ts_cal Y.2.2.2.2 x = some (y, n, k, z)) (hq : ts_mL[y]? = some q) (hM : ts_Met l D B cA d y As M v M')
    (hrec : k ≠ 1 → ∃ (b : Nat) (As' : List ts_V), As = .inr (.inr (some b)) :: As' ∧ (k = 0 → ts_sh b = (0, q.2.2.2.2) ∧ b < M.2.2.2))
    (hlen : (if k = 1 then As.length else As.length - 1) = n) {pc : Nat} {sl : Array Slot} {st r : List ts_V} (hsz : sl.size = Y.2.2.1) (hst : st = As.reverse ++ r) (hr : r.length ≤ 4)
    (hdec : decode Y.2.1 pc = .ok ((if k = 0 then Instr.invokevirtual x else if k = 1 then Instr.invokestatic x else Instr.invokespecial x), 3))
    (hN : N0 ≤ M.2.2.2) (hMM : M.2.2.2 ≤ M'.2.2.2) (hle : M'.2.2.2 ≤ N1) (hW : ts_Wd D B cA M H) (hS : va_S (fun q : Nat => B ≤ q) s.heap H locs)
    (kk : ∀ (H1 : Heap) (locs1 : List Loc), ts_Wd D B cA M' H1 → va_S (fun q : Nat => B ≤ q) s.heap H1 locs1 → W p l e R s m args below meth c H1 locs1 (M'.2.2.2 - N0) (ts_sz M'.2.2.2 - ts_sz N0) Q (F0 m (pc + 3) sl ((v.map (ts_val B)).toList ++ r.map (ts_val B)))) :
    W p l e R s m args below meth c H locs (M.2.2.2 - N0) (ts_sz M.2.2.2 - ts_sz N0) Q (F0 m pc sl (st.map (ts_val B))) := by
  intro T0 hT0 X0
  have hHs := ts_size F hN hW hS hT0 X0
  revert T0
  intro T0 hT0 X0
  refine (?_ : W p l e R s m args below meth c H locs (M.2.2.2 - N0) (ts_sz M.2.2.2 - ts_sz N0) Q (F0 m pc sl (st.map (ts_val B)))) T0 hT0 X0
  clear hT0 X0
  have hwd := fun {w : Cond} (h : ts_gd w) => F.word h
  obtain ⟨hx, hb, hml, hown, hts, hK, hNw, hA4, hA2, hB, hz, hnm, hY, hret, hlk, hRf, hRl, hRc, hRs⟩ := F
  have hcm := ts_cal_of hc
  have hok := List.all_eq_true.mp ts_okC_all _ hcm
  have hqm : q ∈ ts_mL := List.mem_of_getElem? hq
  obtain ⟨hqc, hqp, hq13, hqd1, hqd2⟩ := ts_okY_of hqm
  unfold ts_okC at hok
  dsimp only at hok
  rw [hq] at hok
  simp only [Bool.and_eq_true, decide_eq_true_eq] at hok
  obtain ⟨⟨hpar, hz2⟩, hkind⟩ := hok
  have hMet := hM q hq
  have hini : (Cond.initialized q.1.cls).before args s = true := hwd (ts_wi_gd _ (List.mem_map.mpr ⟨q, hqm, rfl⟩))
  have hcode : (ts_cw q).before args s = true := hwd ⟨ts_wm_in q hqm, ts_cw_good q⟩
  have hG : GoodIn (ts_ws Y) (ts_ws q) := ts_ws_good hqm
  have hRR : (ts_rm d M M').frames + 1 ≤ R.frames ∧ 8 + (q.2.2.1 + 11) + (ts_rm d M M').locals ≤ R.locals := ⟨by rw [hRf]; exact Nat.le_refl _, by rw [hRl]; show 8 + (q.2.2.1 + 11) + 40 * d ≤ 40 * (d + 1); omega⟩
  have hs1 := ts_sz_le hN
  have hs2 := ts_sz_le hMM
  have hs3 := ts_sz_le hle
  have hroom : M.2.2.2 - N0 + (M'.2.2.2 - M.2.2.2) ≤ R.cells ∧ ts_sz M.2.2.2 - ts_sz N0 + (ts_sz M'.2.2.2 - ts_sz M.2.2.2) ≤ R.slots := ⟨by rw [hRc]; omega, by rw [hRs]; omega⟩
  have hU : ∀ U : State, U.heap = H → s.WarmedH U.vm → ts_Pc D B cA M As (As.map (ts_val B)).toArray U := fun U hU hW2 =>
    ⟨rfl, by rw [hU]; exact hW, va_K.moved hW2.alike hK, ts_Nw_warm hW2 hNw, va_AO.moved hW2.alike hA4, va_AO.moved hW2.alike hA2, by rw [hU]; exact Nat.le_trans hB hS.1, by rw [hU]; exact hHs⟩
  have hrm : 2 * (F0 m pc sl (st.map (ts_val B))).monitorRoom + ((r.map (ts_val B)).map fun v => v.category).sum ≤ 8 := lv_room (ts_sum hr)
  have fin : ∀ a : Array Value, va_Run p l e R s m args below meth c H locs (M.2.2.2 - N0) (ts_sz M.2.2.2 - ts_sz N0) (M'.2.2.2 - M.2.2.2) (ts_sz M'.2.2.2 - ts_sz M.2.2.2) (F0 m pc sl (st.map (ts_val B))) (r.map (ts_val B)) (ts_Qc D B cA v M' a) (fun q : Nat => B ≤ q) → W p l e R s m args below meth c H locs (M.2.2.2 - N0) (ts_sz M.2.2.2 - ts_sz N0) Q (F0 m pc sl (st.map (ts_val B))) := by
    intro a hrun
    refine ts_after hrun hS fun H1 locs1 hW1 hS1 => ?_
    have := kk H1 locs1 hW1 hS1
    rw [show M.2.2.2 - N0 + (M'.2.2.2 - M.2.2.2) = M'.2.2.2 - N0 by omega, show ts_sz M.2.2.2 - ts_sz N0 + (ts_sz M'.2.2.2 - ts_sz M.2.2.2) = ts_sz M'.2.2.2 - ts_sz N0 by omega]
    exact this
  have hfix : CallFix p m c Y.2.1 Y.2.2.1 s args (ts_ws Y) Y.1.cls := ⟨hx, hb, hml, hown, hts⟩
  have hYc := (ts_okY_of hY).1
  have hdd : q.1.cls ≠ "java/lang/invoke/MethodHandle" ∧ q.1.cls ≠ "java/lang/invoke/VarHandle" ∧ (parseMethodDescriptor q.1.desc).map (fun d => d.parameters.length) = some n := ⟨hqd1, hqd2, hpar⟩
  have hlink0 : z = 0 → (Cond.methodLink Y.1.cls x q.1).before args s = true := by
    intro h0
    have := hwd (ts_wc_gd (Cond.methodLink (ts_cn Y.2.2.2.2) x q.1) (List.mem_map.mpr ⟨_, List.mem_filter.mpr ⟨hcm, by simp [h0]⟩, by simp only [hq]⟩))
    rwa [← hYc] at this
  have hlink1 : z = 1 → va_Nw (.methodLinkNest Y.1.cls x q.1 RX11) s := by
    intro h1
    have := hNw _ hcm h1 q hq
    rwa [← hYc] at this
  have hwk : (if ts_st q then Cond.static q.1 else Cond.instanceMethod q.1).before args s = true := hwd (ts_wk_gd _ (List.mem_map.mpr ⟨q, hqm, rfl⟩))
  have hzz : z = 0 ∨ z = 1 := by omega
  by_cases h0 : k = 0
  · rw [if_pos h0] at hkind hdec
    simp only [Bool.and_eq_true, decide_eq_true_eq, Bool.not_eq_true'] at hkind
    rw [hkind.2] at hwk
    obtain ⟨b, As', rfl, hb2⟩ := hrec (by omega)
    obtain ⟨hsb, hbn⟩ := hb2 h0
    rw [if_neg (by omega)] at hlen
    have hsel : (Cond.selects q.1.cls q.1 q.1).before args s = true := hwd (ts_wv_gd _ (List.mem_map.mpr ⟨y, hkind.1, by simp only [hq]⟩))
    have hrcv : ∃ cellB : Cell, H[B + b]? = some cellB ∧ cellB.vm.isStatics = false ∧ s.vm.findClass q.1.cls = some cellB.cls := by
      have h13 : q.2.2.2.2 < 13 := by
        obtain ⟨r', hr', -⟩ := hW.1 b _ (ts_hent hsb hbn)
        have := (List.getElem?_eq_some_iff.mp hr').1
        simpa [ts_cl] using this
      have := va_recv hK hW.1 (ts_cl_at h13) (ts_hent hsb hbn)
      rwa [← hqc] at this
    have hPre : PreV s H q.1.cls (B + b) (ts_Pc D B cA M (.inr (.inr (some b)) :: As')) (As'.map (ts_val B)) := ⟨ts_St.blind, hrcv, hU⟩
    have hstk : (F0 m pc sl (st.map (ts_val B))).stack = (As'.map (ts_val B)).reverse ++ .ref (B + b) :: r.map (ts_val B) := by
      show st.map (ts_val B) = _
      rw [hst]; simp [ts_val, va_rf]
    have hn' : (As'.map (ts_val B)).length = n := by simp at hlen ⊢; omega
    rcases hzz with hz0 | hz1
    · exact fin _ (va_runV (As := As'.map (ts_val B)) (rest := r.map (ts_val B)) hfix hMet ⟨callB_of n hts hG rfl rfl rfl hini (hlink0 hz0) hdd hRR, hwk, hsel⟩ hPre rfl hn' hsz hstk hrm hdec hroom)
    · exact fin _ (va_runVN (As := As'.map (ts_val B)) (rest := r.map (ts_val B)) hfix hMet ⟨va_cnB n hts hG rfl rfl rfl (hlink1 hz1) hini hdd hRR, hwk, hsel⟩ hPre rfl hn' hsz hstk hrm hdec hroom)
  · rw [if_neg h0] at hkind hdec
    by_cases h1 : k = 1
    · rw [if_pos h1] at hkind hdec
      rw [if_pos h1] at hlen
      rw [hkind] at hwk
      have hPre : PreS s H (ts_Pc D B cA M As) (As.map (ts_val B)) := ⟨ts_St.blind, hU⟩
      have hstk : (F0 m pc sl (st.map (ts_val B))).stack = (As.map (ts_val B)).reverse ++ r.map (ts_val B) := by
        show st.map (ts_val B) = _
        rw [hst]; simp
      have hn' : (As.map (ts_val B)).length = n := by simpa using hlen
      rcases hzz with hz0 | hz1
      · exact fin _ (va_runS (As := As.map (ts_val B)) (rest := r.map (ts_val B)) hfix hMet ⟨callB_of n hts hG rfl rfl rfl hini (hlink0 hz0) hdd hRR, hwk⟩ hPre rfl hn' hsz hstk hrm hdec hroom)
      · exact fin _ (va_runSN (As := As.map (ts_val B)) (rest := r.map (ts_val B)) hfix hMet ⟨va_cnB n hts hG rfl rfl rfl (hlink1 hz1) hini hdd hRR, hwk, trivial⟩ hPre rfl hn' hsz hstk hrm hdec hroom)
    · rw [if_neg h1] at hkind hdec
      simp only [Bool.and_eq_true, decide_eq_true_eq, Bool.not_eq_true'] at hkind
      obtain ⟨⟨⟨hk2, hin⟩, hrn⟩, hst0⟩ := hkind
      rw [hst0] at hwk
      rw [if_neg h1] at hlen
      obtain ⟨b, As', rfl, -⟩ := hrec h1
      have hPre : PreS s H (ts_Pc D B cA M (.inr (.inr (some b)) :: As')) (.ref (B + b) :: As'.map (ts_val B)) := ⟨ts_St.blind, hU⟩
      have hstk : (F0 m pc sl (st.map (ts_val B))).stack = (As'.map (ts_val B)).reverse ++ .ref (B + b) :: r.map (ts_val B) := by
        show st.map (ts_val B) = _
        rw [hst]; simp [ts_val, va_rf]
      have hn' : (As'.map (ts_val B)).length = n := by simp at hlen ⊢; omega
      have hwsq : ts_ws q = Cond.code q.1 q.2.1 q.2.2.1 none :: ts_tb := by unfold ts_ws ts_cw; rw [hrn]
      rcases hzz with hz0 | hz1
      · exact fin _ (va_runI (As := As'.map (ts_val B)) (rest := r.map (ts_val B)) hfix hMet ⟨callB_of n hts hG hwsq rfl rfl hini (hlink0 hz0) hdd hRR, hin, hwk⟩ hPre rfl hn' hsz hstk hrm hdec hroom)
      · exact fin _ (va_runIN (As := As'.map (ts_val B)) (rest := r.map (ts_val B)) hfix hMet ⟨va_cnB n hts hG hwsq rfl rfl (hlink1 hz1) hini hdd hRR, hin, hwk⟩ hPre rfl hn' hsz hstk hrm hdec hroom)
end CALL
end
section
/-! ===== one step ===== -/
section STEP
variable {p : Program} {l : Launch} {e : Env} {R : Room} {s : State} {m : MethodId} {args : Array Value} {below : List Frame} {meth : Method} {c : Code} {H : Heap} {locs : List Loc} {Q : State → Prop} {Y : ts_Y} {D : va_G} {B : Nat} {cA : Nat → ClassId} {d N0 N1 : Nat}
theorem ts_st_store1 {Z : Prop} {ls : List (Option ts_V)} {sl : Array Slot} {nL i : Nat} {v : ts_V} (hL : ts_Lr B nL ls sl) (hv : ts_isl (some v) = false) (kk : ∀ sl' : Array Slot, ts_Lr B nL (ts_lset ls i v) sl' → Z) : ∀ sl' : Array Slot, lv_has sl' nL ((i, ts_val B v) :: (ts_lv B ls).filter (fun q => !(q.1 == i) && !(q.1 + 1 == i && q.2.category == 2))) → Z := fun sl' h => kk sl' (ts_Lr.store1 hv h)
theorem ts_jmp_of {pc t : Nat} {off : Int} (h : ts_jmp pc off = some t) : (pc : Int) + off = (t : Int) := by
  unfold ts_jmp at h
  split at h
  · next q => rw [q]; cases h; rfl
  · cases h
theorem ts_to_of {pc pc' : Nat} {off : Int} {ls ls' : List (Option ts_V)} {st st' : List ts_V} {M M' : ts_M} (h : ts_to pc off ls st M = some (.inl (pc', ls', st', M'))) : (pc : Int) + off = (pc' : Int) ∧ ls' = ls ∧ st' = st ∧ M' = M := by
  unfold ts_to at h
  split at h
  · next t ht =>
    cases h
    exact ⟨ts_jmp_of ht, rfl, rfl, rfl⟩
  · cases h
theorem ts_back_of {k : Nat} {r : Option ts_R} {pc pc' : Nat} {ls ls' : List (Option ts_V)} {st st' : List ts_V} {M' : ts_M} (h : ts_back k r pc ls st = some (.inl (pc', ls', st', M'))) : ∃ v : Option ts_V, r = some (v, M') ∧ pc' = pc + 3 ∧ ls' = ls ∧ st' = v.toList ++ st := by
  unfold ts_back at h
  split at h <;> first | (split at h <;> first | (cases h; exact ⟨_, rfl, rfl, rfl, rfl⟩) | cases h) | cases h

theorem ts_fr_self {α : Type} {f : Nat → Nat → α} {a : Nat} {v : α} : ts_fr f a v a = fun _ => v := by funext q; simp [ts_fr]
theorem ts_c1 {v : ts_V} (h : ts_cat1 v = true) : (ts_val B v).category = 1 := by
  rw [ts_val_cat]
  rcases v with x | x | x
  · rfl
  · cases h
  · rfl
theorem ts_nf {ty : FieldType} {v : Int32} (h : ty = .int ∨ ty = .boolean ∧ (v = 0 ∨ v = 1)) : narrow ty (.int v) = .int v ∧ fits ty (.int v) = true := by
  rcases h with rfl | ⟨rfl, rfl | rfl⟩
  · exact ⟨rfl, rfl⟩
  · exact ⟨rfl, rfl⟩
  · exact ⟨rfl, rfl⟩
theorem ts_nfR {ty : FieldType} {o : Option Nat} (h : ts_isr ty = true) : narrow ty (va_rf o) = va_rf o ∧ fits ty (va_rf o) = true := by
  cases ty <;> first | (cases o <;> exact ⟨rfl, rfl⟩) | cases h
theorem ts_fin {A P : Prop} (h0 : ¬ (A ∧ ¬ P)) (h : A) : P := Classical.byContradiction fun q => h0 ⟨h, q⟩
theorem ts_tab : (List.range 13).all (fun c => (List.range (ts_N c)).all fun k => decide ((ts_T c k).1 = ts_cn c) && (decide (ts_ty c k = .int) || decide (ts_ty c k = .boolean) || ts_isr (ts_ty c k))) = true := by decide +kernel
theorem ts_tab_of {c k : Nat} (hc : c < 13) (hk : k < ts_N c) : (ts_T c k).1 = ts_cn c ∧ (ts_ty c k = .int ∨ ts_ty c k = .boolean ∨ ts_isr (ts_ty c k) = true) := by
  have h := List.all_eq_true.mp (List.all_eq_true.mp ts_tab c (List.mem_range.mpr hc)) k (List.mem_range.mpr hk)
  simp only [Bool.and_eq_true, Bool.or_eq_true, decide_eq_true_eq, or_assoc] at h
  exact h
theorem ts_decl {c k : Nat} (hc : c < 13) (hk : k < ts_N c) : (ts_T c k).1 = ts_cn c := (ts_tab_of hc hk).1
theorem ts_vin0 {n : Int32} (h0 : 0 ≤ n) (q : n < 0) : False := by
  rw [Int32.lt_iff_toInt_lt] at q
  rw [Int32.le_iff_toInt_le] at h0
  omega
theorem ts_new_fs {M : ts_M} {c : Nat} (hsh : ts_sh M.2.2.2 = (0, c)) (hc : c < 13) : ∀ j, j < ts_N c → defaultValue (ts_ty c j) = vp_V (ts_fs B (ts_new M) M.2.2.2) j := by
  intro j hj
  have e := ts_fs_at (B := B) (M := ts_new M) hsh hj
  unfold vp_V
  rw [List.getD_eq_getElem?_getD, e]
  unfold ts_gv
  rcases (ts_tab_of hc hj).2 with h | h | h
  · rw [h]; simp [ts_isr, ts_new, ts_fr, ts_val, defaultValue]
  · rw [h]; simp [ts_isr, ts_new, ts_fr, ts_val, defaultValue]
  · rw [if_pos h]
    simp only [ts_new, ts_fr, ts_val, if_pos, Option.map_none, va_rf, Option.getD_some]
    revert h
    cases ts_ty c j <;> intro h <;> first | rfl | cases h
theorem ts_fresh (F : ts_Fx p R s m args meth c Y D B cA d N0 N1) {M : ts_M} {T : State} {H1 : Heap} {slots q : Nat} {e9 : va_E} (hN : N0 ≤ M.2.2.2) (hlt : M.2.2.2 < ts_NN) (hW : ts_Wd D B cA M H) (hS : va_S (fun q : Nat => B ≤ q) s.heap H locs) (hT : T.heap = H1) (X : Stand p l e R s m args below meth c T locs (M.2.2.2 + 1 - N0) slots) (hP1 : va_P D ts_cl (ts_w B cA M ++ [(q, e9)]) H1) (hD1 : va_D (fun q : Nat => B ≤ q) (ts_w B cA M ++ [(q, e9)])) : q = B + M.2.2.2 := by
  obtain ⟨-, -, -, -, -, -, -, -, -, hB, hz, -⟩ := F
  have h1 : T.heap.size ≤ s.heap.size + (M.2.2.2 + 1 - N0) := X.same.2.2.1
  rw [hT] at h1
  have hl : (ts_w B cA M ++ [(q, e9)])[M.2.2.2]? = some (q, e9) := by rw [List.getElem?_append_right (by rw [ts_w_len]; exact Nat.le_refl _), ts_w_len]; simp
  have h2 := (hP1 _ _ hl).lt
  have h3 : B ≤ q := hD1.2 _ _ hl
  dsimp only at h2
  have h4 : ¬ q < B + M.2.2.2 := fun h => by
    have hi : (ts_w B cA M ++ [(q, e9)])[q - B]? = some (B + (q - B), ts_ent B cA M (q - B)) := by rw [List.getElem?_append_left (by rw [ts_w_len]; omega), ts_w_at (by omega)]
    have := hD1.1 _ _ _ _ hi hl (by dsimp only; omega)
    omega
  rcases hz with z | z <;> omega

theorem ts_stepW (F : ts_Fx p R s m args meth c Y D B cA d N0 N1) {call : ts_C} (hcall : ∀ (y : Nat) (As : List ts_V) (M : ts_M) (v : Option ts_V) (M' : ts_M), call y As M = some (v, M') → ts_Met l D B cA d y As M v M' ∧ M.2.2.2 ≤ M'.2.2.2)
    {i : Instr} {len pc pc' : Nat} {ls ls' : List (Option ts_V)} {st st' : List ts_V} {M M' : ts_M} (hs : ts_step call Y i len pc ls st M = some (.inl (pc', ls', st', M'))) (hdec : decode Y.2.1 pc = .ok (i, len)) (hlen : len = ts_len i len) (hN : N0 ≤ M.2.2.2) (hle : M'.2.2.2 ≤ N1)
    {sl : Array Slot} (hW : ts_Wd D B cA M H) (hL : ts_Lr B Y.2.2.1 ls sl) (hS : va_S (fun q : Nat => B ≤ q) s.heap H locs)
    (kk : ∀ (H1 : Heap) (locs1 : List Loc) (sl1 : Array Slot), ts_Wd D B cA M' H1 → ts_Lr B Y.2.2.1 ls' sl1 → va_S (fun q : Nat => B ≤ q) s.heap H1 locs1 → W p l e R s m args below meth c H1 locs1 (M'.2.2.2 - N0) (ts_sz M'.2.2.2 - ts_sz N0) Q (F0 m pc' sl1 (st'.map (ts_val B)))) :
    W p l e R s m args below meth c H locs (M.2.2.2 - N0) (ts_sz M.2.2.2 - ts_sz N0) Q (F0 m pc sl (st.map (ts_val B))) := by
  have hF := F
  obtain ⟨hx, hb, hml, hown, hts, hK, hNw, hA4, hA2, hB, hz, hnm, hY, hret, hlk, hRf, hRl, hRc, hRs⟩ := F
  have hwd := fun {w : Cond} (h : ts_gd w) => hF.word h
  have hYc := (ts_okY_of hY).1
  have hown2 : s.vm.findClass (ts_cn Y.2.2.2.2) = some m.cls := by rw [← hYc]; exact hown
  have hin : ∀ c, c < 13 → ∀ w ∈ u_ws (ts_cn c) (ts_T c) (ts_N c), w ∈ ts_ws Y := fun c h w hw => List.mem_cons_of_mem _ (ts_lay_in h w hw)
  cases i with

  | iadd =>
    have hlen : len = 1 := hlen
    subst hlen
    unfold ts_step at hs
    dsimp only at hs
    split at hs
    · cases hs
      exact lv_iadd hx hb hdec (kk _ _ _ hW hL hS)
    · cases hs
  | isub =>
    have hlen : len = 1 := hlen
    subst hlen
    unfold ts_step at hs
    dsimp only at hs
    split at hs
    · cases hs
      exact lv_isub hx hb hdec (kk _ _ _ hW hL hS)
    · cases hs
  | imul =>
    have hlen : len = 1 := hlen
    subst hlen
    unfold ts_step at hs
    dsimp only at hs
    split at hs
    · cases hs
      exact lv_imul hx hb hdec (kk _ _ _ hW hL hS)
    · cases hs
  | iand =>
    have hlen : len = 1 := hlen
    subst hlen
    unfold ts_step at hs
    dsimp only at hs
    split at hs
    · cases hs
      exact lv_iand hx hb hdec (kk _ _ _ hW hL hS)
    · cases hs
  | ior =>
    have hlen : len = 1 := hlen
    subst hlen
    unfold ts_step at hs
    dsimp only at hs
    split at hs
    · cases hs
      exact lv_ior hx hb hdec (kk _ _ _ hW hL hS)
    · cases hs
  | ixor =>
    have hlen : len = 1 := hlen
    subst hlen
    unfold ts_step at hs
    dsimp only at hs
    split at hs
    · cases hs
      exact lv_ixor hx hb hdec (kk _ _ _ hW hL hS)
    · cases hs
  | ishl =>
    have hlen : len = 1 := hlen
    subst hlen
    unfold ts_step at hs
    dsimp only at hs
    split at hs
    · cases hs
      exact lv_ishl hx hb hdec (kk _ _ _ hW hL hS)
    · cases hs
  | ishr =>
    have hlen : len = 1 := hlen
    subst hlen
    unfold ts_step at hs
    dsimp only at hs
    split at hs
    · cases hs
      exact lv_ishr hx hb hdec (kk _ _ _ hW hL hS)
    · cases hs
  | lmul =>
    have hlen : len = 1 := hlen
    subst hlen
    unfold ts_step at hs
    dsimp only at hs
    split at hs
    · cases hs
      exact lv_lmul hx hb hdec (kk _ _ _ hW hL hS)
    · cases hs
  | iushr =>
    have hlen : len = 1 := hlen
    subst hlen
    unfold ts_step at hs
    dsimp only at hs
    split at hs
    · cases hs
      exact lv_iushr hx hb hdec rfl (kk _ _ _ hW hL hS)
    · cases hs
  | lcmp =>
    have hlen : len = 1 := hlen
    subst hlen
    unfold ts_step at hs
    dsimp only at hs
    split at hs
    · cases hs
      exact W.lcmp hx hb hdec (kk _ _ _ hW hL hS)
    · cases hs
  | idiv =>
    have hlen : len = 1 := hlen
    subst hlen
    unfold ts_step at hs
    dsimp only at hs
    split at hs
    · split at hs
      · next hg =>
        cases hs
        exact lv_idiv hx hb hdec hg (kk _ _ _ hW hL hS)
      · cases hs
    · cases hs
  | irem =>
    have hlen : len = 1 := hlen
    subst hlen
    unfold ts_step at hs
    dsimp only at hs
    split at hs
    · split at hs
      · next hg =>
        cases hs
        exact lv_irem hx hb hdec hg (kk _ _ _ hW hL hS)
      · cases hs
    · cases hs
  | ldiv =>
    have hlen : len = 1 := hlen
    subst hlen
    unfold ts_step at hs
    dsimp only at hs
    split at hs
    · split at hs
      · next hg =>
        cases hs
        exact lv_ldiv hx hb hdec hg (kk _ _ _ hW hL hS)
      · cases hs
    · cases hs
  | i2b =>
    have hlen : len = 1 := hlen
    subst hlen
    unfold ts_step at hs
    dsimp only at hs
    split at hs
    · cases hs
      exact lv_i2b hx hb hdec rfl (kk _ _ _ hW hL hS)
    · cases hs
  | i2l =>
    have hlen : len = 1 := hlen
    subst hlen
    unfold ts_step at hs
    dsimp only at hs
    split at hs
    · cases hs
      exact lv_i2l hx hb hdec rfl (kk _ _ _ hW hL hS)
    · cases hs
  | iconst n =>
    have hlen : len = 1 := hlen
    subst hlen
    unfold ts_step at hs
    dsimp only at hs
    cases hs
    exact lv_iconst hx hb hdec rfl (kk _ _ _ hW hL hS)
  | bipush n =>
    have hlen : len = 2 := hlen
    subst hlen
    unfold ts_step at hs
    dsimp only at hs
    cases hs
    exact lv_bipush hx hb hdec rfl (kk _ _ _ hW hL hS)
  | sipush n =>
    have hlen : len = 3 := hlen
    subst hlen
    unfold ts_step at hs
    dsimp only at hs
    cases hs
    exact lv_sipush hx hb hdec rfl (kk _ _ _ hW hL hS)
  | lconst n =>
    have hlen : len = 1 := hlen
    subst hlen
    unfold ts_step at hs
    dsimp only at hs
    cases hs
    exact lv_lconst hx hb hdec rfl (kk _ _ _ hW hL hS)
  | aconst_null =>
    have hlen : len = 1 := hlen
    subst hlen
    unfold ts_step at hs
    dsimp only at hs
    cases hs
    exact lv_null hx hb hdec (kk _ _ _ hW hL hS)
  | ldc x =>
    have hlen : len = 2 := hlen
    subst hlen
    unfold ts_step at hs
    dsimp only at hs
    split at hs
    · next v hv =>
      cases hs
      exact lv_ldc hx hb hown2 (hwd (ts_wI_gd _ (List.mem_map.mpr ⟨_, ts_cI_of hv, rfl⟩))) hdec (kk _ _ _ hW hL hS)
    · cases hs
  | ldc_w x =>
    have hlen : len = 3 := hlen
    subst hlen
    unfold ts_step at hs
    dsimp only at hs
    split at hs
    · next v hv =>
      cases hs
      exact lv_ldcw hx hb hown2 (hwd (ts_wI_gd _ (List.mem_map.mpr ⟨_, ts_cI_of hv, rfl⟩))) hdec (kk _ _ _ hW hL hS)
    · cases hs
  | ldc2_w x =>
    have hlen : len = 3 := hlen
    subst hlen
    unfold ts_step at hs
    dsimp only at hs
    split at hs
    · next v hv =>
      cases hs
      exact lv_ldc2 hx hb hown2 (hwd (ts_wJ_gd _ (List.mem_map.mpr ⟨_, ts_cJ_of hv, rfl⟩))) hdec (kk _ _ _ hW hL hS)
    · cases hs
  | iload n =>
    have hlen : len = 2 := hlen
    subst hlen
    unfold ts_step at hs
    dsimp only at hs
    split at hs
    · next v hv =>
      cases hs
      exact lv_iload hx hb hdec (hL.2.2 _ _ hv) (kk _ _ _ hW hL hS)
    · cases hs
  | iload_n n =>
    have hlen : len = 1 := hlen
    subst hlen
    unfold ts_step at hs
    dsimp only at hs
    split at hs
    · next v hv =>
      cases hs
      exact lv_iload_n hx hb hdec rfl (hL.2.2 _ _ hv) (kk _ _ _ hW hL hS)
    · cases hs
  | lload n =>
    have hlen : len = 2 := hlen
    subst hlen
    unfold ts_step at hs
    dsimp only at hs
    split at hs
    · next v hv =>
      cases hs
      exact lv_lload hx hb hdec (hL.2.2 _ _ hv) (kk _ _ _ hW hL hS)
    · cases hs
  | lload_n n =>
    have hlen : len = 1 := hlen
    subst hlen
    unfold ts_step at hs
    dsimp only at hs
    split at hs
    · next v hv =>
      cases hs
      exact lv_lload_n hx hb hdec rfl (hL.2.2 _ _ hv) (kk _ _ _ hW hL hS)
    · cases hs
  | aload n =>
    have hlen : len = 2 := hlen
    subst hlen
    unfold ts_step at hs
    dsimp only at hs
    split at hs
    · next v hv =>
      cases hs
      cases v with
      | none => exact lv_aloadN hx hb hdec (hL.2.2 _ _ hv) (kk _ _ _ hW hL hS)
      | some v => exact lv_aload hx hb hdec (hL.2.2 _ _ hv) (kk _ _ _ hW hL hS)
    · cases hs
  | aload_n n =>
    have hlen : len = 1 := hlen
    subst hlen
    unfold ts_step at hs
    dsimp only at hs
    split at hs
    · next v hv =>
      cases hs
      cases v with
      | none => exact lv_aload_nN hx hb hdec rfl (hL.2.2 _ _ hv) (kk _ _ _ hW hL hS)
      | some v => exact lv_aload_n hx hb hdec rfl (hL.2.2 _ _ hv) (kk _ _ _ hW hL hS)
    · cases hs
  | istore n =>
    have hlen : len = 2 := hlen
    subst hlen
    unfold ts_step at hs
    dsimp only at hs
    split at hs
    · split at hs
      · next hg =>
        cases hs
        exact lv_istore hx hb hdec hL.has hg rfl (fun sl1 h1 => kk _ _ _ hW (ts_Lr.store1 rfl h1) hS)
      · cases hs
    · cases hs
  | istore_n n =>
    have hlen : len = 1 := hlen
    subst hlen
    unfold ts_step at hs
    dsimp only at hs
    split at hs
    · split at hs
      · next hg =>
        cases hs
        exact lv_istore_n hx hb hdec rfl hL.has hg rfl (fun sl1 h1 => kk _ _ _ hW (ts_Lr.store1 rfl h1) hS)
      · cases hs
    · cases hs
  | lstore n =>
    have hlen : len = 2 := hlen
    subst hlen
    unfold ts_step at hs
    dsimp only at hs
    split at hs
    · split at hs
      · next hg =>
        cases hs
        exact lv_lstore hx hb hdec hL.has hg rfl (fun sl1 h1 => kk _ _ _ hW (ts_Lr.store2 rfl h1) hS)
      · cases hs
    · cases hs
  | lstore_n n =>
    have hlen : len = 1 := hlen
    subst hlen
    unfold ts_step at hs
    dsimp only at hs
    split at hs
    · split at hs
      · next hg =>
        cases hs
        exact lv_lstore_n hx hb hdec rfl hL.has hg rfl (fun sl1 h1 => kk _ _ _ hW (ts_Lr.store2 rfl h1) hS)
      · cases hs
    · cases hs
  | astore n =>
    have hlen : len = 2 := hlen
    subst hlen
    unfold ts_step at hs
    dsimp only at hs
    split at hs
    · next v r =>
      split at hs
      · next hg =>
        cases hs
        cases v with
        | none => exact lv_astoreN hx hb hdec hL.has hg rfl (fun sl1 h1 => kk _ _ _ hW (ts_Lr.store1 rfl h1) hS)
        | some v => exact lv_astore hx hb hdec hL.has hg rfl (fun sl1 h1 => kk _ _ _ hW (ts_Lr.store1 rfl h1) hS)
      · cases hs
    · cases hs
  | astore_n n =>
    have hlen : len = 1 := hlen
    subst hlen
    unfold ts_step at hs
    dsimp only at hs
    split at hs
    · next v r =>
      split at hs
      · next hg =>
        cases hs
        cases v with
        | none => exact lv_astore_nN hx hb hdec rfl hL.has hg rfl (fun sl1 h1 => kk _ _ _ hW (ts_Lr.store1 rfl h1) hS)
        | some v => exact lv_astore_n hx hb hdec rfl hL.has hg rfl (fun sl1 h1 => kk _ _ _ hW (ts_Lr.store1 rfl h1) hS)
      · cases hs
    · cases hs
  | iinc n d2 =>
    have hlen : len = 3 := hlen
    subst hlen
    unfold ts_step at hs
    dsimp only at hs
    split at hs
    · next x hv =>
      split at hs
      · next hg =>
        cases hs
        obtain ⟨k9, hk9⟩ := List.getElem?_of_mem (ts_lv_mem (B := B) hv)
        exact lv_iinc hx hb hdec hL.has hk9 rfl hg rfl (fun sl1 h1 => kk _ _ _ hW (ts_Lr.store1 (v := .inl (x + Int32.ofInt d2)) rfl h1) hS)
      · cases hs
    · cases hs
  | dup =>
    have hlen : len = 1 := hlen
    subst hlen
    unfold ts_step at hs
    dsimp only at hs
    split at hs
    · next v r =>
      split at hs
      · next hg =>
        cases hs
        exact lv_dup hx hb hdec (ts_c1 hg) (kk _ _ _ hW hL hS)
      · cases hs
    · cases hs
  | dup_x1 =>
    have hlen : len = 1 := hlen
    subst hlen
    unfold ts_step at hs
    dsimp only at hs
    split at hs
    · next v u r =>
      split at hs
      · next hg =>
        cases hs
        exact lv_dup_x1 hx hb hdec (ts_c1 hg.1) (ts_c1 hg.2) (kk _ _ _ hW hL hS)
      · cases hs
    · cases hs
  | dup2 =>
    have hlen : len = 1 := hlen
    subst hlen
    unfold ts_step at hs
    dsimp only at hs
    split at hs
    · next v u r =>
      split at hs
      · next hg =>
        cases hs
        exact lv_dup2_11 hx hb hdec (ts_c1 hg.1) (ts_c1 hg.2) (kk _ _ _ hW hL hS)
      · cases hs
    · cases hs
  | goto off =>
    have hlen : len = 3 := hlen
    subst hlen
    unfold ts_step at hs
    dsimp only at hs
    obtain ⟨h1, rfl, rfl, rfl⟩ := ts_to_of hs
    exact lv_goto hx hb hdec h1 (kk _ _ _ hW hL hS)
  | if_icmp op off =>
    have hlen : len = 3 := hlen
    subst hlen
    cases op with
    | eq =>
      unfold ts_step at hs
      dsimp only at hs
      split at hs
      · unfold ts_br at hs
        split at hs
        · next t ht =>
          split at hs
          · next hg =>
            cases hs
            exact lv_icmp_eq hx hb hdec (ts_jmp_of ht) (fun _ => kk _ _ _ hW hL hS) (fun q => by first | exact absurd hg q | exact absurd q hg)
          · next hg =>
            cases hs
            exact lv_icmp_eq hx hb hdec (ts_jmp_of ht) (fun q => by first | exact absurd hg q | exact absurd q hg) (fun _ => kk _ _ _ hW hL hS)
        · cases hs
      · cases hs
    | ne =>
      unfold ts_step at hs
      dsimp only at hs
      split at hs
      · unfold ts_br at hs
        split at hs
        · next t ht =>
          split at hs
          · next hg =>
            cases hs
            exact lv_icmp_ne hx hb hdec (ts_jmp_of ht) (fun _ => kk _ _ _ hW hL hS) (fun q => by first | exact absurd hg q | exact absurd q hg)
          · next hg =>
            cases hs
            exact lv_icmp_ne hx hb hdec (ts_jmp_of ht) (fun q => by first | exact absurd hg q | exact absurd q hg) (fun _ => kk _ _ _ hW hL hS)
        · cases hs
      · cases hs
    | lt =>
      unfold ts_step at hs
      dsimp only at hs
      split at hs
      · unfold ts_br at hs
        split at hs
        · next t ht =>
          split at hs
          · next hg =>
            cases hs
            exact lv_icmp_lt hx hb hdec (ts_jmp_of ht) (fun _ => kk _ _ _ hW hL hS) (fun q => by first | exact absurd hg q | exact absurd q hg)
          · next hg =>
            cases hs
            exact lv_icmp_lt hx hb hdec (ts_jmp_of ht) (fun q => by first | exact absurd hg q | exact absurd q hg) (fun _ => kk _ _ _ hW hL hS)
        · cases hs
      · cases hs
    | ge =>
      unfold ts_step at hs
      dsimp only at hs
      split at hs
      · unfold ts_br at hs
        split at hs
        · next t ht =>
          split at hs
          · next hg =>
            cases hs
            exact lv_icmp_ge hx hb hdec (ts_jmp_of ht) (fun _ => kk _ _ _ hW hL hS) (fun q => by first | exact absurd hg q | exact absurd q hg)
          · next hg =>
            cases hs
            exact lv_icmp_ge hx hb hdec (ts_jmp_of ht) (fun q => by first | exact absurd hg q | exact absurd q hg) (fun _ => kk _ _ _ hW hL hS)
        · cases hs
      · cases hs
    | gt =>
      unfold ts_step at hs
      dsimp only at hs
      split at hs
      · unfold ts_br at hs
        split at hs
        · next t ht =>
          split at hs
          · next hg =>
            cases hs
            exact lv_icmp_gt hx hb hdec (ts_jmp_of ht) (fun _ => kk _ _ _ hW hL hS) (fun q => by first | exact absurd hg q | exact absurd q hg)
          · next hg =>
            cases hs
            exact lv_icmp_gt hx hb hdec (ts_jmp_of ht) (fun q => by first | exact absurd hg q | exact absurd q hg) (fun _ => kk _ _ _ hW hL hS)
        · cases hs
      · cases hs
    | le =>
      unfold ts_step at hs
      dsimp only at hs
      split at hs
      · unfold ts_br at hs
        split at hs
        · next t ht =>
          split at hs
          · next hg =>
            cases hs
            exact lv_icmp_le hx hb hdec (ts_jmp_of ht) (fun _ => kk _ _ _ hW hL hS) (fun q => by first | exact absurd hg q | exact absurd q hg)
          · next hg =>
            cases hs
            exact lv_icmp_le hx hb hdec (ts_jmp_of ht) (fun q => by first | exact absurd hg q | exact absurd q hg) (fun _ => kk _ _ _ hW hL hS)
        · cases hs
      · cases hs
  | ifCond op off =>
    have hlen : len = 3 := hlen
    subst hlen
    cases op with
    | eq =>
      unfold ts_step at hs
      dsimp only at hs
      split at hs
      · unfold ts_br at hs
        split at hs
        · next t ht =>
          split at hs
          · next hg =>
            cases hs
            exact lv_if_eq hx hb hdec (ts_jmp_of ht) (fun _ => kk _ _ _ hW hL hS) (fun q => by first | exact absurd hg q | exact absurd q hg)
          · next hg =>
            cases hs
            exact lv_if_eq hx hb hdec (ts_jmp_of ht) (fun q => by first | exact absurd hg q | exact absurd q hg) (fun _ => kk _ _ _ hW hL hS)
        · cases hs
      · cases hs
    | ne =>
      unfold ts_step at hs
      dsimp only at hs
      split at hs
      · unfold ts_br at hs
        split at hs
        · next t ht =>
          split at hs
          · next hg =>
            cases hs
            exact lv_if_ne hx hb hdec (ts_jmp_of ht) (fun _ => kk _ _ _ hW hL hS) (fun q => by first | exact absurd hg q | exact absurd q hg)
          · next hg =>
            cases hs
            exact lv_if_ne hx hb hdec (ts_jmp_of ht) (fun q => by first | exact absurd hg q | exact absurd q hg) (fun _ => kk _ _ _ hW hL hS)
        · cases hs
      · cases hs
    | lt =>
      unfold ts_step at hs
      dsimp only at hs
      split at hs
      · unfold ts_br at hs
        split at hs
        · next t ht =>
          split at hs
          · next hg =>
            cases hs
            exact lv_if_lt hx hb hdec (ts_jmp_of ht) (fun _ => kk _ _ _ hW hL hS) (fun q => by first | exact absurd hg q | exact absurd q hg)
          · next hg =>
            cases hs
            exact lv_if_lt hx hb hdec (ts_jmp_of ht) (fun q => by first | exact absurd hg q | exact absurd q hg) (fun _ => kk _ _ _ hW hL hS)
        · cases hs
      · cases hs
    | ge =>
      unfold ts_step at hs
      dsimp only at hs
      split at hs
      · unfold ts_br at hs
        split at hs
        · next t ht =>
          split at hs
          · next hg =>
            cases hs
            exact lv_if_ge hx hb hdec (ts_jmp_of ht) (fun _ => kk _ _ _ hW hL hS) (fun q => by first | exact absurd hg q | exact absurd q hg)
          · next hg =>
            cases hs
            exact lv_if_ge hx hb hdec (ts_jmp_of ht) (fun q => by first | exact absurd hg q | exact absurd q hg) (fun _ => kk _ _ _ hW hL hS)
        · cases hs
      · cases hs
    | gt =>
      unfold ts_step at hs
      dsimp only at hs
      split at hs
      · unfold ts_br at hs
        split at hs
        · next t ht =>
          split at hs
          · next hg =>
            cases hs
            exact lv_if_gt hx hb hdec (ts_jmp_of ht) (fun _ => kk _ _ _ hW hL hS) (fun q => by first | exact absurd hg q | exact absurd q hg)
          · next hg =>
            cases hs
            exact lv_if_gt hx hb hdec (ts_jmp_of ht) (fun q => by first | exact absurd hg q | exact absurd q hg) (fun _ => kk _ _ _ hW hL hS)
        · cases hs
      · cases hs
    | le =>
      unfold ts_step at hs
      dsimp only at hs
      split at hs
      · unfold ts_br at hs
        split at hs
        · next t ht =>
          split at hs
          · next hg =>
            cases hs
            exact lv_if_le hx hb hdec (ts_jmp_of ht) (fun _ => kk _ _ _ hW hL hS) (fun q => by first | exact absurd hg q | exact absurd q hg)
          · next hg =>
            cases hs
            exact lv_if_le hx hb hdec (ts_jmp_of ht) (fun q => by first | exact absurd hg q | exact absurd q hg) (fun _ => kk _ _ _ hW hL hS)
        · cases hs
      · cases hs
  | ifnull off =>
    have hlen : len = 3 := hlen
    subst hlen
    unfold ts_step at hs
    dsimp only at hs
    split at hs
    · obtain ⟨h1, rfl, rfl, rfl⟩ := ts_to_of hs
      exact lv_ifnullN hx hb hdec h1 (kk _ _ _ hW hL hS)
    · cases hs
      exact lv_ifnull hx hb hdec (kk _ _ _ hW hL hS)
    · cases hs
  | ifnonnull off =>
    have hlen : len = 3 := hlen
    subst hlen
    unfold ts_step at hs
    dsimp only at hs
    split at hs
    · cases hs
      exact lv_ifnonnullN hx hb hdec (kk _ _ _ hW hL hS)
    · obtain ⟨h1, rfl, rfl, rfl⟩ := ts_to_of hs
      exact lv_ifnonnull hx hb hdec h1 (kk _ _ _ hW hL hS)
    · cases hs
  | tableswitch dflt lo hi offs =>
    clear hlen
    unfold ts_step at hs
    dsimp only at hs
    split at hs
    · split at hs
      · next hg =>
        obtain ⟨h1, rfl, rfl, rfl⟩ := ts_to_of hs
        exact lv_tableOut hx hb hdec hg h1 (kk _ _ _ hW hL hS)
      · next hg =>
        split at hs
        · next off ho =>
          obtain ⟨h1, rfl, rfl, rfl⟩ := ts_to_of hs
          exact lv_tableIn hx hb hdec (fun q => hg (Or.inl q)) (fun q => hg (Or.inr q)) ho h1 (kk _ _ _ hW hL hS)
        · cases hs
    · cases hs
  | getfield x =>
    have hlen : len = 3 := hlen
    subst hlen
    unfold ts_step at hs
    dsimp only at hs
    split at hs
    · next a r =>
      split at hs
      · next c2 k hf =>
        split at hs
        · next hg =>
          cases hs
          have hfm := ts_fld_of hf
          have hfo := List.all_eq_true.mp ts_fL_ok _ hfm
          simp only [Bool.and_eq_true, decide_eq_true_eq] at hfo
          exact va_get hx hb hts (hin c2 hfo.1) hown2 hK hW.1 a (ts_hent hg.1 hg.2) (ts_cl_at hfo.1) k hfo.2 (hwd (ts_wf_gd _ (List.mem_map.mpr ⟨_, hfm, rfl⟩))) (fun _ h => h) (ts_fs_at hg.1 hfo.2) hdec (kk _ _ _ hW hL hS)
        · cases hs
      · cases hs
    · cases hs
  | putfield x =>
    have hlen : len = 3 := hlen
    subst hlen
    unfold ts_step at hs
    dsimp only at hs
    split at hs
    · next c2 k hf =>
      split at hs
      · cases hs
      · next hfin0 =>
        have hfm := ts_fld_of hf
        have hfo := List.all_eq_true.mp ts_fL_ok _ hfm
        simp only [Bool.and_eq_true, decide_eq_true_eq] at hfo
        have hlink := hwd (ts_wf_gd _ (List.mem_map.mpr ⟨_, hfm, rfl⟩))
        split at hs
        · next v a r =>
          split at hs
          · next hg =>
            cases hs
            obtain ⟨hsh, ha, hty⟩ := hg
            have hir : ts_isr (ts_ty c2 k) = false := by rcases hty with q | ⟨q, -⟩ <;> rw [q] <;> rfl
            have hnf : narrow (ts_ty c2 k) (.int v) = .int v ∧ fits (ts_ty c2 k) (.int v) = true := ts_nf (by rcases hty with q | ⟨q, r⟩; exact Or.inl q; exact Or.inr ⟨q, r⟩)
            have fin2 : ∀ (H1 : Heap) (locs1 : List Loc), va_P D ts_cl ((ts_w B cA M).set a (B + a, .inr (c2, (ts_fs B M a).set k (.int v)))) H1 → va_D (fun q : Nat => B ≤ q) ((ts_w B cA M).set a (B + a, .inr (c2, (ts_fs B M a).set k (.int v)))) → va_S (fun q : Nat => B ≤ q) s.heap H1 locs1 → W p l e R s m args below meth c H1 locs1 (M.2.2.2 - N0) (ts_sz M.2.2.2 - ts_sz N0) Q (F0 m (pc + 3) sl (st'.map (ts_val B))) := fun H1 locs1 hP1 _ hS1 => kk _ _ _ ⟨by rw [← ts_w_putI ha hsh hfo.2 hir]; exact hP1, hW.2⟩ hL hS1
            by_cases hfin : (ts_T c2 k).2.2.2 = true
            · obtain ⟨hi1, hi2⟩ := ts_fin hfin0 hfin
              subst hi2
              exact va_putF hx hb hts (hin _ hfo.1) (ts_ty _) (ts_ty_ok hfo.1) (ts_nm hfo.1) hown2 hK hW.1 ts_D hS a (ts_hent hsh ha) (ts_cl_at hfo.1) k hfo.2 hlink (fun _ h => h) hfin (by rw [hnm]; exact hi1) (ts_decl hfo.1 hfo.2) (ts_ty_ok hfo.1 k hfo.2) hnf.1 hnf.2 (by rw [ts_fs_len hsh]; exact hfo.2) hdec fin2
            · exact va_put hx hb hts (hin _ hfo.1) (ts_ty _) (ts_ty_ok hfo.1) (ts_nm hfo.1) hown2 hK hW.1 ts_D hS a (ts_hent hsh ha) (ts_cl_at hfo.1) k hfo.2 hlink (fun _ h => h) (by simpa using hfin) (ts_ty_ok hfo.1 k hfo.2) hnf.1 hnf.2 (by rw [ts_fs_len hsh]; exact hfo.2) hdec fin2
          · cases hs
        · next o a r =>
          split at hs
          · next hg =>
            cases hs
            obtain ⟨hsh, ha, hir, -⟩ := hg
            have hnf : narrow (ts_ty c2 k) (va_rf ((some o).map fun q => B + q)) = va_rf ((some o).map fun q => B + q) ∧ fits (ts_ty c2 k) (va_rf ((some o).map fun q => B + q)) = true := ts_nfR hir
            have fin2 : ∀ (H1 : Heap) (locs1 : List Loc), va_P D ts_cl ((ts_w B cA M).set a (B + a, .inr (c2, (ts_fs B M a).set k (va_rf ((some o).map fun q => B + q))))) H1 → va_D (fun q : Nat => B ≤ q) ((ts_w B cA M).set a (B + a, .inr (c2, (ts_fs B M a).set k (va_rf ((some o).map fun q => B + q))))) → va_S (fun q : Nat => B ≤ q) s.heap H1 locs1 → W p l e R s m args below meth c H1 locs1 (M.2.2.2 - N0) (ts_sz M.2.2.2 - ts_sz N0) Q (F0 m (pc + 3) sl (st'.map (ts_val B))) := fun H1 locs1 hP1 _ hS1 => kk _ _ _ ⟨by rw [← ts_w_putR ha hsh hfo.2 hir]; exact hP1, hW.2⟩ hL hS1
            by_cases hfin : (ts_T c2 k).2.2.2 = true
            · obtain ⟨hi1, hi2⟩ := ts_fin hfin0 hfin
              subst hi2
              exact va_putF hx hb hts (hin _ hfo.1) (ts_ty _) (ts_ty_ok hfo.1) (ts_nm hfo.1) hown2 hK hW.1 ts_D hS a (ts_hent hsh ha) (ts_cl_at hfo.1) k hfo.2 hlink (fun _ h => h) hfin (by rw [hnm]; exact hi1) (ts_decl hfo.1 hfo.2) (ts_ty_ok hfo.1 k hfo.2) hnf.1 hnf.2 (by rw [ts_fs_len hsh]; exact hfo.2) hdec fin2
            · exact va_put hx hb hts (hin _ hfo.1) (ts_ty _) (ts_ty_ok hfo.1) (ts_nm hfo.1) hown2 hK hW.1 ts_D hS a (ts_hent hsh ha) (ts_cl_at hfo.1) k hfo.2 hlink (fun _ h => h) (by simpa using hfin) (ts_ty_ok hfo.1 k hfo.2) hnf.1 hnf.2 (by rw [ts_fs_len hsh]; exact hfo.2) hdec fin2
          · cases hs
        · cases hs
    · cases hs
  | iaload =>
    have hlen : len = 1 := hlen
    subst hlen
    unfold ts_step at hs
    dsimp only at hs
    split at hs
    · next j a r =>
      split at hs
      · next hg =>
        cases hs
        obtain ⟨h1, ha, hj, hl⟩ := hg
        exact va_iald hx hb hK hW.1 a 0 (by rw [ts_w_at ha, ts_ent_1 h1]) rfl (ts_vin hj hl) hdec (kk _ _ _ hW hL hS)
      · cases hs
    · cases hs
  | baload =>
    have hlen : len = 1 := hlen
    subst hlen
    unfold ts_step at hs
    dsimp only at hs
    split at hs
    · next j a r =>
      split at hs
      · next hg =>
        cases hs
        obtain ⟨h1, ha, hj, hl⟩ := hg
        exact va_bald hx hb hK hW.1 a 1 (by rw [ts_w_at ha, ts_ent_2 h1]) rfl (ts_vin hj hl) hdec (kk _ _ _ hW hL hS)
      · cases hs
    · cases hs
  | laload =>
    have hlen : len = 1 := hlen
    subst hlen
    unfold ts_step at hs
    dsimp only at hs
    split at hs
    · next j a r =>
      split at hs
      · next hg =>
        cases hs
        obtain ⟨h1, ha, hj, hl⟩ := hg
        exact va_lald hx hb hK hW.1 a 2 (by rw [ts_w_at ha, ts_ent_3 h1]) rfl (ts_vin hj hl) hdec (kk _ _ _ hW hL hS)
      · cases hs
    · cases hs
  | iastore =>
    have hlen : len = 1 := hlen
    subst hlen
    unfold ts_step at hs
    dsimp only at hs
    split at hs
    · next v j a r =>
      split at hs
      · next hg =>
        cases hs
        obtain ⟨h1, ha, hj, hl⟩ := hg
        exact va_iast hx hb hK hW.1 ts_D hS a 0 (by rw [ts_w_at ha, ts_ent_1 h1]) rfl (ts_vin hj hl) hdec (fun H1 locs1 hP1 _ hS1 => kk _ _ _ ⟨by rw [← ts_w_astI ha h1]; exact hP1, hW.2⟩ hL hS1)
      · cases hs
    · cases hs
  | bastore =>
    have hlen : len = 1 := hlen
    subst hlen
    unfold ts_step at hs
    dsimp only at hs
    split at hs
    · next v j a r =>
      split at hs
      · next hg =>
        cases hs
        obtain ⟨h1, ha, hj, hl⟩ := hg
        exact va_bast hx hb hK hW.1 ts_D hS a 1 (by rw [ts_w_at ha, ts_ent_2 h1]) rfl (ts_vin hj hl) hdec (fun H1 locs1 hP1 _ hS1 => kk _ _ _ ⟨by rw [← ts_w_astB ha h1]; exact hP1, hW.2⟩ hL hS1)
      · cases hs
    · cases hs
  | lastore =>
    have hlen : len = 1 := hlen
    subst hlen
    unfold ts_step at hs
    dsimp only at hs
    split at hs
    · next v j a r =>
      split at hs
      · next hg =>
        cases hs
        obtain ⟨h1, ha, hj, hl⟩ := hg
        exact va_last hx hb hK hW.1 ts_D hS a 2 (by rw [ts_w_at ha, ts_ent_3 h1]) rfl (ts_vin hj hl) hdec (fun H1 locs1 hP1 _ hS1 => kk _ _ _ ⟨by rw [← ts_w_astL ha h1]; exact hP1, hW.2⟩ hL hS1)
      · cases hs
    · cases hs
  | aaload =>
    have hlen : len = 1 := hlen
    subst hlen
    unfold ts_step at hs
    dsimp only at hs
    split at hs
    · next j a r =>
      split at hs
      · next hg =>
        cases hs
        obtain ⟨h1, ha, hj, hl⟩ := hg
        rcases h1 with h1 | h1
        · exact va_aldq (cA := cA 3) (C := RX4) (n := (ts_sh a).2) (f := fun j => (M.2.2.1 a j).map fun q => B + q) hx hb hK hW.1 a 3 (by rw [ts_w_at ha, ts_ent_4 h1]) rfl (ts_vin hj hl) hdec (kk _ _ _ hW hL hS)
        · exact va_aldq (cA := cA 4) (C := RX2) (n := (ts_sh a).2) (f := fun j => (M.2.2.1 a j).map fun q => B + q) hx hb hK hW.1 a 4 (by rw [ts_w_at ha, ts_ent_5 h1]) rfl (ts_vin hj hl) hdec (kk _ _ _ hW hL hS)
      · cases hs
    · cases hs
  | aastore =>
    have hlen : len = 1 := hlen
    subst hlen
    unfold ts_step at hs
    dsimp only at hs
    split at hs
    · next v j a r =>
      split at hs
      · next hg =>
        cases hs
        obtain ⟨h1, hv, ha, hj, hl⟩ := hg
        rcases h1 with ⟨h1, h2⟩ | ⟨h1, h2⟩
        · exact va_astq hx hb hK hW.1 ts_D hS a 3 v 4 (r := (RX4, TX4, 14)) (by rw [ts_w_at ha, ts_ent_4 h1]) rfl (ts_hent h2 hv) rfl (ts_vin hj hl) hdec (fun H1 locs1 hP1 _ hS1 => kk _ _ _ ⟨by rw [← ts_w_astQ ha h1]; exact hP1, hW.2⟩ hL hS1)
        · exact va_astq hx hb hK hW.1 ts_D hS a 4 v 2 (r := (RX2, TX2, 7)) (by rw [ts_w_at ha, ts_ent_5 h1]) rfl (ts_hent h2 hv) rfl (ts_vin hj hl) hdec (fun H1 locs1 hP1 _ hS1 => kk _ _ _ ⟨by rw [← ts_w_astQ5 ha h1]; exact hP1, hW.2⟩ hL hS1)
      · cases hs
    · cases hs
  | arraylength =>
    have hlen : len = 1 := hlen
    subst hlen
    unfold ts_step at hs
    dsimp only at hs
    split at hs
    · next a r =>
      split at hs
      · next hg =>
        cases hs
        obtain ⟨h1, h2, ha⟩ := hg
        have h9 : (ts_sh a).1 = 1 ∨ (ts_sh a).1 = 2 ∨ (ts_sh a).1 = 3 ∨ (ts_sh a).1 = 4 ∨ (ts_sh a).1 = 5 := by omega
        rcases h9 with h | h | h | h | h
        · exact va_alen (cA := cA 0) (x := ((ts_sh a).2, .inl (M.1 a))) (ty := .int) hx hb hK hW.1 a 0 (by rw [ts_w_at ha, ts_ent_1 h]) rfl rfl hdec (kk _ _ _ hW hL hS)
        · exact va_alen (cA := cA 1) (x := ((ts_sh a).2, .inl (M.1 a))) (ty := .byte) hx hb hK hW.1 a 1 (by rw [ts_w_at ha, ts_ent_2 h]) rfl rfl hdec (kk _ _ _ hW hL hS)
        · exact va_alen (cA := cA 2) (x := ((ts_sh a).2, .inr (.inl (M.2.1 a)))) (ty := .long) hx hb hK hW.1 a 2 (by rw [ts_w_at ha, ts_ent_3 h]) rfl rfl hdec (kk _ _ _ hW hL hS)
        · exact va_alen (cA := cA 3) (x := ((ts_sh a).2, .inr (.inr (.inr (.inr fun j => (M.2.2.1 a j).map fun q => B + q))))) (ty := .object RX4) hx hb hK hW.1 a 3 (by rw [ts_w_at ha, ts_ent_4 h]) rfl rfl hdec (kk _ _ _ hW hL hS)
        · exact va_alen (cA := cA 4) (x := ((ts_sh a).2, .inr (.inr (.inr (.inr fun j => (M.2.2.1 a j).map fun q => B + q))))) (ty := .object RX2) hx hb hK hW.1 a 4 (by rw [ts_w_at ha, ts_ent_5 h]) rfl rfl hdec (kk _ _ _ hW hL hS)
      · cases hs
    · cases hs
  | invokevirtual x =>
    have hlen : len = 3 := hlen
    subst hlen
    unfold ts_step at hs
    dsimp only at hs
    split at hs
    · next y n z hc =>
      split at hs
      · next b r hst =>
        split at hs
        · next hg =>
          obtain ⟨hsb, hbn, hn1, hr4⟩ := hg
          obtain ⟨v, hcl, rfl, rfl, rfl⟩ := ts_back_of hs
          obtain ⟨hM, hMM⟩ := hcall _ _ _ _ _ hcl
          have hcm := ts_cal_of hc
          have hok := List.all_eq_true.mp ts_okC_all _ hcm
          unfold ts_okC at hok
          dsimp only at hok
          cases hq : ts_mL[y]? with
          | none => rw [hq] at hok; cases hok
          | some q =>
            have hcq : ts_cls y = q.2.2.2.2 := by unfold ts_cls; rw [hq]
            refine ts_callW hF hc hq hM (fun _ => ⟨b, _, rfl, fun _ => ⟨by rw [← hcq]; exact hsb, hbn⟩⟩) (by rw [if_neg (by decide)]; simp; omega) hL.1 (r := r) ?_ hr4 hdec hN hMM hle hW hS (fun H1 locs1 hW1 hS1 => ?_)
            · rw [List.reverse_cons, List.reverse_reverse, List.append_assoc, List.singleton_append, ← hst, List.take_append_drop]
            · have := kk H1 locs1 sl hW1 hL hS1
              rw [List.map_append] at this
              cases v <;> exact this
        · cases hs
      · cases hs
    · cases hs
  | invokespecial x =>
    have hlen : len = 3 := hlen
    subst hlen
    unfold ts_step at hs
    dsimp only at hs
    split at hs
    · next hbi =>
      split at hs
      · next b r =>
        split at hs
        · next hg =>
          cases hs
          exact W.objInit hx hb hown2 (hwd (ts_wo_gd _ (List.mem_map.mpr ⟨_, ts_bi1 hbi, rfl⟩))) (hwd (ts_wo2_gd _ (by simp [ts_wo2]))) (hwd (ts_wo2_gd _ (by simp [ts_wo2]))) rfl (by rw [hml]; exact hL.1) rfl hdec (by rw [hRf]; omega) (by rw [hRl]; exact Nat.le_trans (Nat.add_le_add_right (lv_room (m := m) (pc := pc) (ls := sl) (rest := List.map (ts_val B) (.inr (.inr (some b)) :: st')) (ts_sum (B := B) hg)) 12) (by omega)) (kk _ _ _ hW hL hS)
        · cases hs
      · cases hs
    · split at hs
      · next y n z hc =>
        split at hs
        · next b r hst =>
          split at hs
          · next hg =>
            obtain ⟨hn1, hr4⟩ := hg
            obtain ⟨v, hcl, rfl, rfl, rfl⟩ := ts_back_of hs
            obtain ⟨hM, hMM⟩ := hcall _ _ _ _ _ hcl
            have hcm := ts_cal_of hc
            have hok := List.all_eq_true.mp ts_okC_all _ hcm
            unfold ts_okC at hok
            dsimp only at hok
            cases hq : ts_mL[y]? with
            | none => rw [hq] at hok; cases hok
            | some q =>
              refine ts_callW hF hc hq hM (fun _ => ⟨b, _, rfl, fun h => absurd h (by decide)⟩) (by rw [if_neg (by decide)]; simp; omega) hL.1 (r := r) ?_ hr4 hdec hN hMM hle hW hS (fun H1 locs1 hW1 hS1 => ?_)
              · rw [List.reverse_cons, List.reverse_reverse, List.append_assoc, List.singleton_append, ← hst, List.take_append_drop]
              · have := kk H1 locs1 sl hW1 hL hS1
                rw [List.map_append] at this
                cases v <;> exact this
          · cases hs
        · cases hs
      · cases hs
  | invokestatic x =>
    have hlen : len = 3 := hlen
    subst hlen
    unfold ts_step at hs
    dsimp only at hs
    split at hs
    · next hbi =>
      split at hs
      · next y9 z9 r =>
        split at hs
        · next hg =>
          cases hs
          exact va_mmin hx hb (by rw [hml]; exact hL.1.symm) hown2 (hwd (ts_wy_gd _ (List.mem_map.mpr ⟨_, ts_bi2 hbi, rfl⟩))) (hwd (ts_wz_gd _ (by simp [ts_wz]))) (hwd (ts_wz_gd _ (by simp [ts_wz]))) (hwd (ts_wz_gd _ (by simp [ts_wz]))) (by rw [hRf]; omega) (by rw [hRl]; have := ts_sum (B := B) hg; omega) (by rw [hRc]; omega) (by rw [hRs]; have := ts_sz_le hN; have := ts_sz_le hle; omega) hdec (kk _ _ _ hW hL hS)
        · cases hs
      · cases hs
    · next hbi =>
      split at hs
      · next y9 z9 r =>
        split at hs
        · next hg =>
          cases hs
          exact va_mmax hx hb (by rw [hml]; exact hL.1.symm) hown2 (hwd (ts_wx_gd _ (List.mem_map.mpr ⟨_, ts_bi3 hbi, rfl⟩))) (hwd (ts_wz_gd _ (by simp [ts_wz]))) (hwd (ts_wz_gd _ (by simp [ts_wz]))) (hwd (ts_wz_gd _ (by simp [ts_wz]))) (by rw [hRf]; omega) (by rw [hRl]; have := ts_sum (B := B) hg; omega) (by rw [hRc]; omega) (by rw [hRs]; have := ts_sz_le hN; have := ts_sz_le hle; omega) hdec (kk _ _ _ hW hL hS)
        · cases hs
      · cases hs
    · split at hs
      · next y n z hc =>
        split at hs
        · next hg =>
          obtain ⟨hn1, hr4⟩ := hg
          obtain ⟨v, hcl, rfl, rfl, rfl⟩ := ts_back_of hs
          obtain ⟨hM, hMM⟩ := hcall _ _ _ _ _ hcl
          have hcm := ts_cal_of hc
          have hok := List.all_eq_true.mp ts_okC_all _ hcm
          unfold ts_okC at hok
          dsimp only at hok
          cases hq : ts_mL[y]? with
          | none => rw [hq] at hok; cases hok
          | some q =>
            refine ts_callW hF hc hq hM (fun h => absurd rfl h) (by rw [if_pos rfl]; simp; omega) hL.1 (r := st.drop n) ?_ hr4 hdec hN hMM hle hW hS (fun H1 locs1 hW1 hS1 => ?_)
            · rw [List.reverse_reverse, List.take_append_drop]
            · have := kk H1 locs1 sl hW1 hL hS1
              rw [List.map_append] at this
              cases v <;> exact this
        · cases hs
      · cases hs
  | new x =>
    have hlen : len = 3 := hlen
    subst hlen
    unfold ts_step at hs
    dsimp only at hs
    split at hs
    · next c2 hck =>
      split at hs
      · next hg =>
        cases hs
        obtain ⟨hsh, hlt⟩ := hg
        have hkm := ts_cK_of hck
        have hko := List.all_eq_true.mp ts_kL_ok _ hkm
        simp only [decide_eq_true_eq] at hko
        have hz1 : ts_sz1 M.2.2.2 = ts_N c2 := by unfold ts_sz1; rw [hsh]; rfl
        have hle : M.2.2.2 + 1 ≤ N1 := hle
        have h9 := ts_sz_le hle
        have h8 := ts_sz_le hN
        rw [ts_sz_succ, hz1] at h9
        have hcl : (Cond.classLink (ts_cn Y.2.2.2.2) x (ts_cn c2)).before args s = true := hwd (ts_wK_gd _ (List.mem_map.mpr ⟨_, hkm, rfl⟩))
        refine va_new (fs := ts_fs B (ts_new M) M.2.2.2) hx hb hts (hin c2 hko) (ts_ty c2) (ts_ty_ok hko) hown2 hcl (hwd (ts_wL_gd _ (List.mem_map.mpr ⟨c2, List.mem_range.mpr hko, rfl⟩))) (hwd (ts_wM_gd _ (List.mem_map.mpr ⟨c2, List.mem_range.mpr hko, rfl⟩))) hK hW.1 ts_D hS (fun q h => Nat.le_trans hB h) (ts_cl_at hko) (ts_new_fs hsh hko) (by rw [hRc]; omega) (by rw [hRs]; omega) hdec (fun q H1 hP1 hD1 hS1 => ?_)
        intro T hT X
        have hq : q = B + M.2.2.2 := ts_fresh hF hN hlt hW hS hT (by rw [show M.2.2.2 - N0 + 1 = M.2.2.2 + 1 - N0 by omega] at X; exact X) hP1 hD1
        subst hq
        have := kk H1 locs sl ⟨by rw [ts_w_new, ts_ent_0 hsh]; exact hP1, Nat.succ_le_of_lt hlt⟩ hL hS1
        rw [show (ts_new M).2.2.2 = M.2.2.2 + 1 from rfl, ts_sz_succ, hz1, show M.2.2.2 + 1 - N0 = M.2.2.2 - N0 + 1 by omega, show ts_sz M.2.2.2 + ts_N c2 - ts_sz N0 = ts_sz M.2.2.2 - ts_sz N0 + ts_N c2 by omega] at this
        exact this T hT X
      · cases hs
    · cases hs
  | newarray t =>
    have hlen : len = 2 := hlen
    subst hlen
    unfold ts_step at hs
    dsimp only at hs
    split at hs
    · next n r =>
      split at hs
      · next hg =>
        cases hs
        obtain ⟨hty, h0, hbig, hlt⟩ := hg
        have hz1 : ts_sz1 M.2.2.2 = n.toNatClampNeg := by unfold ts_sz1; rcases hty with ⟨-, q⟩ | ⟨-, q⟩ | ⟨-, q⟩ <;> rw [q] <;> rfl
        have hle : M.2.2.2 + 1 ≤ N1 := hle
        have h9 := ts_sz_le hle
        have h8 := ts_sz_le hN
        rw [ts_sz_succ, hz1] at h9
        have fin2 : ∀ (q : Nat) (e9 : va_E) (H1 : Heap), ts_ent B cA (ts_new M) M.2.2.2 = e9 → va_P D ts_cl (ts_w B cA M ++ [(q, e9)]) H1 → va_D (fun q : Nat => B ≤ q) (ts_w B cA M ++ [(q, e9)]) → va_S (fun q : Nat => B ≤ q) s.heap H1 locs → W p l e R s m args below meth c H1 locs (M.2.2.2 - N0 + 1) (ts_sz M.2.2.2 - ts_sz N0 + n.toNatClampNeg) Q (F0 m (pc + 2) sl (.ref q :: r.map (ts_val B))) := by
          intro q e9 H1 he9 hP1 hD1 hS1 T hT X
          have hq : q = B + M.2.2.2 := ts_fresh hF hN hlt hW hS hT (by rw [show M.2.2.2 - N0 + 1 = M.2.2.2 + 1 - N0 by omega] at X; exact X) hP1 hD1
          subst hq
          have := kk H1 locs sl ⟨by rw [ts_w_new, he9]; exact hP1, Nat.succ_le_of_lt hlt⟩ hL hS1
          rw [show (ts_new M).2.2.2 = M.2.2.2 + 1 from rfl, ts_sz_succ, hz1, show M.2.2.2 + 1 - N0 = M.2.2.2 - N0 + 1 by omega, show ts_sz M.2.2.2 + n.toNatClampNeg - ts_sz N0 = ts_sz M.2.2.2 - ts_sz N0 + n.toNatClampNeg by omega] at this
          exact this T hT X
        have hn0 : ¬ n < 0 := fun q => ts_vin0 h0 q
        have hcb : M.2.2.2 - N0 + 1 ≤ R.cells := by rw [hRc]; omega
        have hsb : ts_sz M.2.2.2 - ts_sz N0 + n.toNatClampNeg ≤ R.slots := by rw [hRs]; omega
        rcases hty with ⟨rfl, q⟩ | ⟨rfl, q⟩ | ⟨rfl, q⟩
        · refine va_newa (atype := .int) (ty := .int) (a0 := (n.toNatClampNeg, .inl fun _ => 0)) hx hb (hwd (ts_wA_gd (.arrayClass .int) (by simp [ts_wA]))) rfl hK hW.1 ts_D hS (fun q h => Nat.le_trans hB h) (fun _ => rfl) hn0 rfl (by show _ * 4 ≤ _; omega) hcb hsb hdec (fun q9 cA9 H1 hK1 hP1 hD1 hS1 => ?_)
          have hc9 : cA9 = cA 0 := Option.some.inj ((hK1.2 5 (cA9, .int) rfl).2.symm.trans (hK.2 0 _ rfl).2)
          subst hc9
          exact fin2 q9 _ H1 (by rw [ts_ent_1 (by rw [q]), q]; simp only [ts_new, ts_fr_self]) hP1 hD1 hS1
        · refine va_newa (atype := .byte) (ty := .byte) (a0 := (n.toNatClampNeg, .inl fun _ => 0)) hx hb (hwd (ts_wA_gd (.arrayClass .byte) (by simp [ts_wA]))) rfl hK hW.1 ts_D hS (fun q h => Nat.le_trans hB h) (fun _ => rfl) hn0 rfl (by show _ * 1 ≤ _; omega) hcb hsb hdec (fun q9 cA9 H1 hK1 hP1 hD1 hS1 => ?_)
          have hc9 : cA9 = cA 1 := Option.some.inj ((hK1.2 5 (cA9, .byte) rfl).2.symm.trans (hK.2 1 _ rfl).2)
          subst hc9
          exact fin2 q9 _ H1 (by rw [ts_ent_2 (by rw [q]), q]; simp only [ts_new, ts_fr_self]) hP1 hD1 hS1
        · refine va_newa (atype := .long) (ty := .long) (a0 := (n.toNatClampNeg, .inr (.inl fun _ => 0))) hx hb (hwd (ts_wA_gd (.arrayClass .long) (by simp [ts_wA]))) rfl hK hW.1 ts_D hS (fun q h => Nat.le_trans hB h) (fun _ => rfl) hn0 rfl (by show _ * 8 ≤ _; omega) hcb hsb hdec (fun q9 cA9 H1 hK1 hP1 hD1 hS1 => ?_)
          have hc9 : cA9 = cA 2 := Option.some.inj ((hK1.2 5 (cA9, .long) rfl).2.symm.trans (hK.2 2 _ rfl).2)
          subst hc9
          exact fin2 q9 _ H1 (by rw [ts_ent_3 (by rw [q]), q]; simp only [ts_new, ts_fr_self]) hP1 hD1 hS1
      · cases hs
    · cases hs
  | anewarray x =>
    have hlen : len = 3 := hlen
    subst hlen
    unfold ts_step at hs
    dsimp only at hs
    split at hs
    · next n r =>
      split at hs
      · next hg =>
        cases hs
        obtain ⟨hty, h0, hbig, hlt⟩ := hg
        have hz1 : ts_sz1 M.2.2.2 = n.toNatClampNeg := by unfold ts_sz1; rcases hty with ⟨-, q⟩ | ⟨-, q⟩ <;> rw [q] <;> rfl
        have hle : M.2.2.2 + 1 ≤ N1 := hle
        have h9 := ts_sz_le hle
        have h8 := ts_sz_le hN
        rw [ts_sz_succ, hz1] at h9
        have fin2 : ∀ (q : Nat) (e9 : va_E) (H1 : Heap), ts_ent B cA (ts_new M) M.2.2.2 = e9 → va_P D ts_cl (ts_w B cA M ++ [(q, e9)]) H1 → va_D (fun q : Nat => B ≤ q) (ts_w B cA M ++ [(q, e9)]) → va_S (fun q : Nat => B ≤ q) s.heap H1 locs → W p l e R s m args below meth c H1 locs (M.2.2.2 - N0 + 1) (ts_sz M.2.2.2 - ts_sz N0 + n.toNatClampNeg) Q (F0 m (pc + 3) sl (.ref q :: r.map (ts_val B))) := by
          intro q e9 H1 he9 hP1 hD1 hS1 T hT X
          have hq : q = B + M.2.2.2 := ts_fresh hF hN hlt hW hS hT (by rw [show M.2.2.2 - N0 + 1 = M.2.2.2 + 1 - N0 by omega] at X; exact X) hP1 hD1
          subst hq
          have := kk H1 locs sl ⟨by rw [ts_w_new, he9]; exact hP1, Nat.succ_le_of_lt hlt⟩ hL hS1
          rw [show (ts_new M).2.2.2 = M.2.2.2 + 1 from rfl, ts_sz_succ, hz1, show M.2.2.2 + 1 - N0 = M.2.2.2 - N0 + 1 by omega, show ts_sz M.2.2.2 + n.toNatClampNeg - ts_sz N0 = ts_sz M.2.2.2 - ts_sz N0 + n.toNatClampNeg by omega] at this
          exact this T hT X
        have hn0 : ¬ n < 0 := fun q => ts_vin0 h0 q
        have hcb : M.2.2.2 - N0 + 1 ≤ R.cells := by rw [hRc]; omega
        have hsb : ts_sz M.2.2.2 - ts_sz N0 + n.toNatClampNeg ≤ R.slots := by rw [hRs]; omega
        rcases hty with ⟨hck, q⟩ | ⟨hck, q⟩
        · refine va_newq hx hb hown2 (hwd (ts_wK_gd (Cond.classLink (ts_cn Y.2.2.2.2) x RX4) (List.mem_map.mpr ⟨_, ts_cK_of hck, rfl⟩))) hA4 hK hW.1 ts_D hS (fun q h => Nat.le_trans hB h) hn0 rfl (by omega) hcb hsb hdec (fun q9 cA9 H1 hK1 hP1 hD1 hS1 => ?_)
          obtain ⟨_, _, _, _, _, f1⟩ := (hK1.2 5 (cA9, .object RX4) rfl).2
          obtain ⟨_, _, _, _, _, f2⟩ := (hK.2 3 _ rfl).2
          have hc9 : cA9 = cA 3 := Option.some.inj (f1.symm.trans f2)
          subst hc9
          exact fin2 q9 _ H1 (by rw [ts_ent_4 (by rw [q]), q]; simp [ts_new, ts_fr]) hP1 hD1 hS1
        · refine va_newq hx hb hown2 (hwd (ts_wK_gd (Cond.classLink (ts_cn Y.2.2.2.2) x RX2) (List.mem_map.mpr ⟨_, ts_cK_of hck, rfl⟩))) hA2 hK hW.1 ts_D hS (fun q h => Nat.le_trans hB h) hn0 rfl (by omega) hcb hsb hdec (fun q9 cA9 H1 hK1 hP1 hD1 hS1 => ?_)
          obtain ⟨_, _, _, _, _, f1⟩ := (hK1.2 5 (cA9, .object RX2) rfl).2
          obtain ⟨_, _, _, _, _, f2⟩ := (hK.2 4 _ rfl).2
          have hc9 : cA9 = cA 4 := Option.some.inj (f1.symm.trans f2)
          subst hc9
          exact fin2 q9 _ H1 (by rw [ts_ent_5 (by rw [q]), q]; simp [ts_new, ts_fr]) hP1 hD1 hS1
      · cases hs
    · cases hs
  | ireturn =>
    clear hlen
    unfold ts_step at hs
    dsimp only at hs
    repeat (split at hs)
    all_goals (cases hs)
  | lreturn =>
    clear hlen
    unfold ts_step at hs
    dsimp only at hs
    repeat (split at hs)
    all_goals (cases hs)
  | return_ =>
    clear hlen
    unfold ts_step at hs
    dsimp only at hs
    repeat (split at hs)
    all_goals (cases hs)
  | areturn =>
    clear hlen
    unfold ts_step at hs
    dsimp only at hs
    repeat (split at hs)
    all_goals (cases hs)
  | _ => cases (show (none : Option (ts_F ⊕ ts_R)) = some (.inl (pc', ls', st', M')) from hs)
end STEP
end
section
/-! ===== runs, methods: what one step keeps; the interpreter is sound ===== -/
def ts_ni (y : Nat) : Prop := ∀ q, ts_mL[y]? = some q → ¬ q.1.name = "<init>"
theorem ts_ni_all : ts_cL.all (fun e => decide (2 ≤ e.2.2.2.2.1) || match ts_mL[e.2.2.1]? with | some q => decide (¬ q.1.name = "<init>") | none => true) = true := by decide +kernel
theorem ts_ni_of {o x y n k z : Nat} (h : ts_cal o x = some (y, n, k, z)) (hk : k < 2) : ts_ni y := by
  intro q hq
  have h1 := List.all_eq_true.mp ts_ni_all _ (ts_cal_of h)
  dsimp only at h1
  rw [hq] at h1
  simp only [Bool.or_eq_true, decide_eq_true_eq] at h1
  rcases h1 with h1 | h1
  · omega
  · exact h1
theorem ts_to_M {pc : Nat} {off : Int} {ls : List (Option ts_V)} {st : List ts_V} {M : ts_M} {r : ts_F ⊕ ts_R} (h : ts_to pc off ls st M = some r) : ∃ f : ts_F, r = .inl f ∧ f.2.2.2 = M := by
  unfold ts_to at h
  split at h
  · cases h; exact ⟨_, rfl, rfl⟩
  · cases h
theorem ts_br_M {c : Prop} [Decidable c] {pc : Nat} {off : Int} {ls : List (Option ts_V)} {st : List ts_V} {M : ts_M} {r : ts_F ⊕ ts_R} (h : ts_br c pc off ls st M = some r) : ∃ f : ts_F, r = .inl f ∧ f.2.2.2 = M := by
  unfold ts_br at h
  split at h
  · split at h
    · cases h; exact ⟨_, rfl, rfl⟩
    · cases h; exact ⟨_, rfl, rfl⟩
  · cases h
theorem ts_back_M {k : Nat} {o : Option ts_R} {pc : Nat} {ls : List (Option ts_V)} {st : List ts_V} {r : ts_F ⊕ ts_R} (h : ts_back k o pc ls st = some r) : ∃ (f : ts_F) (v : Option ts_V), r = .inl f ∧ o = some (v, f.2.2.2) := by
  unfold ts_back at h
  split at h <;> first | (split at h <;> first | (cases h; exact ⟨_, _, rfl, rfl⟩) | cases h) | cases h
/-- what any step does to the memory -/
def ts_RL (call : ts_C) (Y : ts_Y) (P : ts_M → ts_M → Prop) : Prop := (∀ M, P M M) ∧ (∀ M a j v, P M (ts_wrI M a j v)) ∧ (∀ M a j v, P M (ts_wrL M a j v)) ∧ (∀ M a c j (v : Nat), ts_sh a = (0, c) → (Y.1.name = "<init>" ∨ ts_mu c j = true) → P M (ts_wrR M a j (some v))) ∧
  (Y.1.name = "<init>" → ∀ M a j (v : Nat), P M (ts_wrR M a j (some v))) ∧ (Y.1.name = "<init>" → ∀ M, P M (ts_new M)) ∧ (∀ y As M v M', ts_ni y → call y As M = some (v, M') → P M M') ∧ (Y.1.name = "<init>" → ∀ y As M v M', call y As M = some (v, M') → P M M')
theorem ts_step_rel {call : ts_C} {Y : ts_Y} {P : ts_M → ts_M → Prop} (hP : ts_RL call Y P) {i : Instr} {len pc : Nat} {ls : List (Option ts_V)} {st : List ts_V} {M : ts_M} {r : ts_F ⊕ ts_R} (hs : ts_step call Y i len pc ls st M = some r) (hci : ts_ci i = true → Y.1.name = "<init>") :
    (∃ f : ts_F, r = .inl f ∧ P M f.2.2.2) ∨ (∃ v, r = .inr (v, M) ∧ (i = .ireturn ∨ i = .lreturn ∨ i = .return_ ∨ i = .areturn)) := by
  obtain ⟨h0, hI, hLo, hR, hRa, hnew, hc1, hc2⟩ := hP
  cases i with
  | iadd =>
    unfold ts_step at hs
    dsimp only at hs
    repeat' (split at hs)
    all_goals first | (obtain ⟨f, rfl, hf⟩ := ts_to_M hs; exact Or.inl ⟨f, rfl, by rw [hf]; exact h0 _⟩) | (obtain ⟨f, rfl, hf⟩ := ts_br_M hs; exact Or.inl ⟨f, rfl, by rw [hf]; exact h0 _⟩) | (cases hs; exact Or.inl ⟨_, rfl, h0 _⟩) | cases hs
  | isub =>
    unfold ts_step at hs
    dsimp only at hs
    repeat' (split at hs)
    all_goals first | (obtain ⟨f, rfl, hf⟩ := ts_to_M hs; exact Or.inl ⟨f, rfl, by rw [hf]; exact h0 _⟩) | (obtain ⟨f, rfl, hf⟩ := ts_br_M hs; exact Or.inl ⟨f, rfl, by rw [hf]; exact h0 _⟩) | (cases hs; exact Or.inl ⟨_, rfl, h0 _⟩) | cases hs
  | imul =>
    unfold ts_step at hs
    dsimp only at hs
    repeat' (split at hs)
    all_goals first | (obtain ⟨f, rfl, hf⟩ := ts_to_M hs; exact Or.inl ⟨f, rfl, by rw [hf]; exact h0 _⟩) | (obtain ⟨f, rfl, hf⟩ := ts_br_M hs; exact Or.inl ⟨f, rfl, by rw [hf]; exact h0 _⟩) | (cases hs; exact Or.inl ⟨_, rfl, h0 _⟩) | cases hs
  | iand =>
    unfold ts_step at hs
    dsimp only at hs
    repeat' (split at hs)
    all_goals first | (obtain ⟨f, rfl, hf⟩ := ts_to_M hs; exact Or.inl ⟨f, rfl, by rw [hf]; exact h0 _⟩) | (obtain ⟨f, rfl, hf⟩ := ts_br_M hs; exact Or.inl ⟨f, rfl, by rw [hf]; exact h0 _⟩) | (cases hs; exact Or.inl ⟨_, rfl, h0 _⟩) | cases hs
  | ior =>
    unfold ts_step at hs
    dsimp only at hs
    repeat' (split at hs)
    all_goals first | (obtain ⟨f, rfl, hf⟩ := ts_to_M hs; exact Or.inl ⟨f, rfl, by rw [hf]; exact h0 _⟩) | (obtain ⟨f, rfl, hf⟩ := ts_br_M hs; exact Or.inl ⟨f, rfl, by rw [hf]; exact h0 _⟩) | (cases hs; exact Or.inl ⟨_, rfl, h0 _⟩) | cases hs
  | ixor =>
    unfold ts_step at hs
    dsimp only at hs
    repeat' (split at hs)
    all_goals first | (obtain ⟨f, rfl, hf⟩ := ts_to_M hs; exact Or.inl ⟨f, rfl, by rw [hf]; exact h0 _⟩) | (obtain ⟨f, rfl, hf⟩ := ts_br_M hs; exact Or.inl ⟨f, rfl, by rw [hf]; exact h0 _⟩) | (cases hs; exact Or.inl ⟨_, rfl, h0 _⟩) | cases hs
  | ishl =>
    unfold ts_step at hs
    dsimp only at hs
    repeat' (split at hs)
    all_goals first | (obtain ⟨f, rfl, hf⟩ := ts_to_M hs; exact Or.inl ⟨f, rfl, by rw [hf]; exact h0 _⟩) | (obtain ⟨f, rfl, hf⟩ := ts_br_M hs; exact Or.inl ⟨f, rfl, by rw [hf]; exact h0 _⟩) | (cases hs; exact Or.inl ⟨_, rfl, h0 _⟩) | cases hs
  | ishr =>
    unfold ts_step at hs
    dsimp only at hs
    repeat' (split at hs)
    all_goals first | (obtain ⟨f, rfl, hf⟩ := ts_to_M hs; exact Or.inl ⟨f, rfl, by rw [hf]; exact h0 _⟩) | (obtain ⟨f, rfl, hf⟩ := ts_br_M hs; exact Or.inl ⟨f, rfl, by rw [hf]; exact h0 _⟩) | (cases hs; exact Or.inl ⟨_, rfl, h0 _⟩) | cases hs
  | lmul =>
    unfold ts_step at hs
    dsimp only at hs
    repeat' (split at hs)
    all_goals first | (obtain ⟨f, rfl, hf⟩ := ts_to_M hs; exact Or.inl ⟨f, rfl, by rw [hf]; exact h0 _⟩) | (obtain ⟨f, rfl, hf⟩ := ts_br_M hs; exact Or.inl ⟨f, rfl, by rw [hf]; exact h0 _⟩) | (cases hs; exact Or.inl ⟨_, rfl, h0 _⟩) | cases hs
  | iushr =>
    unfold ts_step at hs
    dsimp only at hs
    repeat' (split at hs)
    all_goals first | (obtain ⟨f, rfl, hf⟩ := ts_to_M hs; exact Or.inl ⟨f, rfl, by rw [hf]; exact h0 _⟩) | (obtain ⟨f, rfl, hf⟩ := ts_br_M hs; exact Or.inl ⟨f, rfl, by rw [hf]; exact h0 _⟩) | (cases hs; exact Or.inl ⟨_, rfl, h0 _⟩) | cases hs
  | lcmp =>
    unfold ts_step at hs
    dsimp only at hs
    repeat' (split at hs)
    all_goals first | (obtain ⟨f, rfl, hf⟩ := ts_to_M hs; exact Or.inl ⟨f, rfl, by rw [hf]; exact h0 _⟩) | (obtain ⟨f, rfl, hf⟩ := ts_br_M hs; exact Or.inl ⟨f, rfl, by rw [hf]; exact h0 _⟩) | (cases hs; exact Or.inl ⟨_, rfl, h0 _⟩) | cases hs
  | idiv =>
    unfold ts_step at hs
    dsimp only at hs
    repeat' (split at hs)
    all_goals first | (obtain ⟨f, rfl, hf⟩ := ts_to_M hs; exact Or.inl ⟨f, rfl, by rw [hf]; exact h0 _⟩) | (obtain ⟨f, rfl, hf⟩ := ts_br_M hs; exact Or.inl ⟨f, rfl, by rw [hf]; exact h0 _⟩) | (cases hs; exact Or.inl ⟨_, rfl, h0 _⟩) | cases hs
  | irem =>
    unfold ts_step at hs
    dsimp only at hs
    repeat' (split at hs)
    all_goals first | (obtain ⟨f, rfl, hf⟩ := ts_to_M hs; exact Or.inl ⟨f, rfl, by rw [hf]; exact h0 _⟩) | (obtain ⟨f, rfl, hf⟩ := ts_br_M hs; exact Or.inl ⟨f, rfl, by rw [hf]; exact h0 _⟩) | (cases hs; exact Or.inl ⟨_, rfl, h0 _⟩) | cases hs
  | ldiv =>
    unfold ts_step at hs
    dsimp only at hs
    repeat' (split at hs)
    all_goals first | (obtain ⟨f, rfl, hf⟩ := ts_to_M hs; exact Or.inl ⟨f, rfl, by rw [hf]; exact h0 _⟩) | (obtain ⟨f, rfl, hf⟩ := ts_br_M hs; exact Or.inl ⟨f, rfl, by rw [hf]; exact h0 _⟩) | (cases hs; exact Or.inl ⟨_, rfl, h0 _⟩) | cases hs
  | i2b =>
    unfold ts_step at hs
    dsimp only at hs
    repeat' (split at hs)
    all_goals first | (obtain ⟨f, rfl, hf⟩ := ts_to_M hs; exact Or.inl ⟨f, rfl, by rw [hf]; exact h0 _⟩) | (obtain ⟨f, rfl, hf⟩ := ts_br_M hs; exact Or.inl ⟨f, rfl, by rw [hf]; exact h0 _⟩) | (cases hs; exact Or.inl ⟨_, rfl, h0 _⟩) | cases hs
  | i2l =>
    unfold ts_step at hs
    dsimp only at hs
    repeat' (split at hs)
    all_goals first | (obtain ⟨f, rfl, hf⟩ := ts_to_M hs; exact Or.inl ⟨f, rfl, by rw [hf]; exact h0 _⟩) | (obtain ⟨f, rfl, hf⟩ := ts_br_M hs; exact Or.inl ⟨f, rfl, by rw [hf]; exact h0 _⟩) | (cases hs; exact Or.inl ⟨_, rfl, h0 _⟩) | cases hs
  | iconst n =>
    unfold ts_step at hs
    dsimp only at hs
    repeat' (split at hs)
    all_goals first | (obtain ⟨f, rfl, hf⟩ := ts_to_M hs; exact Or.inl ⟨f, rfl, by rw [hf]; exact h0 _⟩) | (obtain ⟨f, rfl, hf⟩ := ts_br_M hs; exact Or.inl ⟨f, rfl, by rw [hf]; exact h0 _⟩) | (cases hs; exact Or.inl ⟨_, rfl, h0 _⟩) | cases hs
  | bipush n =>
    unfold ts_step at hs
    dsimp only at hs
    repeat' (split at hs)
    all_goals first | (obtain ⟨f, rfl, hf⟩ := ts_to_M hs; exact Or.inl ⟨f, rfl, by rw [hf]; exact h0 _⟩) | (obtain ⟨f, rfl, hf⟩ := ts_br_M hs; exact Or.inl ⟨f, rfl, by rw [hf]; exact h0 _⟩) | (cases hs; exact Or.inl ⟨_, rfl, h0 _⟩) | cases hs
  | sipush n =>
    unfold ts_step at hs
    dsimp only at hs
    repeat' (split at hs)
    all_goals first | (obtain ⟨f, rfl, hf⟩ := ts_to_M hs; exact Or.inl ⟨f, rfl, by rw [hf]; exact h0 _⟩) | (obtain ⟨f, rfl, hf⟩ := ts_br_M hs; exact Or.inl ⟨f, rfl, by rw [hf]; exact h0 _⟩) | (cases hs; exact Or.inl ⟨_, rfl, h0 _⟩) | cases hs
  | lconst n =>
    unfold ts_step at hs
    dsimp only at hs
    repeat' (split at hs)
    all_goals first | (obtain ⟨f, rfl, hf⟩ := ts_to_M hs; exact Or.inl ⟨f, rfl, by rw [hf]; exact h0 _⟩) | (obtain ⟨f, rfl, hf⟩ := ts_br_M hs; exact Or.inl ⟨f, rfl, by rw [hf]; exact h0 _⟩) | (cases hs; exact Or.inl ⟨_, rfl, h0 _⟩) | cases hs
  | aconst_null =>
    unfold ts_step at hs
    dsimp only at hs
    repeat' (split at hs)
    all_goals first | (obtain ⟨f, rfl, hf⟩ := ts_to_M hs; exact Or.inl ⟨f, rfl, by rw [hf]; exact h0 _⟩) | (obtain ⟨f, rfl, hf⟩ := ts_br_M hs; exact Or.inl ⟨f, rfl, by rw [hf]; exact h0 _⟩) | (cases hs; exact Or.inl ⟨_, rfl, h0 _⟩) | cases hs
  | ldc x =>
    unfold ts_step at hs
    dsimp only at hs
    repeat' (split at hs)
    all_goals first | (obtain ⟨f, rfl, hf⟩ := ts_to_M hs; exact Or.inl ⟨f, rfl, by rw [hf]; exact h0 _⟩) | (obtain ⟨f, rfl, hf⟩ := ts_br_M hs; exact Or.inl ⟨f, rfl, by rw [hf]; exact h0 _⟩) | (cases hs; exact Or.inl ⟨_, rfl, h0 _⟩) | cases hs
  | ldc_w x =>
    unfold ts_step at hs
    dsimp only at hs
    repeat' (split at hs)
    all_goals first | (obtain ⟨f, rfl, hf⟩ := ts_to_M hs; exact Or.inl ⟨f, rfl, by rw [hf]; exact h0 _⟩) | (obtain ⟨f, rfl, hf⟩ := ts_br_M hs; exact Or.inl ⟨f, rfl, by rw [hf]; exact h0 _⟩) | (cases hs; exact Or.inl ⟨_, rfl, h0 _⟩) | cases hs
  | ldc2_w x =>
    unfold ts_step at hs
    dsimp only at hs
    repeat' (split at hs)
    all_goals first | (obtain ⟨f, rfl, hf⟩ := ts_to_M hs; exact Or.inl ⟨f, rfl, by rw [hf]; exact h0 _⟩) | (obtain ⟨f, rfl, hf⟩ := ts_br_M hs; exact Or.inl ⟨f, rfl, by rw [hf]; exact h0 _⟩) | (cases hs; exact Or.inl ⟨_, rfl, h0 _⟩) | cases hs
  | iload n =>
    unfold ts_step at hs
    dsimp only at hs
    repeat' (split at hs)
    all_goals first | (obtain ⟨f, rfl, hf⟩ := ts_to_M hs; exact Or.inl ⟨f, rfl, by rw [hf]; exact h0 _⟩) | (obtain ⟨f, rfl, hf⟩ := ts_br_M hs; exact Or.inl ⟨f, rfl, by rw [hf]; exact h0 _⟩) | (cases hs; exact Or.inl ⟨_, rfl, h0 _⟩) | cases hs
  | iload_n n =>
    unfold ts_step at hs
    dsimp only at hs
    repeat' (split at hs)
    all_goals first | (obtain ⟨f, rfl, hf⟩ := ts_to_M hs; exact Or.inl ⟨f, rfl, by rw [hf]; exact h0 _⟩) | (obtain ⟨f, rfl, hf⟩ := ts_br_M hs; exact Or.inl ⟨f, rfl, by rw [hf]; exact h0 _⟩) | (cases hs; exact Or.inl ⟨_, rfl, h0 _⟩) | cases hs
  | lload n =>
    unfold ts_step at hs
    dsimp only at hs
    repeat' (split at hs)
    all_goals first | (obtain ⟨f, rfl, hf⟩ := ts_to_M hs; exact Or.inl ⟨f, rfl, by rw [hf]; exact h0 _⟩) | (obtain ⟨f, rfl, hf⟩ := ts_br_M hs; exact Or.inl ⟨f, rfl, by rw [hf]; exact h0 _⟩) | (cases hs; exact Or.inl ⟨_, rfl, h0 _⟩) | cases hs
  | lload_n n =>
    unfold ts_step at hs
    dsimp only at hs
    repeat' (split at hs)
    all_goals first | (obtain ⟨f, rfl, hf⟩ := ts_to_M hs; exact Or.inl ⟨f, rfl, by rw [hf]; exact h0 _⟩) | (obtain ⟨f, rfl, hf⟩ := ts_br_M hs; exact Or.inl ⟨f, rfl, by rw [hf]; exact h0 _⟩) | (cases hs; exact Or.inl ⟨_, rfl, h0 _⟩) | cases hs
  | aload n =>
    unfold ts_step at hs
    dsimp only at hs
    repeat' (split at hs)
    all_goals first | (obtain ⟨f, rfl, hf⟩ := ts_to_M hs; exact Or.inl ⟨f, rfl, by rw [hf]; exact h0 _⟩) | (obtain ⟨f, rfl, hf⟩ := ts_br_M hs; exact Or.inl ⟨f, rfl, by rw [hf]; exact h0 _⟩) | (cases hs; exact Or.inl ⟨_, rfl, h0 _⟩) | cases hs
  | aload_n n =>
    unfold ts_step at hs
    dsimp only at hs
    repeat' (split at hs)
    all_goals first | (obtain ⟨f, rfl, hf⟩ := ts_to_M hs; exact Or.inl ⟨f, rfl, by rw [hf]; exact h0 _⟩) | (obtain ⟨f, rfl, hf⟩ := ts_br_M hs; exact Or.inl ⟨f, rfl, by rw [hf]; exact h0 _⟩) | (cases hs; exact Or.inl ⟨_, rfl, h0 _⟩) | cases hs
  | istore n =>
    unfold ts_step at hs
    dsimp only at hs
    repeat' (split at hs)
    all_goals first | (obtain ⟨f, rfl, hf⟩ := ts_to_M hs; exact Or.inl ⟨f, rfl, by rw [hf]; exact h0 _⟩) | (obtain ⟨f, rfl, hf⟩ := ts_br_M hs; exact Or.inl ⟨f, rfl, by rw [hf]; exact h0 _⟩) | (cases hs; exact Or.inl ⟨_, rfl, h0 _⟩) | cases hs
  | istore_n n =>
    unfold ts_step at hs
    dsimp only at hs
    repeat' (split at hs)
    all_goals first | (obtain ⟨f, rfl, hf⟩ := ts_to_M hs; exact Or.inl ⟨f, rfl, by rw [hf]; exact h0 _⟩) | (obtain ⟨f, rfl, hf⟩ := ts_br_M hs; exact Or.inl ⟨f, rfl, by rw [hf]; exact h0 _⟩) | (cases hs; exact Or.inl ⟨_, rfl, h0 _⟩) | cases hs
  | lstore n =>
    unfold ts_step at hs
    dsimp only at hs
    repeat' (split at hs)
    all_goals first | (obtain ⟨f, rfl, hf⟩ := ts_to_M hs; exact Or.inl ⟨f, rfl, by rw [hf]; exact h0 _⟩) | (obtain ⟨f, rfl, hf⟩ := ts_br_M hs; exact Or.inl ⟨f, rfl, by rw [hf]; exact h0 _⟩) | (cases hs; exact Or.inl ⟨_, rfl, h0 _⟩) | cases hs
  | lstore_n n =>
    unfold ts_step at hs
    dsimp only at hs
    repeat' (split at hs)
    all_goals first | (obtain ⟨f, rfl, hf⟩ := ts_to_M hs; exact Or.inl ⟨f, rfl, by rw [hf]; exact h0 _⟩) | (obtain ⟨f, rfl, hf⟩ := ts_br_M hs; exact Or.inl ⟨f, rfl, by rw [hf]; exact h0 _⟩) | (cases hs; exact Or.inl ⟨_, rfl, h0 _⟩) | cases hs
  | astore n =>
    unfold ts_step at hs
    dsimp only at hs
    repeat' (split at hs)
    all_goals first | (obtain ⟨f, rfl, hf⟩ := ts_to_M hs; exact Or.inl ⟨f, rfl, by rw [hf]; exact h0 _⟩) | (obtain ⟨f, rfl, hf⟩ := ts_br_M hs; exact Or.inl ⟨f, rfl, by rw [hf]; exact h0 _⟩) | (cases hs; exact Or.inl ⟨_, rfl, h0 _⟩) | cases hs
  | astore_n n =>
    unfold ts_step at hs
    dsimp only at hs
    repeat' (split at hs)
    all_goals first | (obtain ⟨f, rfl, hf⟩ := ts_to_M hs; exact Or.inl ⟨f, rfl, by rw [hf]; exact h0 _⟩) | (obtain ⟨f, rfl, hf⟩ := ts_br_M hs; exact Or.inl ⟨f, rfl, by rw [hf]; exact h0 _⟩) | (cases hs; exact Or.inl ⟨_, rfl, h0 _⟩) | cases hs
  | iinc n d2 =>
    unfold ts_step at hs
    dsimp only at hs
    repeat' (split at hs)
    all_goals first | (obtain ⟨f, rfl, hf⟩ := ts_to_M hs; exact Or.inl ⟨f, rfl, by rw [hf]; exact h0 _⟩) | (obtain ⟨f, rfl, hf⟩ := ts_br_M hs; exact Or.inl ⟨f, rfl, by rw [hf]; exact h0 _⟩) | (cases hs; exact Or.inl ⟨_, rfl, h0 _⟩) | cases hs
  | dup =>
    unfold ts_step at hs
    dsimp only at hs
    repeat' (split at hs)
    all_goals first | (obtain ⟨f, rfl, hf⟩ := ts_to_M hs; exact Or.inl ⟨f, rfl, by rw [hf]; exact h0 _⟩) | (obtain ⟨f, rfl, hf⟩ := ts_br_M hs; exact Or.inl ⟨f, rfl, by rw [hf]; exact h0 _⟩) | (cases hs; exact Or.inl ⟨_, rfl, h0 _⟩) | cases hs
  | dup_x1 =>
    unfold ts_step at hs
    dsimp only at hs
    repeat' (split at hs)
    all_goals first | (obtain ⟨f, rfl, hf⟩ := ts_to_M hs; exact Or.inl ⟨f, rfl, by rw [hf]; exact h0 _⟩) | (obtain ⟨f, rfl, hf⟩ := ts_br_M hs; exact Or.inl ⟨f, rfl, by rw [hf]; exact h0 _⟩) | (cases hs; exact Or.inl ⟨_, rfl, h0 _⟩) | cases hs
  | dup2 =>
    unfold ts_step at hs
    dsimp only at hs
    repeat' (split at hs)
    all_goals first | (obtain ⟨f, rfl, hf⟩ := ts_to_M hs; exact Or.inl ⟨f, rfl, by rw [hf]; exact h0 _⟩) | (obtain ⟨f, rfl, hf⟩ := ts_br_M hs; exact Or.inl ⟨f, rfl, by rw [hf]; exact h0 _⟩) | (cases hs; exact Or.inl ⟨_, rfl, h0 _⟩) | cases hs
  | goto off =>
    unfold ts_step at hs
    dsimp only at hs
    repeat' (split at hs)
    all_goals first | (obtain ⟨f, rfl, hf⟩ := ts_to_M hs; exact Or.inl ⟨f, rfl, by rw [hf]; exact h0 _⟩) | (obtain ⟨f, rfl, hf⟩ := ts_br_M hs; exact Or.inl ⟨f, rfl, by rw [hf]; exact h0 _⟩) | (cases hs; exact Or.inl ⟨_, rfl, h0 _⟩) | cases hs
  | if_icmp op off =>
    cases op with
    | eq =>
      unfold ts_step at hs
      dsimp only at hs
      repeat' (split at hs)
      all_goals first | (obtain ⟨f, rfl, hf⟩ := ts_to_M hs; exact Or.inl ⟨f, rfl, by rw [hf]; exact h0 _⟩) | (obtain ⟨f, rfl, hf⟩ := ts_br_M hs; exact Or.inl ⟨f, rfl, by rw [hf]; exact h0 _⟩) | (cases hs; exact Or.inl ⟨_, rfl, h0 _⟩) | cases hs
    | ne =>
      unfold ts_step at hs
      dsimp only at hs
      repeat' (split at hs)
      all_goals first | (obtain ⟨f, rfl, hf⟩ := ts_to_M hs; exact Or.inl ⟨f, rfl, by rw [hf]; exact h0 _⟩) | (obtain ⟨f, rfl, hf⟩ := ts_br_M hs; exact Or.inl ⟨f, rfl, by rw [hf]; exact h0 _⟩) | (cases hs; exact Or.inl ⟨_, rfl, h0 _⟩) | cases hs
    | lt =>
      unfold ts_step at hs
      dsimp only at hs
      repeat' (split at hs)
      all_goals first | (obtain ⟨f, rfl, hf⟩ := ts_to_M hs; exact Or.inl ⟨f, rfl, by rw [hf]; exact h0 _⟩) | (obtain ⟨f, rfl, hf⟩ := ts_br_M hs; exact Or.inl ⟨f, rfl, by rw [hf]; exact h0 _⟩) | (cases hs; exact Or.inl ⟨_, rfl, h0 _⟩) | cases hs
    | ge =>
      unfold ts_step at hs
      dsimp only at hs
      repeat' (split at hs)
      all_goals first | (obtain ⟨f, rfl, hf⟩ := ts_to_M hs; exact Or.inl ⟨f, rfl, by rw [hf]; exact h0 _⟩) | (obtain ⟨f, rfl, hf⟩ := ts_br_M hs; exact Or.inl ⟨f, rfl, by rw [hf]; exact h0 _⟩) | (cases hs; exact Or.inl ⟨_, rfl, h0 _⟩) | cases hs
    | gt =>
      unfold ts_step at hs
      dsimp only at hs
      repeat' (split at hs)
      all_goals first | (obtain ⟨f, rfl, hf⟩ := ts_to_M hs; exact Or.inl ⟨f, rfl, by rw [hf]; exact h0 _⟩) | (obtain ⟨f, rfl, hf⟩ := ts_br_M hs; exact Or.inl ⟨f, rfl, by rw [hf]; exact h0 _⟩) | (cases hs; exact Or.inl ⟨_, rfl, h0 _⟩) | cases hs
    | le =>
      unfold ts_step at hs
      dsimp only at hs
      repeat' (split at hs)
      all_goals first | (obtain ⟨f, rfl, hf⟩ := ts_to_M hs; exact Or.inl ⟨f, rfl, by rw [hf]; exact h0 _⟩) | (obtain ⟨f, rfl, hf⟩ := ts_br_M hs; exact Or.inl ⟨f, rfl, by rw [hf]; exact h0 _⟩) | (cases hs; exact Or.inl ⟨_, rfl, h0 _⟩) | cases hs
  | ifCond op off =>
    cases op with
    | eq =>
      unfold ts_step at hs
      dsimp only at hs
      repeat' (split at hs)
      all_goals first | (obtain ⟨f, rfl, hf⟩ := ts_to_M hs; exact Or.inl ⟨f, rfl, by rw [hf]; exact h0 _⟩) | (obtain ⟨f, rfl, hf⟩ := ts_br_M hs; exact Or.inl ⟨f, rfl, by rw [hf]; exact h0 _⟩) | (cases hs; exact Or.inl ⟨_, rfl, h0 _⟩) | cases hs
    | ne =>
      unfold ts_step at hs
      dsimp only at hs
      repeat' (split at hs)
      all_goals first | (obtain ⟨f, rfl, hf⟩ := ts_to_M hs; exact Or.inl ⟨f, rfl, by rw [hf]; exact h0 _⟩) | (obtain ⟨f, rfl, hf⟩ := ts_br_M hs; exact Or.inl ⟨f, rfl, by rw [hf]; exact h0 _⟩) | (cases hs; exact Or.inl ⟨_, rfl, h0 _⟩) | cases hs
    | lt =>
      unfold ts_step at hs
      dsimp only at hs
      repeat' (split at hs)
      all_goals first | (obtain ⟨f, rfl, hf⟩ := ts_to_M hs; exact Or.inl ⟨f, rfl, by rw [hf]; exact h0 _⟩) | (obtain ⟨f, rfl, hf⟩ := ts_br_M hs; exact Or.inl ⟨f, rfl, by rw [hf]; exact h0 _⟩) | (cases hs; exact Or.inl ⟨_, rfl, h0 _⟩) | cases hs
    | ge =>
      unfold ts_step at hs
      dsimp only at hs
      repeat' (split at hs)
      all_goals first | (obtain ⟨f, rfl, hf⟩ := ts_to_M hs; exact Or.inl ⟨f, rfl, by rw [hf]; exact h0 _⟩) | (obtain ⟨f, rfl, hf⟩ := ts_br_M hs; exact Or.inl ⟨f, rfl, by rw [hf]; exact h0 _⟩) | (cases hs; exact Or.inl ⟨_, rfl, h0 _⟩) | cases hs
    | gt =>
      unfold ts_step at hs
      dsimp only at hs
      repeat' (split at hs)
      all_goals first | (obtain ⟨f, rfl, hf⟩ := ts_to_M hs; exact Or.inl ⟨f, rfl, by rw [hf]; exact h0 _⟩) | (obtain ⟨f, rfl, hf⟩ := ts_br_M hs; exact Or.inl ⟨f, rfl, by rw [hf]; exact h0 _⟩) | (cases hs; exact Or.inl ⟨_, rfl, h0 _⟩) | cases hs
    | le =>
      unfold ts_step at hs
      dsimp only at hs
      repeat' (split at hs)
      all_goals first | (obtain ⟨f, rfl, hf⟩ := ts_to_M hs; exact Or.inl ⟨f, rfl, by rw [hf]; exact h0 _⟩) | (obtain ⟨f, rfl, hf⟩ := ts_br_M hs; exact Or.inl ⟨f, rfl, by rw [hf]; exact h0 _⟩) | (cases hs; exact Or.inl ⟨_, rfl, h0 _⟩) | cases hs
  | ifnull off =>
    unfold ts_step at hs
    dsimp only at hs
    repeat' (split at hs)
    all_goals first | (obtain ⟨f, rfl, hf⟩ := ts_to_M hs; exact Or.inl ⟨f, rfl, by rw [hf]; exact h0 _⟩) | (obtain ⟨f, rfl, hf⟩ := ts_br_M hs; exact Or.inl ⟨f, rfl, by rw [hf]; exact h0 _⟩) | (cases hs; exact Or.inl ⟨_, rfl, h0 _⟩) | cases hs
  | ifnonnull off =>
    unfold ts_step at hs
    dsimp only at hs
    repeat' (split at hs)
    all_goals first | (obtain ⟨f, rfl, hf⟩ := ts_to_M hs; exact Or.inl ⟨f, rfl, by rw [hf]; exact h0 _⟩) | (obtain ⟨f, rfl, hf⟩ := ts_br_M hs; exact Or.inl ⟨f, rfl, by rw [hf]; exact h0 _⟩) | (cases hs; exact Or.inl ⟨_, rfl, h0 _⟩) | cases hs
  | tableswitch dflt lo hi offs =>
    unfold ts_step at hs
    dsimp only at hs
    repeat' (split at hs)
    all_goals first | (obtain ⟨f, rfl, hf⟩ := ts_to_M hs; exact Or.inl ⟨f, rfl, by rw [hf]; exact h0 _⟩) | (obtain ⟨f, rfl, hf⟩ := ts_br_M hs; exact Or.inl ⟨f, rfl, by rw [hf]; exact h0 _⟩) | (cases hs; exact Or.inl ⟨_, rfl, h0 _⟩) | cases hs
  | getfield x =>
    unfold ts_step at hs
    dsimp only at hs
    repeat' (split at hs)
    all_goals first | (obtain ⟨f, rfl, hf⟩ := ts_to_M hs; exact Or.inl ⟨f, rfl, by rw [hf]; exact h0 _⟩) | (obtain ⟨f, rfl, hf⟩ := ts_br_M hs; exact Or.inl ⟨f, rfl, by rw [hf]; exact h0 _⟩) | (cases hs; exact Or.inl ⟨_, rfl, h0 _⟩) | cases hs
  | putfield x =>
    unfold ts_step at hs
    dsimp only at hs
    split at hs
    · split at hs
      · cases hs
      · split at hs
        · split at hs
          · cases hs; exact Or.inl ⟨_, rfl, hI _ _ _ _⟩
          · cases hs
        · split at hs
          · next hg => cases hs; exact Or.inl ⟨_, rfl, hR _ _ _ _ _ hg.1 hg.2.2.2⟩
          · cases hs
        · cases hs
    · cases hs
  | iaload =>
    unfold ts_step at hs
    dsimp only at hs
    repeat' (split at hs)
    all_goals first | (obtain ⟨f, rfl, hf⟩ := ts_to_M hs; exact Or.inl ⟨f, rfl, by rw [hf]; exact h0 _⟩) | (obtain ⟨f, rfl, hf⟩ := ts_br_M hs; exact Or.inl ⟨f, rfl, by rw [hf]; exact h0 _⟩) | (cases hs; exact Or.inl ⟨_, rfl, h0 _⟩) | cases hs
  | baload =>
    unfold ts_step at hs
    dsimp only at hs
    repeat' (split at hs)
    all_goals first | (obtain ⟨f, rfl, hf⟩ := ts_to_M hs; exact Or.inl ⟨f, rfl, by rw [hf]; exact h0 _⟩) | (obtain ⟨f, rfl, hf⟩ := ts_br_M hs; exact Or.inl ⟨f, rfl, by rw [hf]; exact h0 _⟩) | (cases hs; exact Or.inl ⟨_, rfl, h0 _⟩) | cases hs
  | laload =>
    unfold ts_step at hs
    dsimp only at hs
    repeat' (split at hs)
    all_goals first | (obtain ⟨f, rfl, hf⟩ := ts_to_M hs; exact Or.inl ⟨f, rfl, by rw [hf]; exact h0 _⟩) | (obtain ⟨f, rfl, hf⟩ := ts_br_M hs; exact Or.inl ⟨f, rfl, by rw [hf]; exact h0 _⟩) | (cases hs; exact Or.inl ⟨_, rfl, h0 _⟩) | cases hs
  | iastore =>
    unfold ts_step at hs
    dsimp only at hs
    repeat' (split at hs)
    all_goals first | (obtain ⟨f, rfl, hf⟩ := ts_to_M hs; exact Or.inl ⟨f, rfl, by rw [hf]; exact h0 _⟩) | (obtain ⟨f, rfl, hf⟩ := ts_br_M hs; exact Or.inl ⟨f, rfl, by rw [hf]; exact h0 _⟩) | (cases hs; exact Or.inl ⟨_, rfl, hI _ _ _ _⟩) | cases hs
  | bastore =>
    unfold ts_step at hs
    dsimp only at hs
    repeat' (split at hs)
    all_goals first | (obtain ⟨f, rfl, hf⟩ := ts_to_M hs; exact Or.inl ⟨f, rfl, by rw [hf]; exact h0 _⟩) | (obtain ⟨f, rfl, hf⟩ := ts_br_M hs; exact Or.inl ⟨f, rfl, by rw [hf]; exact h0 _⟩) | (cases hs; exact Or.inl ⟨_, rfl, hI _ _ _ _⟩) | cases hs
  | lastore =>
    unfold ts_step at hs
    dsimp only at hs
    repeat' (split at hs)
    all_goals first | (obtain ⟨f, rfl, hf⟩ := ts_to_M hs; exact Or.inl ⟨f, rfl, by rw [hf]; exact h0 _⟩) | (obtain ⟨f, rfl, hf⟩ := ts_br_M hs; exact Or.inl ⟨f, rfl, by rw [hf]; exact h0 _⟩) | (cases hs; exact Or.inl ⟨_, rfl, hLo _ _ _ _⟩) | cases hs
  | aaload =>
    unfold ts_step at hs
    dsimp only at hs
    repeat' (split at hs)
    all_goals first | (obtain ⟨f, rfl, hf⟩ := ts_to_M hs; exact Or.inl ⟨f, rfl, by rw [hf]; exact h0 _⟩) | (obtain ⟨f, rfl, hf⟩ := ts_br_M hs; exact Or.inl ⟨f, rfl, by rw [hf]; exact h0 _⟩) | (cases hs; exact Or.inl ⟨_, rfl, h0 _⟩) | cases hs
  | aastore =>
    unfold ts_step at hs
    dsimp only at hs
    repeat' (split at hs)
    all_goals first | (obtain ⟨f, rfl, hf⟩ := ts_to_M hs; exact Or.inl ⟨f, rfl, by rw [hf]; exact h0 _⟩) | (obtain ⟨f, rfl, hf⟩ := ts_br_M hs; exact Or.inl ⟨f, rfl, by rw [hf]; exact h0 _⟩) | (cases hs; exact Or.inl ⟨_, rfl, hRa (hci rfl) _ _ _ _⟩) | cases hs
  | arraylength =>
    unfold ts_step at hs
    dsimp only at hs
    repeat' (split at hs)
    all_goals first | (obtain ⟨f, rfl, hf⟩ := ts_to_M hs; exact Or.inl ⟨f, rfl, by rw [hf]; exact h0 _⟩) | (obtain ⟨f, rfl, hf⟩ := ts_br_M hs; exact Or.inl ⟨f, rfl, by rw [hf]; exact h0 _⟩) | (cases hs; exact Or.inl ⟨_, rfl, h0 _⟩) | cases hs
  | invokevirtual x =>
    unfold ts_step at hs
    dsimp only at hs
    repeat' (split at hs)
    all_goals first | (obtain ⟨f, v, rfl, ho⟩ := ts_back_M hs; exact Or.inl ⟨f, rfl, hc1 _ _ _ _ _ (ts_ni_of (by assumption) (by decide)) ho⟩) | (cases hs; exact Or.inl ⟨_, rfl, h0 _⟩) | cases hs
  | invokespecial x =>
    unfold ts_step at hs
    dsimp only at hs
    repeat' (split at hs)
    all_goals first | (obtain ⟨f, v, rfl, ho⟩ := ts_back_M hs; exact Or.inl ⟨f, rfl, hc2 (hci rfl) _ _ _ _ _ ho⟩) | (cases hs; exact Or.inl ⟨_, rfl, h0 _⟩) | cases hs
  | invokestatic x =>
    unfold ts_step at hs
    dsimp only at hs
    repeat' (split at hs)
    all_goals first | (obtain ⟨f, v, rfl, ho⟩ := ts_back_M hs; exact Or.inl ⟨f, rfl, hc1 _ _ _ _ _ (ts_ni_of (by assumption) (by decide)) ho⟩) | (cases hs; exact Or.inl ⟨_, rfl, h0 _⟩) | cases hs
  | new x =>
    unfold ts_step at hs
    dsimp only at hs
    repeat' (split at hs)
    all_goals first | (obtain ⟨f, rfl, hf⟩ := ts_to_M hs; exact Or.inl ⟨f, rfl, by rw [hf]; exact h0 _⟩) | (obtain ⟨f, rfl, hf⟩ := ts_br_M hs; exact Or.inl ⟨f, rfl, by rw [hf]; exact h0 _⟩) | (cases hs; exact Or.inl ⟨_, rfl, hnew (hci rfl) _⟩) | cases hs
  | newarray t =>
    unfold ts_step at hs
    dsimp only at hs
    repeat' (split at hs)
    all_goals first | (obtain ⟨f, rfl, hf⟩ := ts_to_M hs; exact Or.inl ⟨f, rfl, by rw [hf]; exact h0 _⟩) | (obtain ⟨f, rfl, hf⟩ := ts_br_M hs; exact Or.inl ⟨f, rfl, by rw [hf]; exact h0 _⟩) | (cases hs; exact Or.inl ⟨_, rfl, hnew (hci rfl) _⟩) | cases hs
  | anewarray x =>
    unfold ts_step at hs
    dsimp only at hs
    repeat' (split at hs)
    all_goals first | (obtain ⟨f, rfl, hf⟩ := ts_to_M hs; exact Or.inl ⟨f, rfl, by rw [hf]; exact h0 _⟩) | (obtain ⟨f, rfl, hf⟩ := ts_br_M hs; exact Or.inl ⟨f, rfl, by rw [hf]; exact h0 _⟩) | (cases hs; exact Or.inl ⟨_, rfl, hnew (hci rfl) _⟩) | cases hs
  | ireturn =>
    unfold ts_step at hs
    dsimp only at hs
    repeat' (split at hs)
    all_goals first | (obtain ⟨f, rfl, hf⟩ := ts_to_M hs; exact Or.inl ⟨f, rfl, by rw [hf]; exact h0 _⟩) | (obtain ⟨f, rfl, hf⟩ := ts_br_M hs; exact Or.inl ⟨f, rfl, by rw [hf]; exact h0 _⟩) | (cases hs; exact Or.inr ⟨_, rfl, by simp⟩) | cases hs
  | lreturn =>
    unfold ts_step at hs
    dsimp only at hs
    repeat' (split at hs)
    all_goals first | (obtain ⟨f, rfl, hf⟩ := ts_to_M hs; exact Or.inl ⟨f, rfl, by rw [hf]; exact h0 _⟩) | (obtain ⟨f, rfl, hf⟩ := ts_br_M hs; exact Or.inl ⟨f, rfl, by rw [hf]; exact h0 _⟩) | (cases hs; exact Or.inr ⟨_, rfl, by simp⟩) | cases hs
  | return_ =>
    unfold ts_step at hs
    dsimp only at hs
    repeat' (split at hs)
    all_goals first | (obtain ⟨f, rfl, hf⟩ := ts_to_M hs; exact Or.inl ⟨f, rfl, by rw [hf]; exact h0 _⟩) | (obtain ⟨f, rfl, hf⟩ := ts_br_M hs; exact Or.inl ⟨f, rfl, by rw [hf]; exact h0 _⟩) | (cases hs; exact Or.inr ⟨_, rfl, by simp⟩) | cases hs
  | areturn =>
    unfold ts_step at hs
    dsimp only at hs
    repeat' (split at hs)
    all_goals first | (obtain ⟨f, rfl, hf⟩ := ts_to_M hs; exact Or.inl ⟨f, rfl, by rw [hf]; exact h0 _⟩) | (obtain ⟨f, rfl, hf⟩ := ts_br_M hs; exact Or.inl ⟨f, rfl, by rw [hf]; exact h0 _⟩) | (cases hs; exact Or.inr ⟨_, rfl, by simp⟩) | cases hs
  | _ => cases (show (none : Option (ts_F ⊕ ts_R)) = some r from hs)
theorem ts_runN_rel {call : ts_C} {Y : ts_Y} {P : ts_M → ts_M → Prop} (hP : ts_RL call Y P) (ht : ∀ a b c, P a b → P b c → P a c) : ∀ (n : Nat) (f : ts_F) (r : ts_R), ts_runN call Y n f = some r → P f.2.2.2 r.2 := by
  intro n
  induction n with
  | zero => intro f r h; simp [ts_runN] at h
  | succ n ih =>
    intro f r h
    rw [ts_runN] at h
    cases h1 : ts_one call Y f with
    | none => rw [h1] at h; cases h
    | some z =>
      rw [h1] at h
      have h2 := h1
      unfold ts_one at h2
      split at h2
      · next i len hd =>
        split at h2
        · next hg =>
          rcases ts_step_rel hP h2 hg.2 with ⟨f', rfl, hf⟩ | ⟨v, rfl, -⟩
          · exact ht _ _ _ hf (ih f' r h)
          · cases h; exact hP.1 _
        · cases h2
      · cases h2
theorem ts_ev_mono : ∀ (d y : Nat) (As : List ts_V) (M : ts_M) (v : Option ts_V) (M' : ts_M), ts_ev d y As M = some (v, M') → M.2.2.2 ≤ M'.2.2.2 := by
  intro d
  induction d with
  | zero => intro y As M v M' h; simp [ts_ev] at h
  | succ d ih =>
    intro y As M v M' h
    simp only [ts_ev] at h
    split at h
    · next Y hY =>
      split at h
      · obtain ⟨n, hn⟩ := ts_run_ex h
        have := ts_runN_rel (P := fun a b => a.2.2.2 ≤ b.2.2.2) ⟨fun _ => Nat.le_refl _, fun _ _ _ _ => Nat.le_refl _, fun _ _ _ _ => Nat.le_refl _, fun _ _ _ _ _ _ _ => Nat.le_refl _, fun _ _ _ _ _ => Nat.le_refl _, fun _ _ => Nat.le_succ _, fun y As M v M' _ h => ih y As M v M' h, fun _ => ih⟩ (fun _ _ _ => Nat.le_trans) n _ _ hn
        exact this
      · cases h
    · cases h
section SOUND
variable {p : Program} {l : Launch} {e : Env} {R : Room} {s : State} {m : MethodId} {args : Array Value} {below : List Frame} {meth : Method} {c : Code} {H : Heap} {locs : List Loc} {Y : ts_Y} {D : va_G} {B : Nat} {cA : Nat → ClassId} {d N0 : Nat}
theorem ts_retW {call : ts_C} {N1 : Nat} (F : ts_Fx p R s m args meth c Y D B cA d N0 N1) {i : Instr} {len pc : Nat} {ls : List (Option ts_V)} {st : List ts_V} {M : ts_M} {v : Option ts_V} (hs : ts_step call Y i len pc ls st M = some (.inr (v, M))) (hi : i = .ireturn ∨ i = .lreturn ∨ i = .return_ ∨ i = .areturn) (hdec : decode Y.2.1 pc = .ok (i, len)) (hlen : len = ts_len i len) {sl : Array Slot} (hW : ts_Wd D B cA M H) (hS : va_S (fun q : Nat => B ≤ q) s.heap H locs) :
    W p l e R s m args below meth c H locs (M.2.2.2 - N0) (ts_sz M.2.2.2 - ts_sz N0) (MQ below (ts_Qc D B cA v M) args s (M.2.2.2 - N0) (ts_sz M.2.2.2 - ts_sz N0) (fun q : Nat => B ≤ q)) (F0 m pc sl (st.map (ts_val B))) := by
  obtain ⟨hx, hb, hml, hown, hts, hK, hNw, hA4, hA2, hB, hz, hnm, hY, hret, hlk, hRf, hRl, hRc, hRs⟩ := F
  have hq : ∀ t : State, t.heap = H → s.WarmedH t.vm → ts_Qc D B cA v M args s (.returned (v.map (ts_val B))) t := fun t ht _ => ⟨rfl, by rw [ht]; exact hW, hS.F ht⟩
  rcases hi with rfl | rfl | rfl | rfl
  · have hlen : len = 1 := hlen
    subst hlen
    unfold ts_step at hs
    dsimp only at hs
    split at hs
    · next x =>
      split at hs
      · next hg =>
        cases hs
        rcases hg with hg | ⟨hg, hx2⟩
        · exact W.zret hx hb (hret.trans hg) rfl hq hS.2.2 hdec
        · exact W.zret hx hb (hret.trans hg) (by rcases hx2 with rfl | rfl <;> rfl) hq hS.2.2 hdec
      · cases hs
    · cases hs
  · have hlen : len = 1 := hlen
    subst hlen
    unfold ts_step at hs
    dsimp only at hs
    split at hs
    · next x =>
      split at hs
      · next hg =>
        cases hs
        exact W.lret hx hb (hret.trans hg) hq hS.2.2 hdec
      · cases hs
    · cases hs
  · have hlen : len = 1 := hlen
    subst hlen
    unfold ts_step at hs
    dsimp only at hs
    split at hs
    · split at hs
      · next hg =>
        cases hs
        exact W.vret hx hb (hret.trans hg) hq hS.2.2 hdec
      · cases hs
    · cases hs
  · have hlen : len = 1 := hlen
    subst hlen
    unfold ts_step at hs
    dsimp only at hs
    split at hs
    · next o =>
      split at hs
      · next n9 hg =>
        cases hs
        exact W.aret hx hb (hret.trans hg) (Or.inl ⟨_, rfl⟩) (va_rf_or _) hq hS.2.2 hdec
      · cases hs
    · cases hs
theorem ts_runW {call : ts_C} {v : Option ts_V} {M' : ts_M} (F : ts_Fx p R s m args meth c Y D B cA d N0 M'.2.2.2) (hcall : ∀ (y : Nat) (As : List ts_V) (M : ts_M) (v : Option ts_V) (M' : ts_M), call y As M = some (v, M') → ts_Met l D B cA d y As M v M' ∧ M.2.2.2 ≤ M'.2.2.2) : ∀ (n : Nat) {pc : Nat} {ls : List (Option ts_V)} {st : List ts_V} {M : ts_M} {H : Heap} {locs : List Loc} {sl : Array Slot}, ts_runN call Y n (pc, ls, st, M) = some (v, M') → N0 ≤ M.2.2.2 → ts_Wd D B cA M H → ts_Lr B Y.2.2.1 ls sl → va_S (fun q : Nat => B ≤ q) s.heap H locs →
    W p l e R s m args below meth c H locs (M.2.2.2 - N0) (ts_sz M.2.2.2 - ts_sz N0) (MQ below (ts_Qc D B cA v M') args s (M'.2.2.2 - N0) (ts_sz M'.2.2.2 - ts_sz N0) (fun q : Nat => B ≤ q)) (F0 m pc sl (st.map (ts_val B))) := by
  have hrel : ts_RL call Y (fun a b => a.2.2.2 ≤ b.2.2.2) := ⟨fun _ => Nat.le_refl _, fun _ _ _ _ => Nat.le_refl _, fun _ _ _ _ => Nat.le_refl _, fun _ _ _ _ _ _ _ => Nat.le_refl _, fun _ _ _ _ _ => Nat.le_refl _, fun _ _ => Nat.le_succ _, fun y As M v M' _ h => (hcall y As M v M' h).2, fun _ y As M v M' h => (hcall y As M v M' h).2⟩
  intro n
  induction n with
  | zero => intro pc ls st M H locs sl h; simp [ts_runN] at h
  | succ n ih =>
    intro pc ls st M H locs sl h hN hW hL hS
    rw [ts_runN] at h
    cases h1 : ts_one call Y (pc, ls, st, M) with
    | none => rw [h1] at h; cases h
    | some z =>
      rw [h1] at h
      have h2 := h1
      unfold ts_one at h2
      split at h2
      · next i len hd =>
        split at h2
        · next hg =>
          rcases ts_step_rel hrel h2 hg.2 with ⟨f', rfl, hf⟩ | ⟨v2, rfl, hi⟩
          · obtain ⟨pc', ls', st', M2⟩ := f'
            have hle := ts_runN_rel hrel (fun _ _ _ => Nat.le_trans) n _ _ h
            exact ts_stepW F hcall h2 hd hg.1 hN hle hW hL hS (fun H1 locs1 sl1 hW1 hL1 hS1 => ih h (Nat.le_trans hN hf) hW1 hL1 hS1)
          · cases h
            exact ts_retW F h2 hi hd hg.1 hW hS
        · cases h2
      · cases h2
theorem ts_ar_len : ∀ As : List ts_V, (lg_sl (As.map (ts_val B))).length = (ts_ar As).length := by
  intro As
  induction As with
  | nil => rfl
  | cons v As ih =>
    have hc := ts_val_cat (B := B) v
    rw [List.map_cons, show lg_sl (ts_val B v :: As.map (ts_val B)) = lg_sl [ts_val B v] ++ lg_sl (As.map (ts_val B)) by simp [lg_sl]]
    unfold ts_ar
    by_cases h : ts_isl (some v) = true
    · rw [if_pos h] at hc ⊢
      simp [lg_sl, hc] at ih ⊢
      omega
    · rw [if_neg h] at hc ⊢
      simp [lg_sl, hc] at ih ⊢
      omega
theorem ts_args_has : ∀ (As : List ts_V) (k i : Nat) (v : ts_V), ts_lget (ts_ar As) i = some v → (k + i, ts_val B v) ∈ lv_args k (As.map (ts_val B)) := by
  intro As
  induction As with
  | nil => intro k i v h; simp [ts_ar, ts_lget] at h
  | cons a As ih =>
    intro k i v h
    have hc := ts_val_cat (B := B) a
    rw [List.map_cons, lv_args]
    unfold ts_ar at h
    by_cases ha : ts_isl (some a) = true
    · rw [if_pos ha] at h hc
      rw [if_pos hc]
      match i, h with
      | 0, h => simp [ts_lget] at h; subst h; exact List.mem_cons_self
      | 1, h => simp [ts_lget] at h
      | i + 2, h =>
        have h : ts_lget (ts_ar As) i = some v := by simpa [ts_lget] using h
        have := ih (k + 2) i v h
        rw [show k + 2 + i = k + (i + 2) by omega] at this
        exact List.mem_cons_of_mem _ this
    · rw [if_neg ha] at h hc
      rw [if_neg (by omega)]
      match i, h with
      | 0, h => simp [ts_lget] at h; subst h; exact List.mem_cons_self
      | i + 1, h =>
        have h : ts_lget (ts_ar As) i = some v := by simpa [ts_lget] using h
        have := ih (k + 1) i v h
        rw [show k + 1 + i = k + (i + 1) by omega] at this
        exact List.mem_cons_of_mem _ this
theorem ts_l0_get {As : List ts_V} {n i : Nat} {v : ts_V} (h : ts_lget (ts_l0 As n) i = some v) : ts_lget (ts_ar As) i = some v := by
  unfold ts_lget ts_l0 at *
  by_cases hi : i < (ts_ar As).length
  · rwa [List.getElem?_append_left hi] at h
  · rw [List.getElem?_append_right (by omega)] at h
    cases hq : (List.replicate (n - (ts_ar As).length) (none : Option ts_V))[i - (ts_ar As).length]? with
    | none => rw [hq] at h; cases h
    | some q => rw [hq, List.eq_of_mem_replicate (List.mem_of_getElem? hq)] at h; cases h
/-- THE INTERPRETER IS SOUND: a run that it makes is a contract of the method -/
theorem ts_sound (l : Launch) (D : va_G) (B : Nat) (cA : Nat → ClassId) : ∀ (d y : Nat) (As : List ts_V) (M : ts_M) (v : Option ts_V) (M' : ts_M), ts_ev d y As M = some (v, M') → ts_Met l D B cA d y As M v M' := by
  intro d
  induction d with
  | zero => intro y As M v M' h; simp [ts_ev] at h
  | succ d ih =>
    intro y As M v M' h Y hY
    have hmono := ts_ev_mono _ _ _ _ _ _ h
    simp only [ts_ev] at h
    rw [hY] at h
    dsimp only at h
    split at h
    · next hlen =>
      obtain ⟨n, hn⟩ := ts_run_ex h
      have hYm : Y ∈ ts_mL := List.mem_of_getElem? hY
      obtain ⟨hYc, hYp, -⟩ := ts_okY_of hYm
      refine Met.ofW (cc := Y.2.1) (maxL := Y.2.2.1) (ret := Y.2.2.2.1) hYp rfl ?_
      intro p e s m args below meth c s₁ Bd hml hv
      obtain ⟨rfl, hWd, hK, hNw, hA4, hA2, hB, hz⟩ := hv
      have F : ts_Fx p (headSpec (ts_ws Y) (ts_rm (d + 1) M M')).room s m (As.map (ts_val B)).toArray meth c Y D B cA d M.2.2.2 M'.2.2.2 :=
        ⟨Bd.exec, Bd.bytes, hml, findClass_of_methodNamed Bd.named, atoms_spec (ws := ts_ws Y) Bd.pre, hK, hNw, hA4, hA2, hB, hz, (name_of_methodNamed Bd.named Bd.method).1, hYm, Bd.returns, Bd.notSynchronized, rfl, rfl, rfl, rfl⟩
      have hl := lv_entry (As.map (ts_val B)) (n := Y.2.2.1) (by rw [ts_ar_len]; exact hlen)
      rw [lg_entry_eq]
      generalize (lg_sl (As.map (ts_val B)) ++ List.replicate (Y.2.2.1 - (lg_sl (As.map (ts_val B))).length) Slot.unset).toArray = sl at hl ⊢
      have hL : ts_Lr B Y.2.2.1 (ts_l0 As Y.2.2.1) sl := ⟨hl.1, hl.2.1, fun i v hi => hl.2.2 (i, ts_val B v) (by have := ts_args_has (B := B) As 0 i v (ts_l0_get hi); rwa [Nat.zero_add] at this)⟩
      have := ts_runW (e := e) (below := below) F (fun y As M v M' h => ⟨ih y As M v M' h, ts_ev_mono _ _ _ _ _ _ h⟩) n hn (Nat.le_refl _) hWd hL (va_S.rf (A := fun q : Nat => B ≤ q) (H0 := s.heap))
      rw [Nat.sub_self, Nat.sub_self] at this
      exact this
    · cases h
end SOUND
end
section
/-! ===== behind the constructors: three references move, all others are fixed; light memories, light runs ===== -/
abbrev lt_m : Type := (Nat → Nat → Int32) × (Nat → Nat → Int64) × Nat × Nat × Option Nat
abbrev lt_r : Type := Option ts_V × lt_m
/-- how far behind its object a fixed reference lies; 0: none -/
def ts_off (c k : Nat) : Nat := match c, k with
  | 0, 0 => 1
  | 0, 1 => 2
  | 0, 2 => 3
  | 1, 0 => 1
  | 1, 1 => 2
  | 2, 0 => 1
  | 2, 1 => 2
  | 2, 2 => 3
  | 2, 3 => 4
  | 3, 0 => 1
  | 3, 1 => 2
  | 3, 2 => 3
  | 4, 12 => 1
  | 4, 13 => 2
  | 5, 0 => 1
  | 5, 1 => 2
  | 5, 2 => 3
  | 5, 3 => 4
  | 5, 4 => 5
  | 5, 5 => 6
  | 6, 0 => 1
  | 7, 0 => 1
  | 8, 0 => 1
  | 10, 0 => 1
  | 11, 0 => 1
  | 11, 1 => 4
  | 11, 2 => 6
  | 11, 3 => 8
  | 11, 4 => 12
  | 11, 5 => 13
  | 11, 6 => 81
  | 12, 0 => 1
  | 12, 1 => 2
  | 12, 3 => 3
  | 12, 5 => 4
  | 12, 6 => 5
  | 12, 7 => 6
  | 12, 11 => 7
  | 12, 13 => 8
  | 12, 20 => 9
  | 12, 21 => 10
  | 12, 23 => 11
  | 12, 25 => 12
  | 12, 28 => 13
  | 12, 33 => 14
  | 12, 34 => 15
  | 12, 35 => 16
  | 12, 37 => 17
  | _, _ => 0
def ts_fsh (c k : Nat) : Nat × Nat := match c, k with
  | 0, 0 => (1, 30)
  | 0, 1 => (1, 30)
  | 0, 2 => (1, 30)
  | 1, 0 => (5, 8)
  | 1, 1 => (0, 2)
  | 2, 0 => (1, 6)
  | 2, 1 => (1, 6)
  | 2, 2 => (4, 20)
  | 2, 3 => (0, 0)
  | 3, 0 => (1, 8)
  | 3, 1 => (1, 8)
  | 3, 2 => (1, 8)
  | 4, 12 => (1, 8)
  | 4, 13 => (1, 8)
  | 5, 0 => (1, 12)
  | 5, 1 => (1, 6)
  | 5, 2 => (1, 144)
  | 5, 3 => (1, 144)
  | 5, 4 => (1, 12)
  | 5, 5 => (0, 10)
  | 6, 0 => (0, 10)
  | 7, 0 => (1, 8)
  | 8, 0 => (1, 12)
  | 10, 0 => (1, 200)
  | 11, 0 => (0, 6)
  | 11, 1 => (0, 8)
  | 11, 2 => (0, 7)
  | 11, 3 => (0, 3)
  | 11, 4 => (0, 9)
  | 11, 5 => (0, 2)
  | 11, 6 => (0, 1)
  | 12, 0 => (1, 626)
  | 12, 1 => (1, 626)
  | 12, 3 => (1, 5008)
  | 12, 5 => (1, 12)
  | 12, 6 => (1, 144)
  | 12, 7 => (1, 6)
  | 12, 11 => (2, 200)
  | 12, 13 => (3, 32)
  | 12, 20 => (1, 12)
  | 12, 21 => (1, 144)
  | 12, 23 => (1, 6)
  | 12, 25 => (1, 8)
  | 12, 28 => (1, 12)
  | 12, 33 => (1, 8)
  | 12, 34 => (1, 8)
  | 12, 35 => (1, 8)
  | 12, 37 => (2, 512)
  | _, _ => (9, 0)
def ts_G (a k : Nat) : Option Nat := match ts_sh a with
  | (0, c) => if ts_off c k = 0 then none else some (a + ts_off c k)
  | (4, _) => some (a + 5 + 3 * k)
  | (5, _) => some (a + 69 + 68 * k)
  | _ => none
def ts_fl (m : lt_m) : ts_M := (m.1, m.2.1, fun a k => if a = 0 ∧ k = 7 then some m.2.2.1 else if a = 0 ∧ k = 8 then some m.2.2.2.1 else if a = 12 ∧ k = 0 then m.2.2.2.2 else ts_G a k, ts_NN)
def ts_un (M : ts_M) : lt_m := (M.1, M.2.1, (M.2.2.1 0 7).getD 0, (M.2.2.1 0 8).getD 0, M.2.2.1 12 0)
def ts_fz (M : ts_M) : Prop := M.2.2.2 = ts_NN ∧ (∃ x, M.2.2.1 0 7 = some x) ∧ (∃ x, M.2.2.1 0 8 = some x) ∧ ∀ a k, ¬ (a = 0 ∧ k = 7) → ¬ (a = 0 ∧ k = 8) → ¬ (a = 12 ∧ k = 0) → M.2.2.1 a k = ts_G a k
theorem ts_un_fl (m : lt_m) : ts_un (ts_fl m) = m := rfl
theorem ts_fl_fz (m : lt_m) : ts_fz (ts_fl m) := by
  refine ⟨rfl, ⟨_, rfl⟩, ⟨_, rfl⟩, fun a k h1 h2 h3 => ?_⟩
  simp only [ts_fl]
  rw [if_neg h1, if_neg h2, if_neg h3]
theorem ts_fl_un {M : ts_M} (h : ts_fz M) : ts_fl (ts_un M) = M := by
  obtain ⟨h1, ⟨x, h2⟩, ⟨y, h3⟩, h4⟩ := h
  obtain ⟨I, J, Rf, n⟩ := M
  dsimp only at h1 h2 h3 h4
  subst h1
  simp only [ts_fl, ts_un, h2, h3, Option.getD_some]
  congr 3
  funext a k
  by_cases c1 : a = 0 ∧ k = 7
  · rw [if_pos c1, c1.1, c1.2, h2]
  · rw [if_neg c1]
    by_cases c2 : a = 0 ∧ k = 8
    · rw [if_pos c2, c2.1, c2.2, h3]
    · rw [if_neg c2]
      by_cases c3 : a = 12 ∧ k = 0
      · rw [if_pos c3, c3.1, c3.2]
      · rw [if_neg c3, h4 a k c1 c2 c3]
set_option maxRecDepth 100000 in
theorem ts_len_all : ts_sAll.length = 730 := by decide +kernel
theorem ts_sh_lt {a t n : Nat} (h : ts_sh a = (t, n)) (ht : ¬ t = 9) : a < 730 := by
  rcases Nat.lt_or_ge a 730 with q | q
  · exact q
  · exfalso
    unfold ts_sh at h
    rw [List.getD_eq_getElem?_getD, List.getElem?_eq_none (by rw [ts_len_all]; exact q)] at h
    have h : ((9, 0) : Nat × Nat) = (t, n) := h
    cases h
    exact ht rfl
set_option maxRecDepth 100000 in
theorem ts_one_all : (List.range 730).all (fun a => (decide (ts_sh a = (0, 11)) == decide (a = 0)) && (decide (ts_sh a = (0, 9)) == decide (a = 12))) = true := by decide +kernel
theorem ts_sh11 {a : Nat} (h : ts_sh a = (0, 11)) : a = 0 := by
  have h1 := List.all_eq_true.mp ts_one_all a (List.mem_range.mpr (ts_sh_lt h (by decide)))
  simp only [Bool.and_eq_true, beq_iff_eq] at h1
  have h2 := h1.1
  rw [decide_eq_true h] at h2
  exact of_decide_eq_true h2.symm
theorem ts_sh9 {a : Nat} (h : ts_sh a = (0, 9)) : a = 12 := by
  have h1 := List.all_eq_true.mp ts_one_all a (List.mem_range.mpr (ts_sh_lt h (by decide)))
  simp only [Bool.and_eq_true, beq_iff_eq] at h1
  have h2 := h1.2
  rw [decide_eq_true h] at h2
  exact of_decide_eq_true h2.symm
set_option maxRecDepth 100000 in
theorem ts_fsh_all : (List.range 730).all (fun a => match ts_sh a with
    | (0, c) => (List.range (ts_N c)).all fun k => decide (ts_off c k = 0) || decide (ts_sh (a + ts_off c k) = ts_fsh c k)
    | (4, n) => (List.range n).all fun k => decide (ts_sh (a + 5 + 3 * k) = (0, 4))
    | (5, n) => (List.range n).all fun k => decide (ts_sh (a + 69 + 68 * k) = (0, 2))
    | _ => true) = true := by decide +kernel
theorem sf_of {a c : Nat} (h : ts_sh a = (0, c)) (k : Nat) (hk : k < ts_N c) (ho : ¬ ts_off c k = 0) : ts_sh (a + ts_off c k) = ts_fsh c k := by
  have h1 := List.all_eq_true.mp ts_fsh_all a (List.mem_range.mpr (ts_sh_lt h (by decide)))
  rw [h] at h1
  have h2 := List.all_eq_true.mp h1 k (List.mem_range.mpr hk)
  simp only [Bool.or_eq_true, decide_eq_true_eq] at h2
  exact h2.resolve_left ho
theorem sm_4 {a n k : Nat} (h : ts_sh a = (4, n)) (hk : k < n) : ts_sh (a + 5 + 3 * k) = (0, 4) := by
  have h1 := List.all_eq_true.mp ts_fsh_all a (List.mem_range.mpr (ts_sh_lt h (by decide)))
  rw [h] at h1
  have h2 := List.all_eq_true.mp h1 k (List.mem_range.mpr hk)
  simpa using h2
theorem sm_5 {a n k : Nat} (h : ts_sh a = (5, n)) (hk : k < n) : ts_sh (a + 69 + 68 * k) = (0, 2) := by
  have h1 := List.all_eq_true.mp ts_fsh_all a (List.mem_range.mpr (ts_sh_lt h (by decide)))
  rw [h] at h1
  have h2 := List.all_eq_true.mp h1 k (List.mem_range.mpr hk)
  simpa using h2
theorem ts_fz_RL {call : ts_C} {Y : ts_Y} (hY : ¬ Y.1.name = "<init>") (hcall : ∀ y As M v M', ts_ni y → call y As M = some (v, M') → ts_fz M → ts_fz M') : ts_RL call Y (fun M M' => ts_fz M → ts_fz M') := by
  refine ⟨fun _ h => h, fun M a j v h => h, fun M a j v h => h, fun M a c j v hs hm h => ?_, fun q => absurd q hY, fun q => absurd q hY, hcall, fun q => absurd q hY⟩
  have hm := hm.resolve_left hY
  have key : (a = 0 ∧ j = 7) ∨ (a = 0 ∧ j = 8) ∨ (a = 12 ∧ j = 0) := by
    unfold ts_mu at hm
    simp only [Bool.or_eq_true, Bool.and_eq_true, beq_iff_eq] at hm
    rcases hm with ⟨rfl, q | q⟩ | ⟨rfl, q⟩
    · exact Or.inl ⟨ts_sh11 hs, q⟩
    · exact Or.inr (Or.inl ⟨ts_sh11 hs, q⟩)
    · exact Or.inr (Or.inr ⟨ts_sh9 hs, q⟩)
  obtain ⟨h1, ⟨x, h2⟩, ⟨y, h3⟩, h4⟩ := h
  refine ⟨h1, ?_, ?_, fun b k c1 c2 c3 => ?_⟩
  · rcases key with ⟨rfl, rfl⟩ | ⟨rfl, rfl⟩ | ⟨rfl, rfl⟩
    · exact ⟨v, by simp [ts_wrR, ts_up]⟩
    · exact ⟨x, by simp [ts_wrR, ts_up, h2]⟩
    · exact ⟨x, by simp [ts_wrR, ts_up, h2]⟩
  · rcases key with ⟨rfl, rfl⟩ | ⟨rfl, rfl⟩ | ⟨rfl, rfl⟩
    · exact ⟨y, by simp [ts_wrR, ts_up, h3]⟩
    · exact ⟨v, by simp [ts_wrR, ts_up]⟩
    · exact ⟨y, by simp [ts_wrR, ts_up, h3]⟩
  · have : ¬ (b = a ∧ k = j) := by
      rintro ⟨rfl, rfl⟩
      rcases key with q | q | q
      · exact c1 q
      · exact c2 q
      · exact c3 q
    show (ts_up M.2.2.1 a j (some v)) b k = _
    unfold ts_up
    rw [if_neg this]
    exact h4 b k c1 c2 c3
theorem ts_ev_fz : ∀ (d y : Nat) (As : List ts_V) (M : ts_M) (v : Option ts_V) (M' : ts_M), ts_ni y → ts_ev d y As M = some (v, M') → ts_fz M → ts_fz M' := by
  intro d
  induction d with
  | zero => intro y As M v M' _ h; simp [ts_ev] at h
  | succ d ih =>
    intro y As M v M' hy h
    simp only [ts_ev] at h
    split at h
    · next Y hY =>
      split at h
      · obtain ⟨n, hn⟩ := ts_run_ex h
        exact ts_runN_rel (ts_fz_RL (hy Y hY) ih) (fun _ _ _ f g h => g (f h)) n _ _ hn
      · cases h
    · cases h
noncomputable def lt_ev (d y : Nat) (As : List ts_V) (m : lt_m) : Option lt_r := (ts_ev d y As (ts_fl m)).map fun r => (r.1, ts_un r.2)
theorem lt_ev_fl {d y : Nat} {As : List ts_V} {m : lt_m} (hy : ts_ni y) : ts_ev d y As (ts_fl m) = (lt_ev d y As m).map fun r => (r.1, ts_fl r.2) := by
  unfold lt_ev
  cases h : ts_ev d y As (ts_fl m) with
  | none => rfl
  | some r =>
    obtain ⟨v, M'⟩ := r
    simp only [Option.map_some, ts_fl_un (ts_ev_fz d y As _ v M' hy h (ts_fl_fz m))]
noncomputable def lt_run (d : Nat) (Y : ts_Y) (pc : Nat) (ls : List (Option ts_V)) (st : List ts_V) (m : lt_m) : Option lt_r := (ts_run (ts_ev d) Y (pc, ls, st, ts_fl m)).map fun r => (r.1, ts_un r.2)
def lt_gd (c : Prop) [Decidable c] (k : Option lt_r) : Option lt_r := if c then k else none
def lt_cI (o : Option lt_r) (k : Int32 → lt_m → Option lt_r) : Option lt_r := match o with
  | some (some (.inl v), m) => k v m
  | _ => none
def lt_cL (o : Option lt_r) (k : Int64 → lt_m → Option lt_r) : Option lt_r := match o with
  | some (some (.inr (.inl v)), m) => k v m
  | _ => none
def lt_cR (o : Option lt_r) (k : Option Nat → lt_m → Option lt_r) : Option lt_r := match o with
  | some (some (.inr (.inr v)), m) => k v m
  | _ => none
def lt_cV (o : Option lt_r) (k : lt_m → Option lt_r) : Option lt_r := match o with
  | some (none, m) => k m
  | _ => none
def lt_nl (o : Option Nat) (a : Option lt_r) (b : Nat → Option lt_r) : Option lt_r := match o with
  | none => a
  | some q => b q
def lt_sw (x : Int32) (ks : List (Option lt_r)) (k : Option lt_r) : Option lt_r := if x.toInt < 0 ∨ (ks.length : Int) - 1 < x.toInt then k else (ks[x.toInt.toNat]?).getD k
theorem lt_cI_s {v : Int32} {m : lt_m} {k : Int32 → lt_m → Option lt_r} : lt_cI (some (some (.inl v), m)) k = k v m := rfl
theorem lt_cL_s {v : Int64} {m : lt_m} {k : Int64 → lt_m → Option lt_r} : lt_cL (some (some (.inr (.inl v)), m)) k = k v m := rfl
theorem lt_cR_s {v : Option Nat} {m : lt_m} {k : Option Nat → lt_m → Option lt_r} : lt_cR (some (some (.inr (.inr v)), m)) k = k v m := rfl
theorem lt_cV_s {m : lt_m} {k : lt_m → Option lt_r} : lt_cV (some (none, m)) k = k m := rfl
theorem lt_gd_t {c : Prop} [Decidable c] {k : Option lt_r} (h : c) : lt_gd c k = k := if_pos h
theorem lt_nl_n {a : Option lt_r} {b : Nat → Option lt_r} : lt_nl none a b = a := rfl
theorem lt_nl_s {a : Option lt_r} {b : Nat → Option lt_r} {q : Nat} : lt_nl (some q) a b = b q := rfl
theorem lt_gd_c {c : Prop} [Decidable c] {k k' : Option lt_r} (h : c → k = k') : lt_gd c k = lt_gd c k' := by
  unfold lt_gd
  split
  · next hc => exact h hc
  · rfl
theorem lt_ite {c : Prop} [Decidable c] {a a' b b' : Option lt_r} (h1 : c → a = a') (h2 : ¬ c → b = b') : (if c then a else b) = (if c then a' else b') := by
  split
  · next hc => exact h1 hc
  · next hc => exact h2 hc
theorem lt_cI_c {o : Option lt_r} {k k' : Int32 → lt_m → Option lt_r} (h : ∀ v m, k v m = k' v m) : lt_cI o k = lt_cI o k' := by rw [show k = k' from funext fun v => funext fun m => h v m]
theorem lt_cL_c {o : Option lt_r} {k k' : Int64 → lt_m → Option lt_r} (h : ∀ v m, k v m = k' v m) : lt_cL o k = lt_cL o k' := by rw [show k = k' from funext fun v => funext fun m => h v m]
theorem lt_cR_c {o : Option lt_r} {k k' : Option Nat → lt_m → Option lt_r} (h : ∀ v m, k v m = k' v m) : lt_cR o k = lt_cR o k' := by rw [show k = k' from funext fun v => funext fun m => h v m]
theorem lt_cV_c {o : Option lt_r} {k k' : lt_m → Option lt_r} (h : ∀ m, k m = k' m) : lt_cV o k = lt_cV o k' := by rw [show k = k' from funext fun m => h m]
theorem lt_nl_c {o : Option Nat} {a a' : Option lt_r} {b b' : Nat → Option lt_r} (h1 : a = a') (h2 : ∀ q, b q = b' q) : lt_nl o a b = lt_nl o a' b' := by rw [h1, show b = b' from funext h2]
section LI
variable {d : Nat} {Y : ts_Y} {pc : Nat} {ls : List (Option ts_V)} {r : List ts_V} {m : lt_m}
theorem lt_go {pc' : Nat} {ls' : List (Option ts_V)} {st st' : List ts_V} {m' : lt_m} (h : ts_one (ts_ev d) Y (pc, ls, st, ts_fl m) = some (.inl (pc', ls', st', ts_fl m'))) : lt_run d Y pc ls st m = lt_run d Y pc' ls' st' m' := by
  unfold lt_run; rw [ts_run_step, h]
theorem lt_end {st : List ts_V} {v : Option ts_V} {m' : lt_m} (h : ts_one (ts_ev d) Y (pc, ls, st, ts_fl m) = some (.inr (v, ts_fl m'))) : lt_run d Y pc ls st m = some (v, m') := by
  unfold lt_run; rw [ts_run_step, h]; rfl
theorem lt_no {st : List ts_V} (h : ts_one (ts_ev d) Y (pc, ls, st, ts_fl m) = none) : lt_run d Y pc ls st m = none := by
  unfold lt_run; rw [ts_run_step, h]; rfl
theorem lt_one {call : ts_C} {i : Instr} {len : Nat} {st : List ts_V} {M : ts_M} (hd : decode Y.2.1 pc = .ok (i, len)) (hl : len = ts_len i len) (hc : ts_ci i = false) : ts_one call Y (pc, ls, st, M) = ts_step call Y i len pc ls st M := by
  unfold ts_one
  dsimp only
  rw [hd]
  dsimp only
  rw [if_pos ⟨hl, by rw [hc]; intro h; cases h⟩]
theorem lt_enter {y : Nat} {As : List ts_V} (hY : ts_mL[y]? = some Y) (hl : (ts_ar As).length ≤ Y.2.2.1) : lt_ev (d + 1) y As m = lt_run d Y 0 (ts_l0 As Y.2.2.1) [] m := by
  unfold lt_ev lt_run
  simp only [ts_ev, hY, if_pos hl]

theorem li_iadd {x y : Int32} (hd : decode Y.2.1 pc = .ok (.iadd, 1)) : lt_run d Y pc ls (.inl y :: .inl x :: r) m = lt_run d Y (pc + 1) ls (.inl (x + y) :: r) m := lt_go ((lt_one hd rfl rfl).trans rfl)
theorem li_isub {x y : Int32} (hd : decode Y.2.1 pc = .ok (.isub, 1)) : lt_run d Y pc ls (.inl y :: .inl x :: r) m = lt_run d Y (pc + 1) ls (.inl (x - y) :: r) m := lt_go ((lt_one hd rfl rfl).trans rfl)
theorem li_imul {x y : Int32} (hd : decode Y.2.1 pc = .ok (.imul, 1)) : lt_run d Y pc ls (.inl y :: .inl x :: r) m = lt_run d Y (pc + 1) ls (.inl (x * y) :: r) m := lt_go ((lt_one hd rfl rfl).trans rfl)
theorem li_iand {x y : Int32} (hd : decode Y.2.1 pc = .ok (.iand, 1)) : lt_run d Y pc ls (.inl y :: .inl x :: r) m = lt_run d Y (pc + 1) ls (.inl (x &&& y) :: r) m := lt_go ((lt_one hd rfl rfl).trans rfl)
theorem li_ior {x y : Int32} (hd : decode Y.2.1 pc = .ok (.ior, 1)) : lt_run d Y pc ls (.inl y :: .inl x :: r) m = lt_run d Y (pc + 1) ls (.inl (x ||| y) :: r) m := lt_go ((lt_one hd rfl rfl).trans rfl)
theorem li_ixor {x y : Int32} (hd : decode Y.2.1 pc = .ok (.ixor, 1)) : lt_run d Y pc ls (.inl y :: .inl x :: r) m = lt_run d Y (pc + 1) ls (.inl (x ^^^ y) :: r) m := lt_go ((lt_one hd rfl rfl).trans rfl)
theorem li_ishl {x y : Int32} (hd : decode Y.2.1 pc = .ok (.ishl, 1)) : lt_run d Y pc ls (.inl y :: .inl x :: r) m = lt_run d Y (pc + 1) ls (.inl (x <<< (y &&& 31)) :: r) m := lt_go ((lt_one hd rfl rfl).trans rfl)
theorem li_ishr {x y : Int32} (hd : decode Y.2.1 pc = .ok (.ishr, 1)) : lt_run d Y pc ls (.inl y :: .inl x :: r) m = lt_run d Y (pc + 1) ls (.inl (x >>> (y &&& 31)) :: r) m := lt_go ((lt_one hd rfl rfl).trans rfl)
theorem li_iushr {x y : Int32} (hd : decode Y.2.1 pc = .ok (.iushr, 1)) : lt_run d Y pc ls (.inl y :: .inl x :: r) m = lt_run d Y (pc + 1) ls (.inl ((x.toUInt32 >>> (y.toUInt32 &&& Int32.toUInt32 31)).toInt32) :: r) m := lt_go ((lt_one hd rfl rfl).trans rfl)
theorem li_idiv {x y : Int32} (hd : decode Y.2.1 pc = .ok (.idiv, 1)) : lt_run d Y pc ls (.inl y :: .inl x :: r) m = lt_gd (¬ y = 0) (lt_run d Y (pc + 1) ls (.inl (x / y) :: r) m) := by
  unfold lt_gd
  split
  · next h => exact lt_go ((lt_one hd rfl rfl).trans (if_pos h))
  · next h => exact lt_no ((lt_one hd rfl rfl).trans (if_neg h))
theorem li_irem {x y : Int32} (hd : decode Y.2.1 pc = .ok (.irem, 1)) : lt_run d Y pc ls (.inl y :: .inl x :: r) m = lt_gd (¬ y = 0) (lt_run d Y (pc + 1) ls (.inl (x - x / y * y) :: r) m) := by
  unfold lt_gd
  split
  · next h => exact lt_go ((lt_one hd rfl rfl).trans (if_pos h))
  · next h => exact lt_no ((lt_one hd rfl rfl).trans (if_neg h))
theorem li_ldiv {x y : Int64} (hd : decode Y.2.1 pc = .ok (.ldiv, 1)) : lt_run d Y pc ls (.inr (.inl y) :: .inr (.inl x) :: r) m = lt_gd (¬ y = 0) (lt_run d Y (pc + 1) ls (.inr (.inl (x / y)) :: r) m) := by
  unfold lt_gd
  split
  · next h => exact lt_go ((lt_one hd rfl rfl).trans (if_pos h))
  · next h => exact lt_no ((lt_one hd rfl rfl).trans (if_neg h))
theorem li_lmul {x y : Int64} (hd : decode Y.2.1 pc = .ok (.lmul, 1)) : lt_run d Y pc ls (.inr (.inl y) :: .inr (.inl x) :: r) m = lt_run d Y (pc + 1) ls (.inr (.inl (x * y)) :: r) m := lt_go ((lt_one hd rfl rfl).trans rfl)
theorem li_lcmp {x y : Int64} (hd : decode Y.2.1 pc = .ok (.lcmp, 1)) : lt_run d Y pc ls (.inr (.inl y) :: .inr (.inl x) :: r) m = lt_run d Y (pc + 1) ls (.inl (lg_cmp x y) :: r) m := lt_go ((lt_one hd rfl rfl).trans rfl)
theorem li_i2l {x : Int32} (hd : decode Y.2.1 pc = .ok (.i2l, 1)) : lt_run d Y pc ls (.inl x :: r) m = lt_run d Y (pc + 1) ls (.inr (.inl x.toInt64) :: r) m := lt_go ((lt_one hd rfl rfl).trans rfl)
theorem li_i2b {x : Int32} (hd : decode Y.2.1 pc = .ok (.i2b, 1)) : lt_run d Y pc ls (.inl x :: r) m = lt_run d Y (pc + 1) ls (.inl x.toInt8.toInt32 :: r) m := lt_go ((lt_one hd rfl rfl).trans rfl)
theorem li_iconst {n : Int} {v : Int32} (hd : decode Y.2.1 pc = .ok (.iconst n, 1)) (hv : Int32.ofInt n = v) : lt_run d Y pc ls (r) m = lt_run d Y (pc + 1) ls (.inl v :: r) m := by subst hv; exact lt_go ((lt_one hd rfl rfl).trans rfl)
theorem li_bipush {n : Int} {v : Int32} (hd : decode Y.2.1 pc = .ok (.bipush n, 2)) (hv : (Int8.ofInt n).toInt32 = v) : lt_run d Y pc ls (r) m = lt_run d Y (pc + 2) ls (.inl v :: r) m := by subst hv; exact lt_go ((lt_one hd rfl rfl).trans rfl)
theorem li_sipush {n : Int} {v : Int32} (hd : decode Y.2.1 pc = .ok (.sipush n, 3)) (hv : (Int16.ofInt n).toInt32 = v) : lt_run d Y pc ls (r) m = lt_run d Y (pc + 3) ls (.inl v :: r) m := by subst hv; exact lt_go ((lt_one hd rfl rfl).trans rfl)
theorem li_lconst {n : Fin 2} {v : Int64} (hd : decode Y.2.1 pc = .ok (.lconst n, 1)) (hv : Int64.ofNat (n : Nat) = v) : lt_run d Y pc ls (r) m = lt_run d Y (pc + 1) ls (.inr (.inl v) :: r) m := by subst hv; exact lt_go ((lt_one hd rfl rfl).trans rfl)
theorem li_null (hd : decode Y.2.1 pc = .ok (.aconst_null, 1)) : lt_run d Y pc ls (r) m = lt_run d Y (pc + 1) ls (.inr (.inr none) :: r) m := lt_go ((lt_one hd rfl rfl).trans rfl)
theorem li_ldc {x : Nat} {v : Int32} (hd : decode Y.2.1 pc = .ok (.ldc x, 2)) (hv : ts_cI Y.2.2.2.2 x = some v) : lt_run d Y pc ls (r) m = lt_run d Y (pc + 2) ls (.inl v :: r) m := lt_go ((lt_one hd rfl rfl).trans (by unfold ts_step; dsimp only; rw [hv]))
theorem li_ldc_w {x : Nat} {v : Int32} (hd : decode Y.2.1 pc = .ok (.ldc_w x, 3)) (hv : ts_cI Y.2.2.2.2 x = some v) : lt_run d Y pc ls (r) m = lt_run d Y (pc + 3) ls (.inl v :: r) m := lt_go ((lt_one hd rfl rfl).trans (by unfold ts_step; dsimp only; rw [hv]))
theorem li_ldc2_w {x : Nat} {v : Int64} (hd : decode Y.2.1 pc = .ok (.ldc2_w x, 3)) (hv : ts_cJ Y.2.2.2.2 x = some v) : lt_run d Y pc ls (r) m = lt_run d Y (pc + 3) ls (.inr (.inl v) :: r) m := lt_go ((lt_one hd rfl rfl).trans (by unfold ts_step; dsimp only; rw [hv]))
theorem li_iload {n : Nat} {x : Int32} (hd : decode Y.2.1 pc = .ok (.iload n, 2)) (hl : ts_lget ls n = some (.inl x)) : lt_run d Y pc ls (r) m = lt_run d Y (pc + 2) ls (.inl x :: r) m := lt_go ((lt_one hd rfl rfl).trans (by unfold ts_step; dsimp only; rw [hl]))
theorem li_iload_n {n : Fin 4} {x : Int32} (hd : decode Y.2.1 pc = .ok (.iload_n n, 1)) (hl : ts_lget ls n = some (.inl x)) : lt_run d Y pc ls (r) m = lt_run d Y (pc + 1) ls (.inl x :: r) m := lt_go ((lt_one hd rfl rfl).trans (by unfold ts_step; dsimp only; rw [hl]))
theorem li_lload {n : Nat} {x : Int64} (hd : decode Y.2.1 pc = .ok (.lload n, 2)) (hl : ts_lget ls n = some (.inr (.inl x))) : lt_run d Y pc ls (r) m = lt_run d Y (pc + 2) ls (.inr (.inl x) :: r) m := lt_go ((lt_one hd rfl rfl).trans (by unfold ts_step; dsimp only; rw [hl]))
theorem li_lload_n {n : Fin 4} {x : Int64} (hd : decode Y.2.1 pc = .ok (.lload_n n, 1)) (hl : ts_lget ls n = some (.inr (.inl x))) : lt_run d Y pc ls (r) m = lt_run d Y (pc + 1) ls (.inr (.inl x) :: r) m := lt_go ((lt_one hd rfl rfl).trans (by unfold ts_step; dsimp only; rw [hl]))
theorem li_aload {n : Nat} {x : Option Nat} (hd : decode Y.2.1 pc = .ok (.aload n, 2)) (hl : ts_lget ls n = some (.inr (.inr x))) : lt_run d Y pc ls (r) m = lt_run d Y (pc + 2) ls (.inr (.inr x) :: r) m := lt_go ((lt_one hd rfl rfl).trans (by unfold ts_step; dsimp only; rw [hl]))
theorem li_aload_n {n : Fin 4} {x : Option Nat} (hd : decode Y.2.1 pc = .ok (.aload_n n, 1)) (hl : ts_lget ls n = some (.inr (.inr x))) : lt_run d Y pc ls (r) m = lt_run d Y (pc + 1) ls (.inr (.inr x) :: r) m := lt_go ((lt_one hd rfl rfl).trans (by unfold ts_step; dsimp only; rw [hl]))
theorem li_istore {n : Nat} {x : Int32} {ls' : List (Option ts_V)} (hd : decode Y.2.1 pc = .ok (.istore n, 2)) (hn : (n : Nat) < Y.2.2.1) (hl : ts_lset ls n (.inl x) = ls') : lt_run d Y pc ls (.inl x :: r) m = lt_run d Y (pc + 2) ls' r m := by subst hl; exact lt_go ((lt_one hd rfl rfl).trans (if_pos hn))
theorem li_istore_n {n : Fin 4} {x : Int32} {ls' : List (Option ts_V)} (hd : decode Y.2.1 pc = .ok (.istore_n n, 1)) (hn : (n : Nat) < Y.2.2.1) (hl : ts_lset ls n (.inl x) = ls') : lt_run d Y pc ls (.inl x :: r) m = lt_run d Y (pc + 1) ls' r m := by subst hl; exact lt_go ((lt_one hd rfl rfl).trans (if_pos hn))
theorem li_lstore {n : Nat} {x : Int64} {ls' : List (Option ts_V)} (hd : decode Y.2.1 pc = .ok (.lstore n, 2)) (hn : (n : Nat) + 1 < Y.2.2.1) (hl : ts_lset ls n (.inr (.inl x)) = ls') : lt_run d Y pc ls (.inr (.inl x) :: r) m = lt_run d Y (pc + 2) ls' r m := by subst hl; exact lt_go ((lt_one hd rfl rfl).trans (if_pos hn))
theorem li_lstore_n {n : Fin 4} {x : Int64} {ls' : List (Option ts_V)} (hd : decode Y.2.1 pc = .ok (.lstore_n n, 1)) (hn : (n : Nat) + 1 < Y.2.2.1) (hl : ts_lset ls n (.inr (.inl x)) = ls') : lt_run d Y pc ls (.inr (.inl x) :: r) m = lt_run d Y (pc + 1) ls' r m := by subst hl; exact lt_go ((lt_one hd rfl rfl).trans (if_pos hn))
theorem li_astore {n : Nat} {x : Option Nat} {ls' : List (Option ts_V)} (hd : decode Y.2.1 pc = .ok (.astore n, 2)) (hn : (n : Nat) < Y.2.2.1) (hl : ts_lset ls n (.inr (.inr x)) = ls') : lt_run d Y pc ls (.inr (.inr x) :: r) m = lt_run d Y (pc + 2) ls' r m := by subst hl; exact lt_go ((lt_one hd rfl rfl).trans (if_pos hn))
theorem li_astore_n {n : Fin 4} {x : Option Nat} {ls' : List (Option ts_V)} (hd : decode Y.2.1 pc = .ok (.astore_n n, 1)) (hn : (n : Nat) < Y.2.2.1) (hl : ts_lset ls n (.inr (.inr x)) = ls') : lt_run d Y pc ls (.inr (.inr x) :: r) m = lt_run d Y (pc + 1) ls' r m := by subst hl; exact lt_go ((lt_one hd rfl rfl).trans (if_pos hn))
theorem li_iinc {n : Nat} {e : Int} {x v : Int32} {ls' : List (Option ts_V)} (hd : decode Y.2.1 pc = .ok (.iinc n e, 3)) (hl : ts_lget ls n = some (.inl x)) (hn : n < Y.2.2.1) (hv : Int32.ofInt e = v) (hs : ts_lset ls n (.inl (x + v)) = ls') : lt_run d Y pc ls (r) m = lt_run d Y (pc + 3) ls' r m := by subst hs; subst hv; exact lt_go ((lt_one hd rfl rfl).trans (by unfold ts_step; dsimp only; rw [hl]; exact if_pos hn))
theorem li_dup {v : ts_V} (hd : decode Y.2.1 pc = .ok (.dup, 1)) (hc : ts_cat1 v = true) : lt_run d Y pc ls (v :: r) m = lt_run d Y (pc + 1) ls (v :: v :: r) m := lt_go ((lt_one hd rfl rfl).trans (if_pos hc))
theorem li_dup_x1 {v u : ts_V} (hd : decode Y.2.1 pc = .ok (.dup_x1, 1)) (hc : ts_cat1 v = true) (hc2 : ts_cat1 u = true) : lt_run d Y pc ls (v :: u :: r) m = lt_run d Y (pc + 1) ls (v :: u :: v :: r) m := lt_go ((lt_one hd rfl rfl).trans (if_pos ⟨hc, hc2⟩))
theorem li_dup2 {v u : ts_V} (hd : decode Y.2.1 pc = .ok (.dup2, 1)) (hc : ts_cat1 v = true) (hc2 : ts_cat1 u = true) : lt_run d Y pc ls (v :: u :: r) m = lt_run d Y (pc + 1) ls (v :: u :: v :: u :: r) m := lt_go ((lt_one hd rfl rfl).trans (if_pos ⟨hc, hc2⟩))
theorem li_goto {off : Int} {t : Nat} {st : List ts_V} (hd : decode Y.2.1 pc = .ok (.goto off, 3)) (ht : ts_jmp pc off = some t) : lt_run d Y pc ls st m = lt_run d Y t ls st m := lt_go ((lt_one hd rfl rfl).trans (by unfold ts_step ts_to; dsimp only; rw [ht]))
theorem li_icmp_eq {x y : Int32} {off : Int} {t : Nat} (hd : decode Y.2.1 pc = .ok (.if_icmp .eq off, 3)) (ht : ts_jmp pc off = some t) : lt_run d Y pc ls (.inl y :: .inl x :: r) m = if x = y then lt_run d Y t ls r m else lt_run d Y (pc + 3) ls r m := by
  split
  · next h => exact lt_go ((lt_one hd rfl rfl).trans (by unfold ts_step ts_br; dsimp only; rw [ht]; exact if_pos h))
  · next h => exact lt_go ((lt_one hd rfl rfl).trans (by unfold ts_step ts_br; dsimp only; rw [ht]; exact if_neg h))
theorem li_icmp_ne {x y : Int32} {off : Int} {t : Nat} (hd : decode Y.2.1 pc = .ok (.if_icmp .ne off, 3)) (ht : ts_jmp pc off = some t) : lt_run d Y pc ls (.inl y :: .inl x :: r) m = if ¬ x = y then lt_run d Y t ls r m else lt_run d Y (pc + 3) ls r m := by
  split
  · next h => exact lt_go ((lt_one hd rfl rfl).trans (by unfold ts_step ts_br; dsimp only; rw [ht]; exact if_pos h))
  · next h => exact lt_go ((lt_one hd rfl rfl).trans (by unfold ts_step ts_br; dsimp only; rw [ht]; exact if_neg h))
theorem li_icmp_lt {x y : Int32} {off : Int} {t : Nat} (hd : decode Y.2.1 pc = .ok (.if_icmp .lt off, 3)) (ht : ts_jmp pc off = some t) : lt_run d Y pc ls (.inl y :: .inl x :: r) m = if x < y then lt_run d Y t ls r m else lt_run d Y (pc + 3) ls r m := by
  split
  · next h => exact lt_go ((lt_one hd rfl rfl).trans (by unfold ts_step ts_br; dsimp only; rw [ht]; exact if_pos h))
  · next h => exact lt_go ((lt_one hd rfl rfl).trans (by unfold ts_step ts_br; dsimp only; rw [ht]; exact if_neg h))
theorem li_icmp_ge {x y : Int32} {off : Int} {t : Nat} (hd : decode Y.2.1 pc = .ok (.if_icmp .ge off, 3)) (ht : ts_jmp pc off = some t) : lt_run d Y pc ls (.inl y :: .inl x :: r) m = if y ≤ x then lt_run d Y t ls r m else lt_run d Y (pc + 3) ls r m := by
  split
  · next h => exact lt_go ((lt_one hd rfl rfl).trans (by unfold ts_step ts_br; dsimp only; rw [ht]; exact if_pos h))
  · next h => exact lt_go ((lt_one hd rfl rfl).trans (by unfold ts_step ts_br; dsimp only; rw [ht]; exact if_neg h))
theorem li_icmp_gt {x y : Int32} {off : Int} {t : Nat} (hd : decode Y.2.1 pc = .ok (.if_icmp .gt off, 3)) (ht : ts_jmp pc off = some t) : lt_run d Y pc ls (.inl y :: .inl x :: r) m = if y < x then lt_run d Y t ls r m else lt_run d Y (pc + 3) ls r m := by
  split
  · next h => exact lt_go ((lt_one hd rfl rfl).trans (by unfold ts_step ts_br; dsimp only; rw [ht]; exact if_pos h))
  · next h => exact lt_go ((lt_one hd rfl rfl).trans (by unfold ts_step ts_br; dsimp only; rw [ht]; exact if_neg h))
theorem li_icmp_le {x y : Int32} {off : Int} {t : Nat} (hd : decode Y.2.1 pc = .ok (.if_icmp .le off, 3)) (ht : ts_jmp pc off = some t) : lt_run d Y pc ls (.inl y :: .inl x :: r) m = if x ≤ y then lt_run d Y t ls r m else lt_run d Y (pc + 3) ls r m := by
  split
  · next h => exact lt_go ((lt_one hd rfl rfl).trans (by unfold ts_step ts_br; dsimp only; rw [ht]; exact if_pos h))
  · next h => exact lt_go ((lt_one hd rfl rfl).trans (by unfold ts_step ts_br; dsimp only; rw [ht]; exact if_neg h))
theorem li_if_eq {x : Int32} {off : Int} {t : Nat} (hd : decode Y.2.1 pc = .ok (.ifCond .eq off, 3)) (ht : ts_jmp pc off = some t) : lt_run d Y pc ls (.inl x :: r) m = if x = 0 then lt_run d Y t ls r m else lt_run d Y (pc + 3) ls r m := by
  split
  · next h => exact lt_go ((lt_one hd rfl rfl).trans (by unfold ts_step ts_br; dsimp only; rw [ht]; exact if_pos h))
  · next h => exact lt_go ((lt_one hd rfl rfl).trans (by unfold ts_step ts_br; dsimp only; rw [ht]; exact if_neg h))
theorem li_if_ne {x : Int32} {off : Int} {t : Nat} (hd : decode Y.2.1 pc = .ok (.ifCond .ne off, 3)) (ht : ts_jmp pc off = some t) : lt_run d Y pc ls (.inl x :: r) m = if ¬ x = 0 then lt_run d Y t ls r m else lt_run d Y (pc + 3) ls r m := by
  split
  · next h => exact lt_go ((lt_one hd rfl rfl).trans (by unfold ts_step ts_br; dsimp only; rw [ht]; exact if_pos h))
  · next h => exact lt_go ((lt_one hd rfl rfl).trans (by unfold ts_step ts_br; dsimp only; rw [ht]; exact if_neg h))
theorem li_if_lt {x : Int32} {off : Int} {t : Nat} (hd : decode Y.2.1 pc = .ok (.ifCond .lt off, 3)) (ht : ts_jmp pc off = some t) : lt_run d Y pc ls (.inl x :: r) m = if x < 0 then lt_run d Y t ls r m else lt_run d Y (pc + 3) ls r m := by
  split
  · next h => exact lt_go ((lt_one hd rfl rfl).trans (by unfold ts_step ts_br; dsimp only; rw [ht]; exact if_pos h))
  · next h => exact lt_go ((lt_one hd rfl rfl).trans (by unfold ts_step ts_br; dsimp only; rw [ht]; exact if_neg h))
theorem li_if_ge {x : Int32} {off : Int} {t : Nat} (hd : decode Y.2.1 pc = .ok (.ifCond .ge off, 3)) (ht : ts_jmp pc off = some t) : lt_run d Y pc ls (.inl x :: r) m = if 0 ≤ x then lt_run d Y t ls r m else lt_run d Y (pc + 3) ls r m := by
  split
  · next h => exact lt_go ((lt_one hd rfl rfl).trans (by unfold ts_step ts_br; dsimp only; rw [ht]; exact if_pos h))
  · next h => exact lt_go ((lt_one hd rfl rfl).trans (by unfold ts_step ts_br; dsimp only; rw [ht]; exact if_neg h))
theorem li_if_gt {x : Int32} {off : Int} {t : Nat} (hd : decode Y.2.1 pc = .ok (.ifCond .gt off, 3)) (ht : ts_jmp pc off = some t) : lt_run d Y pc ls (.inl x :: r) m = if 0 < x then lt_run d Y t ls r m else lt_run d Y (pc + 3) ls r m := by
  split
  · next h => exact lt_go ((lt_one hd rfl rfl).trans (by unfold ts_step ts_br; dsimp only; rw [ht]; exact if_pos h))
  · next h => exact lt_go ((lt_one hd rfl rfl).trans (by unfold ts_step ts_br; dsimp only; rw [ht]; exact if_neg h))
theorem li_if_le {x : Int32} {off : Int} {t : Nat} (hd : decode Y.2.1 pc = .ok (.ifCond .le off, 3)) (ht : ts_jmp pc off = some t) : lt_run d Y pc ls (.inl x :: r) m = if x ≤ 0 then lt_run d Y t ls r m else lt_run d Y (pc + 3) ls r m := by
  split
  · next h => exact lt_go ((lt_one hd rfl rfl).trans (by unfold ts_step ts_br; dsimp only; rw [ht]; exact if_pos h))
  · next h => exact lt_go ((lt_one hd rfl rfl).trans (by unfold ts_step ts_br; dsimp only; rw [ht]; exact if_neg h))
theorem li_ifnull_n {off : Int} {t : Nat} (hd : decode Y.2.1 pc = .ok (.ifnull off, 3)) (ht : ts_jmp pc off = some t) : lt_run d Y pc ls (.inr (.inr none) :: r) m = lt_run d Y t ls r m := lt_go ((lt_one hd rfl rfl).trans (by unfold ts_step ts_to; dsimp only; rw [ht]))
theorem li_ifnull_s {off : Int} {q : Nat} (hd : decode Y.2.1 pc = .ok (.ifnull off, 3)) : lt_run d Y pc ls (.inr (.inr (some q)) :: r) m = lt_run d Y (pc + 3) ls r m := lt_go ((lt_one hd rfl rfl).trans rfl)
theorem li_ifnonnull_n {off : Int} (hd : decode Y.2.1 pc = .ok (.ifnonnull off, 3)) : lt_run d Y pc ls (.inr (.inr none) :: r) m = lt_run d Y (pc + 3) ls r m := lt_go ((lt_one hd rfl rfl).trans rfl)
theorem li_ifnonnull_s {off : Int} {t q : Nat} (hd : decode Y.2.1 pc = .ok (.ifnonnull off, 3)) (ht : ts_jmp pc off = some t) : lt_run d Y pc ls (.inr (.inr (some q)) :: r) m = lt_run d Y t ls r m := lt_go ((lt_one hd rfl rfl).trans (by unfold ts_step ts_to; dsimp only; rw [ht]))
/-- a switch from 0 on -/
theorem li_tsw {dflt : Int} {offs : Array Int} {n len td : Nat} {ts : List Nat} {x : Int32} (hd : decode Y.2.1 pc = .ok (.tableswitch dflt 0 (n : Int) offs, len)) (hdf : ts_jmp pc dflt = some td) (hts : offs.toList.map (ts_jmp pc) = ts.map some) (hn : ts.length = n + 1) :
    lt_run d Y pc ls (.inl x :: r) m = lt_sw x (ts.map fun t => lt_run d Y t ls r m) (lt_run d Y td ls r m) := by
  unfold lt_sw
  rw [List.length_map, hn]
  by_cases h : x.toInt < 0 ∨ (((n + 1 : Nat) : Int) - 1 < x.toInt)
  · rw [if_pos h]
    refine lt_go ((lt_one hd rfl rfl).trans ?_)
    unfold ts_step ts_to
    dsimp only
    rw [if_pos (by omega), hdf]
  · rw [if_neg h]
    have hk : x.toInt.toNat < ts.length := by omega
    rw [List.getElem?_map, List.getElem?_eq_getElem hk]
    simp only [Option.map_some, Option.getD_some]
    refine lt_go ((lt_one hd rfl rfl).trans ?_)
    unfold ts_step ts_to
    dsimp only
    rw [if_neg (by omega)]
    have h1 : (offs.toList.map (ts_jmp pc))[x.toInt.toNat]? = (ts.map some)[x.toInt.toNat]? := by rw [hts]
    rw [List.getElem?_map, List.getElem?_map, List.getElem?_eq_getElem hk, Array.getElem?_toList] at h1
    rw [show x.toInt - 0 = x.toInt by omega]
    cases ho : offs[x.toInt.toNat]? with
    | none => rw [ho] at h1; cases h1
    | some o =>
      rw [ho] at h1
      dsimp only
      simp only [Option.map_some, Option.some.injEq] at h1
      rw [h1]
theorem li_geti {x a c k : Nat} (hd : decode Y.2.1 pc = .ok (.getfield x, 3)) (hf : ts_fld Y.2.2.2.2 x = some (c, k)) (ha : ts_sh a = (0, c)) (hr : ts_isr (ts_ty c k) = false) : lt_run d Y pc ls (.inr (.inr (some a)) :: r) m = lt_run d Y (pc + 3) ls (.inl (m.1 a k) :: r) m :=
  lt_go ((lt_one hd rfl rfl).trans (by unfold ts_step; dsimp only; rw [hf]; dsimp only; rw [if_pos ⟨ha, ts_sh_lt ha (by decide)⟩]; unfold ts_gv; rw [if_neg (by rw [hr]; decide)]; rfl))
theorem li_getr {x a c k o : Nat} (hd : decode Y.2.1 pc = .ok (.getfield x, 3)) (hf : ts_fld Y.2.2.2.2 x = some (c, k)) (ha : ts_sh a = (0, c)) (hr : ts_isr (ts_ty c k) = true) (hm : ts_mu c k = false) (ho : ts_off c k = o) (h0 : ¬ o = 0) : lt_run d Y pc ls (.inr (.inr (some a)) :: r) m = lt_run d Y (pc + 3) ls (.inr (.inr (some (a + o))) :: r) m := by
  refine lt_go ((lt_one hd rfl rfl).trans ?_)
  unfold ts_step
  dsimp only
  rw [hf]
  dsimp only
  rw [if_pos ⟨ha, ts_sh_lt ha (by decide)⟩]
  unfold ts_gv
  rw [if_pos hr]
  have e : (ts_fl m).2.2.1 a k = some (a + o) := by
    show (if a = 0 ∧ k = 7 then some m.2.2.1 else if a = 0 ∧ k = 8 then some m.2.2.2.1 else if a = 12 ∧ k = 0 then m.2.2.2.2 else ts_G a k) = _
    rw [if_neg, if_neg, if_neg]
    · unfold ts_G; simp only [ha]; rw [if_neg (by rw [ho]; exact h0), ho]
    · rintro ⟨rfl, rfl⟩
      have h9 : ts_sh 12 = (0, 9) := by decide +kernel
      rw [h9] at ha; cases ha; cases hm
    · rintro ⟨rfl, rfl⟩
      have h9 : ts_sh 0 = (0, 11) := by decide +kernel
      rw [h9] at ha; cases ha; cases hm
    · rintro ⟨rfl, rfl⟩
      have h9 : ts_sh 0 = (0, 11) := by decide +kernel
      rw [h9] at ha; cases ha; cases hm
  rw [e]
theorem li_getnet {x a : Nat} (hd : decode Y.2.1 pc = .ok (.getfield x, 3)) (hf : ts_fld Y.2.2.2.2 x = some (11, 7)) (ha : ts_sh a = (0, 11)) : lt_run d Y pc ls (.inr (.inr (some a)) :: r) m = lt_run d Y (pc + 3) ls (.inr (.inr (some m.2.2.1)) :: r) m := by
  refine lt_go ((lt_one hd rfl rfl).trans ?_)
  unfold ts_step
  dsimp only
  rw [hf]
  dsimp only
  rw [if_pos ⟨ha, ts_sh_lt ha (by decide)⟩]
  have h0 := ts_sh11 ha
  subst h0
  rfl
theorem li_getdraft {x a : Nat} (hd : decode Y.2.1 pc = .ok (.getfield x, 3)) (hf : ts_fld Y.2.2.2.2 x = some (11, 8)) (ha : ts_sh a = (0, 11)) : lt_run d Y pc ls (.inr (.inr (some a)) :: r) m = lt_run d Y (pc + 3) ls (.inr (.inr (some m.2.2.2.1)) :: r) m := by
  refine lt_go ((lt_one hd rfl rfl).trans ?_)
  unfold ts_step
  dsimp only
  rw [hf]
  dsimp only
  rw [if_pos ⟨ha, ts_sh_lt ha (by decide)⟩]
  have h0 := ts_sh11 ha
  subst h0
  rfl
theorem li_getsnet {x a : Nat} (hd : decode Y.2.1 pc = .ok (.getfield x, 3)) (hf : ts_fld Y.2.2.2.2 x = some (9, 0)) (ha : ts_sh a = (0, 9)) : lt_run d Y pc ls (.inr (.inr (some a)) :: r) m = lt_run d Y (pc + 3) ls (.inr (.inr m.2.2.2.2) :: r) m := by
  refine lt_go ((lt_one hd rfl rfl).trans ?_)
  unfold ts_step
  dsimp only
  rw [hf]
  dsimp only
  rw [if_pos ⟨ha, ts_sh_lt ha (by decide)⟩]
  have h0 := ts_sh9 ha
  subst h0
  rfl

def lm_i (m : lt_m) (a j : Nat) (v : Int32) : lt_m := (ts_up m.1 a j v, m.2)
def lm_l (m : lt_m) (a j : Nat) (v : Int64) : lt_m := (m.1, ts_up m.2.1 a j v, m.2.2)
def lm_net (m : lt_m) (v : Nat) : lt_m := (m.1, m.2.1, v, m.2.2.2)
def lm_draft (m : lt_m) (v : Nat) : lt_m := (m.1, m.2.1, m.2.2.1, v, m.2.2.2.2)
def lm_snet (m : lt_m) (v : Nat) : lt_m := (m.1, m.2.1, m.2.2.1, m.2.2.2.1, some v)
theorem li_puti {x a c k : Nat} {v : Int32} (hd : decode Y.2.1 pc = .ok (.putfield x, 3)) (hf : ts_fld Y.2.2.2.2 x = some (c, k)) (ha : ts_sh a = (0, c)) (hfi : (ts_T c k).2.2.2 = false) (hr : ts_ty c k = .int) : lt_run d Y pc ls (.inl v :: .inr (.inr (some a)) :: r) m = lt_run d Y (pc + 3) ls r (lm_i m a k v) :=
  lt_go ((lt_one hd rfl rfl).trans (by unfold ts_step; dsimp only; rw [hf]; dsimp only; rw [if_neg (by rw [hfi]; intro q; cases q.1), if_pos ⟨ha, ts_sh_lt ha (by decide), Or.inl hr⟩]; rfl))
theorem li_putz {x a c k : Nat} {v : Int32} (hd : decode Y.2.1 pc = .ok (.putfield x, 3)) (hf : ts_fld Y.2.2.2.2 x = some (c, k)) (ha : ts_sh a = (0, c)) (hfi : (ts_T c k).2.2.2 = false) (hr : ts_ty c k = .boolean) : lt_run d Y pc ls (.inl v :: .inr (.inr (some a)) :: r) m = lt_gd (v = 0 ∨ v = 1) (lt_run d Y (pc + 3) ls r (lm_i m a k v)) := by
  unfold lt_gd
  split
  · next h => exact lt_go ((lt_one hd rfl rfl).trans (by unfold ts_step; dsimp only; rw [hf]; dsimp only; rw [if_neg (by rw [hfi]; intro q; cases q.1), if_pos ⟨ha, ts_sh_lt ha (by decide), Or.inr ⟨hr, h⟩⟩]; rfl))
  · next h => exact lt_no ((lt_one hd rfl rfl).trans (by unfold ts_step; dsimp only; rw [hf]; dsimp only; rw [if_neg (by rw [hfi]; intro q; cases q.1), if_neg]; rintro ⟨-, -, q | ⟨-, q⟩⟩; (rw [hr] at q; cases q); exact h q))
theorem li_putnet {x a v : Nat} (hd : decode Y.2.1 pc = .ok (.putfield x, 3)) (hf : ts_fld Y.2.2.2.2 x = some (11, 7)) (ha : ts_sh a = (0, 11)) : lt_run d Y pc ls (.inr (.inr (some v)) :: .inr (.inr (some a)) :: r) m = lt_run d Y (pc + 3) ls r (lm_net m v) := by
  refine lt_go ((lt_one hd rfl rfl).trans ?_)
  unfold ts_step
  dsimp only
  rw [hf]
  dsimp only
  rw [if_neg (by intro q; cases q.1), if_pos ⟨ha, ts_sh_lt ha (by decide), rfl, Or.inr rfl⟩]
  have h0 := ts_sh11 ha
  subst h0
  congr 5
  show ts_wrR (ts_fl m) 0 7 (some v) = _
  unfold ts_wrR ts_fl lm_net
  congr 3
  funext b k
  unfold ts_up
  dsimp only
  repeat' split
  all_goals first | rfl | omega
theorem li_putdraft {x a v : Nat} (hd : decode Y.2.1 pc = .ok (.putfield x, 3)) (hf : ts_fld Y.2.2.2.2 x = some (11, 8)) (ha : ts_sh a = (0, 11)) : lt_run d Y pc ls (.inr (.inr (some v)) :: .inr (.inr (some a)) :: r) m = lt_run d Y (pc + 3) ls r (lm_draft m v) := by
  refine lt_go ((lt_one hd rfl rfl).trans ?_)
  unfold ts_step
  dsimp only
  rw [hf]
  dsimp only
  rw [if_neg (by intro q; cases q.1), if_pos ⟨ha, ts_sh_lt ha (by decide), rfl, Or.inr rfl⟩]
  have h0 := ts_sh11 ha
  subst h0
  congr 5
  show ts_wrR (ts_fl m) 0 8 (some v) = _
  unfold ts_wrR ts_fl lm_draft
  congr 3
  funext b k
  unfold ts_up
  dsimp only
  repeat' split
  all_goals first | rfl | omega
theorem li_putsnet {x a v : Nat} (hd : decode Y.2.1 pc = .ok (.putfield x, 3)) (hf : ts_fld Y.2.2.2.2 x = some (9, 0)) (ha : ts_sh a = (0, 9)) : lt_run d Y pc ls (.inr (.inr (some v)) :: .inr (.inr (some a)) :: r) m = lt_run d Y (pc + 3) ls r (lm_snet m v) := by
  refine lt_go ((lt_one hd rfl rfl).trans ?_)
  unfold ts_step
  dsimp only
  rw [hf]
  dsimp only
  rw [if_neg (by intro q; cases q.1), if_pos ⟨ha, ts_sh_lt ha (by decide), rfl, Or.inr rfl⟩]
  have h0 := ts_sh9 ha
  subst h0
  congr 5
  show ts_wrR (ts_fl m) 12 0 (some v) = _
  unfold ts_wrR ts_fl lm_snet
  congr 3
  funext b k
  unfold ts_up
  dsimp only
  repeat' split
  all_goals first | rfl | omega
theorem li_alen {a t n : Nat} {v : Int32} (hd : decode Y.2.1 pc = .ok (.arraylength, 1)) (ha : ts_sh a = (t, n)) (ht : 1 ≤ t ∧ t ≤ 5) (hv : Int32.ofNat n = v) : lt_run d Y pc ls (.inr (.inr (some a)) :: r) m = lt_run d Y (pc + 1) ls (.inl v :: r) m := by
  subst hv
  refine lt_go ((lt_one hd rfl rfl).trans ?_)
  unfold ts_step
  dsimp only
  rw [ha]
  exact if_pos ⟨ht.1, ht.2, ts_sh_lt ha (by omega)⟩

theorem li_iald {a n : Nat} {j : Int32} (hd : decode Y.2.1 pc = .ok (.iaload, 1)) (ha : ts_sh a = (1, n)) : lt_run d Y pc ls (.inl j :: .inr (.inr (some a)) :: r) m = lt_gd (0 ≤ j ∧ j.toNatClampNeg < n) (lt_run d Y (pc + 1) ls (.inl (m.1 a j.toNatClampNeg) :: r) m) := by
  unfold lt_gd
  split
  · next h =>
    refine lt_go ((lt_one hd rfl rfl).trans ?_)
    unfold ts_step
    dsimp only
    rw [ha]
    exact if_pos ⟨rfl, ts_sh_lt ha (by decide), h.1, h.2⟩
  · next h =>
    refine lt_no ((lt_one hd rfl rfl).trans ?_)
    unfold ts_step
    dsimp only
    rw [ha]
    exact if_neg (fun q => h ⟨q.2.2.1, q.2.2.2⟩)
theorem li_bald {a n : Nat} {j : Int32} (hd : decode Y.2.1 pc = .ok (.baload, 1)) (ha : ts_sh a = (2, n)) : lt_run d Y pc ls (.inl j :: .inr (.inr (some a)) :: r) m = lt_gd (0 ≤ j ∧ j.toNatClampNeg < n) (lt_run d Y (pc + 1) ls (.inl (m.1 a j.toNatClampNeg) :: r) m) := by
  unfold lt_gd
  split
  · next h =>
    refine lt_go ((lt_one hd rfl rfl).trans ?_)
    unfold ts_step
    dsimp only
    rw [ha]
    exact if_pos ⟨rfl, ts_sh_lt ha (by decide), h.1, h.2⟩
  · next h =>
    refine lt_no ((lt_one hd rfl rfl).trans ?_)
    unfold ts_step
    dsimp only
    rw [ha]
    exact if_neg (fun q => h ⟨q.2.2.1, q.2.2.2⟩)
theorem li_lald {a n : Nat} {j : Int32} (hd : decode Y.2.1 pc = .ok (.laload, 1)) (ha : ts_sh a = (3, n)) : lt_run d Y pc ls (.inl j :: .inr (.inr (some a)) :: r) m = lt_gd (0 ≤ j ∧ j.toNatClampNeg < n) (lt_run d Y (pc + 1) ls (.inr (.inl (m.2.1 a j.toNatClampNeg)) :: r) m) := by
  unfold lt_gd
  split
  · next h =>
    refine lt_go ((lt_one hd rfl rfl).trans ?_)
    unfold ts_step
    dsimp only
    rw [ha]
    exact if_pos ⟨rfl, ts_sh_lt ha (by decide), h.1, h.2⟩
  · next h =>
    refine lt_no ((lt_one hd rfl rfl).trans ?_)
    unfold ts_step
    dsimp only
    rw [ha]
    exact if_neg (fun q => h ⟨q.2.2.1, q.2.2.2⟩)
theorem li_iast {a n : Nat} {j : Int32} {v : Int32} (hd : decode Y.2.1 pc = .ok (.iastore, 1)) (ha : ts_sh a = (1, n)) : lt_run d Y pc ls (.inl v :: .inl j :: .inr (.inr (some a)) :: r) m = lt_gd (0 ≤ j ∧ j.toNatClampNeg < n) (lt_run d Y (pc + 1) ls r (lm_i m a j.toNatClampNeg v)) := by
  unfold lt_gd
  split
  · next h =>
    refine lt_go ((lt_one hd rfl rfl).trans ?_)
    unfold ts_step
    dsimp only
    rw [ha]
    exact if_pos ⟨rfl, ts_sh_lt ha (by decide), h.1, h.2⟩
  · next h =>
    refine lt_no ((lt_one hd rfl rfl).trans ?_)
    unfold ts_step
    dsimp only
    rw [ha]
    exact if_neg (fun q => h ⟨q.2.2.1, q.2.2.2⟩)
theorem li_bast {a n : Nat} {j : Int32} {v : Int32} (hd : decode Y.2.1 pc = .ok (.bastore, 1)) (ha : ts_sh a = (2, n)) : lt_run d Y pc ls (.inl v :: .inl j :: .inr (.inr (some a)) :: r) m = lt_gd (0 ≤ j ∧ j.toNatClampNeg < n) (lt_run d Y (pc + 1) ls r (lm_i m a j.toNatClampNeg (vp_nar .byte v))) := by
  unfold lt_gd
  split
  · next h =>
    refine lt_go ((lt_one hd rfl rfl).trans ?_)
    unfold ts_step
    dsimp only
    rw [ha]
    exact if_pos ⟨rfl, ts_sh_lt ha (by decide), h.1, h.2⟩
  · next h =>
    refine lt_no ((lt_one hd rfl rfl).trans ?_)
    unfold ts_step
    dsimp only
    rw [ha]
    exact if_neg (fun q => h ⟨q.2.2.1, q.2.2.2⟩)
theorem li_last {a n : Nat} {j : Int32} {v : Int64} (hd : decode Y.2.1 pc = .ok (.lastore, 1)) (ha : ts_sh a = (3, n)) : lt_run d Y pc ls (.inr (.inl v) :: .inl j :: .inr (.inr (some a)) :: r) m = lt_gd (0 ≤ j ∧ j.toNatClampNeg < n) (lt_run d Y (pc + 1) ls r (lm_l m a j.toNatClampNeg v)) := by
  unfold lt_gd
  split
  · next h =>
    refine lt_go ((lt_one hd rfl rfl).trans ?_)
    unfold ts_step
    dsimp only
    rw [ha]
    exact if_pos ⟨rfl, ts_sh_lt ha (by decide), h.1, h.2⟩
  · next h =>
    refine lt_no ((lt_one hd rfl rfl).trans ?_)
    unfold ts_step
    dsimp only
    rw [ha]
    exact if_neg (fun q => h ⟨q.2.2.1, q.2.2.2⟩)
theorem li_aald4 {a n : Nat} {j : Int32} (hd : decode Y.2.1 pc = .ok (.aaload, 1)) (ha : ts_sh a = (4, n)) : lt_run d Y pc ls (.inl j :: .inr (.inr (some a)) :: r) m = lt_gd (0 ≤ j ∧ j.toNatClampNeg < n) (lt_run d Y (pc + 1) ls (.inr (.inr (some (a + 5 + 3 * j.toNatClampNeg))) :: r) m) := by
  unfold lt_gd
  split
  · next h =>
    refine lt_go ((lt_one hd rfl rfl).trans ?_)
    unfold ts_step
    dsimp only
    rw [ha, if_pos ⟨by simp, ts_sh_lt ha (by decide), h.1, h.2⟩]
    have e : (ts_fl m).2.2.1 a j.toNatClampNeg = some (a + 5 + 3 * j.toNatClampNeg) := by
      refine ((ts_fl_fz m).2.2.2 a _ ?_ ?_ ?_).trans (by unfold ts_G; simp only [ha])
      · rintro ⟨rfl, -⟩; have h9 : ts_sh 0 = (0, 11) := by decide +kernel
        rw [h9] at ha; cases ha
      · rintro ⟨rfl, -⟩; have h9 : ts_sh 0 = (0, 11) := by decide +kernel
        rw [h9] at ha; cases ha
      · rintro ⟨rfl, -⟩; have h9 : ts_sh 12 = (0, 9) := by decide +kernel
        rw [h9] at ha; cases ha
    rw [e]
  · next h =>
    refine lt_no ((lt_one hd rfl rfl).trans ?_)
    unfold ts_step
    dsimp only
    rw [ha]
    exact if_neg (fun q => h ⟨q.2.2.1, q.2.2.2⟩)
theorem li_aald5 {a n : Nat} {j : Int32} (hd : decode Y.2.1 pc = .ok (.aaload, 1)) (ha : ts_sh a = (5, n)) : lt_run d Y pc ls (.inl j :: .inr (.inr (some a)) :: r) m = lt_gd (0 ≤ j ∧ j.toNatClampNeg < n) (lt_run d Y (pc + 1) ls (.inr (.inr (some (a + 69 + 68 * j.toNatClampNeg))) :: r) m) := by
  unfold lt_gd
  split
  · next h =>
    refine lt_go ((lt_one hd rfl rfl).trans ?_)
    unfold ts_step
    dsimp only
    rw [ha, if_pos ⟨by simp, ts_sh_lt ha (by decide), h.1, h.2⟩]
    have e : (ts_fl m).2.2.1 a j.toNatClampNeg = some (a + 69 + 68 * j.toNatClampNeg) := by
      refine ((ts_fl_fz m).2.2.2 a _ ?_ ?_ ?_).trans (by unfold ts_G; simp only [ha])
      · rintro ⟨rfl, -⟩; have h9 : ts_sh 0 = (0, 11) := by decide +kernel
        rw [h9] at ha; cases ha
      · rintro ⟨rfl, -⟩; have h9 : ts_sh 0 = (0, 11) := by decide +kernel
        rw [h9] at ha; cases ha
      · rintro ⟨rfl, -⟩; have h9 : ts_sh 12 = (0, 9) := by decide +kernel
        rw [h9] at ha; cases ha
    rw [e]
  · next h =>
    refine lt_no ((lt_one hd rfl rfl).trans ?_)
    unfold ts_step
    dsimp only
    rw [ha]
    exact if_neg (fun q => h ⟨q.2.2.1, q.2.2.2⟩)
def lm_min (x y : Int32) : Int32 := if y < x then y else x
def lm_max (x y : Int32) : Int32 := if x < y then y else x
theorem li_min {x : Nat} {y z : Int32} (hd : decode Y.2.1 pc = .ok (.invokestatic x, 3)) (hb : ts_bi Y.2.2.2.2 x = 2) (hr : r.length ≤ 4) : lt_run d Y pc ls (.inl y :: .inl z :: r) m = lt_run d Y (pc + 3) ls (.inl (lm_min z y) :: r) m := by
  refine lt_go ((lt_one hd rfl rfl).trans ?_)
  unfold ts_step
  dsimp only
  rw [hb]
  exact if_pos hr
theorem li_max {x : Nat} {y z : Int32} (hd : decode Y.2.1 pc = .ok (.invokestatic x, 3)) (hb : ts_bi Y.2.2.2.2 x = 3) (hr : r.length ≤ 4) : lt_run d Y pc ls (.inl y :: .inl z :: r) m = lt_run d Y (pc + 3) ls (.inl (lm_max z y) :: r) m := by
  refine lt_go ((lt_one hd rfl rfl).trans ?_)
  unfold ts_step
  dsimp only
  rw [hb]
  exact if_pos hr
theorem lt_backI {o : Option lt_r} : ((ts_back 1 (o.map fun q => (q.1, ts_fl q.2)) pc ls r).elim none fun z => match z with | .inl f => ((ts_run (ts_ev d) Y f).map fun r => (r.1, ts_un r.2)) | .inr q => some (q.1, ts_un q.2)) = lt_cI o fun v m' => lt_run d Y (pc + 3) ls (.inl v :: r) m' := by
  rcases o with _ | ⟨_ | v | v | v, m'⟩ <;> rfl
theorem lt_backV {o : Option lt_r} : ((ts_back 0 (o.map fun q => (q.1, ts_fl q.2)) pc ls r).elim none fun z => match z with | .inl f => ((ts_run (ts_ev d) Y f).map fun r => (r.1, ts_un r.2)) | .inr q => some (q.1, ts_un q.2)) = lt_cV o fun m' => lt_run d Y (pc + 3) ls r m' := by
  rcases o with _ | ⟨_ | v | v | v, m'⟩ <;> rfl
theorem lt_backR {o : Option lt_r} : ((ts_back 3 (o.map fun q => (q.1, ts_fl q.2)) pc ls r).elim none fun z => match z with | .inl f => ((ts_run (ts_ev d) Y f).map fun r => (r.1, ts_un r.2)) | .inr q => some (q.1, ts_un q.2)) = lt_cR o fun v m' => lt_run d Y (pc + 3) ls (.inr (.inr v) :: r) m' := by
  rcases o with _ | ⟨_ | v | v | v, m'⟩ <;> rfl
theorem lt_backL {o : Option lt_r} : ((ts_back 2 (o.map fun q => (q.1, ts_fl q.2)) pc ls r).elim none fun z => match z with | .inl f => ((ts_run (ts_ev d) Y f).map fun r => (r.1, ts_un r.2)) | .inr q => some (q.1, ts_un q.2)) = lt_cL o fun v m' => lt_run d Y (pc + 3) ls (.inr (.inl v) :: r) m' := by
  rcases o with _ | ⟨_ | v | v | v, m'⟩ <;> rfl
theorem lt_run_any {st : List ts_V} {o : Option (ts_F ⊕ ts_R)} (h : ts_one (ts_ev d) Y (pc, ls, st, ts_fl m) = o) : lt_run d Y pc ls st m = o.elim none fun z => match z with | .inl f => ((ts_run (ts_ev d) Y f).map fun r => (r.1, ts_un r.2)) | .inr q => some (q.1, ts_un q.2) := by
  unfold lt_run
  rw [ts_run_step, h]
  rcases o with _ | z | z <;> rfl
theorem lt_inv1 {x y n b z : Nat} {st As : List ts_V} (hd : decode Y.2.1 pc = .ok (.invokevirtual x, 3)) (hc : ts_cal Y.2.2.2.2 x = some (y, n, 0, z)) (hst : st.drop n = .inr (.inr (some b)) :: r) (hA : (st.take n).reverse = As) (hs : ts_sh b = (0, ts_cls y)) (h9 : n ≤ st.length) (hr : r.length ≤ 4) : ts_one (ts_ev d) Y (pc, ls, st, ts_fl m) = ts_back (ts_knd y) ((lt_ev d y (.inr (.inr (some b)) :: As) m).map fun q => (q.1, ts_fl q.2)) pc ls r := by
  refine (lt_one hd rfl rfl).trans ?_
  unfold ts_step
  try dsimp only
  rw [hc]
  show (match st.drop n with
    | .inr (.inr (some b)) :: r => if ts_sh b = (0, ts_cls y) ∧ b < (ts_fl m).2.2.2 ∧ n ≤ st.length ∧ r.length ≤ 4 then ts_back (ts_knd y) (ts_ev d y (.inr (.inr (some b)) :: (st.take n).reverse) (ts_fl m)) pc ls r else none
    | _ => none) = _
  rw [hst]
  try dsimp only
  rw [if_pos ⟨hs, ts_sh_lt hs (by decide), h9, hr⟩, hA, lt_ev_fl (ts_ni_of hc (by decide))]
theorem lt_inv2 {x y n z : Nat} {st As : List ts_V} (hd : decode Y.2.1 pc = .ok (.invokestatic x, 3)) (hb : ts_bi Y.2.2.2.2 x = 0) (hc : ts_cal Y.2.2.2.2 x = some (y, n, 1, z)) (hst : st.drop n = r) (hA : (st.take n).reverse = As) (h9 : n ≤ st.length) (hr : r.length ≤ 4) : ts_one (ts_ev d) Y (pc, ls, st, ts_fl m) = ts_back (ts_knd y) ((lt_ev d y As m).map fun q => (q.1, ts_fl q.2)) pc ls r := by
  refine (lt_one hd rfl rfl).trans ?_
  subst hst
  unfold ts_step
  try dsimp only
  rw [hb, hc]
  show (if n ≤ st.length ∧ (st.drop n).length ≤ 4 then ts_back (ts_knd y) (ts_ev d y (st.take n).reverse (ts_fl m)) pc ls (st.drop n) else none) = _
  rw [if_pos ⟨h9, hr⟩, hA, lt_ev_fl (ts_ni_of hc (by decide))]
theorem li_ivV {x y n b z c9 : Nat} {st As : List ts_V} (hd : decode Y.2.1 pc = .ok (.invokevirtual x, 3)) (hc : ts_cal Y.2.2.2.2 x = some (y, n, 0, z)) (hk : ts_knd y = 0) (hcl : ts_cls y = c9) (hst : st.drop n = .inr (.inr (some b)) :: r) (hA : (st.take n).reverse = As) (hs : ts_sh b = (0, c9)) (h9 : n ≤ st.length) (hr : r.length ≤ 4) : lt_run d Y pc ls st m = lt_cV (lt_ev d y (.inr (.inr (some b)) :: As) m) fun m' => lt_run d Y (pc + 3) ls r m' := by
  refine (lt_run_any (lt_inv1 hd hc hst hA (by rw [hcl]; exact hs) h9 hr)).trans ?_
  rw [hk]
  exact lt_backV
theorem li_isV {x y n z : Nat} {st As : List ts_V} (hd : decode Y.2.1 pc = .ok (.invokestatic x, 3)) (hb : ts_bi Y.2.2.2.2 x = 0) (hc : ts_cal Y.2.2.2.2 x = some (y, n, 1, z)) (hk : ts_knd y = 0) (hst : st.drop n = r) (hA : (st.take n).reverse = As) (h9 : n ≤ st.length) (hr : r.length ≤ 4) : lt_run d Y pc ls st m = lt_cV (lt_ev d y As m) fun m' => lt_run d Y (pc + 3) ls r m' := by
  refine (lt_run_any (lt_inv2 hd hb hc hst hA h9 hr)).trans ?_
  rw [hk]
  exact lt_backV
theorem li_ivI {x y n b z c9 : Nat} {st As : List ts_V} (hd : decode Y.2.1 pc = .ok (.invokevirtual x, 3)) (hc : ts_cal Y.2.2.2.2 x = some (y, n, 0, z)) (hk : ts_knd y = 1) (hcl : ts_cls y = c9) (hst : st.drop n = .inr (.inr (some b)) :: r) (hA : (st.take n).reverse = As) (hs : ts_sh b = (0, c9)) (h9 : n ≤ st.length) (hr : r.length ≤ 4) : lt_run d Y pc ls st m = lt_cI (lt_ev d y (.inr (.inr (some b)) :: As) m) fun v m' => lt_run d Y (pc + 3) ls (.inl v :: r) m' := by
  refine (lt_run_any (lt_inv1 hd hc hst hA (by rw [hcl]; exact hs) h9 hr)).trans ?_
  rw [hk]
  exact lt_backI
theorem li_isI {x y n z : Nat} {st As : List ts_V} (hd : decode Y.2.1 pc = .ok (.invokestatic x, 3)) (hb : ts_bi Y.2.2.2.2 x = 0) (hc : ts_cal Y.2.2.2.2 x = some (y, n, 1, z)) (hk : ts_knd y = 1) (hst : st.drop n = r) (hA : (st.take n).reverse = As) (h9 : n ≤ st.length) (hr : r.length ≤ 4) : lt_run d Y pc ls st m = lt_cI (lt_ev d y As m) fun v m' => lt_run d Y (pc + 3) ls (.inl v :: r) m' := by
  refine (lt_run_any (lt_inv2 hd hb hc hst hA h9 hr)).trans ?_
  rw [hk]
  exact lt_backI
theorem li_ivL {x y n b z c9 : Nat} {st As : List ts_V} (hd : decode Y.2.1 pc = .ok (.invokevirtual x, 3)) (hc : ts_cal Y.2.2.2.2 x = some (y, n, 0, z)) (hk : ts_knd y = 2) (hcl : ts_cls y = c9) (hst : st.drop n = .inr (.inr (some b)) :: r) (hA : (st.take n).reverse = As) (hs : ts_sh b = (0, c9)) (h9 : n ≤ st.length) (hr : r.length ≤ 4) : lt_run d Y pc ls st m = lt_cL (lt_ev d y (.inr (.inr (some b)) :: As) m) fun v m' => lt_run d Y (pc + 3) ls (.inr (.inl v) :: r) m' := by
  refine (lt_run_any (lt_inv1 hd hc hst hA (by rw [hcl]; exact hs) h9 hr)).trans ?_
  rw [hk]
  exact lt_backL
theorem li_isL {x y n z : Nat} {st As : List ts_V} (hd : decode Y.2.1 pc = .ok (.invokestatic x, 3)) (hb : ts_bi Y.2.2.2.2 x = 0) (hc : ts_cal Y.2.2.2.2 x = some (y, n, 1, z)) (hk : ts_knd y = 2) (hst : st.drop n = r) (hA : (st.take n).reverse = As) (h9 : n ≤ st.length) (hr : r.length ≤ 4) : lt_run d Y pc ls st m = lt_cL (lt_ev d y As m) fun v m' => lt_run d Y (pc + 3) ls (.inr (.inl v) :: r) m' := by
  refine (lt_run_any (lt_inv2 hd hb hc hst hA h9 hr)).trans ?_
  rw [hk]
  exact lt_backL
theorem li_ivR {x y n b z c9 : Nat} {st As : List ts_V} (hd : decode Y.2.1 pc = .ok (.invokevirtual x, 3)) (hc : ts_cal Y.2.2.2.2 x = some (y, n, 0, z)) (hk : ts_knd y = 3) (hcl : ts_cls y = c9) (hst : st.drop n = .inr (.inr (some b)) :: r) (hA : (st.take n).reverse = As) (hs : ts_sh b = (0, c9)) (h9 : n ≤ st.length) (hr : r.length ≤ 4) : lt_run d Y pc ls st m = lt_cR (lt_ev d y (.inr (.inr (some b)) :: As) m) fun v m' => lt_run d Y (pc + 3) ls (.inr (.inr v) :: r) m' := by
  refine (lt_run_any (lt_inv1 hd hc hst hA (by rw [hcl]; exact hs) h9 hr)).trans ?_
  rw [hk]
  exact lt_backR
theorem li_isR {x y n z : Nat} {st As : List ts_V} (hd : decode Y.2.1 pc = .ok (.invokestatic x, 3)) (hb : ts_bi Y.2.2.2.2 x = 0) (hc : ts_cal Y.2.2.2.2 x = some (y, n, 1, z)) (hk : ts_knd y = 3) (hst : st.drop n = r) (hA : (st.take n).reverse = As) (h9 : n ≤ st.length) (hr : r.length ≤ 4) : lt_run d Y pc ls st m = lt_cR (lt_ev d y As m) fun v m' => lt_run d Y (pc + 3) ls (.inr (.inr v) :: r) m' := by
  refine (lt_run_any (lt_inv2 hd hb hc hst hA h9 hr)).trans ?_
  rw [hk]
  exact lt_backR
theorem lt_enter2 {y : Nat} {As : List ts_V} (hY : ts_mL[y]? = some Y) (hl : (ts_ar As).length ≤ Y.2.2.1) (h0 : ts_l0 As Y.2.2.1 = ls) : lt_ev (d + 1) y As m = lt_run d Y 0 ls [] m := by subst h0; exact lt_enter hY hl
theorem lt_nl_x {o : Option Nat} {F : Option Nat → Option lt_r} {A : Option lt_r} {B : Nat → Option lt_r} (h1 : F none = A) (h2 : ∀ q, F (some q) = B q) : F o = lt_nl o A B := by
  cases o with
  | none => exact h1
  | some q => exact h2 q
theorem lt_sw_c {x : Int32} {ks ks' : List (Option lt_r)} {k k' : Option lt_r} (h1 : ks = ks') (h2 : k = k') : lt_sw x ks k = lt_sw x ks' k' := by rw [h1, h2]
theorem lt_l2 {α : Type} {a a' : α} {l l' : List α} (h1 : a = a') (h2 : l = l') : a :: l = a' :: l' := by rw [h1, h2]
theorem li_gget {x a c k : Nat} (hd : decode Y.2.1 pc = .ok (.getfield x, 3)) (hf : ts_fld Y.2.2.2.2 x = some (c, k)) : lt_run d Y pc ls (.inr (.inr (some a)) :: r) m = lt_gd (ts_sh a = (0, c)) (lt_run d Y pc ls (.inr (.inr (some a)) :: r) m) := by
  unfold lt_gd
  split
  · rfl
  · next h => exact lt_no ((lt_one hd rfl rfl).trans (by unfold ts_step; dsimp only; rw [hf]; exact if_neg (fun q => h q.1)))
theorem li_ginv {x y n z c9 a : Nat} {st : List ts_V} (hd : decode Y.2.1 pc = .ok (.invokevirtual x, 3)) (hc : ts_cal Y.2.2.2.2 x = some (y, n, 0, z)) (hcl : ts_cls y = c9) (hst : st.drop n = .inr (.inr (some a)) :: r) : lt_run d Y pc ls st m = lt_gd (ts_sh a = (0, c9)) (lt_run d Y pc ls st m) := by
  unfold lt_gd
  split
  · rfl
  · next h =>
    refine lt_no ((lt_one hd rfl rfl).trans ?_)
    unfold ts_step
    dsimp only
    rw [hc]
    show (match st.drop n with
      | .inr (.inr (some b)) :: r => if ts_sh b = (0, ts_cls y) ∧ b < (ts_fl m).2.2.2 ∧ n ≤ st.length ∧ r.length ≤ 4 then ts_back (ts_knd y) (ts_ev d y (.inr (.inr (some b)) :: (st.take n).reverse) (ts_fl m)) pc ls r else none
      | _ => none) = _
    rw [hst]
    exact if_neg (fun q => h (by rw [← hcl]; exact q.1))
theorem li_iret {v : Int32} (hd : decode Y.2.1 pc = .ok (.ireturn, 1)) (hr : Y.2.2.2.1 = some .int) : lt_run d Y pc ls [.inl v] m = some (some (.inl v), m) := lt_end ((lt_one hd rfl rfl).trans (if_pos (Or.inl hr)))
theorem li_zret {v : Int32} (hd : decode Y.2.1 pc = .ok (.ireturn, 1)) (hr : Y.2.2.2.1 = some .boolean) (hv : v = 0 ∨ v = 1) : lt_run d Y pc ls [.inl v] m = some (some (.inl v), m) := lt_end ((lt_one hd rfl rfl).trans (if_pos (Or.inr ⟨hr, hv⟩)))
theorem li_zretg {v : Int32} (hd : decode Y.2.1 pc = .ok (.ireturn, 1)) (hr : Y.2.2.2.1 = some .boolean) : lt_run d Y pc ls [.inl v] m = lt_gd (v = 0 ∨ v = 1) (some (some (.inl v), m)) := by
  unfold lt_gd
  split
  · next h => exact li_zret hd hr h
  · next h => exact lt_no ((lt_one hd rfl rfl).trans (if_neg (by rintro (q | ⟨-, q⟩); (rw [hr] at q; cases q); exact h q)))
theorem li_lret {v : Int64} (hd : decode Y.2.1 pc = .ok (.lreturn, 1)) (hr : Y.2.2.2.1 = some .long) : lt_run d Y pc ls [.inr (.inl v)] m = some (some (.inr (.inl v)), m) := lt_end ((lt_one hd rfl rfl).trans (if_pos hr))
theorem li_vret (hd : decode Y.2.1 pc = .ok (.return_, 1)) (hr : Y.2.2.2.1 = none) : lt_run d Y pc ls [] m = some (none, m) := lt_end ((lt_one hd rfl rfl).trans (if_pos hr))
theorem li_aret {o : Option Nat} {n : String} (hd : decode Y.2.1 pc = .ok (.areturn, 1)) (hr : Y.2.2.2.1 = some (.object n)) : lt_run d Y pc ls [.inr (.inr o)] m = some (some (.inr (.inr o)), m) := lt_end ((lt_one hd rfl rfl).trans (by unfold ts_step; dsimp only; rw [hr]))
end LI
end
