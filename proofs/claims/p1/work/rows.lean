section
-- ===== PART A: goes FIRST, ahead of the names: the tables' words, and 'selects' of the private methods out of them =====
/-- a private method of a class that the tables say can be made, by its rows of tables_1 -/
def lw_okq (q : MethodName × Nat) : Prop := (q.1.cls ≠ "java/lang/invoke/MethodHandle" ∧ q.1.cls ≠ "java/lang/invoke/VarHandle") ∧ Cond.instantiable q.1.cls q.2 ∈ tables_1 ∧ Cond.privateMethod q.1 ∈ tables_1 ∧ Cond.instanceMethod q.1 ∈ tables_1
theorem lw_p0 : lw_okq (⟨"MountYard$Processes", "isUsedByOthers", "(II)Z"⟩, 6) := ⟨⟨by decide +kernel, by decide +kernel⟩, List.mem_of_getElem? (i := 203) (by decide +kernel), List.mem_of_getElem? (i := 381) (by decide +kernel), List.mem_of_getElem? (i := 382) (by decide +kernel)⟩
theorem lw_p1 : lw_okq (⟨"MountYard$Processes", "table", "(I)LMountYard$Table;"⟩, 6) := ⟨⟨by decide +kernel, by decide +kernel⟩, List.mem_of_getElem? (i := 203) (by decide +kernel), List.mem_of_getElem? (i := 385) (by decide +kernel), List.mem_of_getElem? (i := 386) (by decide +kernel)⟩
theorem lw_p2 : lw_okq (⟨"java/lang/Throwable", "fillInStackTrace", "(I)Ljava/lang/Throwable;"⟩, 6) := ⟨⟨by decide +kernel, by decide +kernel⟩, List.mem_of_getElem? (i := 470) (by decide +kernel), List.mem_of_getElem? (i := 468) (by decide +kernel), List.mem_of_getElem? (i := 469) (by decide +kernel)⟩
theorem lw_p3 : lw_okq (⟨"MountYard$Frame", "endsBehindStrings", "(III)Z"⟩, 1) := ⟨⟨by decide +kernel, by decide +kernel⟩, List.mem_of_getElem? (i := 170) (by decide +kernel), List.mem_of_getElem? (i := 594) (by decide +kernel), List.mem_of_getElem? (i := 595) (by decide +kernel)⟩
theorem lw_p4 : lw_okq (⟨"MountYard$Frame", "stringBytes", "(I)I"⟩, 1) := ⟨⟨by decide +kernel, by decide +kernel⟩, List.mem_of_getElem? (i := 170) (by decide +kernel), List.mem_of_getElem? (i := 607) (by decide +kernel), List.mem_of_getElem? (i := 608) (by decide +kernel)⟩
theorem lw_p5 : lw_okq (⟨"MountYard$Talk", "begin", "()C"⟩, 6) := ⟨⟨by decide +kernel, by decide +kernel⟩, List.mem_of_getElem? (i := 118) (by decide +kernel), List.mem_of_getElem? (i := 616) (by decide +kernel), List.mem_of_getElem? (i := 617) (by decide +kernel)⟩
theorem lw_p6 : lw_okq (⟨"MountYard$Talk", "attach", "()C"⟩, 6) := ⟨⟨by decide +kernel, by decide +kernel⟩, List.mem_of_getElem? (i := 118) (by decide +kernel), List.mem_of_getElem? (i := 690) (by decide +kernel), List.mem_of_getElem? (i := 691) (by decide +kernel)⟩
theorem lw_p7 : lw_okq (⟨"MountYard$Talk", "walk", "(LMountYard$Handle;)C"⟩, 6) := ⟨⟨by decide +kernel, by decide +kernel⟩, List.mem_of_getElem? (i := 118) (by decide +kernel), List.mem_of_getElem? (i := 730) (by decide +kernel), List.mem_of_getElem? (i := 731) (by decide +kernel)⟩
theorem lw_p8 : lw_okq (⟨"MountYard$Talk", "walkSteps", "(LMountYard$Handle;I)C"⟩, 6) := ⟨⟨by decide +kernel, by decide +kernel⟩, List.mem_of_getElem? (i := 118) (by decide +kernel), List.mem_of_getElem? (i := 738) (by decide +kernel), List.mem_of_getElem? (i := 739) (by decide +kernel)⟩
theorem lw_p9 : lw_okq (⟨"MountYard$Talk", "stepFault", "(II)C"⟩, 6) := ⟨⟨by decide +kernel, by decide +kernel⟩, List.mem_of_getElem? (i := 118) (by decide +kernel), List.mem_of_getElem? (i := 750) (by decide +kernel), List.mem_of_getElem? (i := 751) (by decide +kernel)⟩
theorem lw_p10 : lw_okq (⟨"MountYard$Talk", "stepFrom", "(II)I"⟩, 6) := ⟨⟨by decide +kernel, by decide +kernel⟩, List.mem_of_getElem? (i := 118) (by decide +kernel), List.mem_of_getElem? (i := 766) (by decide +kernel), List.mem_of_getElem? (i := 767) (by decide +kernel)⟩
theorem lw_p11 : lw_okq (⟨"MountYard$Talk", "open", "(LMountYard$Handle;)C"⟩, 6) := ⟨⟨by decide +kernel, by decide +kernel⟩, List.mem_of_getElem? (i := 118) (by decide +kernel), List.mem_of_getElem? (i := 776) (by decide +kernel), List.mem_of_getElem? (i := 777) (by decide +kernel)⟩
theorem lw_p12 : lw_okq (⟨"MountYard$Talk", "putOpened", "(LMountYard$Node;)V"⟩, 6) := ⟨⟨by decide +kernel, by decide +kernel⟩, List.mem_of_getElem? (i := 118) (by decide +kernel), List.mem_of_getElem? (i := 799) (by decide +kernel), List.mem_of_getElem? (i := 800) (by decide +kernel)⟩
theorem lw_p13 : lw_okq (⟨"MountYard$Talk", "create", "(LMountYard$Handle;)C"⟩, 6) := ⟨⟨by decide +kernel, by decide +kernel⟩, List.mem_of_getElem? (i := 118) (by decide +kernel), List.mem_of_getElem? (i := 803) (by decide +kernel), List.mem_of_getElem? (i := 804) (by decide +kernel)⟩
theorem lw_p14 : lw_okq (⟨"MountYard$Talk", "createFault", "(LMountYard$Handle;IZ)C"⟩, 6) := ⟨⟨by decide +kernel, by decide +kernel⟩, List.mem_of_getElem? (i := 118) (by decide +kernel), List.mem_of_getElem? (i := 808) (by decide +kernel), List.mem_of_getElem? (i := 809) (by decide +kernel)⟩
theorem lw_p15 : lw_okq (⟨"MountYard$Talk", "read", "(LMountYard$Handle;)C"⟩, 6) := ⟨⟨by decide +kernel, by decide +kernel⟩, List.mem_of_getElem? (i := 118) (by decide +kernel), List.mem_of_getElem? (i := 825) (by decide +kernel), List.mem_of_getElem? (i := 826) (by decide +kernel)⟩
def lw_privs_1 : List (MethodName × Nat) := [(⟨"MountYard$Processes", "isUsedByOthers", "(II)Z"⟩, 6), (⟨"MountYard$Processes", "table", "(I)LMountYard$Table;"⟩, 6), (⟨"java/lang/Throwable", "fillInStackTrace", "(I)Ljava/lang/Throwable;"⟩, 6), (⟨"MountYard$Frame", "endsBehindStrings", "(III)Z"⟩, 1), (⟨"MountYard$Frame", "stringBytes", "(I)I"⟩, 1), (⟨"MountYard$Talk", "begin", "()C"⟩, 6), (⟨"MountYard$Talk", "attach", "()C"⟩, 6), (⟨"MountYard$Talk", "walk", "(LMountYard$Handle;)C"⟩, 6), (⟨"MountYard$Talk", "walkSteps", "(LMountYard$Handle;I)C"⟩, 6), (⟨"MountYard$Talk", "stepFault", "(II)C"⟩, 6), (⟨"MountYard$Talk", "stepFrom", "(II)I"⟩, 6), (⟨"MountYard$Talk", "open", "(LMountYard$Handle;)C"⟩, 6), (⟨"MountYard$Talk", "putOpened", "(LMountYard$Node;)V"⟩, 6), (⟨"MountYard$Talk", "create", "(LMountYard$Handle;)C"⟩, 6), (⟨"MountYard$Talk", "createFault", "(LMountYard$Handle;IZ)C"⟩, 6), (⟨"MountYard$Talk", "read", "(LMountYard$Handle;)C"⟩, 6)]
theorem lw_r1 : ∀ q ∈ lw_privs_1, lw_okq q := List.forall_mem_cons.mpr ⟨lw_p0, List.forall_mem_cons.mpr ⟨lw_p1, List.forall_mem_cons.mpr ⟨lw_p2, List.forall_mem_cons.mpr ⟨lw_p3, List.forall_mem_cons.mpr ⟨lw_p4, List.forall_mem_cons.mpr ⟨lw_p5, List.forall_mem_cons.mpr ⟨lw_p6, List.forall_mem_cons.mpr ⟨lw_p7, List.forall_mem_cons.mpr ⟨lw_p8, List.forall_mem_cons.mpr ⟨lw_p9, List.forall_mem_cons.mpr ⟨lw_p10, List.forall_mem_cons.mpr ⟨lw_p11, List.forall_mem_cons.mpr ⟨lw_p12, List.forall_mem_cons.mpr ⟨lw_p13, List.forall_mem_cons.mpr ⟨lw_p14, List.forall_mem_cons.mpr ⟨lw_p15, fun _ h => absurd h List.not_mem_nil⟩⟩⟩⟩⟩⟩⟩⟩⟩⟩⟩⟩⟩⟩⟩⟩
theorem lw_p16 : lw_okq (⟨"MountYard$Talk", "readDirectory", "(LMountYard$Handle;JI)C"⟩, 6) := ⟨⟨by decide +kernel, by decide +kernel⟩, List.mem_of_getElem? (i := 118) (by decide +kernel), List.mem_of_getElem? (i := 829) (by decide +kernel), List.mem_of_getElem? (i := 830) (by decide +kernel)⟩
theorem lw_p17 : lw_okq (⟨"MountYard$Talk", "readPlain", "(LMountYard$Node;JI)C"⟩, 6) := ⟨⟨by decide +kernel, by decide +kernel⟩, List.mem_of_getElem? (i := 118) (by decide +kernel), List.mem_of_getElem? (i := 852) (by decide +kernel), List.mem_of_getElem? (i := 853) (by decide +kernel)⟩
theorem lw_p18 : lw_okq (⟨"MountYard$Talk", "write", "(LMountYard$Handle;)C"⟩, 6) := ⟨⟨by decide +kernel, by decide +kernel⟩, List.mem_of_getElem? (i := 118) (by decide +kernel), List.mem_of_getElem? (i := 864) (by decide +kernel), List.mem_of_getElem? (i := 865) (by decide +kernel)⟩
theorem lw_p19 : lw_okq (⟨"MountYard$Talk", "remove", "(LMountYard$Handle;)C"⟩, 6) := ⟨⟨by decide +kernel, by decide +kernel⟩, List.mem_of_getElem? (i := 118) (by decide +kernel), List.mem_of_getElem? (i := 878) (by decide +kernel), List.mem_of_getElem? (i := 879) (by decide +kernel)⟩
theorem lw_p20 : lw_okq (⟨"MountYard$Talk", "stat", "(LMountYard$Handle;)C"⟩, 6) := ⟨⟨by decide +kernel, by decide +kernel⟩, List.mem_of_getElem? (i := 118) (by decide +kernel), List.mem_of_getElem? (i := 890) (by decide +kernel), List.mem_of_getElem? (i := 891) (by decide +kernel)⟩
theorem lw_p21 : lw_okq (⟨"MountYard$Route", "takePiece", "(LMountYard$ByteRow;II)V"⟩, 5) := ⟨⟨by decide +kernel, by decide +kernel⟩, List.mem_of_getElem? (i := 241) (by decide +kernel), List.mem_of_getElem? (i := 968) (by decide +kernel), List.mem_of_getElem? (i := 969) (by decide +kernel)⟩
theorem lw_p22 : lw_okq (⟨"MountYard$Route", "arriveAt", "(ILMountYard$Tree;LMountYard$Table;)V"⟩, 5) := ⟨⟨by decide +kernel, by decide +kernel⟩, List.mem_of_getElem? (i := 241) (by decide +kernel), List.mem_of_getElem? (i := 980) (by decide +kernel), List.mem_of_getElem? (i := 981) (by decide +kernel)⟩
theorem lw_p23 : lw_okq (⟨"MountYard$Route", "childInList", "(ILMountYard$Tree;)I"⟩, 5) := ⟨⟨by decide +kernel, by decide +kernel⟩, List.mem_of_getElem? (i := 241) (by decide +kernel), List.mem_of_getElem? (i := 999) (by decide +kernel), List.mem_of_getElem? (i := 1000) (by decide +kernel)⟩
theorem lw_p24 : lw_okq (⟨"MountYardModel", "fail", "(I)I"⟩, 40) := ⟨⟨by decide +kernel, by decide +kernel⟩, List.mem_of_getElem? (i := 1107) (by decide +kernel), List.mem_of_getElem? (i := 1249) (by decide +kernel), List.mem_of_getElem? (i := 1250) (by decide +kernel)⟩
theorem lw_p25 : lw_okq (⟨"MountYardModel", "get", "(II)J"⟩, 40) := ⟨⟨by decide +kernel, by decide +kernel⟩, List.mem_of_getElem? (i := 1107) (by decide +kernel), List.mem_of_getElem? (i := 1253) (by decide +kernel), List.mem_of_getElem? (i := 1254) (by decide +kernel)⟩
theorem lw_p26 : lw_okq (⟨"MountYardModel", "answer", "()I"⟩, 40) := ⟨⟨by decide +kernel, by decide +kernel⟩, List.mem_of_getElem? (i := 1107) (by decide +kernel), List.mem_of_getElem? (i := 1258) (by decide +kernel), List.mem_of_getElem? (i := 1259) (by decide +kernel)⟩
theorem lw_p27 : lw_okq (⟨"MountYardModel", "isBody", "()Z"⟩, 40) := ⟨⟨by decide +kernel, by decide +kernel⟩, List.mem_of_getElem? (i := 1107) (by decide +kernel), List.mem_of_getElem? (i := 1262) (by decide +kernel), List.mem_of_getElem? (i := 1263) (by decide +kernel)⟩
theorem lw_p28 : lw_okq (⟨"MountYardModel", "behind", "(I)I"⟩, 40) := ⟨⟨by decide +kernel, by decide +kernel⟩, List.mem_of_getElem? (i := 1107) (by decide +kernel), List.mem_of_getElem? (i := 1266) (by decide +kernel), List.mem_of_getElem? (i := 1267) (by decide +kernel)⟩
theorem lw_p29 : lw_okq (⟨"MountYardModel", "behindStrings", "(II)I"⟩, 40) := ⟨⟨by decide +kernel, by decide +kernel⟩, List.mem_of_getElem? (i := 1107) (by decide +kernel), List.mem_of_getElem? (i := 1271) (by decide +kernel), List.mem_of_getElem? (i := 1272) (by decide +kernel)⟩
theorem lw_p30 : lw_okq (⟨"MountYardModel", "begin", "()I"⟩, 40) := ⟨⟨by decide +kernel, by decide +kernel⟩, List.mem_of_getElem? (i := 1107) (by decide +kernel), List.mem_of_getElem? (i := 1276) (by decide +kernel), List.mem_of_getElem? (i := 1277) (by decide +kernel)⟩
theorem lw_p31 : lw_okq (⟨"MountYardModel", "reply", "(I)V"⟩, 40) := ⟨⟨by decide +kernel, by decide +kernel⟩, List.mem_of_getElem? (i := 1107) (by decide +kernel), List.mem_of_getElem? (i := 1283) (by decide +kernel), List.mem_of_getElem? (i := 1284) (by decide +kernel)⟩
def lw_privs_2 : List (MethodName × Nat) := [(⟨"MountYard$Talk", "readDirectory", "(LMountYard$Handle;JI)C"⟩, 6), (⟨"MountYard$Talk", "readPlain", "(LMountYard$Node;JI)C"⟩, 6), (⟨"MountYard$Talk", "write", "(LMountYard$Handle;)C"⟩, 6), (⟨"MountYard$Talk", "remove", "(LMountYard$Handle;)C"⟩, 6), (⟨"MountYard$Talk", "stat", "(LMountYard$Handle;)C"⟩, 6), (⟨"MountYard$Route", "takePiece", "(LMountYard$ByteRow;II)V"⟩, 5), (⟨"MountYard$Route", "arriveAt", "(ILMountYard$Tree;LMountYard$Table;)V"⟩, 5), (⟨"MountYard$Route", "childInList", "(ILMountYard$Tree;)I"⟩, 5), (⟨"MountYardModel", "fail", "(I)I"⟩, 40), (⟨"MountYardModel", "get", "(II)J"⟩, 40), (⟨"MountYardModel", "answer", "()I"⟩, 40), (⟨"MountYardModel", "isBody", "()Z"⟩, 40), (⟨"MountYardModel", "behind", "(I)I"⟩, 40), (⟨"MountYardModel", "behindStrings", "(II)I"⟩, 40), (⟨"MountYardModel", "begin", "()I"⟩, 40), (⟨"MountYardModel", "reply", "(I)V"⟩, 40)]
theorem lw_r2 : ∀ q ∈ lw_privs_2, lw_okq q := List.forall_mem_cons.mpr ⟨lw_p16, List.forall_mem_cons.mpr ⟨lw_p17, List.forall_mem_cons.mpr ⟨lw_p18, List.forall_mem_cons.mpr ⟨lw_p19, List.forall_mem_cons.mpr ⟨lw_p20, List.forall_mem_cons.mpr ⟨lw_p21, List.forall_mem_cons.mpr ⟨lw_p22, List.forall_mem_cons.mpr ⟨lw_p23, List.forall_mem_cons.mpr ⟨lw_p24, List.forall_mem_cons.mpr ⟨lw_p25, List.forall_mem_cons.mpr ⟨lw_p26, List.forall_mem_cons.mpr ⟨lw_p27, List.forall_mem_cons.mpr ⟨lw_p28, List.forall_mem_cons.mpr ⟨lw_p29, List.forall_mem_cons.mpr ⟨lw_p30, List.forall_mem_cons.mpr ⟨lw_p31, fun _ h => absurd h List.not_mem_nil⟩⟩⟩⟩⟩⟩⟩⟩⟩⟩⟩⟩⟩⟩⟩⟩
theorem lw_p32 : lw_okq (⟨"MountYardModel", "put", "(JI)V"⟩, 40) := ⟨⟨by decide +kernel, by decide +kernel⟩, List.mem_of_getElem? (i := 1107) (by decide +kernel), List.mem_of_getElem? (i := 1287) (by decide +kernel), List.mem_of_getElem? (i := 1288) (by decide +kernel)⟩
theorem lw_p33 : lw_okq (⟨"MountYardModel", "attach", "()I"⟩, 40) := ⟨⟨by decide +kernel, by decide +kernel⟩, List.mem_of_getElem? (i := 1107) (by decide +kernel), List.mem_of_getElem? (i := 1293) (by decide +kernel), List.mem_of_getElem? (i := 1294) (by decide +kernel)⟩
theorem lw_p34 : lw_okq (⟨"MountYardModel", "handleAt", "(I)I"⟩, 40) := ⟨⟨by decide +kernel, by decide +kernel⟩, List.mem_of_getElem? (i := 1107) (by decide +kernel), List.mem_of_getElem? (i := 1298) (by decide +kernel), List.mem_of_getElem? (i := 1299) (by decide +kernel)⟩
theorem lw_p35 : lw_okq (⟨"MountYardModel", "newHandle", "(II)V"⟩, 40) := ⟨⟨by decide +kernel, by decide +kernel⟩, List.mem_of_getElem? (i := 1107) (by decide +kernel), List.mem_of_getElem? (i := 1302) (by decide +kernel), List.mem_of_getElem? (i := 1303) (by decide +kernel)⟩
theorem lw_p36 : lw_okq (⟨"MountYardModel", "stand", "(II)V"⟩, 40) := ⟨⟨by decide +kernel, by decide +kernel⟩, List.mem_of_getElem? (i := 1107) (by decide +kernel), List.mem_of_getElem? (i := 1306) (by decide +kernel), List.mem_of_getElem? (i := 1307) (by decide +kernel)⟩
theorem lw_p37 : lw_okq (⟨"MountYardModel", "putQid", "(I)V"⟩, 40) := ⟨⟨by decide +kernel, by decide +kernel⟩, List.mem_of_getElem? (i := 1107) (by decide +kernel), List.mem_of_getElem? (i := 1310) (by decide +kernel), List.mem_of_getElem? (i := 1311) (by decide +kernel)⟩
theorem lw_p38 : lw_okq (⟨"MountYardModel", "flush", "()I"⟩, 40) := ⟨⟨by decide +kernel, by decide +kernel⟩, List.mem_of_getElem? (i := 1107) (by decide +kernel), List.mem_of_getElem? (i := 1315) (by decide +kernel), List.mem_of_getElem? (i := 1316) (by decide +kernel)⟩
theorem lw_p39 : lw_okq (⟨"MountYardModel", "walk", "()I"⟩, 40) := ⟨⟨by decide +kernel, by decide +kernel⟩, List.mem_of_getElem? (i := 1107) (by decide +kernel), List.mem_of_getElem? (i := 1319) (by decide +kernel), List.mem_of_getElem? (i := 1320) (by decide +kernel)⟩
theorem lw_p40 : lw_okq (⟨"MountYardModel", "wrongStep", "(II)I"⟩, 40) := ⟨⟨by decide +kernel, by decide +kernel⟩, List.mem_of_getElem? (i := 1107) (by decide +kernel), List.mem_of_getElem? (i := 1323) (by decide +kernel), List.mem_of_getElem? (i := 1324) (by decide +kernel)⟩
theorem lw_p41 : lw_okq (⟨"MountYardModel", "isUp", "(I)Z"⟩, 40) := ⟨⟨by decide +kernel, by decide +kernel⟩, List.mem_of_getElem? (i := 1107) (by decide +kernel), List.mem_of_getElem? (i := 1327) (by decide +kernel), List.mem_of_getElem? (i := 1328) (by decide +kernel)⟩
theorem lw_p42 : lw_okq (⟨"MountYardModel", "childOf", "(IZII)I"⟩, 40) := ⟨⟨by decide +kernel, by decide +kernel⟩, List.mem_of_getElem? (i := 1107) (by decide +kernel), List.mem_of_getElem? (i := 1332) (by decide +kernel), List.mem_of_getElem? (i := 1333) (by decide +kernel)⟩
theorem lw_p43 : lw_okq (⟨"MountYardModel", "isChild", "(II)Z"⟩, 40) := ⟨⟨by decide +kernel, by decide +kernel⟩, List.mem_of_getElem? (i := 1107) (by decide +kernel), List.mem_of_getElem? (i := 1336) (by decide +kernel), List.mem_of_getElem? (i := 1337) (by decide +kernel)⟩
theorem lw_p44 : lw_okq (⟨"MountYardModel", "isNamed", "(IZII)Z"⟩, 40) := ⟨⟨by decide +kernel, by decide +kernel⟩, List.mem_of_getElem? (i := 1107) (by decide +kernel), List.mem_of_getElem? (i := 1340) (by decide +kernel), List.mem_of_getElem? (i := 1341) (by decide +kernel)⟩
theorem lw_p45 : lw_okq (⟨"MountYardModel", "stepFrom", "(II)I"⟩, 40) := ⟨⟨by decide +kernel, by decide +kernel⟩, List.mem_of_getElem? (i := 1107) (by decide +kernel), List.mem_of_getElem? (i := 1344) (by decide +kernel), List.mem_of_getElem? (i := 1345) (by decide +kernel)⟩
theorem lw_p46 : lw_okq (⟨"MountYardModel", "open", "()I"⟩, 40) := ⟨⟨by decide +kernel, by decide +kernel⟩, List.mem_of_getElem? (i := 1107) (by decide +kernel), List.mem_of_getElem? (i := 1348) (by decide +kernel), List.mem_of_getElem? (i := 1349) (by decide +kernel)⟩
theorem lw_p47 : lw_okq (⟨"MountYardModel", "putOpened", "(I)V"⟩, 40) := ⟨⟨by decide +kernel, by decide +kernel⟩, List.mem_of_getElem? (i := 1107) (by decide +kernel), List.mem_of_getElem? (i := 1358) (by decide +kernel), List.mem_of_getElem? (i := 1359) (by decide +kernel)⟩
def lw_privs_3 : List (MethodName × Nat) := [(⟨"MountYardModel", "put", "(JI)V"⟩, 40), (⟨"MountYardModel", "attach", "()I"⟩, 40), (⟨"MountYardModel", "handleAt", "(I)I"⟩, 40), (⟨"MountYardModel", "newHandle", "(II)V"⟩, 40), (⟨"MountYardModel", "stand", "(II)V"⟩, 40), (⟨"MountYardModel", "putQid", "(I)V"⟩, 40), (⟨"MountYardModel", "flush", "()I"⟩, 40), (⟨"MountYardModel", "walk", "()I"⟩, 40), (⟨"MountYardModel", "wrongStep", "(II)I"⟩, 40), (⟨"MountYardModel", "isUp", "(I)Z"⟩, 40), (⟨"MountYardModel", "childOf", "(IZII)I"⟩, 40), (⟨"MountYardModel", "isChild", "(II)Z"⟩, 40), (⟨"MountYardModel", "isNamed", "(IZII)Z"⟩, 40), (⟨"MountYardModel", "stepFrom", "(II)I"⟩, 40), (⟨"MountYardModel", "open", "()I"⟩, 40), (⟨"MountYardModel", "putOpened", "(I)V"⟩, 40)]
theorem lw_r3 : ∀ q ∈ lw_privs_3, lw_okq q := List.forall_mem_cons.mpr ⟨lw_p32, List.forall_mem_cons.mpr ⟨lw_p33, List.forall_mem_cons.mpr ⟨lw_p34, List.forall_mem_cons.mpr ⟨lw_p35, List.forall_mem_cons.mpr ⟨lw_p36, List.forall_mem_cons.mpr ⟨lw_p37, List.forall_mem_cons.mpr ⟨lw_p38, List.forall_mem_cons.mpr ⟨lw_p39, List.forall_mem_cons.mpr ⟨lw_p40, List.forall_mem_cons.mpr ⟨lw_p41, List.forall_mem_cons.mpr ⟨lw_p42, List.forall_mem_cons.mpr ⟨lw_p43, List.forall_mem_cons.mpr ⟨lw_p44, List.forall_mem_cons.mpr ⟨lw_p45, List.forall_mem_cons.mpr ⟨lw_p46, List.forall_mem_cons.mpr ⟨lw_p47, fun _ h => absurd h List.not_mem_nil⟩⟩⟩⟩⟩⟩⟩⟩⟩⟩⟩⟩⟩⟩⟩⟩
theorem lw_p48 : lw_okq (⟨"MountYardModel", "create", "()I"⟩, 40) := ⟨⟨by decide +kernel, by decide +kernel⟩, List.mem_of_getElem? (i := 1107) (by decide +kernel), List.mem_of_getElem? (i := 1362) (by decide +kernel), List.mem_of_getElem? (i := 1363) (by decide +kernel)⟩
theorem lw_p49 : lw_okq (⟨"MountYardModel", "isName", "(II)Z"⟩, 40) := ⟨⟨by decide +kernel, by decide +kernel⟩, List.mem_of_getElem? (i := 1107) (by decide +kernel), List.mem_of_getElem? (i := 1366) (by decide +kernel), List.mem_of_getElem? (i := 1367) (by decide +kernel)⟩
theorem lw_p50 : lw_okq (⟨"MountYardModel", "read", "()I"⟩, 40) := ⟨⟨by decide +kernel, by decide +kernel⟩, List.mem_of_getElem? (i := 1107) (by decide +kernel), List.mem_of_getElem? (i := 1370) (by decide +kernel), List.mem_of_getElem? (i := 1371) (by decide +kernel)⟩
theorem lw_p51 : lw_okq (⟨"MountYardModel", "putStats", "(II)V"⟩, 40) := ⟨⟨by decide +kernel, by decide +kernel⟩, List.mem_of_getElem? (i := 1107) (by decide +kernel), List.mem_of_getElem? (i := 1374) (by decide +kernel), List.mem_of_getElem? (i := 1375) (by decide +kernel)⟩
theorem lw_p52 : lw_okq (⟨"MountYardModel", "putStat", "(I)V"⟩, 40) := ⟨⟨by decide +kernel, by decide +kernel⟩, List.mem_of_getElem? (i := 1107) (by decide +kernel), List.mem_of_getElem? (i := 1378) (by decide +kernel), List.mem_of_getElem? (i := 1379) (by decide +kernel)⟩
theorem lw_p53 : lw_okq (⟨"MountYardModel", "write", "()I"⟩, 40) := ⟨⟨by decide +kernel, by decide +kernel⟩, List.mem_of_getElem? (i := 1107) (by decide +kernel), List.mem_of_getElem? (i := 1384) (by decide +kernel), List.mem_of_getElem? (i := 1385) (by decide +kernel)⟩
theorem lw_p54 : lw_okq (⟨"MountYardModel", "close", "()I"⟩, 40) := ⟨⟨by decide +kernel, by decide +kernel⟩, List.mem_of_getElem? (i := 1107) (by decide +kernel), List.mem_of_getElem? (i := 1389) (by decide +kernel), List.mem_of_getElem? (i := 1390) (by decide +kernel)⟩
theorem lw_p55 : lw_okq (⟨"MountYardModel", "forget", "(I)V"⟩, 40) := ⟨⟨by decide +kernel, by decide +kernel⟩, List.mem_of_getElem? (i := 1107) (by decide +kernel), List.mem_of_getElem? (i := 1393) (by decide +kernel), List.mem_of_getElem? (i := 1394) (by decide +kernel)⟩
theorem lw_p56 : lw_okq (⟨"MountYardModel", "remove", "()I"⟩, 40) := ⟨⟨by decide +kernel, by decide +kernel⟩, List.mem_of_getElem? (i := 1107) (by decide +kernel), List.mem_of_getElem? (i := 1397) (by decide +kernel), List.mem_of_getElem? (i := 1398) (by decide +kernel)⟩
theorem lw_p57 : lw_okq (⟨"MountYardModel", "hasChildren", "(I)Z"⟩, 40) := ⟨⟨by decide +kernel, by decide +kernel⟩, List.mem_of_getElem? (i := 1107) (by decide +kernel), List.mem_of_getElem? (i := 1401) (by decide +kernel), List.mem_of_getElem? (i := 1402) (by decide +kernel)⟩
theorem lw_p58 : lw_okq (⟨"MountYardModel", "stat", "()I"⟩, 40) := ⟨⟨by decide +kernel, by decide +kernel⟩, List.mem_of_getElem? (i := 1107) (by decide +kernel), List.mem_of_getElem? (i := 1405) (by decide +kernel), List.mem_of_getElem? (i := 1406) (by decide +kernel)⟩
theorem lw_p59 : lw_okq (⟨"MountYardModel", "finish", "()V"⟩, 40) := ⟨⟨by decide +kernel, by decide +kernel⟩, List.mem_of_getElem? (i := 1107) (by decide +kernel), List.mem_of_getElem? (i := 1409) (by decide +kernel), List.mem_of_getElem? (i := 1410) (by decide +kernel)⟩
theorem lw_p60 : lw_okq (⟨"MountYardModel", "leave", "(I)V"⟩, 40) := ⟨⟨by decide +kernel, by decide +kernel⟩, List.mem_of_getElem? (i := 1107) (by decide +kernel), List.mem_of_getElem? (i := 1413) (by decide +kernel), List.mem_of_getElem? (i := 1414) (by decide +kernel)⟩
theorem lw_p61 : lw_okq (⟨"MountYardModel", "find", "(IZ)Z"⟩, 40) := ⟨⟨by decide +kernel, by decide +kernel⟩, List.mem_of_getElem? (i := 1107) (by decide +kernel), List.mem_of_getElem? (i := 1463) (by decide +kernel), List.mem_of_getElem? (i := 1464) (by decide +kernel)⟩
theorem lw_p62 : lw_okq (⟨"MountYardModel", "space", "()I"⟩, 40) := ⟨⟨by decide +kernel, by decide +kernel⟩, List.mem_of_getElem? (i := 1107) (by decide +kernel), List.mem_of_getElem? (i := 1467) (by decide +kernel), List.mem_of_getElem? (i := 1468) (by decide +kernel)⟩
theorem lw_p63 : lw_okq (⟨"MountYardModel", "cut", "(II)V"⟩, 40) := ⟨⟨by decide +kernel, by decide +kernel⟩, List.mem_of_getElem? (i := 1107) (by decide +kernel), List.mem_of_getElem? (i := 1471) (by decide +kernel), List.mem_of_getElem? (i := 1472) (by decide +kernel)⟩
def lw_privs_4 : List (MethodName × Nat) := [(⟨"MountYardModel", "create", "()I"⟩, 40), (⟨"MountYardModel", "isName", "(II)Z"⟩, 40), (⟨"MountYardModel", "read", "()I"⟩, 40), (⟨"MountYardModel", "putStats", "(II)V"⟩, 40), (⟨"MountYardModel", "putStat", "(I)V"⟩, 40), (⟨"MountYardModel", "write", "()I"⟩, 40), (⟨"MountYardModel", "close", "()I"⟩, 40), (⟨"MountYardModel", "forget", "(I)V"⟩, 40), (⟨"MountYardModel", "remove", "()I"⟩, 40), (⟨"MountYardModel", "hasChildren", "(I)Z"⟩, 40), (⟨"MountYardModel", "stat", "()I"⟩, 40), (⟨"MountYardModel", "finish", "()V"⟩, 40), (⟨"MountYardModel", "leave", "(I)V"⟩, 40), (⟨"MountYardModel", "find", "(IZ)Z"⟩, 40), (⟨"MountYardModel", "space", "()I"⟩, 40), (⟨"MountYardModel", "cut", "(II)V"⟩, 40)]
theorem lw_r4 : ∀ q ∈ lw_privs_4, lw_okq q := List.forall_mem_cons.mpr ⟨lw_p48, List.forall_mem_cons.mpr ⟨lw_p49, List.forall_mem_cons.mpr ⟨lw_p50, List.forall_mem_cons.mpr ⟨lw_p51, List.forall_mem_cons.mpr ⟨lw_p52, List.forall_mem_cons.mpr ⟨lw_p53, List.forall_mem_cons.mpr ⟨lw_p54, List.forall_mem_cons.mpr ⟨lw_p55, List.forall_mem_cons.mpr ⟨lw_p56, List.forall_mem_cons.mpr ⟨lw_p57, List.forall_mem_cons.mpr ⟨lw_p58, List.forall_mem_cons.mpr ⟨lw_p59, List.forall_mem_cons.mpr ⟨lw_p60, List.forall_mem_cons.mpr ⟨lw_p61, List.forall_mem_cons.mpr ⟨lw_p62, List.forall_mem_cons.mpr ⟨lw_p63, fun _ h => absurd h List.not_mem_nil⟩⟩⟩⟩⟩⟩⟩⟩⟩⟩⟩⟩⟩⟩⟩⟩
theorem lw_p64 : lw_okq (⟨"MountYardModel", "unite", "(II)V"⟩, 40) := ⟨⟨by decide +kernel, by decide +kernel⟩, List.mem_of_getElem? (i := 1107) (by decide +kernel), List.mem_of_getElem? (i := 1475) (by decide +kernel), List.mem_of_getElem? (i := 1476) (by decide +kernel)⟩
theorem lw_p65 : lw_okq (⟨"MountYardModel", "keyOf", "(II)I"⟩, 40) := ⟨⟨by decide +kernel, by decide +kernel⟩, List.mem_of_getElem? (i := 1107) (by decide +kernel), List.mem_of_getElem? (i := 1479) (by decide +kernel), List.mem_of_getElem? (i := 1480) (by decide +kernel)⟩
theorem lw_p66 : lw_okq (⟨"MountYardModel", "keep", "(I)V"⟩, 40) := ⟨⟨by decide +kernel, by decide +kernel⟩, List.mem_of_getElem? (i := 1107) (by decide +kernel), List.mem_of_getElem? (i := 1491) (by decide +kernel), List.mem_of_getElem? (i := 1492) (by decide +kernel)⟩
theorem lw_p67 : lw_okq (⟨"MountYardModel", "areAll", "(ZII)Z"⟩, 40) := ⟨⟨by decide +kernel, by decide +kernel⟩, List.mem_of_getElem? (i := 1107) (by decide +kernel), List.mem_of_getElem? (i := 1495) (by decide +kernel), List.mem_of_getElem? (i := 1496) (by decide +kernel)⟩
theorem lw_p68 : lw_okq (⟨"MountYardModel", "copyKey", "(IIII)V"⟩, 40) := ⟨⟨by decide +kernel, by decide +kernel⟩, List.mem_of_getElem? (i := 1107) (by decide +kernel), List.mem_of_getElem? (i := 1503) (by decide +kernel), List.mem_of_getElem? (i := 1504) (by decide +kernel)⟩
theorem lw_p69 : lw_okq (⟨"MountYardModel", "isUsed", "(II)Z"⟩, 40) := ⟨⟨by decide +kernel, by decide +kernel⟩, List.mem_of_getElem? (i := 1107) (by decide +kernel), List.mem_of_getElem? (i := 1511) (by decide +kernel), List.mem_of_getElem? (i := 1512) (by decide +kernel)⟩
def lw_privs_5 : List (MethodName × Nat) := [(⟨"MountYardModel", "unite", "(II)V"⟩, 40), (⟨"MountYardModel", "keyOf", "(II)I"⟩, 40), (⟨"MountYardModel", "keep", "(I)V"⟩, 40), (⟨"MountYardModel", "areAll", "(ZII)Z"⟩, 40), (⟨"MountYardModel", "copyKey", "(IIII)V"⟩, 40), (⟨"MountYardModel", "isUsed", "(II)Z"⟩, 40)]
theorem lw_r5 : ∀ q ∈ lw_privs_5, lw_okq q := List.forall_mem_cons.mpr ⟨lw_p64, List.forall_mem_cons.mpr ⟨lw_p65, List.forall_mem_cons.mpr ⟨lw_p66, List.forall_mem_cons.mpr ⟨lw_p67, List.forall_mem_cons.mpr ⟨lw_p68, List.forall_mem_cons.mpr ⟨lw_p69, fun _ h => absurd h List.not_mem_nil⟩⟩⟩⟩⟩⟩
def lw_privs : List (MethodName × Nat) := lw_privs_1 ++ (lw_privs_2 ++ (lw_privs_3 ++ (lw_privs_4 ++ (lw_privs_5))))
def lw_tbl : List Cond := k2_sels lw_privs ++ tables_1
theorem lw_privs_ok : ∀ q ∈ lw_privs, lw_okq q := by
  show ∀ q ∈ lw_privs_1 ++ (lw_privs_2 ++ (lw_privs_3 ++ (lw_privs_4 ++ (lw_privs_5)))), lw_okq q
  exact List.forall_mem_append.mpr ⟨lw_r1, List.forall_mem_append.mpr ⟨lw_r2, List.forall_mem_append.mpr ⟨lw_r3, List.forall_mem_append.mpr ⟨lw_r4, lw_r5⟩⟩⟩⟩
end
section
/-! ===== a method's own handlers, where the tables are not yet resolved ===== -/
section FHH
/-- the table takes an exception of the class k, thrown at pc, to the address h; said of the tables of s₀, where the links are not yet noted -/
def fh_ok (pl : Platform) (s₀ : State) (d : ClassId) (pc : Nat) (k : ClassId) (h : Nat) : List ExceptionTableEntry → Prop
  | [] => False
  | y :: ys => if covers y pc = true then y.catchType ≠ 0 ∧ ∃ c, s₀.vm.ClassLinks pl d y.catchType c ∧ (if s₀.vm.assignable k c = true then y.handlerPc = h else fh_ok pl s₀ d pc k h ys)
    else fh_ok pl s₀ d pc k h ys
/-- rows ahead that let it pass, then one that takes it -/
theorem fh_pre {pl : Platform} {s₀ : State} {d : ClassId} {pc : Nat} {k c : ClassId} {x : ExceptionTableEntry} {suf : List ExceptionTableEntry} (hx : covers x pc = true) (h0 : x.catchType ≠ 0) (hl : s₀.vm.ClassLinks pl d x.catchType c) (hc : s₀.vm.assignable k c = true) :
    ∀ pre : List ExceptionTableEntry, (∀ z ∈ pre, covers z pc = false ∨ (z.catchType ≠ 0 ∧ ∃ c, s₀.vm.ClassLinks pl d z.catchType c ∧ s₀.vm.assignable k c = false)) → fh_ok pl s₀ d pc k x.handlerPc (pre ++ x :: suf)
  | [], _ => by
    show fh_ok pl s₀ d pc k x.handlerPc (x :: suf)
    unfold fh_ok
    rw [if_pos hx]
    exact ⟨h0, c, hl, by rw [if_pos hc]⟩
  | z :: zs, hz => by
    have ih := fh_pre (suf := suf) hx h0 hl hc zs (fun y hy => hz y (.tail _ hy))
    show fh_ok pl s₀ d pc k x.handlerPc (z :: (zs ++ x :: suf))
    unfold fh_ok
    rcases hz z (.head _) with h | ⟨h1, c1, h2, h3⟩
    · rw [if_neg (by rw [h]; decide)]
      exact ih
    · split
      · exact ⟨h1, c1, h2, by rw [if_neg (by rw [h3]; decide)]; exact ih⟩
      · exact ih
/-- to look at a row's class notes it, and to look again changes nothing: so the search may as well begin with the row noted -/
theorem fh_note {Q : Handler → Pre} {E : CtlPost} {e : Env} {b : Bool} {acts : List Action} {S : State} {f : JFrame} {a : Addr} {y : ExceptionTableEntry} {ys : List ExceptionTableEntry} {c : ClassId} (hy : covers y f.pc = true) (h0 : y.catchType ≠ 0) (hl : S.vm.ClassLinks e.platform f.method.cls y.catchType c) :
    wp (findHandler.go f a (y :: ys)) Q E e b acts S ↔ wp (findHandler.go f a (y :: ys)) Q E e b acts (S.setVm (S.vm.noted f.method.cls y.catchType (.cls c))) := by
  obtain ⟨k, r1, r2⟩ := hl.ready
  obtain ⟨q1, q2⟩ := (resolveClass_links e.toSetting hl).op (op := VmOp.resolveClass f.method.cls y.catchType) rfl
  have hy2 : (decide (y.startPc ≤ f.pc) && decide (f.pc < y.endPc)) = true := hy
  simp [findHandler.go, hy2, h0, q1, q2, resolveClass_memo e r1 r2, VmOp.dirties, VmOp.acts]
  exact Iff.rfl
theorem fh_find {e : Env} {s₀ : State} {f : JFrame} {a : Addr} {ce : Cell} {h : Nat} (hv : ∀ k, ce.vm ≠ .statics k) (hk : ∃ k, s₀.vm.classes[ce.cls]? = some k) :
    ∀ (tb : List ExceptionTableEntry) (S : State), s₀.WarmedH S.vm → S.heap[a]? = some ce → fh_ok e.platform s₀ f.method.cls f.pc ce.cls h tb →
      ∃ vm', s₀.WarmedH vm' ∧ ∀ (Q : Handler → Pre) (E : CtlPost) (b : Bool) (acts : List Action), wp (findHandler.go f a tb) Q E e b acts S ↔ Q (.found h) b acts (S.setVm vm')
  | [], _, _, _, hn => hn.elim
  | y :: ys, S, hS, ha, hn => by
    unfold fh_ok at hn
    split at hn
    next hy =>
      obtain ⟨h0, c, hl, hn⟩ := hn
      have hN : s₀.WarmedH (S.vm.noted f.method.cls y.catchType (.cls c)) := by
        obtain ⟨_, _, _, _, w1, _, _, _, _, _, _, w2⟩ := hl.here
        exact hS.noted w1 w2 (State.rightAt_cls hl)
      have has : ∀ i, (∃ k, s₀.vm.classes[i]? = some k) → ∃ k, (S.setVm (S.vm.noted f.method.cls y.catchType (.cls c))).vm.classes[i]? = some k := fun i hi => by
        obtain ⟨k, hi⟩ := hi
        obtain ⟨k', hi', -⟩ := hN.alike.2.2 _ _ hi
        exact ⟨k', hi'⟩
      have hcl : ∃ k, s₀.vm.classes[c]? = some k := by
        obtain ⟨_, _, _, kc, _, _, _, _, _, w, _, _⟩ := hl.here
        exact ⟨kc, w⟩
      have row : ∀ (Q : Handler → Pre) (E : CtlPost) (b : Bool) (acts : List Action), wp (findHandler.go f a (y :: ys)) Q E e b acts S ↔
          if s₀.vm.assignable ce.cls c = true then Q (.found y.handlerPc) b acts (S.setVm (S.vm.noted f.method.cls y.catchType (.cls c))) else wp (findHandler.go f a ys) Q E e b acts (S.setVm (S.vm.noted f.method.cls y.catchType (.cls c))) := fun Q E b acts => by
        rw [fh_note hy h0 (hS.classLinks hl), Jvm.W.findHandler_go_class (s := S.setVm (S.vm.noted f.method.cls y.catchType (.cls c))) hy h0 (hS.classLinks hl).ready ha hv (has _ hk) (has _ hcl)]
        have hs : (S.setVm (S.vm.noted f.method.cls y.catchType (.cls c))).vm.assignable ce.cls c = s₀.vm.assignable ce.cls c := hN.alike.assignable ..
        rw [hs]
      split at hn
      next hc => exact ⟨_, hN, fun Q E b acts => by rw [row, if_pos hc, hn]⟩
      next hc =>
        obtain ⟨vm', w1, w2⟩ := fh_find hv hk ys (S.setVm (S.vm.noted f.method.cls y.catchType (.cls c))) hN ha hn
        exact ⟨vm', w1, fun Q E b acts => by rw [row, if_neg hc]; exact w2 Q E b acts⟩
    next hy =>
      obtain ⟨vm', w1, w2⟩ := fh_find hv hk ys S hS ha hn
      exact ⟨vm', w1, fun Q E b acts => (Jvm.W.findHandler_go_skip (Bool.eq_false_iff.mpr hy)).trans (w2 Q E b acts)⟩
/-- one step of the machine: from the note over g to the handler -/
theorem fh_step {tb : Tables} {e : Env} {s : State} {g : JFrame} {c : Code} {below : List Frame} {a : Addr} (h : At s g.method c below) {pc : Nat} {vm' : Vm}
    (hf : ∀ (Q : Handler → Pre) (E : CtlPost) (b : Bool) (acts : List Action), wp (findHandler g a) Q E e b acts ((s.setTop g).pushFrame (.throwing a)) ↔ Q (.found pc) b acts (((s.setTop g).pushFrame (.throwing a)).setVm vm')) :
    (stepThread tb e ((s.setTop g).pushFrame (.throwing a))).1 = (s.setVm vm').setTop { g with pc := pc, stack := [.ref a] } := by
  obtain ⟨g0, h0⟩ := Option.isSome_iff_exists.mp h.top
  obtain ⟨r, hr⟩ := State.topJava?_eq_some.mp h0
  have e1 : (s.setVm vm').setTop { g with pc := pc, stack := [.ref a] } = (s.setVm vm').setFrames (.java { g with pc := pc, stack := [.ref a] } :: r) := State.setTop_of_frames _ hr
  have e2 : (s.setTop g).pushFrame (.throwing a) = s.setFrames (.throwing a :: (s.setFrames (.java g :: r)).frames) := by
    rw [State.setTop_of_frames g hr, State.pushFrame, State.setFrames_setFrames]
  rw [e1, stepThread_throwing (frames_entered h.top _), hr, List.tail_cons]
  show (searchFrame e ((s.setTop g).pushFrame (.throwing a)) [] a g g r).1 = _
  unfold searchFrame vmDo
  generalize hg : Sem.go _ e false [] ((s.setTop g).pushFrame (.throwing a)) = z
  obtain ⟨_, rfl, -⟩ := Sem.eq_ok_of hg (a := Handler.found pc) (s' := ((s.setTop g).pushFrame (.throwing a)).setVm vm') (acts' := []) (by simp [hf])
  rw [e2]
  exact State.setFrames_setFrames (s.setVm vm') _ _
/-- caught in the method itself -/
theorem fh_caught {p : Program} {l : Launch} {e : Env} {R : Room} {s : State} {m : MethodId} {args : Array Value} {below : List Frame} {meth : Method} {c : Code} {T : State} {locs : List Loc} {cells slots : Nat}
    (X : Stand p l e R s m args below meth c T locs cells slots) (a : Addr) {g : JFrame} (hg : g.method = m) {ce : Cell} (ha : T.heap[a]? = some ce) (hv : ∀ k, ce.vm ≠ .statics k) (hk : ∃ k, s.vm.classes[ce.cls]? = some k) {h : Nat}
    (hn : fh_ok e.platform s g.method.cls g.pc ce.cls h c.exceptionTable.toList) :
    ∃ vm', Stand p l e R s m args below meth c (T.setVm vm') locs cells slots ∧ ∀ t, Steps p.tables e below ((T.setVm vm').setTop { g with pc := h, stack := [.ref a] }) t → Steps p.tables e below ((T.setTop g).pushFrame (.throwing a)) t := by
  cases hg
  obtain ⟨vm', w1, w2⟩ := fh_find (e := e) (f := g) (a := a) hv hk _ ((T.setTop g).pushFrame (.throwing a)) X.warmed ha hn
  refine ⟨vm', X.noted w1, fun t ht => ?_⟩
  obtain ⟨n1, n2⟩ := X.here.throwing (g := g) a
  refine Steps.head n1 n2 ?_
  rw [fh_step X.here (fun Q E b acts => (Jvm.W.findHandler_eq (s := (T.setTop g).pushFrame (.throwing a)) X.method' X.code).trans (w2 Q E b acts))]
  exact ht
end FHH
/-! ===== BEGIN words of one list among another's, by their places ===== -/
theorem goodIn_r {big : List Cond} (ws : List Cond) (ps : List Nat) (hp : ws = ps.filterMap (fun i => big[i]?)) (h : ws.all goodWord = true) : GoodIn big ws := by
  intro w hw
  have h1 := List.all_eq_true.mp h w hw
  rw [hp] at hw
  obtain ⟨i, -, hi⟩ := List.mem_filterMap.mp hw
  have hm : w ∈ big := by first | exact List.mem_of_getElem? hi | exact List.getElem?_mem hi
  exact ⟨hm, good_of_word h1⟩
theorem goodIn_app {big a b : List Cond} (ha : GoodIn big a) (hb : GoodIn big b) : GoodIn big (a ++ b) := fun w h => (List.mem_append.mp h).elim (ha w) (hb w)
theorem goodIn_ca {big a b : List Cond} {c : Cond} (ha : GoodIn big (c :: a)) (hb : GoodIn big b) : GoodIn big (c :: (a ++ b)) := fun w h => (List.mem_cons.mp h).elim (fun e => ha w (List.mem_cons.mpr (Or.inl e))) (fun h => (List.mem_append.mp h).elim (fun h => ha w (List.mem_cons.mpr (Or.inr h))) (hb w))
theorem goodIn_sub {big ws : List Cond} (hm : ∀ w ∈ ws, w ∈ big) (h : ws.all goodWord = true) : GoodIn big ws := fun w hw => ⟨hm w hw, good_of_word (List.all_eq_true.mp h w hw)⟩
/-! ===== END ===== -/

/-! ===== BEGIN exceptions that leave a method, and their catching by the caller (launches without stack traces) ===== -/
section VXA
/-! The laws vx_back, vx_callV, vx_callS, vx_callSW, vx_throw0, vx_throwS follow proofs of the library, with one case more: JvmDerived/Free/Laws.lean (Back.of_free), Shelf42/LK1.lean (callV, callS), Shelf/KitTraced.lean (throwNew0V, throwNewS). -/
/-- where a method has thrown q: the class by its name, the cell, what was written, the world -/
def vx_T (XC : String → State → State → Prop) (st : State) (q : Addr) (t : State) (mc ms : Nat) (free : Addr → Prop) : Prop :=
  ∃ (E : String) (ce : Cell) (L : List Loc), XC E st t ∧ t.heap[q]? = some ce ∧ ce.vm = .none ∧ st.vm.findClass E = some ce.cls ∧ st.WarmedH t.vm ∧ st.sameButNew ({ t with vm := st.vm } : State) L mc ms ∧ ∀ z ∈ L, free z.base
def vx_Q (Qc : Array Value → State → Outcome → State → Prop) (XC : String → State → State → Prop) (mc ms : Nat) (free : Addr → Prop) : Array Value → State → Outcome → State → Prop := fun a st o t =>
  (Qc a st o t ∧ ∃ L, FrameEnd st o t L mc ms ∧ ∀ q ∈ L, free q.base) ∨ ∃ q, o = .threw q ∧ vx_T XC st q t mc ms free
/-- a callee that returns or throws -/
def vx_Met (l : Launch) (y : MethodName) (ws : List Cond) (rm : Room) (Pc : Array Value → State → Prop) (Qc : Array Value → State → Outcome → State → Prop) (XC : String → State → State → Prop) (mc ms : Nat) (free : Addr → Prop) : Prop :=
  MetFree l y (headSpec ws rm) Pc (fun _ _ _ _ _ => True) (vx_Q Qc XC mc ms free)
def vx_Post (XC : String → State → State → Prop) (mc ms : Nat) (free : Addr → Prop) : Pt → Array Value → Addr → Pt → Prop := fun A a q B =>
  ∃ (g : JFrame) (mk : MethodId) (t : State) (L : List Loc) (E : String) (ce : Cell), B.U.heap = t.heap ∧ B.U.vm = t.vm ∧ XC E (A.U.calling g mk a) t ∧ t.heap[q]? = some ce ∧ ce.vm = .none ∧ A.U.vm.findClass E = some ce.cls ∧ B.locs = A.locs ++ L ∧ (∀ z ∈ L, free z.base) ∧ B.cells = A.cells + mc ∧ B.slots = A.slots + ms
def vx_Back (l : Launch) (R : Room) (p : Program) (e : Env) (below : List Frame) (s : State) (sargs : Array Value) (y : MethodName) (len W9 : Nat)
    (Pre : Pt → Array Value → Prop) (Post : Pt → Array Value → Option Value → Pt → Prop) (PostX : Pt → Array Value → Addr → Pt → Prop) : Prop :=
  ∀ (m : MethodId) (meth : Method) (c : Code) (A : Pt) (g : JFrame) (ig : Instr) (mk : MethodId) (a : Array Value),
    Stand p l e R s m sargs below meth c A.U A.locs A.cells A.slots → g.method = m → g.locals.size = c.maxLocals → decode c.code g.pc = .ok (ig, len) →
    2 * g.monitorRoom + (g.stack.map fun v => v.category).sum ≤ W9 → A.U.methodNamed? y = some mk → Pre A a →
    (∃ (v : Option Value) (B : Pt), Stand p l e R s m sargs below meth c B.U B.locs B.cells B.slots ∧ Post A a v B ∧
      Steps p.tables e below (doInvoke e (A.U.setTop g) [] mk a).1 (B.U.setTop { g with pc := g.pc + len, stack := v.toList ++ g.stack })) ∨
    (∃ (q : Addr) (B : Pt), Stand p l e R s m sargs below meth c B.U B.locs B.cells B.slots ∧ PostX A a q B ∧
      Steps p.tables e below (doInvoke e (A.U.setTop g) [] mk a).1 ((B.U.setTop g).pushFrame (.throwing q)))
section Payer
variable {l : Launch} {R : Room} {p : Program} {e : Env} {below : List Frame} {s : State} {sargs : Array Value} {y : MethodName} {len W9 : Nat}
theorem vx_back {ws : List Cond} {rm : Room} {Pc : Array Value → State → Prop} {Qc : Array Value → State → Outcome → State → Prop} {XC : String → State → State → Prop} {mc ms : Nat} {free : Addr → Prop} {bytes : ByteArray} {maxL : Nat} {ret : Option FieldType}
    (hM : vx_Met l y ws rm Pc Qc XC mc ms free) (hblind : FrameBlind Pc) (hrc : rm.cells = mc) (hrs : rm.slots = ms)
    (hframes : rm.frames + 1 ≤ R.frames) (hlocals : W9 + (maxL + 11) + rm.locals ≤ R.locals)
    (hws : ∀ w ∈ ws, ∀ a' U, s.WarmedH U.vm → w.before a' U = true) (hcode : Cond.code y bytes maxL ret ∈ ws) (hinit : ∀ a' U, s.WarmedH U.vm → (Cond.initialized y.cls).before a' U = true) :
    vx_Back l R p e below s sargs y len W9 (PreOf R mc ms Pc) (PostOf Qc mc ms free) (vx_Post XC mc ms free) := by
  intro m meth c A g ig mk a X hg hsize hdg hW hn hp
  have h1 : (headSpec ws rm).pre.before a A.U = true := atoms_intro fun w hw => hws w hw _ _ X.warmed
  have h2 : (Cond.code y bytes maxL ret).before a A.U = true := hws _ hcode _ _ X.warmed
  have h3 : (Cond.initialized y.cls).before a A.U = true := hinit _ _ X.warmed
  have h4 : A.cells + (headSpec ws rm).room.cells ≤ R.cells := by rw [show (headSpec ws rm).room.cells = mc from hrc]; exact hp.1
  have h5 : A.slots + (headSpec ws rm).room.slots ≤ R.slots := by rw [show (headSpec ws rm).room.slots = ms from hrs]; exact hp.2.1
  have hPc : Pc a (A.U.calling g mk a) := hblind _ _ _ _ hp.2.2
  obtain ⟨U, Ls, c0, s0⟩ := A
  dsimp only [Pt.U, Pt.locs, Pt.cells, Pt.slots] at h1 h2 h3 h4 h5 X hn hPc ⊢
  obtain ⟨methY, cY, hmY, hcY, -, hlY, -, -, -, -⟩ := Cond.code_spec hn h2
  obtain ⟨kY, hkY, -⟩ := className_of_methodNamed hn
  have hinitY : kY.init = .initialized := Cond.initialized_spec (findClass_of_methodNamed hn) hkY h3
  have h : At U g.method c below := by rw [hg]; exact X.here
  have hlocals9 : W9 + (maxL + 11) + (headSpec ws rm).room.locals ≤ R.locals := hlocals
  have happ : (headSpec ws rm).appliesLoose y e.platform (U.calling g mk a) = true :=
    Spec.appliesLoose_calling (g := g) h hdg hn hkY hinitY
      (X.room_calling (g := g) (R' := (headSpec ws rm).room) hsize hmY hcY hframes (by rw [hlY]; omega) h4 h5) h1
  obtain ⟨mid, hmid⟩ := h.above
  have hfr : (U.setTop g).frames = (.java g :: mid) ++ below := by rw [State.frames_setTop' g h.top, hmid]; rfl
  obtain ⟨o, s₂, hsteps, -, hend, hq⟩ := Steps.callFree hM p X.admits X.cas X.clock (acts := []) hfr happ hPc trivial
  have hq' : vx_Q Qc XC mc ms free a (U.calling g mk a) o s₂ := hq
  rw [State.frames_setTop' g h.top] at hend
  obtain ⟨g₀, hg0⟩ := Option.isSome_iff_exists.mp h.top
  obtain ⟨r, hr⟩ := State.topJava?_eq_some.mp hg0
  have hr' : (({ U with heap := s₂.heap, slotsUsed := s₂.slotsUsed } : State).setVm s₂.vm).frames = .java g₀ :: r := hr
  rcases hq' with ⟨hqc, L, hfe, hL⟩ | ⟨q, rfl, E, ce, L, hx, hce, hcv, hcl, hW₂, hsm, hL⟩
  · obtain ⟨⟨v, rfl⟩, hW₂, e2, q2, q3, q4, q5, q6⟩ := id hfe
    have e3 : s₂ = ({ (U.calling g mk a).setFrames s₂.frames with heap := s₂.heap, slotsUsed := s₂.slotsUsed } : State).setVm s₂.vm := by
      have : s₂ = ({ s₂ with vm := (U.calling g mk a).vm } : State).setVm s₂.vm := rfl
      rw [e2] at this
      exact this
    obtain ⟨c₂, i₂, len₂, hc₂, hd₂, hf₂⟩ := hend
    have hW' : U.WarmedH s₂.vm := hW₂
    have hcc : c₂ = c := by
      have h1 : s₂.code? g.method = U.code? g.method := by
        rw [State.code?_eq, State.code?_eq, hW'.alike.method?]
      exact Option.some.inj (hc₂.symm.trans (h1.trans h.code))
    subst hcc
    have hlen : len₂ = len := by rw [hdg] at hd₂; cases hd₂; rfl
    subst hlen
    have hs₂ : s₂ = (({ U with heap := s₂.heap, slotsUsed := s₂.slotsUsed } : State).setVm s₂.vm).setTop { g with pc := g.pc + len₂, stack := v.toList ++ g.stack } := by
      refine e3.trans ?_
      rw [hf₂, State.calling_eq h.top, State.setFrames_setFrames, State.setTop_of_frames _ hr', hr]
      rfl
    have hsame : U.sameButNew ({ U with heap := s₂.heap, slotsUsed := s₂.slotsUsed } : State) L mc ms := by
      refine ⟨?_, q2, q3, q4, q5, q6⟩
      obtain ⟨t, ht, -⟩ := State.frames_cons hr
      show ({ U with heap := s₂.heap, slotsUsed := s₂.slotsUsed } : State) = { U.setFrames U.frames with heap := s₂.heap, slotsUsed := s₂.slotsUsed }
      rw [State.setFrames_self ht]
    subst hg
    refine Or.inl ⟨v, ⟨(({ U with heap := s₂.heap, slotsUsed := s₂.slotsUsed } : State).setVm s₂.vm), Ls ++ L, c0 + mc, s0 + ms⟩,
      ⟨X.admits, X.cas, X.clock, X.frames, X.room, X.hears, X.method, X.code, (X.here.setHeapUsed s₂.heap s₂.slotsUsed).setVm hW'.alike, X.tail, State.WarmedH.trans X.warmed hW', X.limits, X.bytes, X.same.trans (hsame.setVm s.vm)⟩,
      ⟨g, mk, s₂, L, rfl, rfl, hqc, rfl, hL, rfl, rfl⟩, ?_⟩
    show Steps p.tables e below _ ((({ U with heap := s₂.heap, slotsUsed := s₂.slotsUsed } : State).setVm s₂.vm).setTop { g with pc := g.pc + len₂, stack := v.toList ++ g.stack })
    rw [← hs₂]
    exact hsteps
  · obtain ⟨e2, q2, q3, q4, q5, q6⟩ := id hsm
    have e3 : s₂ = ({ (U.calling g mk a).setFrames s₂.frames with heap := s₂.heap, slotsUsed := s₂.slotsUsed } : State).setVm s₂.vm := by
      have : s₂ = ({ s₂ with vm := (U.calling g mk a).vm } : State).setVm s₂.vm := rfl
      rw [e2] at this
      exact this
    have hf₂ : s₂.frames = .throwing q :: .java g :: U.frames.tail := hend
    have hW' : U.WarmedH s₂.vm := hW₂
    have hs₂ : s₂ = ((({ U with heap := s₂.heap, slotsUsed := s₂.slotsUsed } : State).setVm s₂.vm).setTop g).pushFrame (.throwing q) := by
      refine e3.trans ?_
      rw [hf₂, State.calling_eq h.top, State.setFrames_setFrames, State.pushFrame, State.frames_setTop _ hr', State.setTop_of_frames _ hr', State.setFrames_setFrames, hr]
      rfl
    have hsame : U.sameButNew ({ U with heap := s₂.heap, slotsUsed := s₂.slotsUsed } : State) L mc ms := by
      refine ⟨?_, q2, q3, q4, q5, q6⟩
      obtain ⟨t, ht, -⟩ := State.frames_cons hr
      show ({ U with heap := s₂.heap, slotsUsed := s₂.slotsUsed } : State) = { U.setFrames U.frames with heap := s₂.heap, slotsUsed := s₂.slotsUsed }
      rw [State.setFrames_self ht]
    subst hg
    refine Or.inr ⟨q, ⟨(({ U with heap := s₂.heap, slotsUsed := s₂.slotsUsed } : State).setVm s₂.vm), Ls ++ L, c0 + mc, s0 + ms⟩,
      ⟨X.admits, X.cas, X.clock, X.frames, X.room, X.hears, X.method, X.code, (X.here.setHeapUsed s₂.heap s₂.slotsUsed).setVm hW'.alike, X.tail, State.WarmedH.trans X.warmed hW', X.limits, X.bytes, X.same.trans (hsame.setVm s.vm)⟩,
      ⟨g, mk, s₂, L, E, ce, rfl, rfl, hx, hce, hcv, hcl, rfl, hL, rfl, rfl⟩, ?_⟩
    show Steps p.tables e below _ (((({ U with heap := s₂.heap, slotsUsed := s₂.slotsUsed } : State).setVm s₂.vm).setTop g).pushFrame (.throwing q))
    rw [← hs₂]
    exact hsteps
end Payer
section Calls
variable {p : Program} {l : Launch} {e : Env} {R : Room} {s : State} {m : MethodId} {args : Array Value} {below : List Frame} {meth : Method} {c : Code} {T : State} {locs : List Loc} {cells slots : Nat}
theorem vx_callV (X : Stand p l e R s m args below meth c T locs cells slots) (hexec : p.tables.exec = Jvm.exec) {own C : String} {index : Nat} {y : MethodName} {bytes : ByteArray} {maxL : Nat} {ret : Option FieldType}
    (hown : s.vm.findClass own = some m.cls) (hlink : (Cond.methodLink own index y).before args s = true) (hinst : (Cond.instanceMethod y).before args s = true) (hsel : (Cond.selects C y y).before args s = true)
    (hcode : (Cond.code y bytes maxL ret).before args s = true) (hy : y.cls ≠ "java/lang/invoke/MethodHandle" ∧ y.cls ≠ "java/lang/invoke/VarHandle")
    {W9 : Nat} {Pre : Pt → Array Value → Prop} {Post : Pt → Array Value → Option Value → Pt → Prop} {PostX : Pt → Array Value → Addr → Pt → Prop} (hK : vx_Back l R p e below s args y 3 W9 Pre Post PostX)
    {b : Addr} {cellB : Cell} (hcell : T.heap[b]? = some cellB) (hobj : cellB.vm.isStatics = false) (hcls : s.vm.findClass C = some cellB.cls)
    {g : JFrame} (hg : g.method = m) (hsize : g.locals.size = c.maxLocals) {argsL rest : List Value} (hlen : ∀ sig, parseMethodDescriptor y.desc = some sig → argsL.length = sig.parameters.length)
    (hstack : g.stack = argsL.reverse ++ .ref b :: rest) (hW : 2 * g.monitorRoom + (rest.map fun v => v.category).sum ≤ W9) (hdg : decode c.code g.pc = .ok (.invokevirtual index, 3))
    (hpre : ∀ vm₁, s.WarmedH vm₁ → Pre ⟨T.setVm vm₁, locs, cells, slots⟩ (Value.ref b :: argsL).toArray) :
    (∃ (v : Option Value) (vm₁ : Vm) (B : Pt), s.WarmedH vm₁ ∧ Stand p l e R s m args below meth c B.U B.locs B.cells B.slots ∧ Post ⟨T.setVm vm₁, locs, cells, slots⟩ (Value.ref b :: argsL).toArray v B ∧
      ∀ target, Steps p.tables e below (B.U.setTop { g with pc := g.pc + 3, stack := v.toList ++ rest }) target → Steps p.tables e below (T.setTop g) target) ∨
    (∃ (q : Addr) (vm₁ : Vm) (B : Pt), s.WarmedH vm₁ ∧ Stand p l e R s m args below meth c B.U B.locs B.cells B.slots ∧ PostX ⟨T.setVm vm₁, locs, cells, slots⟩ (Value.ref b :: argsL).toArray q B ∧
      Steps p.tables e below (T.setTop g) ((B.U.setTop { g with stack := rest }).pushFrame (.throwing q))) := by
  obtain ⟨mk, methM, hnamed, hmethM, hstM, habM⟩ := Cond.instanceMethod_spec hinst
  obtain ⟨methM', cM, hmethM', -, -, -, -, -, -, hsigM⟩ := Cond.code_spec hnamed hcode
  cases hmethM.symm.trans hmethM'
  obtain ⟨c2, r2, m2, q1, q2, q3, q4, kP, hkP, hkPi⟩ := Cond.selects_spec hsel
  cases hcls.symm.trans q1
  cases (State.methodFound?_of_named hnamed hy).symm.trans q2
  cases hnamed.symm.trans q3
  have hselP : selectMethod e.platform s.vm cellB.cls mk = .method mk := by rw [Launch.admits_selectMethod X.admits]; exact q4
  obtain ⟨vm₁, X₁, hstep₁⟩ := X.invokevirtual hexec hown hlink hnamed hmethM hstM hkP hkPi hy (a := b) (cell := cellB) hcell
    (fun z h => by rw [h] at hobj; cases hobj) hselP hmethM habM hkP hkPi (g := g) hg (argsL := argsL) (rest := rest) (hlen _ hsigM) hstack hdg
  rcases hK m meth c ⟨T.setVm vm₁, locs, cells, slots⟩ { g with stack := rest } (.invokevirtual index) mk (Value.ref b :: argsL).toArray X₁ hg hsize hdg hW (X₁.named hnamed) (hpre vm₁ X₁.warmed) with ⟨v, B, X', hpost, hsteps⟩ | ⟨q, B, X', hpost, hsteps⟩
  · exact Or.inl ⟨v, vm₁, B, X₁.warmed, X', hpost, fun target h => hstep₁ _ fun acts => by rw [doInvoke_state]; exact hsteps.trans h⟩
  · exact Or.inr ⟨q, vm₁, B, X₁.warmed, X', hpost, hstep₁ _ fun acts => by rw [doInvoke_state]; exact hsteps⟩
theorem vx_callS (X : Stand p l e R s m args below meth c T locs cells slots) (hexec : p.tables.exec = Jvm.exec) {own : String} {index : Nat} {y : MethodName} {bytes : ByteArray} {maxL : Nat} {ret : Option FieldType}
    (hown : s.vm.findClass own = some m.cls) (hlink : (Cond.methodLink own index y).before args s = true) (hstat : (Cond.static y).before args s = true) (hinit : (Cond.initialized y.cls).before args s = true)
    (hcode : (Cond.code y bytes maxL ret).before args s = true) (hy : y.cls ≠ "java/lang/invoke/MethodHandle" ∧ y.cls ≠ "java/lang/invoke/VarHandle")
    {W9 : Nat} {Pre : Pt → Array Value → Prop} {Post : Pt → Array Value → Option Value → Pt → Prop} {PostX : Pt → Array Value → Addr → Pt → Prop} (hK : vx_Back l R p e below s args y 3 W9 Pre Post PostX)
    {g : JFrame} (hg : g.method = m) (hsize : g.locals.size = c.maxLocals) {argsL rest : List Value} (hlen : ∀ sig, parseMethodDescriptor y.desc = some sig → argsL.length = sig.parameters.length)
    (hstack : g.stack = argsL.reverse ++ rest) (hW : 2 * g.monitorRoom + (rest.map fun v => v.category).sum ≤ W9) (hdg : decode c.code g.pc = .ok (.invokestatic index, 3))
    (hpre : ∀ vm₁, s.WarmedH vm₁ → Pre ⟨T.setVm vm₁, locs, cells, slots⟩ argsL.toArray) :
    (∃ (v : Option Value) (vm₁ : Vm) (B : Pt), s.WarmedH vm₁ ∧ Stand p l e R s m args below meth c B.U B.locs B.cells B.slots ∧ Post ⟨T.setVm vm₁, locs, cells, slots⟩ argsL.toArray v B ∧
      ∀ target, Steps p.tables e below (B.U.setTop { g with pc := g.pc + 3, stack := v.toList ++ rest }) target → Steps p.tables e below (T.setTop g) target) ∨
    (∃ (q : Addr) (vm₁ : Vm) (B : Pt), s.WarmedH vm₁ ∧ Stand p l e R s m args below meth c B.U B.locs B.cells B.slots ∧ PostX ⟨T.setVm vm₁, locs, cells, slots⟩ argsL.toArray q B ∧
      Steps p.tables e below (T.setTop g) ((B.U.setTop { g with stack := rest }).pushFrame (.throwing q))) := by
  obtain ⟨mk, hnamed⟩ := Cond.code_named hcode
  obtain ⟨methM, cM, hmethM, -, -, -, -, -, -, hsigM⟩ := Cond.code_spec hnamed hcode
  have hstatic : methM.isStatic = true := Cond.static_spec hnamed hmethM hstat
  obtain ⟨kP, hkP, -⟩ := className_of_methodNamed hnamed
  have hinitP : kP.init = .initialized := Cond.initialized_spec (findClass_of_methodNamed hnamed) hkP hinit
  obtain ⟨vm₁, X₁, hstep₁⟩ := X.invokestatic hexec hown hlink hnamed hmethM hstatic hkP hinitP hy (g := g) hg (argsL := argsL) (rest := rest) (hlen _ hsigM) hstack hdg
  rcases hK m meth c ⟨T.setVm vm₁, locs, cells, slots⟩ { g with stack := rest } (.invokestatic index) mk argsL.toArray X₁ hg hsize hdg hW (X₁.named hnamed) (hpre vm₁ X₁.warmed) with ⟨v, B, X', hpost, hsteps⟩ | ⟨q, B, X', hpost, hsteps⟩
  · exact Or.inl ⟨v, vm₁, B, X₁.warmed, X', hpost, fun target h => hstep₁ _ fun acts => by rw [doInvoke_state]; exact hsteps.trans h⟩
  · exact Or.inr ⟨q, vm₁, B, X₁.warmed, X', hpost, hstep₁ _ fun acts => by rw [doInvoke_state]; exact hsteps⟩
end Calls
theorem vx_cls {s : State} {T : State} {vm₁ : Vm} {E : String} {k : ClassId} (hW : s.WarmedH vm₁) (h : (T.setVm vm₁).vm.findClass E = some k) : s.vm.findClass E = some k := by
  have h1 : vm₁.findClass E = some k := h
  rw [hW.alike.findClass] at h1
  exact h1
/-- the method's frame g, with q thrown over it -/
def vx_W (p : Program) (l : Launch) (e : Env) (R : Room) (s : State) (m : MethodId) (args : Array Value) (below : List Frame) (meth : Method) (c : Code) (H : Heap) (locs : List Loc) (cells slots : Nat) (Q : State → Prop) (g : JFrame) (q : Addr) : Prop :=
  ∀ T : State, T.heap = H → Stand p l e R s m args below meth c T locs cells slots → ∃ t, Steps p.tables e below ((T.setTop g).pushFrame (.throwing q)) t ∧ Q t
def vx_Run (p : Program) (l : Launch) (e : Env) (R : Room) (s : State) (m : MethodId) (args : Array Value) (below : List Frame) (meth : Method) (c : Code) (H : Heap) (locs : List Loc) (cells slots mc ms : Nat) (g : JFrame) (rest : List Value) (Qa : State → Outcome → State → Prop) (XC : String → State → State → Prop) (free : Addr → Prop) : Prop :=
  ∀ T : State, T.heap = H → Stand p l e R s m args below meth c T locs cells slots →
    (∃ (v : Option Value) (st₀ t T' : State) (L : List Loc), st₀.heap = H ∧ Stand p l e R s m args below meth c T' (locs ++ L) (cells + mc) (slots + ms) ∧ (∀ q ∈ L, free q.base) ∧ T'.heap = t.heap ∧ T'.vm = t.vm ∧ Qa st₀ (.returned v) t ∧
      Goes p e below T g T' { g with pc := g.pc + 3, stack := v.toList ++ rest }) ∨
    (∃ (q : Addr) (st₀ t T' : State) (L : List Loc) (E : String) (ce : Cell), st₀.heap = H ∧ Stand p l e R s m args below meth c T' (locs ++ L) (cells + mc) (slots + ms) ∧ (∀ z ∈ L, free z.base) ∧ T'.heap = t.heap ∧ T'.vm = t.vm ∧ XC E st₀ t ∧ t.heap[q]? = some ce ∧ ce.vm = .none ∧ s.vm.findClass E = some ce.cls ∧
      Steps p.tables e below (T.setTop g) ((T'.setTop { g with stack := rest }).pushFrame (.throwing q)))
def vx_X {S : Type} (px : S → Prop) (B : String → S → State → Prop) (A : Nat → Prop) : String → State → State → Prop := fun E st t => ∃ u : S, px u ∧ B E u t ∧ va_F A st t
section Runs
variable {p : Program} {l : Launch} {e : Env} {R : Room} {s : State} {m : MethodId} {args : Array Value} {below : List Frame} {meth : Method} {c : Code} {H : Heap} {locs : List Loc} {cells slots : Nat}
variable {y : MethodName} {bytes cc : ByteArray} {maxL nL mc ms n index : Nat} {ret : Option FieldType} {ws : List Cond} {rm : Room} {Pc : Array Value → State → Prop} {Qc : Array Value → State → Outcome → State → Prop} {XC : String → State → State → Prop} {free : Addr → Prop} {Ts : List Cond} {own C : String} {b : Addr} {As rest : List Value} {g : JFrame}
theorem vx_callBack (cb : CallB R s args own index y bytes maxL ret ws rm mc ms n) (hM : vx_Met l y ws rm Pc Qc XC mc ms free) (hbl : FrameBlind Pc) : vx_Back l R p e below s args y 3 8 (PreOf R mc ms Pc) (PostOf Qc mc ms free) (vx_Post XC mc ms free) := by
  obtain ⟨hrc, hrs, hfr, hlo, hws, hcw, -, hini, -⟩ := cb
  exact vx_back (bytes := bytes) (maxL := maxL) (ret := ret) hM hbl hrc hrs hfr hlo hws hcw (fun a' U hW => word_at hW (Or.inl (by first | rfl | simp [Cond.onTables, Cond.keeps, Cond.steady])) hini)
theorem vx_runV (S : CallFix p m c cc nL s args Ts own) (hM : vx_Met l y ws rm Pc Qc XC mc ms free) (cw : CallW R s args own C index y bytes maxL ret ws rm mc ms n) (hp : PreV s H C b Pc As)
    (hg : g.method = m) (hn : As.length = n) (hsize : g.locals.size = nL) (hstack : g.stack = As.reverse ++ .ref b :: rest) (hW : 2 * g.monitorRoom + (rest.map fun v => v.category).sum ≤ 8) (hdg : decode cc g.pc = .ok (.invokevirtual index, 3)) (hf : cells + mc ≤ R.cells ∧ slots + ms ≤ R.slots) :
    vx_Run p l e R s m args below meth c H locs cells slots mc ms g rest (Qc (Value.ref b :: As).toArray) XC free := by
  have hK : vx_Back l R p e below s args y 3 8 (PreOf R mc ms Pc) (PostOf Qc mc ms free) (vx_Post XC mc ms free) := vx_callBack cw.1 hM hp.1
  obtain ⟨⟨-, -, -, -, -, -, hcode, -, hy, hlen, hl⟩, hin, hse⟩ := cw
  obtain ⟨hx, hb, hml, ho, -⟩ := S
  obtain ⟨-, ⟨cellB, hcB, hoB, hclB⟩, hPc⟩ := hp
  intro T hT X
  rcases vx_callV X hx (C := C) (bytes := bytes) (maxL := maxL) (ret := ret) ho hl hin hse hcode hy hK (by rw [hT]; exact hcB) hoB hclB hg (hsize.trans hml.symm) (argsL := As) (rest := rest) (fun sig h => hn.trans (hlen sig h)) hstack hW (by rw [hb]; exact hdg)
    (fun vm₁ hW₁ => ⟨hf.1, hf.2, hPc (T.setVm vm₁) hT hW₁⟩) with ⟨v, vm₁, ⟨U', l2, c2, s2⟩, hW₁, X', ⟨g', mk, t, L, e1, e2, hq, h1, hL, h2, h3⟩, st⟩ | ⟨q, vm₁, ⟨U', l2, c2, s2⟩, hW₁, X', ⟨g', mk, t, L, E, ce, e1, e2, hq, hce, hcv, hcl, h1, hL, h2, h3⟩, st⟩
  · dsimp only [Pt.U, Pt.locs, Pt.cells, Pt.slots] at X' e1 e2 h1 h2 h3 st
    subst h1; subst h2; subst h3
    exact Or.inl ⟨v, (T.setVm vm₁).calling g' mk (Value.ref b :: As).toArray, t, U', L, hT, X', hL, e1, e2, hq, st⟩
  · dsimp only [Pt.U, Pt.locs, Pt.cells, Pt.slots] at X' e1 e2 h1 h2 h3 st hcl
    subst h1; subst h2; subst h3
    exact Or.inr ⟨q, (T.setVm vm₁).calling g' mk (Value.ref b :: As).toArray, t, U', L, E, ce, hT, X', hL, e1, e2, hq, hce, hcv, vx_cls hW₁ hcl, st⟩
theorem vx_runS (S : CallFix p m c cc nL s args Ts own) (hM : vx_Met l y ws rm Pc Qc XC mc ms free) (cw : CallB R s args own index y bytes maxL ret ws rm mc ms n ∧ (Cond.static y).before args s = true) (hp : PreS s H Pc As)
    (hg : g.method = m) (hn : As.length = n) (hsize : g.locals.size = nL) (hstack : g.stack = As.reverse ++ rest) (hW : 2 * g.monitorRoom + (rest.map fun v => v.category).sum ≤ 8) (hdg : decode cc g.pc = .ok (.invokestatic index, 3)) (hf : cells + mc ≤ R.cells ∧ slots + ms ≤ R.slots) :
    vx_Run p l e R s m args below meth c H locs cells slots mc ms g rest (Qc As.toArray) XC free := by
  have hK : vx_Back l R p e below s args y 3 8 (PreOf R mc ms Pc) (PostOf Qc mc ms free) (vx_Post XC mc ms free) := vx_callBack cw.1 hM hp.1
  obtain ⟨⟨-, -, -, -, -, -, hcode, hini, hy, hlen, hl⟩, hstt⟩ := cw
  obtain ⟨hx, hb, hml, ho, -⟩ := S
  intro T hT X
  rcases vx_callS X hx (bytes := bytes) (maxL := maxL) (ret := ret) ho hl hstt hini hcode hy hK hg (hsize.trans hml.symm) (argsL := As) (rest := rest) (fun sig h => hn.trans (hlen sig h)) hstack hW (by rw [hb]; exact hdg)
    (fun vm₁ hW₁ => ⟨hf.1, hf.2, hp.2 (T.setVm vm₁) hT hW₁⟩) with ⟨v, vm₁, ⟨U', l2, c2, s2⟩, hW₁, X', ⟨g', mk, t, L, e1, e2, hq, h1, hL, h2, h3⟩, st⟩ | ⟨q, vm₁, ⟨U', l2, c2, s2⟩, hW₁, X', ⟨g', mk, t, L, E, ce, e1, e2, hq, hce, hcv, hcl, h1, hL, h2, h3⟩, st⟩
  · dsimp only [Pt.U, Pt.locs, Pt.cells, Pt.slots] at X' e1 e2 h1 h2 h3 st
    subst h1; subst h2; subst h3
    exact Or.inl ⟨v, (T.setVm vm₁).calling g' mk As.toArray, t, U', L, hT, X', hL, e1, e2, hq, st⟩
  · dsimp only [Pt.U, Pt.locs, Pt.cells, Pt.slots] at X' e1 e2 h1 h2 h3 st hcl
    subst h1; subst h2; subst h3
    exact Or.inr ⟨q, (T.setVm vm₁).calling g' mk As.toArray, t, U', L, E, ce, hT, X', hL, e1, e2, hq, hce, hcv, vx_cls hW₁ hcl, st⟩
end Runs
section Rows
variable {p : Program} {l : Launch} {e : Env} {R : Room} {s : State} {m : MethodId} {args : Array Value} {below : List Frame} {meth : Method} {c : Code} {H : Heap} {locs : List Loc} {cells slots : Nat} {Q : State → Prop}
variable {mc ms : Nat} {free : Addr → Prop} {A0 A1 : Nat → Prop} {H0 : Heap} {a : Array Value} {pc : Nat} {ls : Array Slot} {st0 rest : List Value}
theorem vx_keep {st₀ t T' : State} {L : List Loc} (h0 : st₀.heap = H) (e1 : T'.heap = t.heap) (hS : va_S A0 H0 H locs) (hA : ∀ q, q < H.size → A1 q → A0 q) (hf : ∀ q, free q → A0 q) (hL : ∀ q ∈ L, free q.base) (hF : va_F A1 st₀ t) :
    H.size ≤ T'.heap.size ∧ (∀ q : Nat, q < H.size → ¬ A1 q → T'.heap[q]? = H[q]?) ∧ va_S A0 H0 T'.heap (locs ++ L) := by
  obtain ⟨hz, hk⟩ := hF
  rw [h0] at hz hk
  exact ⟨by rw [e1]; exact hz, fun q h1 h2 => by rw [e1]; exact hk q h1 h2,
    ⟨Nat.le_trans hS.1 (by rw [e1]; exact hz), fun q h1 h2 => by rw [e1, hk q (Nat.lt_of_lt_of_le h1 hS.1) (fun z => h2 (hA q (Nat.lt_of_lt_of_le h1 hS.1) z))]; exact hS.2.1 q h1 h2, fun q hq => by
      rcases List.mem_append.mp hq with h | h
      · exact hS.2.2 q h
      · exact hf _ (hL q h)⟩⟩
theorem vx_calli {S SX : Type} {post : Int32 → S → Prop} {px : SX → Prop} {B : S → State → Prop} {BX : String → SX → State → Prop} {AX : Nat → Prop} (hr : vx_Run p l e R s m args below meth c H locs cells slots mc ms (F0 m pc ls st0) rest (va_Qi post B A1 a) (vx_X px BX AX) free) (hS : va_S A0 H0 H locs) (hA : ∀ q, q < H.size → A1 q → A0 q) (hf : ∀ q, free q → A0 q) (hAX : ∀ q, q < H.size → AX q → A0 q)
    (kx : ∀ (E : String) (ce : Cell) (q9 : Addr) (u : SX) (t : State) (H1 : Heap) (locs1 : List Loc), t.heap = H1 → s.vm.Alike t.vm → px u → BX E u t → H.size ≤ H1.size → (∀ q : Nat, q < H.size → ¬ AX q → H1[q]? = H[q]?) → va_S A0 H0 H1 locs1 → H1[q9]? = some ce → ce.vm = .none → s.vm.findClass E = some ce.cls → vx_W p l e R s m args below meth c H1 locs1 (cells + mc) (slots + ms) Q (F0 m pc ls rest) q9)
    (kk : ∀ (r : Int32) (u : S) (t : State) (H1 : Heap) (locs1 : List Loc), t.heap = H1 → s.vm.Alike t.vm → post r u → B u t → H.size ≤ H1.size → (∀ q : Nat, q < H.size → ¬ A1 q → H1[q]? = H[q]?) → va_S A0 H0 H1 locs1 → W p l e R s m args below meth c H1 locs1 (cells + mc) (slots + ms) Q (F0 m (pc + 3) ls (.int r :: rest))) : W p l e R s m args below meth c H locs cells slots Q (F0 m pc ls st0) := by
  intro T hT X
  rcases hr T hT X with ⟨v, st₀, t, T', L, h0, X', hL, e1, e2, ⟨⟨r, u, hv, hp, hb⟩, hF⟩, st⟩ | ⟨q, st₀, t, T', L, E, ce, h0, X', hL, e1, e2, ⟨u, hp, hb, hF⟩, hce, hcv, hcl, st⟩
  · cases hv
    obtain ⟨k1, k2, k3⟩ := vx_keep h0 e1 hS hA hf hL hF
    obtain ⟨t2, a1, b1⟩ := kk r u t T'.heap (locs ++ L) e1.symm (by rw [← e2]; exact X'.warmed.alike) hp hb k1 k2 k3 T' rfl X'
    exact ⟨t2, st t2 a1, b1⟩
  · obtain ⟨k1, k2, k3⟩ := vx_keep h0 e1 hS hAX hf hL hF
    obtain ⟨t2, a1, b1⟩ := kx E ce q u t T'.heap (locs ++ L) e1.symm (by rw [← e2]; exact X'.warmed.alike) hp hb k1 k2 k3 (by rw [e1]; exact hce) hcv hcl T' rfl X'
    exact ⟨t2, st.trans a1, b1⟩
theorem vx_calll {S SX : Type} {post : Int64 → S → Prop} {px : SX → Prop} {B : S → State → Prop} {BX : String → SX → State → Prop} {AX : Nat → Prop} (hr : vx_Run p l e R s m args below meth c H locs cells slots mc ms (F0 m pc ls st0) rest (va_Ql post B A1 a) (vx_X px BX AX) free) (hS : va_S A0 H0 H locs) (hA : ∀ q, q < H.size → A1 q → A0 q) (hf : ∀ q, free q → A0 q) (hAX : ∀ q, q < H.size → AX q → A0 q)
    (kx : ∀ (E : String) (ce : Cell) (q9 : Addr) (u : SX) (t : State) (H1 : Heap) (locs1 : List Loc), t.heap = H1 → s.vm.Alike t.vm → px u → BX E u t → H.size ≤ H1.size → (∀ q : Nat, q < H.size → ¬ AX q → H1[q]? = H[q]?) → va_S A0 H0 H1 locs1 → H1[q9]? = some ce → ce.vm = .none → s.vm.findClass E = some ce.cls → vx_W p l e R s m args below meth c H1 locs1 (cells + mc) (slots + ms) Q (F0 m pc ls rest) q9)
    (kk : ∀ (r : Int64) (u : S) (t : State) (H1 : Heap) (locs1 : List Loc), t.heap = H1 → s.vm.Alike t.vm → post r u → B u t → H.size ≤ H1.size → (∀ q : Nat, q < H.size → ¬ A1 q → H1[q]? = H[q]?) → va_S A0 H0 H1 locs1 → W p l e R s m args below meth c H1 locs1 (cells + mc) (slots + ms) Q (F0 m (pc + 3) ls (.long r :: rest))) : W p l e R s m args below meth c H locs cells slots Q (F0 m pc ls st0) := by
  intro T hT X
  rcases hr T hT X with ⟨v, st₀, t, T', L, h0, X', hL, e1, e2, ⟨⟨r, u, hv, hp, hb⟩, hF⟩, st⟩ | ⟨q, st₀, t, T', L, E, ce, h0, X', hL, e1, e2, ⟨u, hp, hb, hF⟩, hce, hcv, hcl, st⟩
  · cases hv
    obtain ⟨k1, k2, k3⟩ := vx_keep h0 e1 hS hA hf hL hF
    obtain ⟨t2, a1, b1⟩ := kk r u t T'.heap (locs ++ L) e1.symm (by rw [← e2]; exact X'.warmed.alike) hp hb k1 k2 k3 T' rfl X'
    exact ⟨t2, st t2 a1, b1⟩
  · obtain ⟨k1, k2, k3⟩ := vx_keep h0 e1 hS hAX hf hL hF
    obtain ⟨t2, a1, b1⟩ := kx E ce q u t T'.heap (locs ++ L) e1.symm (by rw [← e2]; exact X'.warmed.alike) hp hb k1 k2 k3 (by rw [e1]; exact hce) hcv hcl T' rfl X'
    exact ⟨t2, st.trans a1, b1⟩
theorem vx_callf {S SX : Type} {post : UInt32 → S → Prop} {px : SX → Prop} {B : S → State → Prop} {BX : String → SX → State → Prop} {AX : Nat → Prop} (hr : vx_Run p l e R s m args below meth c H locs cells slots mc ms (F0 m pc ls st0) rest (va_Qf post B A1 a) (vx_X px BX AX) free) (hS : va_S A0 H0 H locs) (hA : ∀ q, q < H.size → A1 q → A0 q) (hf : ∀ q, free q → A0 q) (hAX : ∀ q, q < H.size → AX q → A0 q)
    (kx : ∀ (E : String) (ce : Cell) (q9 : Addr) (u : SX) (t : State) (H1 : Heap) (locs1 : List Loc), t.heap = H1 → s.vm.Alike t.vm → px u → BX E u t → H.size ≤ H1.size → (∀ q : Nat, q < H.size → ¬ AX q → H1[q]? = H[q]?) → va_S A0 H0 H1 locs1 → H1[q9]? = some ce → ce.vm = .none → s.vm.findClass E = some ce.cls → vx_W p l e R s m args below meth c H1 locs1 (cells + mc) (slots + ms) Q (F0 m pc ls rest) q9)
    (kk : ∀ (r : UInt32) (u : S) (t : State) (H1 : Heap) (locs1 : List Loc), t.heap = H1 → s.vm.Alike t.vm → post r u → B u t → H.size ≤ H1.size → (∀ q : Nat, q < H.size → ¬ A1 q → H1[q]? = H[q]?) → va_S A0 H0 H1 locs1 → W p l e R s m args below meth c H1 locs1 (cells + mc) (slots + ms) Q (F0 m (pc + 3) ls (.float r :: rest))) : W p l e R s m args below meth c H locs cells slots Q (F0 m pc ls st0) := by
  intro T hT X
  rcases hr T hT X with ⟨v, st₀, t, T', L, h0, X', hL, e1, e2, ⟨⟨r, u, hv, hp, hb⟩, hF⟩, st⟩ | ⟨q, st₀, t, T', L, E, ce, h0, X', hL, e1, e2, ⟨u, hp, hb, hF⟩, hce, hcv, hcl, st⟩
  · cases hv
    obtain ⟨k1, k2, k3⟩ := vx_keep h0 e1 hS hA hf hL hF
    obtain ⟨t2, a1, b1⟩ := kk r u t T'.heap (locs ++ L) e1.symm (by rw [← e2]; exact X'.warmed.alike) hp hb k1 k2 k3 T' rfl X'
    exact ⟨t2, st t2 a1, b1⟩
  · obtain ⟨k1, k2, k3⟩ := vx_keep h0 e1 hS hAX hf hL hF
    obtain ⟨t2, a1, b1⟩ := kx E ce q u t T'.heap (locs ++ L) e1.symm (by rw [← e2]; exact X'.warmed.alike) hp hb k1 k2 k3 (by rw [e1]; exact hce) hcv hcl T' rfl X'
    exact ⟨t2, st.trans a1, b1⟩
theorem vx_calld {S SX : Type} {post : UInt64 → S → Prop} {px : SX → Prop} {B : S → State → Prop} {BX : String → SX → State → Prop} {AX : Nat → Prop} (hr : vx_Run p l e R s m args below meth c H locs cells slots mc ms (F0 m pc ls st0) rest (va_Qd post B A1 a) (vx_X px BX AX) free) (hS : va_S A0 H0 H locs) (hA : ∀ q, q < H.size → A1 q → A0 q) (hf : ∀ q, free q → A0 q) (hAX : ∀ q, q < H.size → AX q → A0 q)
    (kx : ∀ (E : String) (ce : Cell) (q9 : Addr) (u : SX) (t : State) (H1 : Heap) (locs1 : List Loc), t.heap = H1 → s.vm.Alike t.vm → px u → BX E u t → H.size ≤ H1.size → (∀ q : Nat, q < H.size → ¬ AX q → H1[q]? = H[q]?) → va_S A0 H0 H1 locs1 → H1[q9]? = some ce → ce.vm = .none → s.vm.findClass E = some ce.cls → vx_W p l e R s m args below meth c H1 locs1 (cells + mc) (slots + ms) Q (F0 m pc ls rest) q9)
    (kk : ∀ (r : UInt64) (u : S) (t : State) (H1 : Heap) (locs1 : List Loc), t.heap = H1 → s.vm.Alike t.vm → post r u → B u t → H.size ≤ H1.size → (∀ q : Nat, q < H.size → ¬ A1 q → H1[q]? = H[q]?) → va_S A0 H0 H1 locs1 → W p l e R s m args below meth c H1 locs1 (cells + mc) (slots + ms) Q (F0 m (pc + 3) ls (.double r :: rest))) : W p l e R s m args below meth c H locs cells slots Q (F0 m pc ls st0) := by
  intro T hT X
  rcases hr T hT X with ⟨v, st₀, t, T', L, h0, X', hL, e1, e2, ⟨⟨r, u, hv, hp, hb⟩, hF⟩, st⟩ | ⟨q, st₀, t, T', L, E, ce, h0, X', hL, e1, e2, ⟨u, hp, hb, hF⟩, hce, hcv, hcl, st⟩
  · cases hv
    obtain ⟨k1, k2, k3⟩ := vx_keep h0 e1 hS hA hf hL hF
    obtain ⟨t2, a1, b1⟩ := kk r u t T'.heap (locs ++ L) e1.symm (by rw [← e2]; exact X'.warmed.alike) hp hb k1 k2 k3 T' rfl X'
    exact ⟨t2, st t2 a1, b1⟩
  · obtain ⟨k1, k2, k3⟩ := vx_keep h0 e1 hS hAX hf hL hF
    obtain ⟨t2, a1, b1⟩ := kx E ce q u t T'.heap (locs ++ L) e1.symm (by rw [← e2]; exact X'.warmed.alike) hp hb k1 k2 k3 (by rw [e1]; exact hce) hcv hcl T' rfl X'
    exact ⟨t2, st.trans a1, b1⟩
theorem vx_callv {S SX : Type} {post : S → Prop} {px : SX → Prop} {B : S → State → Prop} {BX : String → SX → State → Prop} {AX : Nat → Prop} (hr : vx_Run p l e R s m args below meth c H locs cells slots mc ms (F0 m pc ls st0) rest (va_Qv post B A1 a) (vx_X px BX AX) free) (hS : va_S A0 H0 H locs) (hA : ∀ q, q < H.size → A1 q → A0 q) (hf : ∀ q, free q → A0 q) (hAX : ∀ q, q < H.size → AX q → A0 q)
    (kx : ∀ (E : String) (ce : Cell) (q9 : Addr) (u : SX) (t : State) (H1 : Heap) (locs1 : List Loc), t.heap = H1 → s.vm.Alike t.vm → px u → BX E u t → H.size ≤ H1.size → (∀ q : Nat, q < H.size → ¬ AX q → H1[q]? = H[q]?) → va_S A0 H0 H1 locs1 → H1[q9]? = some ce → ce.vm = .none → s.vm.findClass E = some ce.cls → vx_W p l e R s m args below meth c H1 locs1 (cells + mc) (slots + ms) Q (F0 m pc ls rest) q9)
    (kk : ∀ (u : S) (t : State) (H1 : Heap) (locs1 : List Loc), t.heap = H1 → s.vm.Alike t.vm → post u → B u t → H.size ≤ H1.size → (∀ q : Nat, q < H.size → ¬ A1 q → H1[q]? = H[q]?) → va_S A0 H0 H1 locs1 → W p l e R s m args below meth c H1 locs1 (cells + mc) (slots + ms) Q (F0 m (pc + 3) ls (rest))) : W p l e R s m args below meth c H locs cells slots Q (F0 m pc ls st0) := by
  intro T hT X
  rcases hr T hT X with ⟨v, st₀, t, T', L, h0, X', hL, e1, e2, ⟨⟨u, hv, hp, hb⟩, hF⟩, st⟩ | ⟨q, st₀, t, T', L, E, ce, h0, X', hL, e1, e2, ⟨u, hp, hb, hF⟩, hce, hcv, hcl, st⟩
  · cases hv
    obtain ⟨k1, k2, k3⟩ := vx_keep h0 e1 hS hA hf hL hF
    obtain ⟨t2, a1, b1⟩ := kk u t T'.heap (locs ++ L) e1.symm (by rw [← e2]; exact X'.warmed.alike) hp hb k1 k2 k3 T' rfl X'
    exact ⟨t2, st t2 a1, b1⟩
  · obtain ⟨k1, k2, k3⟩ := vx_keep h0 e1 hS hAX hf hL hF
    obtain ⟨t2, a1, b1⟩ := kx E ce q u t T'.heap (locs ++ L) e1.symm (by rw [← e2]; exact X'.warmed.alike) hp hb k1 k2 k3 (by rw [e1]; exact hce) hcv hcl T' rfl X'
    exact ⟨t2, st.trans a1, b1⟩
/-- caught by the row x of this method's table; the rows ahead don't take it -/
theorem vx_catch {own name : String} {E : String} {ce : Cell} {q : Addr} (hown : s.vm.findClass own = some m.cls) (pre : List ExceptionTableEntry) (x : ExceptionTableEntry) (suf : List ExceptionTableEntry) (hsplit : c.exceptionTable.toList = pre ++ x :: suf)
    (hpass : ∀ z ∈ pre, covers z pc = false ∨ (z.catchType ≠ 0 ∧ ∃ nm : String, (Cond.classLink own z.catchType nm).before args s = true ∧ va_Nc E nm s)) (hx : covers x pc = true) (h0 : x.catchType ≠ 0)
    (hlink : (Cond.classLink own x.catchType name).before args s = true) (hcast : (Cond.castable E name).before args s = true) (hcell : H[q]? = some ce) (hv : ce.vm = .none) (hcl : s.vm.findClass E = some ce.cls)
    (kk : W p l e R s m args below meth c H locs cells slots Q (F0 m x.handlerPc ls [.ref q])) : vx_W p l e R s m args below meth c H locs cells slots Q (F0 m pc ls rest) q := by
  intro T hT X
  have hpl : e.platform.magicAccessors = ({} : Platform).magicAccessors := by rw [X.admits.platform]
  obtain ⟨c3, c4, hc3, hc4, hasg⟩ := Cond.castable_spec hcast
  cases Option.some.inj (hc3.symm.trans hcl)
  obtain ⟨c5, hc5, hcl5⟩ := Cond.classLink_spec hown hlink e.platform hpl
  cases Option.some.inj (hc4.symm.trans hc5)
  have pass : ∀ z ∈ pre, covers z pc = false ∨ (z.catchType ≠ 0 ∧ ∃ c0, s.vm.ClassLinks e.platform m.cls z.catchType c0 ∧ s.vm.assignable ce.cls c0 = false) := fun z hz => by
    rcases hpass z hz with h | ⟨hz0, nm, hl1, hn1⟩
    · exact Or.inl h
    · obtain ⟨c6, hc6, hcl6⟩ := Cond.classLink_spec hown hl1 e.platform hpl
      obtain ⟨a8, b8, h1, h2, h3⟩ := hn1
      cases Option.some.inj (h1.symm.trans hcl)
      cases Option.some.inj (h2.symm.trans hc6)
      exact Or.inr ⟨hz0, _, hcl6, h3⟩
  have there : ∃ k, s.vm.classes[ce.cls]? = some k := by
    obtain ⟨k9, h9, -⟩ := Vm.findClass_spec hcl
    exact ⟨k9, h9⟩
  obtain ⟨vm', X', st⟩ := fh_caught X q (g := F0 m pc ls rest) rfl (by rw [hT]; exact hcell) (fun k h9 => by rw [hv] at h9; cases h9) there (h := x.handlerPc) (by rw [hsplit]; exact fh_pre hx h0 hcl5 hasg pre pass)
  obtain ⟨t, a1, b1⟩ := kk (T.setVm vm') hT X'
  exact ⟨t, st _ a1, b1⟩
end Rows
section Ends
variable {p : Program} {l : Launch} {e : Env} {R : Room} {s : State} {m : MethodId} {args : Array Value} {below : List Frame} {meth : Method} {c : Code} {H : Heap} {locs : List Loc} {cells slots : Nat} {Q : State → Prop}
variable {mc ms : Nat} {free : Addr → Prop} {A0 A1 : Nat → Prop} {H0 : Heap} {a : Array Value} {ls : Array Slot} {st0 rest : List Value}
variable {Qc : Array Value → State → Outcome → State → Prop} {XC : String → State → State → Prop}
/-- what a body that may throw owes at its end -/
def vx_MQ (below : List Frame) (Qc : Array Value → State → Outcome → State → Prop) (XC : String → State → State → Prop) (a : Array Value) (s : State) (mc ms : Nat) (free : Addr → Prop) : State → Prop := fun t =>
  ∃ o, t.status = .running ∧ Ended t below o ∧ vx_Q Qc XC mc ms free a s o t
theorem vx_ret {g : JFrame} {mc ms : Nat} (k : W p l e R s m args below meth c H locs cells slots (MQ below Qc args s mc ms free) g) : W p l e R s m args below meth c H locs cells slots (vx_MQ below Qc XC args s mc ms free) g := by
  intro T hT X
  obtain ⟨t, a1, o, b1, b2, b3, b4⟩ := k T hT X
  exact ⟨t, a1, o, b1, b2, Or.inl ⟨b3, b4⟩⟩
/-- not caught here: it goes on to the caller -/
theorem vx_widen {g : JFrame} {q : Addr} {k n : Nat} (h1 : cells ≤ k) (h2 : slots ≤ n) (kk : vx_W p l e R s m args below meth c H locs k n Q g q) : vx_W p l e R s m args below meth c H locs cells slots Q g q := fun T hT X => kk T hT (stand_widen X h1 h2)
theorem vx_out {pc : Nat} {E : String} {ce : Cell} {q : Addr} {mc ms : Nat} (hout : ∀ x ∈ c.exceptionTable.toList, covers x pc = false) (hlocks : meth.locks = false) (hcell : H[q]? = some ce) (hv : ce.vm = .none) (hcl : s.vm.findClass E = some ce.cls)
    (hx : ∀ t : State, t.heap = H → s.vm.Alike t.vm → XC E s t) (hf : ∀ z ∈ locs, free z.base) (hc : cells ≤ mc) (hs : slots ≤ ms) :
    vx_W p l e R s m args below meth c H locs cells slots (vx_MQ below Qc XC args s mc ms free) (F0 m pc ls rest) q := by
  intro T hT X
  obtain ⟨st1, hrun, hend, hW, hsm⟩ := X.leaveThrown q (g := F0 m pc ls rest) rfl rfl rfl hout hlocks
  have hcell9 : (T.setFrames (.throwing q :: below)).heap[q]? = some ce := by
    show T.heap[q]? = some ce
    rw [hT]; exact hcell
  exact ⟨_, st1, .threw q, hrun, hend, Or.inr ⟨q, rfl, E, ce, locs, hx _ hT hW.alike, hcell9, hv, hcl, hW, hsm.mono hc hs, hf⟩⟩
theorem vx_frame {U : State} {k n : Nat} (h : s.sameButNew ({ U with vm := s.vm } : State) locs k n) : s.heap.size ≤ U.heap.size ∧ ∀ q : Nat, q < s.heap.size → (∀ z ∈ locs, z.base ≠ q) → U.heap[q]? = s.heap[q]? := by
  obtain ⟨-, h2, -, -, -, h6⟩ := h
  refine ⟨h2, fun q hq hz => ?_⟩
  obtain ⟨c9, e1, e2, e3, e4⟩ := h6 q _ (Array.getElem?_eq_getElem hq)
  have hs : c9.slots = (s.heap[q]).slots := Array.ext_getElem? fun i => e4 i fun hm => hz _ hm rfl
  have h9 : c9 = s.heap[q] := by
    rw [hs] at e2
    exact e2
  have e5 : U.heap[q]? = some c9 := e1
  rw [e5, h9, Array.getElem?_eq_getElem hq]
/-- the words of a throw but the four that speak of the heap -/
def vx_no (w : Cond) : Bool := decide (w ≠ .isRef (.static Bundle.tN "UNASSIGNED_STACK" Bundle.steD)) && decide (w ≠ .isRef (.static Bundle.tN "SUPPRESSED_SENTINEL" Bundle.listD)) && decide (w ≠ .laysStatic Bundle.tN "UNASSIGNED_STACK" Bundle.steD) && decide (w ≠ .laysStatic Bundle.tN "SUPPRESSED_SENTINEL" Bundle.listD)
def vx_at0 (own : String) (ic : Nat) (X : String) (names : List String) : List Cond := (Bundle.ownAtoms0 own ic X names).filter vx_no
/-- a word that the tables alone decide, or a good one -/
def vx_ot (w : Cond) : Bool := w.onTables || goodWord w
theorem vx_ot_at {args a' : Array Value} {s U : State} {w : Cond} (hW : s.WarmedH U.vm) (hvm : s.vm = U.vm) (hg : vx_ot w = true) (h : w.before args s = true) : w.before a' U = true := by
  simp only [vx_ot, Bool.or_eq_true] at hg
  rcases hg with hg | hg
  · exact va_tabs hg hvm h
  · exact word_at hW (good_of_word hg) h
/-- a list's words: the good ones out of the method's own list, the others by premises of their own -/
theorem vx_hat {args : Array Value} {s : State} {L B : List Cond} (h1 : ∀ w ∈ L.filter goodWord, w.before args s = true) (h2 : ∀ w ∈ L.filter (fun w => !goodWord w), w ∈ B) (h3 : ∀ w ∈ B, w.before args s = true) : ∀ w ∈ L, w.before args s = true := by
  intro w hw
  by_cases g : goodWord w = true
  · exact h1 w (List.mem_filter.mpr ⟨hw, g⟩)
  · refine h3 w (h2 w (List.mem_filter.mpr ⟨hw, ?_⟩))
    show (!goodWord w) = true
    cases hgw : goodWord w
    · rfl
    · exact absurd hgw g
theorem vx_c {args : Array Value} {s : State} {w : Cond} {B : List Cond} (h : w.before args s = true) (t : ∀ w ∈ B, w.before args s = true) : ∀ w' ∈ w :: B, w'.before args s = true := fun w' h' => (List.mem_cons.mp h').elim (fun e => by rw [e]; exact h) (t w')
theorem vx_n {args : Array Value} {s : State} : ∀ w ∈ ([] : List Cond), w.before args s = true := fun _ h => nomatch h
theorem vx_own {args : Array Value} {s : State} {L : List Cond} (h1 : ∀ w ∈ L.filter vx_no, w.before args s = true)
    (hU : (Cond.isRef (.static Bundle.tN "UNASSIGNED_STACK" Bundle.steD)).before args s = true) (hN : (Cond.isRef (.static Bundle.tN "SUPPRESSED_SENTINEL" Bundle.listD)).before args s = true)
    (lU : (Cond.laysStatic Bundle.tN "UNASSIGNED_STACK" Bundle.steD).before args s = true) (lN : (Cond.laysStatic Bundle.tN "SUPPRESSED_SENTINEL" Bundle.listD).before args s = true) : ∀ w ∈ L, w.before args s = true := by
  intro w hw
  by_cases e1 : w = .isRef (.static Bundle.tN "UNASSIGNED_STACK" Bundle.steD)
  · rw [e1]; exact hU
  · by_cases e2 : w = .isRef (.static Bundle.tN "SUPPRESSED_SENTINEL" Bundle.listD)
    · rw [e2]; exact hN
    · by_cases e3 : w = .laysStatic Bundle.tN "UNASSIGNED_STACK" Bundle.steD
      · rw [e3]; exact lU
      · by_cases e4 : w = .laysStatic Bundle.tN "SUPPRESSED_SENTINEL" Bundle.listD
        · rw [e4]; exact lN
        · exact h1 w (List.mem_filter.mpr ⟨hw, by unfold vx_no; rw [decide_eq_true e1, decide_eq_true e2, decide_eq_true e3, decide_eq_true e4]; rfl⟩)
/-- where a static field lies, its class's statics cell in H -/
def vx_L (C n d : String) (A : Nat → Prop) (U : State) (H : Heap) : Prop := ∃ (c : ClassId) (k : Class) (i : Nat) (f : Field) (a : Nat) (cell : Cell), U.vm.findClass C = some c ∧ U.fieldFound? C n d = some (c, k, i, f) ∧ f.isStatic = true ∧ k.statics = some a ∧ H[a]? = some cell ∧ cell.vm.isStatics = true ∧ cell.cls = c ∧ f.slot < cell.slots.size ∧ k.staticTypes[f.slot]? = some f.type ∧ ¬ A a
theorem vx_L.moved {C n d : String} {A : Nat → Prop} {u U : State} {H : Heap} (hvm : u.vm.Alike U.vm) (h : vx_L C n d A u H) : vx_L C n d A U H := by
  obtain ⟨c, k, i, f, a, cell, h1, h2, h3, h4, h5, h6, h7, h8, h9, h10⟩ := h
  obtain ⟨k', hi', he⟩ := State.fieldFound?_setVm hvm h2
  exact ⟨c, k', i, f, a, cell, by rw [hvm.findClass]; exact h1, hi', h3, by rw [he]; exact h4, h5, h6, h7, h8, by rw [he]; exact h9, h10⟩
theorem vx_L.kept {C n d : String} {A : Nat → Prop} {U : State} {H H1 : Heap} (h : vx_L C n d A U H) (hq : ∀ a : Nat, a < H.size → ¬ A a → H1[a]? = H[a]?) : vx_L C n d A U H1 := by
  obtain ⟨c, k, i, f, a, cell, h1, h2, h3, h4, h5, h6, h7, h8, h9, h10⟩ := h
  exact ⟨c, k, i, f, a, cell, h1, h2, h3, h4, by rw [hq a (Array.getElem?_eq_some_iff.mp h5).1 h10]; exact h5, h6, h7, h8, h9, h10⟩
theorem vx_L.narrow {C n d : String} {A B : Nat → Prop} {U : State} {H : Heap} (h : vx_L C n d A U H) (hAB : ∀ q, B q → A q) : vx_L C n d B U H := by
  obtain ⟨c, k, i, f, a, cell, h1, h2, h3, h4, h5, h6, h7, h8, h9, h10⟩ := h
  exact ⟨c, k, i, f, a, cell, h1, h2, h3, h4, h5, h6, h7, h8, h9, fun z => h10 (hAB _ z)⟩
theorem vx_L.word {C n d : String} {A : Nat → Prop} {s : State} {args : Array Value} (h : vx_L C n d A s s.heap) : (Cond.laysStatic C n d).before args s = true := by
  obtain ⟨c, k, i, f, a, cell, h1, h2, h3, h4, h5, h6, h7, h8, h9, -⟩ := h
  show (Cond.laysStatic C n d).holds args s none s [] = true
  exact Cond.laysStatic_of h1 h2 h3 h4 h5 h6 h7 h8 h9
/-- .. and what it holds: null or some reference -/
def vx_Zq (C n d : String) (A : Nat → Prop) (U : State) (H : Heap) : Prop := va_Zq C n d A U H ∧ vx_L C n d A U H
theorem vx_Zq.moved {C n d : String} {A : Nat → Prop} {u U : State} {H : Heap} (hvm : u.vm.Alike U.vm) (h : vx_Zq C n d A u H) : vx_Zq C n d A U H := ⟨va_Zq.moved hvm h.1, vx_L.moved hvm h.2⟩
theorem vx_Zq.kept {C n d : String} {A : Nat → Prop} {U : State} {H H1 : Heap} (h : vx_Zq C n d A U H) (hq : ∀ a : Nat, a < H.size → ¬ A a → H1[a]? = H[a]?) : vx_Zq C n d A U H1 := ⟨va_Zq.kept h.1 hq, vx_L.kept h.2 hq⟩
theorem vx_Zq.narrow {C n d : String} {A B : Nat → Prop} {U : State} {H : Heap} (h : vx_Zq C n d A U H) (hAB : ∀ q, B q → A q) : vx_Zq C n d B U H := ⟨va_Zq.narrow h.1 hAB, vx_L.narrow h.2 hAB⟩
theorem vx_Zqof {args : Array Value} {s : State} {C n d : String} {A : Nat → Prop} (hl : (Cond.laysStatic C n d).before args s = true) (hini : (Cond.initialized C).before args s = true) (h : (Cond.isRef (.static C n d)).before args s = true) (hA : ∀ a : Nat, a < s.heap.size → ¬ A a) : vx_Zq C n d A s s.heap := by
  refine ⟨va_Zqof hl hini h hA, ?_⟩
  obtain ⟨c, k, i, f, a, cell, h1, h2, h3, h4, h5, h6, h7, h8, h9⟩ := Cond.laysStatic_spec hl
  exact ⟨c, k, i, f, a, cell, h1, h2, h3, h4, h5, h6, h7, h8, h9, hA a (Array.getElem?_eq_some_iff.mp h5).1⟩
theorem vx_isRef {C n d : String} {v : Value} {A : Nat → Prop} {s : State} {args : Array Value} (h : va_Z C n d v A s s.heap) (hv : v.isRef = true) : (Cond.isRef (.static C n d)).before args s = true := by
  obtain ⟨cf, kf, fi, f, a, cell, h1, h2, h3, h4, h5, h6, h7, -⟩ := h
  have he : (Term.static C n d).eval args s none [] s = some v := by
    simp [Term.eval, State.fieldNamed?, h1, h2, h4, h5, h6, h7]
  simp only [Cond.before, Cond.holds, Cond.value, he]
  cases v <;> simp_all [Value.isRef]
theorem vx_isRefq {C n d : String} {A : Nat → Prop} {s : State} {args : Array Value} (h : va_Zq C n d A s s.heap) : (Cond.isRef (.static C n d)).before args s = true := by
  rcases h with h | ⟨t, h⟩
  · exact vx_isRef h rfl
  · exact vx_isRef h rfl
/-- the same frame, seen from here: as if the method were called anew in this heap -/
theorem vx_rebase {T : State} (X : Stand p l e R s m args below meth c T locs cells slots) {R' : Room} (hf : R'.frames ≤ R.frames) (hl : R'.locals ≤ R.locals) (hc : cells + R'.cells ≤ R.cells) (hs : slots + R'.slots ≤ R.slots) :
    Stand p l e R' ((T.setVm s.vm).setFrames (.invoking m args :: below)) m args below meth c T [] 0 0 := by
  have htop : (T.setVm s.vm).topJava?.isSome := X.here.top
  have hF : ((T.setVm s.vm).setFrames (.invoking m args :: below)).frames = .invoking m args :: below := State.frames_setFrames _ (State.cur_lt_of_top htop)
  obtain ⟨g₀, hg0⟩ := Option.isSome_iff_exists.mp htop
  obtain ⟨r, hr⟩ := State.topJava?_eq_some.mp hg0
  have hl9 : e.platform.stackLimits (T.setVm s.vm).me = e.platform.stackLimits s.me := X.limits
  have hb9 : (T.setVm s.vm).me.stackBytes = s.me.stackBytes := X.bytes
  refine ⟨X.admits, X.cas, X.clock, hF, ?_, X.hears, X.method, X.code, X.here, X.tail, X.warmed, ?_, ?_, ?_⟩
  · have h := X.room
    have hU : ((T.setVm s.vm).setFrames (.invoking m args :: below)).localsInUse = s.localsInUse := by
      rw [State.localsInUse_invoking hF (meth := meth) (c := c) X.method X.code, State.localsInUse_invoking X.frames X.method X.code]
    simp only [State.hasRoom, Bool.and_eq_true, decide_eq_true_eq] at h ⊢
    obtain ⟨⟨⟨⟨h1, h2, h3, h4, h5, h6⟩, h7⟩, h8⟩, h9⟩ := h
    rw [X.frames, List.length_cons] at h2 h3
    have q1 := X.heapSize
    have q2 := X.used
    simp only [hF, hU, List.length_cons, State.stackLimits_setFrames, State.stackBytes_setFrames, hl9, hb9]
    refine ⟨⟨⟨⟨by omega, by omega, by omega, by omega, by omega, h6⟩, ?_⟩, ?_⟩, X.book⟩
    · show T.heap.size + R'.cells ≤ e.platform.maxCells
      omega
    · show T.slotsUsed + R'.slots ≤ e.platform.maxSlots
      omega
  · rw [State.stackLimits_setFrames]; rfl
  · rw [State.stackBytes_setFrames]; rfl
  · refine ⟨?_, Nat.le_refl _, Nat.le_refl _, ?_, ?_, fun a c9 h9 => ⟨c9, h9, rfl, rfl, fun _ _ => rfl⟩⟩
    · obtain ⟨t, ht, -⟩ := State.frames_cons hr
      show T.setVm s.vm = { ((T.setVm s.vm).setFrames (.invoking m args :: below)).setFrames (T.setVm s.vm).frames with heap := T.heap, slotsUsed := T.slotsUsed }
      rw [State.setFrames_setFrames, State.setFrames_self ht]
      rfl
    · show T.slotsUsed = T.slotsUsed + ((T.heap.toList.drop T.heap.size).map (·.slots.size)).sum
      rw [List.drop_eq_nil_of_le (Nat.le_of_eq Array.length_toList)]
      rfl
    · show ((T.heap.toList.drop T.heap.size).map (·.slots.size)).sum ≤ 0
      rw [List.drop_eq_nil_of_le (Nat.le_of_eq Array.length_toList)]
      exact Nat.le_refl _
/-- 'throw new E()': new; dup; invokespecial; athrow -/
theorem vx_throw0 {cc : ByteArray} {pc : Nat} (hexec : p.tables.exec = Jvm.exec) (hb : c.code = cc) (hl : l.stackTraces = false) {own cls : String} {names : List String} {ik ic mc ms : Nat} {A : Nat → Prop}
    (hown : s.vm.findClass own = some m.cls) (hcls : Bundle.fit cls = true) (hnames : ∀ n ∈ names, Bundle.fit n = true)
    (hk : (Cond.classLink own ik cls).before args s = true) (hini : (Cond.initialized cls).before args s = true) (hat : ∀ w ∈ vx_at0 own ic cls names, w.before args s = true)
    (hgood : ∀ w ∈ Cond.classLink own ik cls :: Cond.initialized cls :: vx_at0 own ic cls names, vx_ot w = true)
    (hU : vx_Zq Bundle.tN "UNASSIGNED_STACK" Bundle.steD A s s.heap) (hN : vx_Zq Bundle.tN "SUPPRESSED_SENTINEL" Bundle.listD A s s.heap) (hS : va_S A s.heap H locs) (hsize : ls.size = c.maxLocals)
    (d0 : decode cc pc = .ok (.new ik, 3)) (d3 : decode cc (pc + 3) = .ok (.dup, 1)) (d4 : decode cc (pc + 4) = .ok (.invokespecial ic, 3)) (d7 : decode cc (pc + 7) = .ok (.athrow, 1))
    (hout : ∀ x ∈ c.exceptionTable.toList, covers x (pc + 7) = false)
    (hRframes : names.length + 3 < R.frames) (hRlocals : (rest.map fun v => v.category).sum + (13 * (names.length + 1) + 42) ≤ R.locals) (hRcells : cells + 1 ≤ R.cells) (hRslots : slots + 6 ≤ R.slots) (hlocks : meth.locks = false)
    (hx : ∀ t : State, s.vm.Alike t.vm → H.size ≤ t.heap.size → (∀ q : Nat, q < H.size → t.heap[q]? = H[q]?) → XC cls s t)
    (hf : ∀ z ∈ locs, free z.base) (hc : cells + 1 ≤ mc) (hs : slots + 6 ≤ ms) :
    W p l e R s m args below meth c H locs cells slots (vx_MQ below Qc XC args s mc ms free) (F0 m pc ls rest) := by
  intro T hT X
  have htr : e.platform.stackTraces = false := (show e.platform.stackTraces = l.stackTraces by rw [X.admits.platform]).trans hl
  have Y := vx_rebase X (R' := { frames := R.frames, locals := R.locals, cells := 1, slots := 6 }) (Nat.le_refl _) (Nat.le_refl _) hRcells hRslots
  obtain ⟨s', hA⟩ : ∃ z, z = (T.setVm s.vm).setFrames (.invoking m args :: below) := ⟨_, rfl⟩
  rw [← hA] at Y
  have hvm : s'.vm = s.vm := by rw [hA]; rfl
  have hhp : s'.heap = H := by rw [hA]; exact hT
  have hW0 : s.WarmedH s'.vm := by rw [hvm]; exact State.WarmedH.refl s
  have hat' : ∀ w ∈ vx_at0 own ic cls names, w.before args s' = true := fun w hw => vx_ot_at hW0 hvm.symm (hgood w (List.mem_cons_of_mem _ (List.mem_cons_of_mem _ hw))) (hat w hw)
  have hk' : (Cond.classLink own ik cls).before args s' = true := vx_ot_at hW0 hvm.symm (hgood _ List.mem_cons_self) hk
  have hini' : (Cond.initialized cls).before args s' = true := vx_ot_at hW0 hvm.symm (hgood _ (List.mem_cons_of_mem _ List.mem_cons_self)) hini
  have hU' : vx_Zq Bundle.tN "UNASSIGNED_STACK" Bundle.steD A s' s'.heap := by rw [hhp]; exact vx_Zq.moved hW0.alike (hU.kept hS.2.1)
  have hN' : vx_Zq Bundle.tN "SUPPRESSED_SENTINEL" Bundle.listD A s' s'.heap := by rw [hhp]; exact vx_Zq.moved hW0.alike (hN.kept hS.2.1)
  have h : ∀ w ∈ Bundle.ownAtoms0 own ic cls names, w.before args s' = true := vx_own hat' (vx_isRefq hU'.1) (vx_isRefq hN'.1) hU'.2.word hN'.2.word
  have hown' : s'.vm.findClass own = some m.cls := by rw [hvm]; exact hown
  have hins : (Cond.instantiable cls 6).before args s' = true := h _ (by simp [Bundle.ownAtoms0])
  obtain ⟨vm₁, cX, kX, hfX, hkX, -, -, X₁, st1⟩ := Y.newCold hexec (own := own) (C := cls) (index := ik) (n := 6) hown' hk' hins hini'
    (g := F0 m pc ls rest) rfl (by rw [hb]; exact d0) (Nat.le_refl _) (Nat.le_refl _)
  generalize hT1 : (T.setVm vm₁).pushCell { cls := cX, slots := kX.instanceTypes.map defaultValue, vm := .none } = T1 at X₁ st1
  have hcat : (Value.ref T.heap.size).category = 1 := rfl
  have hcellA : T1.heap[T.heap.size]? = some (freshCell cX kX) := by rw [← hT1]; exact State.heap_pushCell_size _ _
  have d3' : decode c.code (pc + 3) = .ok (.dup, 1) := by rw [hb]; exact d3
  obtain ⟨U, hsteps, hrun, hend, hW, hsame, ce, hce, hO⟩ := X₁.ctorThrow0 hexec htr (own := own) (cls := cls) (names := names) (ic := ic) hown' hcls hnames h (fun x hx => nomatch hx) hfX hkX hcellA (by rw [hhp, hT]; exact Nat.le_refl _)
    (g := { method := m, pc := pc + 4, locals := ls, stack := .ref T.heap.size :: .ref T.heap.size :: rest, locked := none }) rfl hsize rfl rfl (rest := rest) rfl
    (by rw [hb]; exact d4) (by rw [hb]; exact d7) hout hRframes (by simp only [List.map_cons, List.sum_cons, hcat]; omega) hlocks
  obtain ⟨f1, f2⟩ := vx_frame hsame
  rw [hhp] at f1 f2
  have hWs : s.WarmedH U.vm := State.WarmedH.trans hW0 hW
  have hcl : s.vm.findClass cls = some ce.cls := by
    have h9 := hO.cls
    rw [hvm] at h9
    exact h9
  have hall : s.sameButNew ({ U with vm := s.vm } : State) locs mc ms := by
    subst hA
    obtain ⟨e1, e2⟩ := hsame
    rw [State.setFrames_setFrames] at e1
    have h2 : (T.setVm s.vm).sameButNew ({ U with vm := s.vm } : State) [] (0 + 1) (0 + 6) := ⟨e1, e2⟩
    have h3 := X.same.trans h2
    rw [List.append_nil] at h3
    exact h3.mono hc hs
  refine ⟨U, ?_, .threw T.heap.size, hrun, hend, Or.inr ⟨T.heap.size, rfl, cls, ce, locs, hx U hWs.alike f1 (fun q hq => f2 q hq (fun z hz => nomatch hz)), hce, hO.vm, hcl, hWs, hall, hf⟩⟩
  refine st1 _ ?_
  show Steps p.tables e below (T1.setTop { method := m, pc := pc + 3, locals := ls, stack := .ref T.heap.size :: rest, locked := none }) _
  jvm_step X₁.here [X₁.here.top, hexec, d3', Value.category]
  exact hsteps
end Ends
section Bodies
variable {l : Launch}
theorem vx_ofW {y : MethodName} {ws ws' : List Cond} {rm : Room} {Pc : Array Value → State → Prop} {Qc : Array Value → State → Outcome → State → Prop} {XC : String → State → State → Prop} {mc ms : Nat} {free : Addr → Prop} {cc : ByteArray} {maxL : Nat} {ret : Option FieldType}
    (hy : plainName y.cls = true) (hw : ws = Cond.code y cc maxL ret :: ws')
    (body : ∀ p e s m args below meth c s₁, BodyLoose p l y (headSpec ws rm) cc maxL ret e s m args below meth c s₁ → c.maxLocals = maxL → (∀ x ∈ c.exceptionTable.toList, False) → Pc args s →
      W p l e (headSpec ws rm).room s m args below meth c s.heap [] 0 0 (vx_MQ below Qc XC args s mc ms free) (entryFrame m args maxL)) : vx_Met l y ws rm Pc Qc XC mc ms free := by
  refine MetFree.of_bodyS (code := cc) (maxLocals := maxL) (ret := ret) hy ?_ ?_
  · intro args s m h hn
    obtain ⟨meth, c, h1, h2, h3, h4, h5, h6, -, -⟩ := Cond.code_spec hn (atoms_spec (ws := ws) h _ (by rw [hw]; exact List.mem_cons_self))
    exact ⟨meth, c, h1, h2, h3, h4, h5, h6⟩
  · intro p e s m args below meth c s₁ B hml hP _
    have hh0 : s₁.heap = s.heap := by rw [B.state]; rfl
    have ht : ∀ x ∈ c.exceptionTable.toList, False := by
      obtain ⟨meth9, c9, h1, h2, -, -, -, -, h7, -⟩ := Cond.code_spec B.named (atoms_spec (ws := ws) B.pre _ (by rw [hw]; exact List.mem_cons_self))
      cases Option.some.inj (h1.symm.trans B.method)
      cases Option.some.inj (h2.symm.trans (Stand.of_body B).code)
      intro x hx
      rw [Array.isEmpty_iff.mp h7] at hx
      cases hx
    obtain ⟨t, a1, o, b1, b2, b3⟩ := body p e s m args below meth c s₁ B hml ht hP s₁ hh0 (Stand.of_body B)
    exact ⟨t, o, a1, b1, b2, b3⟩
/-- the table of a body with handlers -/
theorem vx_table {p : Program} {x y : MethodName} {S : Spec} {cc bytes : ByteArray} {maxL maxL' : Nat} {ret ret' : Option FieldType} {e : Env} {s s₁ : State} {m : MethodId} {args : Array Value} {below : List Frame} {meth : Method} {c : Code} {hh : List (Nat × Nat × Nat × Nat)}
    (B : BodyLoose p l y S cc maxL ret e s m args below meth c s₁) (h : (Cond.codeWith y bytes maxL' ret' hh).before args s = true) : c.exceptionTable.toList = tableOf hh := by
  obtain ⟨m9, meth9, c9, hn9, h1, h2, -, -, h6, -⟩ := Cond.codeWith_spec h
  cases Option.some.inj (hn9.symm.trans B.named)
  cases Option.some.inj (h1.symm.trans B.method)
  cases Option.some.inj (h2.symm.trans (Stand.of_body B).code)
  rw [← h6, table_eq]
end Bodies
end VXA
/-! ===== END ===== -/
/-! ===== BEGIN a static call of a method with an exception table ===== -/
section VXS
variable {p : Program} {l : Launch} {e : Env} {R : Room} {s : State} {m : MethodId} {args : Array Value} {below : List Frame} {meth : Method} {c : Code} {T : State} {H : Heap} {locs : List Loc} {cells slots : Nat}
abbrev vx_CSW (R : Room) (s : State) (args : Array Value) (own : String) (index : Nat) (y : MethodName) (bytes : ByteArray) (maxL : Nat) (ret : Option FieldType) (hh : List (Nat × Nat × Nat × Nat)) (ws : List Cond) (rm : Room) (mc ms n : Nat) : Prop :=
  (rm.cells = mc ∧ rm.slots = ms ∧ rm.frames + 1 ≤ R.frames ∧ 8 + (maxL + 11) + rm.locals ≤ R.locals ∧ (∀ w ∈ ws, ∀ (a' : Array Value) (U : State), s.WarmedH U.vm → w.before a' U = true) ∧ Cond.codeWith y bytes maxL ret hh ∈ ws) ∧
  (Cond.codeWith y bytes maxL ret hh).before args s = true ∧ (Cond.initialized y.cls).before args s = true ∧ (y.cls ≠ "java/lang/invoke/MethodHandle" ∧ y.cls ≠ "java/lang/invoke/VarHandle") ∧
  (∀ sig, parseMethodDescriptor y.desc = some sig → n = sig.parameters.length) ∧ (Cond.methodLink own index y).before args s = true ∧ (Cond.static y).before args s = true
theorem vx_cwSW {own : String} {index maxL mc ms : Nat} {y : MethodName} {bytes : ByteArray} {ret : Option FieldType} {hh : List (Nat × Nat × Nat × Nat)} {Ts ws ws' : List Cond} {rm : Room} (n : Nat) (ht : ∀ w ∈ Ts, w.before args s = true) (hT : GoodIn Ts (va_wsS own index y ws)) (hw : ws = Cond.codeWith y bytes maxL ret hh :: ws') (hrc : rm.cells = mc) (hrs : rm.slots = ms)
    (hd : y.cls ≠ "java/lang/invoke/MethodHandle" ∧ y.cls ≠ "java/lang/invoke/VarHandle" ∧ (parseMethodDescriptor y.desc).map (fun d => d.parameters.length) = some n) (hR : rm.frames + 1 ≤ R.frames ∧ 8 + (maxL + 11) + rm.locals ≤ R.locals) :
    vx_CSW R s args own index y bytes maxL ret hh ws rm mc ms n := by
  have ok : ∀ w ∈ va_wsS own index y ws, w.before args s = true := fun w h => ht w (hT w h).1
  have hG : GoodIn Ts ws := fun w h => hT w (by unfold va_wsS; exact List.mem_append_right _ h)
  have hc : Cond.codeWith y bytes maxL ret hh ∈ ws := by rw [hw]; exact List.mem_cons_self
  refine ⟨⟨hrc, hrs, hR.1, hR.2, pay_in ht hG, hc⟩, ht _ (hG _ hc).1, ok _ (by simp [va_wsS]), ⟨hd.1, hd.2.1⟩, fun sig h => ?_, ok _ (by simp [va_wsS]), ok _ (by simp [va_wsS])⟩
  have h2 := hd.2.2
  rw [h] at h2
  exact (Option.some.inj h2).symm
theorem vx_callSW (X : Stand p l e R s m args below meth c T locs cells slots) (hexec : p.tables.exec = Jvm.exec) {own : String} {index : Nat} {y : MethodName} {bytes : ByteArray} {maxL : Nat} {ret : Option FieldType} {hh : List (Nat × Nat × Nat × Nat)}
    (hown : s.vm.findClass own = some m.cls) (hlink : (Cond.methodLink own index y).before args s = true) (hstat : (Cond.static y).before args s = true) (hinit : (Cond.initialized y.cls).before args s = true)
    (hcode : (Cond.codeWith y bytes maxL ret hh).before args s = true) (hy : y.cls ≠ "java/lang/invoke/MethodHandle" ∧ y.cls ≠ "java/lang/invoke/VarHandle")
    {W9 : Nat} {Pre : Pt → Array Value → Prop} {Post : Pt → Array Value → Option Value → Pt → Prop} (hK : Back l R p e below s args y 3 W9 Pre Post)
    {g : JFrame} (hg : g.method = m) (hsize : g.locals.size = c.maxLocals) {argsL rest : List Value} (hlen : ∀ sig, parseMethodDescriptor y.desc = some sig → argsL.length = sig.parameters.length)
    (hstack : g.stack = argsL.reverse ++ rest) (hW : 2 * g.monitorRoom + (rest.map fun v => v.category).sum ≤ W9) (hdg : decode c.code g.pc = .ok (.invokestatic index, 3))
    (hpre : ∀ vm₁, s.WarmedH vm₁ → Pre ⟨T.setVm vm₁, locs, cells, slots⟩ argsL.toArray) :
    ∃ (v : Option Value) (vm₁ : Vm) (B : Pt), s.WarmedH vm₁ ∧ Stand p l e R s m args below meth c B.U B.locs B.cells B.slots ∧ Post ⟨T.setVm vm₁, locs, cells, slots⟩ argsL.toArray v B ∧
      ∀ target, Steps p.tables e below (B.U.setTop { g with pc := g.pc + 3, stack := v.toList ++ rest }) target → Steps p.tables e below (T.setTop g) target := by
  obtain ⟨mk, methM, cM, hnamed, hmethM, -, -, -, -, -, -, hsigM⟩ := Cond.codeWith_spec hcode
  have hstatic : methM.isStatic = true := Cond.static_spec hnamed hmethM hstat
  obtain ⟨kP, hkP, -⟩ := className_of_methodNamed hnamed
  have hinitP : kP.init = .initialized := Cond.initialized_spec (findClass_of_methodNamed hnamed) hkP hinit
  obtain ⟨vm₁, X₁, hstep₁⟩ := X.invokestatic hexec hown hlink hnamed hmethM hstatic hkP hinitP hy (g := g) hg (argsL := argsL) (rest := rest) (hlen _ hsigM) hstack hdg
  obtain ⟨v, B, X', hpost, hsteps⟩ := hK m meth c ⟨T.setVm vm₁, locs, cells, slots⟩ { g with stack := rest } (.invokestatic index) mk argsL.toArray X₁ hg hsize hdg hW (X₁.named hnamed) (hpre vm₁ X₁.warmed)
  exact ⟨v, vm₁, B, X₁.warmed, X', hpost, fun target h => hstep₁ _ fun acts => by rw [doInvoke_state]; exact hsteps.trans h⟩
theorem vx_runSW {y : MethodName} {bytes cc : ByteArray} {maxL nL mc ms n index : Nat} {ret : Option FieldType} {hh : List (Nat × Nat × Nat × Nat)} {ws : List Cond} {rm : Room} {Pc : Array Value → State → Prop} {Qc : Array Value → State → Outcome → State → Prop} {free : Addr → Prop} {Ts : List Cond} {own : String} {As rest : List Value} {g : JFrame}
    (S : CallFix p m c cc nL s args Ts own) (hM : Met l y ws rm Pc Qc mc ms free) (cw : vx_CSW R s args own index y bytes maxL ret hh ws rm mc ms n) (hp : PreS s H Pc As)
    (hg : g.method = m) (hn : As.length = n) (hsize : g.locals.size = nL) (hstack : g.stack = As.reverse ++ rest) (hW : 2 * g.monitorRoom + (rest.map fun v => v.category).sum ≤ 8) (hdg : decode cc g.pc = .ok (.invokestatic index, 3)) (hf : cells + mc ≤ R.cells ∧ slots + ms ≤ R.slots) :
    va_Run p l e R s m args below meth c H locs cells slots mc ms g rest (Qc As.toArray) (free) := by
  obtain ⟨⟨hrc, hrs, hfr, hlo, hws, hcw⟩, hcode, hini, hy, hlen, hl, hstt⟩ := cw
  have hK : Back l R p e below s args y 3 8 (PreOf R mc ms Pc) (PostOf Qc mc ms free) := va_backW (hh := hh) (bytes := bytes) (maxL := maxL) (ret := ret) hM hp.1 hrc hrs hfr hlo hws hcw (fun a' U hW => word_at hW (Or.inl (by first | rfl | simp [Cond.onTables, Cond.keeps, Cond.steady])) hini)
  obtain ⟨hx, hb, hml, ho, -⟩ := S
  intro T hT X
  obtain ⟨v, vm₁, ⟨U', l2, c2, s2⟩, hW₁, X', ⟨g', mk, t, L, e1, e2, hq, h1, hL, h2, h3⟩, st⟩ := vx_callSW X hx (hh := hh) (bytes := bytes) (maxL := maxL) (ret := ret) ho hl hstt hini hcode hy hK hg (hsize.trans hml.symm) (argsL := As) (rest := rest) (fun sig h => hn.trans (hlen sig h)) hstack hW (by rw [hb]; exact hdg)
    (fun vm₁ hW₁ => ⟨hf.1, hf.2, hp.2 (T.setVm vm₁) hT hW₁⟩)
  dsimp only [Pt.U, Pt.locs, Pt.cells, Pt.slots] at X' e1 e2 h1 h2 h3 st
  subst h1; subst h2; subst h3
  exact ⟨v, (T.setVm vm₁).calling g' mk As.toArray, t, U', L, hT, X', hL, e1, e2, hq, st⟩
/-- a thing of a world lies in the heap -/
theorem vx_lt {D : va_G} {cl : List vw_C} {ws : va_W} {H1 : Heap} (h : va_P D cl ws H1) {k : Nat} {q : Nat × va_E} (hk : ws[k]? = some q) : q.1 < H1.size := (h k q hk).lt
end VXS
/-! ===== END ===== -/
/-! ===== BEGIN methods with a table of their own: called by a name, returning or throwing ===== -/
section VXH
/-! vx_backW, vx_callVX, vx_callSX, vx_callVW, vx_runVW, vx_runVX, vx_runSX, vx_ofWH follow the same proofs as their sisters above (Free/Laws.lean, Shelf42/LK1.lean); vx_outP calls Shelf42/NT130.lean (outThrough). -/
section
variable {l : Launch} {R : Room} {p : Program} {e : Env} {below : List Frame} {s : State} {sargs : Array Value} {y : MethodName} {len W9 : Nat}
theorem vx_backW {ws : List Cond} {rm : Room} {Pc : Array Value → State → Prop} {Qc : Array Value → State → Outcome → State → Prop} {XC : String → State → State → Prop} {mc ms : Nat} {free : Addr → Prop} {bytes : ByteArray} {maxL : Nat} {ret : Option FieldType} {hh : List (Nat × Nat × Nat × Nat)}
    (hM : vx_Met l y ws rm Pc Qc XC mc ms free) (hblind : FrameBlind Pc) (hrc : rm.cells = mc) (hrs : rm.slots = ms)
    (hframes : rm.frames + 1 ≤ R.frames) (hlocals : W9 + (maxL + 11) + rm.locals ≤ R.locals)
    (hws : ∀ w ∈ ws, ∀ a' U, s.WarmedH U.vm → w.before a' U = true) (hcode : Cond.codeWith y bytes maxL ret hh ∈ ws) (hinit : ∀ a' U, s.WarmedH U.vm → (Cond.initialized y.cls).before a' U = true) :
    vx_Back l R p e below s sargs y len W9 (PreOf R mc ms Pc) (PostOf Qc mc ms free) (vx_Post XC mc ms free) := by
  intro m meth c A g ig mk a X hg hsize hdg hW hn hp
  have h1 : (headSpec ws rm).pre.before a A.U = true := atoms_intro fun w hw => hws w hw _ _ X.warmed
  have h2 : (Cond.codeWith y bytes maxL ret hh).before a A.U = true := hws _ hcode _ _ X.warmed
  have h3 : (Cond.initialized y.cls).before a A.U = true := hinit _ _ X.warmed
  have h4 : A.cells + (headSpec ws rm).room.cells ≤ R.cells := by rw [show (headSpec ws rm).room.cells = mc from hrc]; exact hp.1
  have h5 : A.slots + (headSpec ws rm).room.slots ≤ R.slots := by rw [show (headSpec ws rm).room.slots = ms from hrs]; exact hp.2.1
  have hPc : Pc a (A.U.calling g mk a) := hblind _ _ _ _ hp.2.2
  obtain ⟨U, Ls, c0, s0⟩ := A
  dsimp only [Pt.U, Pt.locs, Pt.cells, Pt.slots] at h1 h2 h3 h4 h5 X hn hPc ⊢
  obtain ⟨m9, methY, cY, hn9, hmY, hcY, -, hlY, -⟩ := Cond.codeWith_spec h2
  cases Option.some.inj (hn9.symm.trans hn)
  obtain ⟨kY, hkY, -⟩ := className_of_methodNamed hn
  have hinitY : kY.init = .initialized := Cond.initialized_spec (findClass_of_methodNamed hn) hkY h3
  have h : At U g.method c below := by rw [hg]; exact X.here
  have hlocals9 : W9 + (maxL + 11) + (headSpec ws rm).room.locals ≤ R.locals := hlocals
  have happ : (headSpec ws rm).appliesLoose y e.platform (U.calling g mk a) = true :=
    Spec.appliesLoose_calling (g := g) h hdg hn hkY hinitY
      (X.room_calling (g := g) (R' := (headSpec ws rm).room) hsize hmY hcY hframes (by rw [hlY]; omega) h4 h5) h1
  obtain ⟨mid, hmid⟩ := h.above
  have hfr : (U.setTop g).frames = (.java g :: mid) ++ below := by rw [State.frames_setTop' g h.top, hmid]; rfl
  obtain ⟨o, s₂, hsteps, -, hend, hq⟩ := Steps.callFree hM p X.admits X.cas X.clock (acts := []) hfr happ hPc trivial
  have hq' : vx_Q Qc XC mc ms free a (U.calling g mk a) o s₂ := hq
  rw [State.frames_setTop' g h.top] at hend
  obtain ⟨g₀, hg0⟩ := Option.isSome_iff_exists.mp h.top
  obtain ⟨r, hr⟩ := State.topJava?_eq_some.mp hg0
  have hr' : (({ U with heap := s₂.heap, slotsUsed := s₂.slotsUsed } : State).setVm s₂.vm).frames = .java g₀ :: r := hr
  rcases hq' with ⟨hqc, L, hfe, hL⟩ | ⟨q, rfl, E, ce, L, hx, hce, hcv, hcl, hW₂, hsm, hL⟩
  · obtain ⟨⟨v, rfl⟩, hW₂, e2, q2, q3, q4, q5, q6⟩ := id hfe
    have e3 : s₂ = ({ (U.calling g mk a).setFrames s₂.frames with heap := s₂.heap, slotsUsed := s₂.slotsUsed } : State).setVm s₂.vm := by
      have : s₂ = ({ s₂ with vm := (U.calling g mk a).vm } : State).setVm s₂.vm := rfl
      rw [e2] at this
      exact this
    obtain ⟨c₂, i₂, len₂, hc₂, hd₂, hf₂⟩ := hend
    have hW' : U.WarmedH s₂.vm := hW₂
    have hcc : c₂ = c := by
      have h1 : s₂.code? g.method = U.code? g.method := by
        rw [State.code?_eq, State.code?_eq, hW'.alike.method?]
      exact Option.some.inj (hc₂.symm.trans (h1.trans h.code))
    subst hcc
    have hlen : len₂ = len := by rw [hdg] at hd₂; cases hd₂; rfl
    subst hlen
    have hs₂ : s₂ = (({ U with heap := s₂.heap, slotsUsed := s₂.slotsUsed } : State).setVm s₂.vm).setTop { g with pc := g.pc + len₂, stack := v.toList ++ g.stack } := by
      refine e3.trans ?_
      rw [hf₂, State.calling_eq h.top, State.setFrames_setFrames, State.setTop_of_frames _ hr', hr]
      rfl
    have hsame : U.sameButNew ({ U with heap := s₂.heap, slotsUsed := s₂.slotsUsed } : State) L mc ms := by
      refine ⟨?_, q2, q3, q4, q5, q6⟩
      obtain ⟨t, ht, -⟩ := State.frames_cons hr
      show ({ U with heap := s₂.heap, slotsUsed := s₂.slotsUsed } : State) = { U.setFrames U.frames with heap := s₂.heap, slotsUsed := s₂.slotsUsed }
      rw [State.setFrames_self ht]
    subst hg
    refine Or.inl ⟨v, ⟨(({ U with heap := s₂.heap, slotsUsed := s₂.slotsUsed } : State).setVm s₂.vm), Ls ++ L, c0 + mc, s0 + ms⟩,
      ⟨X.admits, X.cas, X.clock, X.frames, X.room, X.hears, X.method, X.code, (X.here.setHeapUsed s₂.heap s₂.slotsUsed).setVm hW'.alike, X.tail, State.WarmedH.trans X.warmed hW', X.limits, X.bytes, X.same.trans (hsame.setVm s.vm)⟩,
      ⟨g, mk, s₂, L, rfl, rfl, hqc, rfl, hL, rfl, rfl⟩, ?_⟩
    show Steps p.tables e below _ ((({ U with heap := s₂.heap, slotsUsed := s₂.slotsUsed } : State).setVm s₂.vm).setTop { g with pc := g.pc + len₂, stack := v.toList ++ g.stack })
    rw [← hs₂]
    exact hsteps
  · obtain ⟨e2, q2, q3, q4, q5, q6⟩ := id hsm
    have e3 : s₂ = ({ (U.calling g mk a).setFrames s₂.frames with heap := s₂.heap, slotsUsed := s₂.slotsUsed } : State).setVm s₂.vm := by
      have : s₂ = ({ s₂ with vm := (U.calling g mk a).vm } : State).setVm s₂.vm := rfl
      rw [e2] at this
      exact this
    have hf₂ : s₂.frames = .throwing q :: .java g :: U.frames.tail := hend
    have hW' : U.WarmedH s₂.vm := hW₂
    have hs₂ : s₂ = ((({ U with heap := s₂.heap, slotsUsed := s₂.slotsUsed } : State).setVm s₂.vm).setTop g).pushFrame (.throwing q) := by
      refine e3.trans ?_
      rw [hf₂, State.calling_eq h.top, State.setFrames_setFrames, State.pushFrame, State.frames_setTop _ hr', State.setTop_of_frames _ hr', State.setFrames_setFrames, hr]
      rfl
    have hsame : U.sameButNew ({ U with heap := s₂.heap, slotsUsed := s₂.slotsUsed } : State) L mc ms := by
      refine ⟨?_, q2, q3, q4, q5, q6⟩
      obtain ⟨t, ht, -⟩ := State.frames_cons hr
      show ({ U with heap := s₂.heap, slotsUsed := s₂.slotsUsed } : State) = { U.setFrames U.frames with heap := s₂.heap, slotsUsed := s₂.slotsUsed }
      rw [State.setFrames_self ht]
    subst hg
    refine Or.inr ⟨q, ⟨(({ U with heap := s₂.heap, slotsUsed := s₂.slotsUsed } : State).setVm s₂.vm), Ls ++ L, c0 + mc, s0 + ms⟩,
      ⟨X.admits, X.cas, X.clock, X.frames, X.room, X.hears, X.method, X.code, (X.here.setHeapUsed s₂.heap s₂.slotsUsed).setVm hW'.alike, X.tail, State.WarmedH.trans X.warmed hW', X.limits, X.bytes, X.same.trans (hsame.setVm s.vm)⟩,
      ⟨g, mk, s₂, L, E, ce, rfl, rfl, hx, hce, hcv, hcl, rfl, hL, rfl, rfl⟩, ?_⟩
    show Steps p.tables e below _ (((({ U with heap := s₂.heap, slotsUsed := s₂.slotsUsed } : State).setVm s₂.vm).setTop g).pushFrame (.throwing q))
    rw [← hs₂]
    exact hsteps
end
variable {p : Program} {l : Launch} {e : Env} {R : Room} {s : State} {m : MethodId} {args : Array Value} {below : List Frame} {meth : Method} {c : Code} {T : State} {H : Heap} {locs : List Loc} {cells slots : Nat}
theorem vx_callVX (X : Stand p l e R s m args below meth c T locs cells slots) (hexec : p.tables.exec = Jvm.exec) {own C : String} {index : Nat} {y : MethodName} {bytes : ByteArray} {maxL : Nat} {ret : Option FieldType} {hh : List (Nat × Nat × Nat × Nat)}
    (hown : s.vm.findClass own = some m.cls) (hlink : (Cond.methodLink own index y).before args s = true) (hinst : (Cond.instanceMethod y).before args s = true) (hsel : (Cond.selects C y y).before args s = true)
    (hcode : (Cond.codeWith y bytes maxL ret hh).before args s = true) (hy : y.cls ≠ "java/lang/invoke/MethodHandle" ∧ y.cls ≠ "java/lang/invoke/VarHandle")
    {W9 : Nat} {Pre : Pt → Array Value → Prop} {Post : Pt → Array Value → Option Value → Pt → Prop} {PostX : Pt → Array Value → Addr → Pt → Prop} (hK : vx_Back l R p e below s args y 3 W9 Pre Post PostX)
    {b : Addr} {cellB : Cell} (hcell : T.heap[b]? = some cellB) (hobj : cellB.vm.isStatics = false) (hcls : s.vm.findClass C = some cellB.cls)
    {g : JFrame} (hg : g.method = m) (hsize : g.locals.size = c.maxLocals) {argsL rest : List Value} (hlen : ∀ sig, parseMethodDescriptor y.desc = some sig → argsL.length = sig.parameters.length)
    (hstack : g.stack = argsL.reverse ++ .ref b :: rest) (hW : 2 * g.monitorRoom + (rest.map fun v => v.category).sum ≤ W9) (hdg : decode c.code g.pc = .ok (.invokevirtual index, 3))
    (hpre : ∀ vm₁, s.WarmedH vm₁ → Pre ⟨T.setVm vm₁, locs, cells, slots⟩ (Value.ref b :: argsL).toArray) :
    (∃ (v : Option Value) (vm₁ : Vm) (B : Pt), s.WarmedH vm₁ ∧ Stand p l e R s m args below meth c B.U B.locs B.cells B.slots ∧ Post ⟨T.setVm vm₁, locs, cells, slots⟩ (Value.ref b :: argsL).toArray v B ∧
      ∀ target, Steps p.tables e below (B.U.setTop { g with pc := g.pc + 3, stack := v.toList ++ rest }) target → Steps p.tables e below (T.setTop g) target) ∨
    (∃ (q : Addr) (vm₁ : Vm) (B : Pt), s.WarmedH vm₁ ∧ Stand p l e R s m args below meth c B.U B.locs B.cells B.slots ∧ PostX ⟨T.setVm vm₁, locs, cells, slots⟩ (Value.ref b :: argsL).toArray q B ∧
      Steps p.tables e below (T.setTop g) ((B.U.setTop { g with stack := rest }).pushFrame (.throwing q))) := by
  obtain ⟨mk, methM, hnamed, hmethM, hstM, habM⟩ := Cond.instanceMethod_spec hinst
  obtain ⟨m8, methM', cM, hn8, hmethM', -, -, -, -, -, -, hsigM⟩ := Cond.codeWith_spec hcode
  cases Option.some.inj (hn8.symm.trans hnamed)
  cases hmethM.symm.trans hmethM'
  obtain ⟨c2, r2, m2, q1, q2, q3, q4, kP, hkP, hkPi⟩ := Cond.selects_spec hsel
  cases hcls.symm.trans q1
  cases (State.methodFound?_of_named hnamed hy).symm.trans q2
  cases hnamed.symm.trans q3
  have hselP : selectMethod e.platform s.vm cellB.cls mk = .method mk := by rw [Launch.admits_selectMethod X.admits]; exact q4
  obtain ⟨vm₁, X₁, hstep₁⟩ := X.invokevirtual hexec hown hlink hnamed hmethM hstM hkP hkPi hy (a := b) (cell := cellB) hcell
    (fun z h => by rw [h] at hobj; cases hobj) hselP hmethM habM hkP hkPi (g := g) hg (argsL := argsL) (rest := rest) (hlen _ hsigM) hstack hdg
  rcases hK m meth c ⟨T.setVm vm₁, locs, cells, slots⟩ { g with stack := rest } (.invokevirtual index) mk (Value.ref b :: argsL).toArray X₁ hg hsize hdg hW (X₁.named hnamed) (hpre vm₁ X₁.warmed) with ⟨v, B, X', hpost, hsteps⟩ | ⟨q, B, X', hpost, hsteps⟩
  · exact Or.inl ⟨v, vm₁, B, X₁.warmed, X', hpost, fun target h => hstep₁ _ fun acts => by rw [doInvoke_state]; exact hsteps.trans h⟩
  · exact Or.inr ⟨q, vm₁, B, X₁.warmed, X', hpost, hstep₁ _ fun acts => by rw [doInvoke_state]; exact hsteps⟩
theorem vx_callSX (X : Stand p l e R s m args below meth c T locs cells slots) (hexec : p.tables.exec = Jvm.exec) {own : String} {index : Nat} {y : MethodName} {bytes : ByteArray} {maxL : Nat} {ret : Option FieldType} {hh : List (Nat × Nat × Nat × Nat)}
    (hown : s.vm.findClass own = some m.cls) (hlink : (Cond.methodLink own index y).before args s = true) (hstat : (Cond.static y).before args s = true) (hinit : (Cond.initialized y.cls).before args s = true)
    (hcode : (Cond.codeWith y bytes maxL ret hh).before args s = true) (hy : y.cls ≠ "java/lang/invoke/MethodHandle" ∧ y.cls ≠ "java/lang/invoke/VarHandle")
    {W9 : Nat} {Pre : Pt → Array Value → Prop} {Post : Pt → Array Value → Option Value → Pt → Prop} {PostX : Pt → Array Value → Addr → Pt → Prop} (hK : vx_Back l R p e below s args y 3 W9 Pre Post PostX)
    {g : JFrame} (hg : g.method = m) (hsize : g.locals.size = c.maxLocals) {argsL rest : List Value} (hlen : ∀ sig, parseMethodDescriptor y.desc = some sig → argsL.length = sig.parameters.length)
    (hstack : g.stack = argsL.reverse ++ rest) (hW : 2 * g.monitorRoom + (rest.map fun v => v.category).sum ≤ W9) (hdg : decode c.code g.pc = .ok (.invokestatic index, 3))
    (hpre : ∀ vm₁, s.WarmedH vm₁ → Pre ⟨T.setVm vm₁, locs, cells, slots⟩ argsL.toArray) :
    (∃ (v : Option Value) (vm₁ : Vm) (B : Pt), s.WarmedH vm₁ ∧ Stand p l e R s m args below meth c B.U B.locs B.cells B.slots ∧ Post ⟨T.setVm vm₁, locs, cells, slots⟩ argsL.toArray v B ∧
      ∀ target, Steps p.tables e below (B.U.setTop { g with pc := g.pc + 3, stack := v.toList ++ rest }) target → Steps p.tables e below (T.setTop g) target) ∨
    (∃ (q : Addr) (vm₁ : Vm) (B : Pt), s.WarmedH vm₁ ∧ Stand p l e R s m args below meth c B.U B.locs B.cells B.slots ∧ PostX ⟨T.setVm vm₁, locs, cells, slots⟩ argsL.toArray q B ∧
      Steps p.tables e below (T.setTop g) ((B.U.setTop { g with stack := rest }).pushFrame (.throwing q))) := by
  obtain ⟨mk, methM, cM, hnamed, hmethM, -, -, -, -, -, -, hsigM⟩ := Cond.codeWith_spec hcode
  have hstatic : methM.isStatic = true := Cond.static_spec hnamed hmethM hstat
  obtain ⟨kP, hkP, -⟩ := className_of_methodNamed hnamed
  have hinitP : kP.init = .initialized := Cond.initialized_spec (findClass_of_methodNamed hnamed) hkP hinit
  obtain ⟨vm₁, X₁, hstep₁⟩ := X.invokestatic hexec hown hlink hnamed hmethM hstatic hkP hinitP hy (g := g) hg (argsL := argsL) (rest := rest) (hlen _ hsigM) hstack hdg
  rcases hK m meth c ⟨T.setVm vm₁, locs, cells, slots⟩ { g with stack := rest } (.invokestatic index) mk argsL.toArray X₁ hg hsize hdg hW (X₁.named hnamed) (hpre vm₁ X₁.warmed) with ⟨v, B, X', hpost, hsteps⟩ | ⟨q, B, X', hpost, hsteps⟩
  · exact Or.inl ⟨v, vm₁, B, X₁.warmed, X', hpost, fun target h => hstep₁ _ fun acts => by rw [doInvoke_state]; exact hsteps.trans h⟩
  · exact Or.inr ⟨q, vm₁, B, X₁.warmed, X', hpost, hstep₁ _ fun acts => by rw [doInvoke_state]; exact hsteps⟩
theorem vx_callVW (X : Stand p l e R s m args below meth c T locs cells slots) (hexec : p.tables.exec = Jvm.exec) {own C : String} {index : Nat} {y : MethodName} {bytes : ByteArray} {maxL : Nat} {ret : Option FieldType} {hh : List (Nat × Nat × Nat × Nat)}
    (hown : s.vm.findClass own = some m.cls) (hlink : (Cond.methodLink own index y).before args s = true) (hinst : (Cond.instanceMethod y).before args s = true) (hsel : (Cond.selects C y y).before args s = true)
    (hcode : (Cond.codeWith y bytes maxL ret hh).before args s = true) (hy : y.cls ≠ "java/lang/invoke/MethodHandle" ∧ y.cls ≠ "java/lang/invoke/VarHandle")
    {W9 : Nat} {Pre : Pt → Array Value → Prop} {Post : Pt → Array Value → Option Value → Pt → Prop} (hK : Back l R p e below s args y 3 W9 Pre Post)
    {b : Addr} {cellB : Cell} (hcell : T.heap[b]? = some cellB) (hobj : cellB.vm.isStatics = false) (hcls : s.vm.findClass C = some cellB.cls)
    {g : JFrame} (hg : g.method = m) (hsize : g.locals.size = c.maxLocals) {argsL rest : List Value} (hlen : ∀ sig, parseMethodDescriptor y.desc = some sig → argsL.length = sig.parameters.length)
    (hstack : g.stack = argsL.reverse ++ .ref b :: rest) (hW : 2 * g.monitorRoom + (rest.map fun v => v.category).sum ≤ W9) (hdg : decode c.code g.pc = .ok (.invokevirtual index, 3))
    (hpre : ∀ vm₁, s.WarmedH vm₁ → Pre ⟨T.setVm vm₁, locs, cells, slots⟩ (Value.ref b :: argsL).toArray) :
    ∃ (v : Option Value) (vm₁ : Vm) (B : Pt), s.WarmedH vm₁ ∧ Stand p l e R s m args below meth c B.U B.locs B.cells B.slots ∧ Post ⟨T.setVm vm₁, locs, cells, slots⟩ (Value.ref b :: argsL).toArray v B ∧
      ∀ target, Steps p.tables e below (B.U.setTop { g with pc := g.pc + 3, stack := v.toList ++ rest }) target → Steps p.tables e below (T.setTop g) target := by
  obtain ⟨mk, methM, hnamed, hmethM, hstM, habM⟩ := Cond.instanceMethod_spec hinst
  obtain ⟨m8, methM', cM, hn8, hmethM', -, -, -, -, -, -, hsigM⟩ := Cond.codeWith_spec hcode
  cases Option.some.inj (hn8.symm.trans hnamed)
  cases hmethM.symm.trans hmethM'
  obtain ⟨c2, r2, m2, q1, q2, q3, q4, kP, hkP, hkPi⟩ := Cond.selects_spec hsel
  cases hcls.symm.trans q1
  cases (State.methodFound?_of_named hnamed hy).symm.trans q2
  cases hnamed.symm.trans q3
  have hselP : selectMethod e.platform s.vm cellB.cls mk = .method mk := by rw [Launch.admits_selectMethod X.admits]; exact q4
  obtain ⟨vm₁, X₁, hstep₁⟩ := X.invokevirtual hexec hown hlink hnamed hmethM hstM hkP hkPi hy (a := b) (cell := cellB) hcell
    (fun z h => by rw [h] at hobj; cases hobj) hselP hmethM habM hkP hkPi (g := g) hg (argsL := argsL) (rest := rest) (hlen _ hsigM) hstack hdg
  obtain ⟨v, B, X', hpost, hsteps⟩ := hK m meth c ⟨T.setVm vm₁, locs, cells, slots⟩ { g with stack := rest } (.invokevirtual index) mk (Value.ref b :: argsL).toArray X₁ hg hsize hdg hW (X₁.named hnamed) (hpre vm₁ X₁.warmed)
  exact ⟨v, vm₁, B, X₁.warmed, X', hpost, fun target h => hstep₁ _ fun acts => by rw [doInvoke_state]; exact hsteps.trans h⟩
abbrev vx_CVW (R : Room) (s : State) (args : Array Value) (own C : String) (index : Nat) (y : MethodName) (bytes : ByteArray) (maxL : Nat) (ret : Option FieldType) (hh : List (Nat × Nat × Nat × Nat)) (ws : List Cond) (rm : Room) (mc ms n : Nat) : Prop :=
  (rm.cells = mc ∧ rm.slots = ms ∧ rm.frames + 1 ≤ R.frames ∧ 8 + (maxL + 11) + rm.locals ≤ R.locals ∧ (∀ w ∈ ws, ∀ (a' : Array Value) (U : State), s.WarmedH U.vm → w.before a' U = true) ∧ Cond.codeWith y bytes maxL ret hh ∈ ws) ∧
  (Cond.codeWith y bytes maxL ret hh).before args s = true ∧ (Cond.initialized y.cls).before args s = true ∧ (y.cls ≠ "java/lang/invoke/MethodHandle" ∧ y.cls ≠ "java/lang/invoke/VarHandle") ∧
  (∀ sig, parseMethodDescriptor y.desc = some sig → n = sig.parameters.length) ∧ (Cond.methodLink own index y).before args s = true ∧ (Cond.instanceMethod y).before args s = true ∧ (Cond.selects C y y).before args s = true
theorem vx_cwVW {own C : String} {index maxL mc ms : Nat} {y : MethodName} {bytes : ByteArray} {ret : Option FieldType} {hh : List (Nat × Nat × Nat × Nat)} {Ts ws ws' : List Cond} {rm : Room} (n : Nat) (ht : ∀ w ∈ Ts, w.before args s = true) (hT : GoodIn Ts (wsV own index C y ws)) (hw : ws = Cond.codeWith y bytes maxL ret hh :: ws') (hrc : rm.cells = mc) (hrs : rm.slots = ms)
    (hd : y.cls = C ∧ y.cls ≠ "java/lang/invoke/MethodHandle" ∧ y.cls ≠ "java/lang/invoke/VarHandle" ∧ (parseMethodDescriptor y.desc).map (fun d => d.parameters.length) = some n) (hR : rm.frames + 1 ≤ R.frames ∧ 8 + (maxL + 11) + rm.locals ≤ R.locals) :
    vx_CVW R s args own C index y bytes maxL ret hh ws rm mc ms n := by
  obtain ⟨hC, hd⟩ := hd
  subst hC
  have ok : ∀ w ∈ wsV own index y.cls y ws, w.before args s = true := fun w h => ht w (hT w h).1
  have hG : GoodIn Ts ws := fun w h => hT w (by unfold wsV; exact List.mem_append_right _ h)
  have hc : Cond.codeWith y bytes maxL ret hh ∈ ws := by rw [hw]; exact List.mem_cons_self
  refine ⟨⟨hrc, hrs, hR.1, hR.2, pay_in ht hG, hc⟩, ht _ (hG _ hc).1, ok _ (by simp [wsV]), ⟨hd.1, hd.2.1⟩, fun sig h => ?_, ok _ (by simp [wsV]), ok _ (by simp [wsV]), ok _ (by simp [wsV])⟩
  have h2 := hd.2.2
  rw [h] at h2
  exact (Option.some.inj h2).symm
theorem vx_runVW {y : MethodName} {bytes cc : ByteArray} {maxL nL mc ms n index : Nat} {ret : Option FieldType} {hh : List (Nat × Nat × Nat × Nat)} {ws : List Cond} {rm : Room} {Pc : Array Value → State → Prop} {Qc : Array Value → State → Outcome → State → Prop} {free : Addr → Prop} {Ts : List Cond} {own C : String} {b : Addr} {As rest : List Value} {g : JFrame}
    (S : CallFix p m c cc nL s args Ts own) (hM : Met l y ws rm Pc Qc mc ms free) (cw : vx_CVW R s args own C index y bytes maxL ret hh ws rm mc ms n) (hp : PreV s H C b Pc As)
    (hg : g.method = m) (hn : As.length = n) (hsize : g.locals.size = nL) (hstack : g.stack = As.reverse ++ .ref b :: rest) (hW : 2 * g.monitorRoom + (rest.map fun v => v.category).sum ≤ 8) (hdg : decode cc g.pc = .ok (.invokevirtual index, 3)) (hf : cells + mc ≤ R.cells ∧ slots + ms ≤ R.slots) :
    va_Run p l e R s m args below meth c H locs cells slots mc ms g rest (Qc (Value.ref b :: As).toArray) free := by
  obtain ⟨⟨hrc, hrs, hfr, hlo, hws, hcw⟩, hcode, hini, hy, hlen, hl, hin, hse⟩ := cw
  have hK : Back l R p e below s args y 3 8 (PreOf R mc ms Pc) (PostOf Qc mc ms free) := va_backW (hh := hh) (bytes := bytes) (maxL := maxL) (ret := ret) hM hp.1 hrc hrs hfr hlo hws hcw (fun a' U hW => word_at hW (Or.inl (by first | rfl | simp [Cond.onTables, Cond.keeps, Cond.steady])) hini)
  obtain ⟨hx, hb, hml, ho, -⟩ := S
  obtain ⟨-, ⟨cellB, hcB, hoB, hclB⟩, hPc⟩ := hp
  intro T hT X
  obtain ⟨v, vm₁, ⟨U', l2, c2, s2⟩, hW₁, X', ⟨g', mk, t, L, e1, e2, hq, h1, hL, h2, h3⟩, st⟩ := vx_callVW X hx (C := C) (hh := hh) (bytes := bytes) (maxL := maxL) (ret := ret) ho hl hin hse hcode hy hK (by rw [hT]; exact hcB) hoB hclB hg (hsize.trans hml.symm) (argsL := As) (rest := rest) (fun sig h => hn.trans (hlen sig h)) hstack hW (by rw [hb]; exact hdg)
    (fun vm₁ hW₁ => ⟨hf.1, hf.2, hPc (T.setVm vm₁) hT hW₁⟩)
  dsimp only [Pt.U, Pt.locs, Pt.cells, Pt.slots] at X' e1 e2 h1 h2 h3 st
  subst h1; subst h2; subst h3
  exact ⟨v, (T.setVm vm₁).calling g' mk (Value.ref b :: As).toArray, t, U', L, hT, X', hL, e1, e2, hq, st⟩
section
variable {y : MethodName} {bytes cc : ByteArray} {maxL nL mc ms n index : Nat} {ret : Option FieldType} {ws : List Cond} {rm : Room} {Pc : Array Value → State → Prop} {Qc : Array Value → State → Outcome → State → Prop} {XC : String → State → State → Prop} {free : Addr → Prop} {Ts : List Cond} {own C : String} {b : Addr} {As rest : List Value} {g : JFrame}
theorem vx_runVX {hh : List (Nat × Nat × Nat × Nat)} (S : CallFix p m c cc nL s args Ts own) (hM : vx_Met l y ws rm Pc Qc XC mc ms free) (cw : vx_CVW R s args own C index y bytes maxL ret hh ws rm mc ms n) (hp : PreV s H C b Pc As)
    (hg : g.method = m) (hn : As.length = n) (hsize : g.locals.size = nL) (hstack : g.stack = As.reverse ++ .ref b :: rest) (hW : 2 * g.monitorRoom + (rest.map fun v => v.category).sum ≤ 8) (hdg : decode cc g.pc = .ok (.invokevirtual index, 3)) (hf : cells + mc ≤ R.cells ∧ slots + ms ≤ R.slots) :
    vx_Run p l e R s m args below meth c H locs cells slots mc ms g rest (Qc (Value.ref b :: As).toArray) XC free := by
  obtain ⟨⟨hrc, hrs, hfr, hlo, hws, hcw⟩, hcode, hini, hy, hlen, hl, hin, hse⟩ := cw
  have hK : vx_Back l R p e below s args y 3 8 (PreOf R mc ms Pc) (PostOf Qc mc ms free) (vx_Post XC mc ms free) := vx_backW (hh := hh) (bytes := bytes) (maxL := maxL) (ret := ret) hM hp.1 hrc hrs hfr hlo hws hcw (fun a' U hW => word_at hW (Or.inl (by first | rfl | simp [Cond.onTables, Cond.keeps, Cond.steady])) hini)
  obtain ⟨hx, hb, hml, ho, -⟩ := S
  obtain ⟨-, ⟨cellB, hcB, hoB, hclB⟩, hPc⟩ := hp
  intro T hT X
  rcases vx_callVX X hx (C := C) (hh := hh) (bytes := bytes) (maxL := maxL) (ret := ret) ho hl hin hse hcode hy hK (by rw [hT]; exact hcB) hoB hclB hg (hsize.trans hml.symm) (argsL := As) (rest := rest) (fun sig h => hn.trans (hlen sig h)) hstack hW (by rw [hb]; exact hdg)
    (fun vm₁ hW₁ => ⟨hf.1, hf.2, hPc (T.setVm vm₁) hT hW₁⟩) with ⟨v, vm₁, ⟨U', l2, c2, s2⟩, hW₁, X', ⟨g', mk, t, L, e1, e2, hq, h1, hL, h2, h3⟩, st⟩ | ⟨q, vm₁, ⟨U', l2, c2, s2⟩, hW₁, X', ⟨g', mk, t, L, E, ce, e1, e2, hq, hce, hcv, hcl, h1, hL, h2, h3⟩, st⟩
  · dsimp only [Pt.U, Pt.locs, Pt.cells, Pt.slots] at X' e1 e2 h1 h2 h3 st
    subst h1; subst h2; subst h3
    exact Or.inl ⟨v, (T.setVm vm₁).calling g' mk (Value.ref b :: As).toArray, t, U', L, hT, X', hL, e1, e2, hq, st⟩
  · dsimp only [Pt.U, Pt.locs, Pt.cells, Pt.slots] at X' e1 e2 h1 h2 h3 st hcl
    subst h1; subst h2; subst h3
    exact Or.inr ⟨q, (T.setVm vm₁).calling g' mk (Value.ref b :: As).toArray, t, U', L, E, ce, hT, X', hL, e1, e2, hq, hce, hcv, vx_cls hW₁ hcl, st⟩
theorem vx_runSX {hh : List (Nat × Nat × Nat × Nat)} (S : CallFix p m c cc nL s args Ts own) (hM : vx_Met l y ws rm Pc Qc XC mc ms free) (cw : vx_CSW R s args own index y bytes maxL ret hh ws rm mc ms n) (hp : PreS s H Pc As)
    (hg : g.method = m) (hn : As.length = n) (hsize : g.locals.size = nL) (hstack : g.stack = As.reverse ++ rest) (hW : 2 * g.monitorRoom + (rest.map fun v => v.category).sum ≤ 8) (hdg : decode cc g.pc = .ok (.invokestatic index, 3)) (hf : cells + mc ≤ R.cells ∧ slots + ms ≤ R.slots) :
    vx_Run p l e R s m args below meth c H locs cells slots mc ms g rest (Qc As.toArray) XC free := by
  obtain ⟨⟨hrc, hrs, hfr, hlo, hws, hcw⟩, hcode, hini, hy, hlen, hl, hstt⟩ := cw
  have hK : vx_Back l R p e below s args y 3 8 (PreOf R mc ms Pc) (PostOf Qc mc ms free) (vx_Post XC mc ms free) := vx_backW (hh := hh) (bytes := bytes) (maxL := maxL) (ret := ret) hM hp.1 hrc hrs hfr hlo hws hcw (fun a' U hW => word_at hW (Or.inl (by first | rfl | simp [Cond.onTables, Cond.keeps, Cond.steady])) hini)
  obtain ⟨hx, hb, hml, ho, -⟩ := S
  intro T hT X
  rcases vx_callSX X hx (hh := hh) (bytes := bytes) (maxL := maxL) (ret := ret) ho hl hstt hini hcode hy hK hg (hsize.trans hml.symm) (argsL := As) (rest := rest) (fun sig h => hn.trans (hlen sig h)) hstack hW (by rw [hb]; exact hdg)
    (fun vm₁ hW₁ => ⟨hf.1, hf.2, hp.2 (T.setVm vm₁) hT hW₁⟩) with ⟨v, vm₁, ⟨U', l2, c2, s2⟩, hW₁, X', ⟨g', mk, t, L, e1, e2, hq, h1, hL, h2, h3⟩, st⟩ | ⟨q, vm₁, ⟨U', l2, c2, s2⟩, hW₁, X', ⟨g', mk, t, L, E, ce, e1, e2, hq, hce, hcv, hcl, h1, hL, h2, h3⟩, st⟩
  · dsimp only [Pt.U, Pt.locs, Pt.cells, Pt.slots] at X' e1 e2 h1 h2 h3 st
    subst h1; subst h2; subst h3
    exact Or.inl ⟨v, (T.setVm vm₁).calling g' mk As.toArray, t, U', L, hT, X', hL, e1, e2, hq, st⟩
  · dsimp only [Pt.U, Pt.locs, Pt.cells, Pt.slots] at X' e1 e2 h1 h2 h3 st hcl
    subst h1; subst h2; subst h3
    exact Or.inr ⟨q, (T.setVm vm₁).calling g' mk As.toArray, t, U', L, E, ce, hT, X', hL, e1, e2, hq, hce, hcv, vx_cls hW₁ hcl, st⟩
end
end VXH
theorem vx_ofWH {l : Launch} {y : MethodName} {ws ws' : List Cond} {rm : Room} {Pc : Array Value → State → Prop} {Qc : Array Value → State → Outcome → State → Prop} {XC : String → State → State → Prop} {mc ms : Nat} {free : Addr → Prop} {cc : ByteArray} {maxL : Nat} {ret : Option FieldType} {hh : List (Nat × Nat × Nat × Nat)}
    (hy : plainName y.cls = true) (hw : ws = Cond.codeWith y cc maxL ret hh :: ws')
    (body : ∀ p e s m args below meth c s₁, BodyLoose p l y (headSpec ws rm) cc maxL ret e s m args below meth c s₁ → c.maxLocals = maxL → Pc args s →
      W p l e (headSpec ws rm).room s m args below meth c s.heap [] 0 0 (vx_MQ below Qc XC args s mc ms free) (entryFrame m args maxL)) : vx_Met l y ws rm Pc Qc XC mc ms free := by
  refine MetFree.of_bodyS (code := cc) (maxLocals := maxL) (ret := ret) hy ?_ ?_
  · intro args s m h hn
    obtain ⟨m9, meth, c, hn9, h1, h2, h3, h4, -, h5, h6, -⟩ := Cond.codeWith_spec (atoms_spec (ws := ws) h _ (by rw [hw]; exact List.mem_cons_self))
    cases hn.symm.trans hn9
    exact ⟨meth, c, h1, h2, h3, h4, h5, h6⟩
  · intro p e s m args below meth c s₁ B hml hP _
    have hh0 : s₁.heap = s.heap := by rw [B.state]; rfl
    obtain ⟨t, a1, o, b1, b2, b3⟩ := body p e s m args below meth c s₁ B hml hP s₁ hh0 (Stand.of_body B)
    exact ⟨t, o, a1, b1, b2, b3⟩
/-! ===== END ===== -/
end
section
def RX0 : String := "MountYard$ByteRow"
def TX0 : u_T := fun k => match k with
  | 0 => ("MountYard$ByteRow", "bytes", "[B", true)
  | _ => ("MountYard$ByteRow", "count", "I", false)
def tyX0 : Nat → FieldType := fun k => match k with
  | 0 => .array .byte
  | _ => .int
abbrev wsX00 : List Cond := u_ws RX0 TX0 2
theorem nmX0 : ∀ a, a < 2 → ∀ b, b < 2 → a ≠ b → (TX0 a).2.1 ≠ (TX0 b).2.1 := by decide +kernel
theorem tyX0_ok : ∀ k, k < 2 → parseFieldDescriptor (TX0 k).2.2.1 = some (tyX0 k) := by decide +kernel
def RX1 : String := "MountYard$FileList"
def TX1 : u_T := fun k => match k with
  | 0 => ("MountYard$FileList", "numbers", "[I", true)
  | _ => ("MountYard$FileList", "count", "I", false)
def tyX1 : Nat → FieldType := fun k => match k with
  | 0 => .array .int
  | _ => .int
abbrev wsX10 : List Cond := u_ws RX1 TX1 2
theorem nmX1 : ∀ a, a < 2 → ∀ b, b < 2 → a ≠ b → (TX1 a).2.1 ≠ (TX1 b).2.1 := by decide +kernel
theorem tyX1_ok : ∀ k, k < 2 → parseFieldDescriptor (TX1 k).2.2.1 = some (tyX1 k) := by decide +kernel
def RX2 : String := "MountYard$Frame"
def TX2 : u_T := fun k => match k with
  | _ => ("MountYard$Frame", "row", "LMountYard$ByteRow;", true)
def tyX2 : Nat → FieldType := fun k => match k with
  | _ => .object "MountYard$ByteRow"
abbrev wsX20 : List Cond := u_ws RX2 TX2 1
theorem nmX2 : ∀ a, a < 1 → ∀ b, b < 1 → a ≠ b → (TX2 a).2.1 ≠ (TX2 b).2.1 := by decide +kernel
theorem tyX2_ok : ∀ k, k < 1 → parseFieldDescriptor (TX2 k).2.2.1 = some (tyX2 k) := by decide +kernel
def RX3 : String := "MountYard$Handle"
def TX3 : u_T := fun k => match k with
  | 0 => ("MountYard$Handle", "used", "Z", false)
  | 1 => ("MountYard$Handle", "number", "I", false)
  | 2 => ("MountYard$Handle", "file", "I", false)
  | 3 => ("MountYard$Handle", "reading", "Z", false)
  | 4 => ("MountYard$Handle", "writing", "Z", false)
  | 5 => ("MountYard$Handle", "told", "J", false)
  | _ => ("MountYard$Handle", "lastTold", "I", false)
def tyX3 : Nat → FieldType := fun k => match k with
  | 0 => .boolean
  | 1 => .int
  | 2 => .int
  | 3 => .boolean
  | 4 => .boolean
  | 5 => .long
  | _ => .int
abbrev wsX30 : List Cond := u_ws RX3 TX3 7
theorem nmX3 : ∀ a, a < 7 → ∀ b, b < 7 → a ≠ b → (TX3 a).2.1 ≠ (TX3 b).2.1 := by decide +kernel
theorem tyX3_ok : ∀ k, k < 7 → parseFieldDescriptor (TX3 k).2.2.1 = some (tyX3 k) := by decide +kernel
def RX4 : String := "MountYard$HandleSet"
def TX4 : u_T := fun k => match k with
  | _ => ("MountYard$HandleSet", "slots", "[LMountYard$Handle;", true)
def tyX4 : Nat → FieldType := fun k => match k with
  | _ => .array (.object "MountYard$Handle")
abbrev wsX40 : List Cond := u_ws RX4 TX4 1
theorem nmX4 : ∀ a, a < 1 → ∀ b, b < 1 → a ≠ b → (TX4 a).2.1 ≠ (TX4 b).2.1 := by decide +kernel
theorem tyX4_ok : ∀ k, k < 1 → parseFieldDescriptor (TX4 k).2.2.1 = some (tyX4 k) := by decide +kernel
def RX5 : String := "MountYard$Node"
def TX5 : u_T := fun k => match k with
  | 0 => ("MountYard$Node", "number", "I", true)
  | 1 => ("MountYard$Node", "content", "LMountYard$ByteRow;", true)
  | 2 => ("MountYard$Node", "parent", "I", false)
  | 3 => ("MountYard$Node", "name", "I", false)
  | 4 => ("MountYard$Node", "rights", "I", false)
  | 5 => ("MountYard$Node", "version", "I", false)
  | 6 => ("MountYard$Node", "directory", "Z", false)
  | _ => ("MountYard$Node", "gone", "Z", false)
def tyX5 : Nat → FieldType := fun k => match k with
  | 0 => .int
  | 1 => .object "MountYard$ByteRow"
  | 2 => .int
  | 3 => .int
  | 4 => .int
  | 5 => .int
  | 6 => .boolean
  | _ => .boolean
abbrev wsX50 : List Cond := u_ws RX5 TX5 8
theorem nmX5 : ∀ a, a < 8 → ∀ b, b < 8 → a ≠ b → (TX5 a).2.1 ≠ (TX5 b).2.1 := by decide +kernel
theorem tyX5_ok : ∀ k, k < 8 → parseFieldDescriptor (TX5 k).2.2.1 = some (tyX5 k) := by decide +kernel
def RX6 : String := "MountYard$Processes"
def TX6 : u_T := fun k => match k with
  | 0 => ("MountYard$Processes", "tree", "LMountYard$Tree;", true)
  | 1 => ("MountYard$Processes", "tables", "[LMountYard$Table;", true)
  | 2 => ("MountYard$Processes", "tableOf", "[I", true)
  | 3 => ("MountYard$Processes", "wayA", "LMountYard$Route;", true)
  | 4 => ("MountYard$Processes", "wayB", "LMountYard$Route;", true)
  | _ => ("MountYard$Processes", "scratch", "LMountYard$FileList;", true)
def tyX6 : Nat → FieldType := fun k => match k with
  | 0 => .object "MountYard$Tree"
  | 1 => .array (.object "MountYard$Table")
  | 2 => .array .int
  | 3 => .object "MountYard$Route"
  | 4 => .object "MountYard$Route"
  | _ => .object "MountYard$FileList"
abbrev wsX60 : List Cond := u_ws RX6 TX6 6
theorem nmX6 : ∀ a, a < 6 → ∀ b, b < 6 → a ≠ b → (TX6 a).2.1 ≠ (TX6 b).2.1 := by decide +kernel
theorem tyX6_ok : ∀ k, k < 6 → parseFieldDescriptor (TX6 k).2.2.1 = some (tyX6 k) := by decide +kernel
def RX7 : String := "MountYard$Route"
def TX7 : u_T := fun k => match k with
  | 0 => ("MountYard$Route", "list", "LMountYard$FileList;", true)
  | 1 => ("MountYard$Route", "words", "[I", true)
  | 2 => ("MountYard$Route", "pieces", "I", false)
  | 3 => ("MountYard$Route", "last", "I", false)
  | _ => ("MountYard$Route", "found", "Z", false)
def tyX7 : Nat → FieldType := fun k => match k with
  | 0 => .object "MountYard$FileList"
  | 1 => .array .int
  | 2 => .int
  | 3 => .int
  | _ => .boolean
abbrev wsX70 : List Cond := u_ws RX7 TX7 5
theorem nmX7 : ∀ a, a < 5 → ∀ b, b < 5 → a ≠ b → (TX7 a).2.1 ≠ (TX7 b).2.1 := by decide +kernel
theorem tyX7_ok : ∀ k, k < 5 → parseFieldDescriptor (TX7 k).2.2.1 = some (tyX7 k) := by decide +kernel
def RX8 : String := "MountYard$Table"
def TX8 : u_T := fun k => match k with
  | 0 => ("MountYard$Table", "keys", "[I", true)
  | 1 => ("MountYard$Table", "lists", "[LMountYard$FileList;", true)
  | _ => ("MountYard$Table", "keyCount", "I", false)
def tyX8 : Nat → FieldType := fun k => match k with
  | 0 => .array .int
  | 1 => .array (.object "MountYard$FileList")
  | _ => .int
abbrev wsX80 : List Cond := u_ws RX8 TX8 3
theorem nmX8 : ∀ a, a < 3 → ∀ b, b < 3 → a ≠ b → (TX8 a).2.1 ≠ (TX8 b).2.1 := by decide +kernel
theorem tyX8_ok : ∀ k, k < 3 → parseFieldDescriptor (TX8 k).2.2.1 = some (tyX8 k) := by decide +kernel
def RX9 : String := "MountYard$Talk"
def TX9 : u_T := fun k => match k with
  | 0 => ("MountYard$Talk", "tree", "LMountYard$Tree;", true)
  | 1 => ("MountYard$Talk", "held", "LMountYard$HandleSet;", true)
  | 2 => ("MountYard$Talk", "request", "LMountYard$Frame;", true)
  | 3 => ("MountYard$Talk", "body", "LMountYard$ByteRow;", true)
  | 4 => ("MountYard$Talk", "begun", "Z", false)
  | _ => ("MountYard$Talk", "limit", "I", false)
def tyX9 : Nat → FieldType := fun k => match k with
  | 0 => .object "MountYard$Tree"
  | 1 => .object "MountYard$HandleSet"
  | 2 => .object "MountYard$Frame"
  | 3 => .object "MountYard$ByteRow"
  | 4 => .boolean
  | _ => .int
abbrev wsX90 : List Cond := u_ws RX9 TX9 6
theorem nmX9 : ∀ a, a < 6 → ∀ b, b < 6 → a ≠ b → (TX9 a).2.1 ≠ (TX9 b).2.1 := by decide +kernel
theorem tyX9_ok : ∀ k, k < 6 → parseFieldDescriptor (TX9 k).2.2.1 = some (tyX9 k) := by decide +kernel
def RX10 : String := "MountYard$Tree"
def TX10 : u_T := fun k => match k with
  | 0 => ("MountYard$Tree", "nodes", "[LMountYard$Node;", true)
  | _ => ("MountYard$Tree", "made", "I", false)
def tyX10 : Nat → FieldType := fun k => match k with
  | 0 => .array (.object "MountYard$Node")
  | _ => .int
abbrev wsX100 : List Cond := u_ws RX10 TX10 2
theorem nmX10 : ∀ a, a < 2 → ∀ b, b < 2 → a ≠ b → (TX10 a).2.1 ≠ (TX10 b).2.1 := by decide +kernel
theorem tyX10_ok : ∀ k, k < 2 → parseFieldDescriptor (TX10 k).2.2.1 = some (tyX10 k) := by decide +kernel
def RX11 : String := "MountYard"
def TX11 : u_T := fun k => match k with
  | 0 => ("MountYard", "incoming", "LMountYard$ByteRow;", true)
  | 1 => ("MountYard", "outgoing", "LMountYard$ByteRow;", true)
  | 2 => ("MountYard", "text", "LMountYard$ByteRow;", true)
  | 3 => ("MountYard", "tree", "LMountYard$Tree;", true)
  | 4 => ("MountYard", "talk", "LMountYard$Talk;", true)
  | _ => ("MountYard", "processes", "LMountYard$Processes;", true)
def tyX11 : Nat → FieldType := fun k => match k with
  | 0 => .object "MountYard$ByteRow"
  | 1 => .object "MountYard$ByteRow"
  | 2 => .object "MountYard$ByteRow"
  | 3 => .object "MountYard$Tree"
  | 4 => .object "MountYard$Talk"
  | _ => .object "MountYard$Processes"
abbrev wsX110 : List Cond := u_ws RX11 TX11 6
theorem nmX11 : ∀ a, a < 6 → ∀ b, b < 6 → a ≠ b → (TX11 a).2.1 ≠ (TX11 b).2.1 := by decide +kernel
theorem tyX11_ok : ∀ k, k < 6 → parseFieldDescriptor (TX11 k).2.2.1 = some (tyX11 k) := by decide +kernel
def RX12 : String := "MountYardModel"
def TX12 : u_T := fun k => match k with
  | 0 => ("MountYardModel", "thrown", "I", false)
  | 1 => ("MountYardModel", "count", "I", false)
  | 2 => ("MountYardModel", "parent", "[I", true)
  | 3 => ("MountYardModel", "version", "[I", true)
  | 4 => ("MountYardModel", "length", "[I", true)
  | 5 => ("MountYardModel", "allowed", "[I", true)
  | 6 => ("MountYardModel", "directory", "[Z", true)
  | 7 => ("MountYardModel", "gone", "[Z", true)
  | 8 => ("MountYardModel", "nameLength", "[I", true)
  | 9 => ("MountYardModel", "name", "[I", true)
  | 10 => ("MountYardModel", "content", "[I", true)
  | 11 => ("MountYardModel", "held", "I", false)
  | 12 => ("MountYardModel", "number", "[I", true)
  | 13 => ("MountYardModel", "file", "[I", true)
  | 14 => ("MountYardModel", "way", "[I", true)
  | 15 => ("MountYardModel", "told", "[J", true)
  | 16 => ("MountYardModel", "lastTold", "[I", true)
  | 17 => ("MountYardModel", "ins", "I", false)
  | 18 => ("MountYardModel", "in", "[I", true)
  | 19 => ("MountYardModel", "outs", "I", false)
  | 20 => ("MountYardModel", "out", "[I", true)
  | 21 => ("MountYardModel", "most", "I", false)
  | 22 => ("MountYardModel", "begun", "Z", false)
  | 23 => ("MountYardModel", "end", "I", false)
  | 24 => ("MountYardModel", "type", "I", false)
  | 25 => ("MountYardModel", "start", "I", false)
  | 26 => ("MountYardModel", "typed", "I", false)
  | 27 => ("MountYardModel", "text", "[I", true)
  | 28 => ("MountYardModel", "pieces", "I", false)
  | 29 => ("MountYardModel", "from", "[I", true)
  | 30 => ("MountYardModel", "to", "[I", true)
  | 31 => ("MountYardModel", "listed", "I", false)
  | 32 => ("MountYardModel", "list", "[I", true)
  | 33 => ("MountYardModel", "last", "I", false)
  | 34 => ("MountYardModel", "tableOf", "[I", true)
  | 35 => ("MountYardModel", "keys", "[I", true)
  | 36 => ("MountYardModel", "key", "[I", true)
  | 37 => ("MountYardModel", "lengths", "[I", true)
  | 38 => ("MountYardModel", "lists", "[I", true)
  | _ => ("MountYardModel", "bound", "[I", true)
def tyX12 : Nat → FieldType := fun k => match k with
  | 0 => .int
  | 1 => .int
  | 2 => .array .int
  | 3 => .array .int
  | 4 => .array .int
  | 5 => .array .int
  | 6 => .array .boolean
  | 7 => .array .boolean
  | 8 => .array .int
  | 9 => .array .int
  | 10 => .array .int
  | 11 => .int
  | 12 => .array .int
  | 13 => .array .int
  | 14 => .array .int
  | 15 => .array .long
  | 16 => .array .int
  | 17 => .int
  | 18 => .array .int
  | 19 => .int
  | 20 => .array .int
  | 21 => .int
  | 22 => .boolean
  | 23 => .int
  | 24 => .int
  | 25 => .int
  | 26 => .int
  | 27 => .array .int
  | 28 => .int
  | 29 => .array .int
  | 30 => .array .int
  | 31 => .int
  | 32 => .array .int
  | 33 => .int
  | 34 => .array .int
  | 35 => .array .int
  | 36 => .array .int
  | 37 => .array .int
  | 38 => .array .int
  | _ => .array .int
abbrev wsX120 : List Cond := u_ws RX12 TX12 40
theorem nmX12 : ∀ a, a < 40 → ∀ b, b < 40 → a ≠ b → (TX12 a).2.1 ≠ (TX12 b).2.1 := by decide +kernel
theorem tyX12_ok : ∀ k, k < 40 → parseFieldDescriptor (TX12 k).2.2.1 = some (tyX12 k) := by decide +kernel
def RL : String := "MountYardLaw"
abbrev vwCl : List vw_C := [(RX0, TX0, 2), (RX1, TX1, 2), (RX2, TX2, 1), (RX3, TX3, 7), (RX4, TX4, 1), (RX5, TX5, 8), (RX6, TX6, 6), (RX7, TX7, 5), (RX8, TX8, 3), (RX9, TX9, 6), (RX10, TX10, 2), (RX11, TX11, 6), (RX12, TX12, 40)]
end
section
/-! ===== the abstract machine: values, locals, stacks; what stands for what; the instructions that move a frame alone ===== -/
/-- an int that is known, an int between two, a long (known or not), a reference (null, or the world's cell of that number), a named thing -/
abbrev AV : Type := Int32 ⊕ (Int × Int) ⊕ Option Int64 ⊕ Option Nat ⊕ Nat
/-- an array (the number of its kind, its length, its places) or an object (the number of its class, its fields) -/
abbrev AC : Type := (Nat × Nat × (Nat → AV)) ⊕ (Nat × List AV)
abbrev AE : Type := Nat × Int32 × Int32 × Int32
abbrev ALo : Type := List (Nat × AV)
def ai_ad (ws : va_W) (i : Nat) : Option Nat := (ws[i]?).map Prod.fst
def ai_w0 (E : AE) : Int64 := (E.2.2.1.toInt64 <<< ((32 : Int32).toInt64 &&& 63)) ||| (E.2.2.2.toInt64 &&& 4294967295)
def ai_sh (E : AE) (k : Nat) : Int64 := ai_w0 E >>> ((nI (8 * k)).toInt64 &&& 63)
def ai_xl (E : AE) (n : Nat) : Int64 := if n = 1 then ai_w0 E else if n = 2 then E.2.2.1.toInt64 else if n = 3 then E.2.2.1.toInt64 <<< ((32 : Int32).toInt64 &&& 63) else if n = 4 then E.2.2.2.toInt64 else if n = 6 then E.2.2.2.toInt64 &&& 4294967295 else if n < 20 then ai_sh E (n - 10) else ai_sh E (n - 20) &&& 255
def ai_xi (E : AE) (n : Nat) : Int32 := if n = 40 then E.2.1 else if n = 41 then E.2.2.1 else if n = 42 then E.2.2.2 else (ai_sh E (n - 30) &&& 255).toInt32
def ai_xv (E : AE) (n : Nat) : Value := if n = 5 then .ref E.1 else if n < 30 then .long (ai_xl E n) else .int (ai_xi E n)
def ai_V (E : AE) (ws : va_W) : AV → Value → Prop
  | .inl c, v => v = .int c
  | .inr (.inl q), v => ∃ x : Int32, v = .int x ∧ q.1 ≤ x.toInt ∧ x.toInt ≤ q.2
  | .inr (.inr (.inl none)), v => ∃ x : Int64, v = .long x
  | .inr (.inr (.inl (some c))), v => v = .long c
  | .inr (.inr (.inr (.inl none))), v => v = .null
  | .inr (.inr (.inr (.inl (some i)))), v => ∃ a, v = .ref a ∧ ai_ad ws i = some a
  | .inr (.inr (.inr (.inr n))), v => if n = 0 then ∃ a, v = .ref a else v = ai_xv E n
def ai_cat : AV → Nat
  | .inl _ => 1
  | .inr (.inl _) => 1
  | .inr (.inr (.inl _)) => 2
  | .inr (.inr (.inr (.inl _))) => 3
  | .inr (.inr (.inr (.inr n))) => if n = 0 then 3 else if n = 5 then 3 else if n < 30 then 2 else 1
def ai_wd (a : AV) : Nat := if ai_cat a = 2 then 2 else 1
def ai_S (E : AE) (ws : va_W) : List AV → List Value → Prop
  | [], [] => True
  | a :: as, v :: vs => ai_V E ws a v ∧ ai_S E ws as vs
  | _, _ => False
def ai_L (E : AE) (ws : va_W) : ALo → List (Nat × Value) → Prop
  | [], [] => True
  | a :: as, v :: vs => (a.1 = v.1 ∧ ai_V E ws a.2 v.2) ∧ ai_L E ws as vs
  | _, _ => False
def ai_Ext (ws ws' : va_W) : Prop := ∀ (i a : Nat), ai_ad ws i = some a → ai_ad ws' i = some a
theorem ai_Ext.rf {ws : va_W} : ai_Ext ws ws := fun _ _ h => h
theorem ai_Ext.tr {a b c : va_W} (h : ai_Ext a b) (k : ai_Ext b c) : ai_Ext a c := fun i x q => k i x (h i x q)
theorem ai_V.mono {E : AE} {ws ws' : va_W} (h : ai_Ext ws ws') : ∀ {a : AV} {v : Value}, ai_V E ws a v → ai_V E ws' a v
  | .inl _, _, k => k
  | .inr (.inl _), _, k => k
  | .inr (.inr (.inl none)), _, k => k
  | .inr (.inr (.inl (some _))), _, k => k
  | .inr (.inr (.inr (.inl none))), _, k => k
  | .inr (.inr (.inr (.inl (some i)))), _, ⟨a, e, k⟩ => ⟨a, e, h i a k⟩
  | .inr (.inr (.inr (.inr _))), _, k => k
theorem ai_S.mono {E : AE} {ws ws' : va_W} (h : ai_Ext ws ws') : ∀ {a : List AV} {v : List Value}, ai_S E ws a v → ai_S E ws' a v
  | [], [], k => k
  | _ :: _, _ :: _, ⟨k, r⟩ => ⟨k.mono h, ai_S.mono h r⟩
  | [], _ :: _, k => k
  | _ :: _, [], k => k
theorem ai_L.mono {E : AE} {ws ws' : va_W} (h : ai_Ext ws ws') : ∀ {a : ALo} {v : List (Nat × Value)}, ai_L E ws a v → ai_L E ws' a v
  | [], [], k => k
  | _ :: _, _ :: _, ⟨⟨e, k⟩, r⟩ => ⟨⟨e, k.mono h⟩, ai_L.mono h r⟩
  | [], _ :: _, k => k
  | _ :: _, [], k => k
theorem ai_xcat (E : AE) {n : Nat} (h0 : ¬ n = 0) : (ai_xv E n).category = ai_wd (.inr (.inr (.inr (.inr n)))) := by
  unfold ai_xv ai_wd ai_cat
  by_cases h5 : n = 5
  · subst h5; rfl
  · by_cases h3 : n < 30
    · simp [h0, h5, h3, Value.category]
    · simp [h0, h5, h3, Value.category]
theorem ai_V_wd {E : AE} {ws : va_W} : ∀ {a : AV} {v : Value}, ai_V E ws a v → v.category = ai_wd a
  | .inl _, _, k => by have k : _ = _ := k; subst k; rfl
  | .inr (.inl _), _, ⟨_, e, _⟩ => by subst e; rfl
  | .inr (.inr (.inl none)), _, ⟨_, e⟩ => by subst e; rfl
  | .inr (.inr (.inl (some _))), _, k => by have k : _ = _ := k; subst k; rfl
  | .inr (.inr (.inr (.inl none))), _, k => by have k : _ = _ := k; subst k; rfl
  | .inr (.inr (.inr (.inl (some _)))), _, ⟨_, e, _⟩ => by subst e; rfl
  | .inr (.inr (.inr (.inr n))), v, k => by
    have k : if n = 0 then ∃ a, v = .ref a else v = ai_xv E n := k
    by_cases h0 : n = 0
    · rw [if_pos h0] at k
      obtain ⟨a, e⟩ := k
      subst e; subst h0; rfl
    · rw [if_neg h0] at k
      rw [k]
      exact ai_xcat E h0
theorem ai_V_int {E : AE} {ws : va_W} : ∀ {a : AV} {v : Value}, ai_cat a = 1 → ai_V E ws a v → ∃ x : Int32, v = .int x
  | .inl c, _, _, k => ⟨c, k⟩
  | .inr (.inl _), _, _, ⟨x, e, _⟩ => ⟨x, e⟩
  | .inr (.inr (.inl none)), _, h, _ => by cases h
  | .inr (.inr (.inl (some _))), _, h, _ => by cases h
  | .inr (.inr (.inr (.inl none))), _, h, _ => by cases h
  | .inr (.inr (.inr (.inl (some _)))), _, h, _ => by cases h
  | .inr (.inr (.inr (.inr n))), v, h, k => by
    have k : if n = 0 then ∃ a, v = .ref a else v = ai_xv E n := k
    have h : (if n = 0 then 3 else if n = 5 then 3 else if n < 30 then 2 else 1) = 1 := h
    by_cases h0 : n = 0
    · rw [if_pos h0] at h; cases h
    · rw [if_neg h0] at h k
      by_cases h5 : n = 5
      · rw [if_pos h5] at h; cases h
      · rw [if_neg h5] at h
        by_cases h3 : n < 30
        · rw [if_pos h3] at h; cases h
        · exact ⟨_, by rw [k, ai_xv, if_neg h5, if_neg h3]⟩
theorem ai_V_long {E : AE} {ws : va_W} : ∀ {a : AV} {v : Value}, ai_cat a = 2 → ai_V E ws a v → ∃ x : Int64, v = .long x
  | .inl c, _, h, _ => by cases h
  | .inr (.inl _), _, h, _ => by cases h
  | .inr (.inr (.inl none)), _, _, ⟨x, e⟩ => ⟨x, e⟩
  | .inr (.inr (.inl (some c))), _, _, k => ⟨c, k⟩
  | .inr (.inr (.inr (.inl none))), _, h, _ => by cases h
  | .inr (.inr (.inr (.inl (some _)))), _, h, _ => by cases h
  | .inr (.inr (.inr (.inr n))), v, h, k => by
    have k : if n = 0 then ∃ a, v = .ref a else v = ai_xv E n := k
    have h : (if n = 0 then 3 else if n = 5 then 3 else if n < 30 then 2 else 1) = 2 := h
    by_cases h0 : n = 0
    · rw [if_pos h0] at h; cases h
    · rw [if_neg h0] at h k
      by_cases h5 : n = 5
      · rw [if_pos h5] at h; cases h
      · rw [if_neg h5] at h
        by_cases h3 : n < 30
        · exact ⟨_, by rw [k, ai_xv, if_neg h5, if_pos h3]⟩
        · rw [if_neg h3] at h; cases h
theorem ai_V_ref {E : AE} {ws : va_W} : ∀ {a : AV} {v : Value}, ai_cat a = 3 → ai_V E ws a v → v = .null ∨ ∃ x : Nat, v = .ref x
  | .inl c, _, h, _ => by cases h
  | .inr (.inl _), _, h, _ => by cases h
  | .inr (.inr (.inl none)), _, h, _ => by cases h
  | .inr (.inr (.inl (some c))), _, h, _ => by cases h
  | .inr (.inr (.inr (.inl none))), _, _, k => Or.inl k
  | .inr (.inr (.inr (.inl (some _)))), _, _, ⟨a, e, _⟩ => Or.inr ⟨a, e⟩
  | .inr (.inr (.inr (.inr n))), v, h, k => by
    have k : if n = 0 then ∃ a, v = .ref a else v = ai_xv E n := k
    have h : (if n = 0 then 3 else if n = 5 then 3 else if n < 30 then 2 else 1) = 3 := h
    by_cases h0 : n = 0
    · rw [if_pos h0] at k; exact Or.inr k
    · rw [if_neg h0] at h k
      by_cases h5 : n = 5
      · exact Or.inr ⟨_, by rw [k, ai_xv, if_pos h5]⟩
      · rw [if_neg h5] at h
        by_cases h3 : n < 30
        · rw [if_pos h3] at h; cases h
        · rw [if_neg h3] at h; cases h
theorem ai_find {E : AE} {ws : va_W} (j : Nat) : ∀ {lo : ALo} {lv : List (Nat × Value)}, ai_L E ws lo lv → ∀ {q : Nat × AV}, lo.find? (fun q => q.1 == j) = some q → ∃ (k : Nat) (v : Value), lv[k]? = some (j, v) ∧ ai_V E ws q.2 v
  | [], _, _, _, h => by cases h
  | a :: as, [], k, _, _ => k.elim
  | a :: as, v :: vs, ⟨⟨e, k⟩, r⟩, q, h => by
    rw [List.find?_cons] at h
    by_cases c : (a.1 == j) = true
    · rw [c] at h
      cases h
      exact ⟨0, v.2, by rw [show j = v.1 from (beq_iff_eq.mp c).symm.trans e]; rfl, k⟩
    · rw [Bool.not_eq_true] at c
      rw [c] at h
      obtain ⟨k2, w, h1, h2⟩ := ai_find j r h
      exact ⟨k2 + 1, w, h1, h2⟩
def ai_fl (j c : Nat) (q : Nat × AV) : Bool := if c = 2 then !(q.1 == j) && (!(q.1 == j + 1) && !(q.1 + 1 == j && ai_wd q.2 == 2)) else !(q.1 == j) && !(q.1 + 1 == j && ai_wd q.2 == 2)
def ai_fv (j c : Nat) (q : Nat × Value) : Bool := if c = 2 then !(q.1 == j) && (!(q.1 == j + 1) && !(q.1 + 1 == j && q.2.category == 2)) else !(q.1 == j) && !(q.1 + 1 == j && q.2.category == 2)
theorem ai_filter {E : AE} {ws : va_W} (j c : Nat) : ∀ {lo : ALo} {lv : List (Nat × Value)}, ai_L E ws lo lv → ai_L E ws (lo.filter (ai_fl j c)) (lv.filter (ai_fv j c))
  | [], [], _ => trivial
  | [], _ :: _, k => k.elim
  | _ :: _, [], k => k.elim
  | a :: as, v :: vs, ⟨⟨e, k⟩, r⟩ => by
    have hs : ai_fl j c a = ai_fv j c v := by unfold ai_fl ai_fv; rw [ai_V_wd k, e]
    rw [List.filter_cons, List.filter_cons, hs]
    by_cases h : ai_fv j c v = true
    · rw [if_pos h, if_pos h]; exact ⟨⟨e, k⟩, ai_filter j c r⟩
    · rw [if_neg h, if_neg h]; exact ai_filter j c r
def ai_top : AV := .inr (.inl (-2147483648, 2147483647))
theorem ai_top_ok {E : AE} {ws : va_W} (x : Int32) : ai_V E ws ai_top (.int x) := ⟨x, rfl, by have := Int32.le_toInt x; simp at this ⊢; omega, by have := Int32.toInt_lt x; simp at this ⊢; omega⟩
/-! rows of one kind together -/
def ai_bi : Instr → Nat → Option (Int32 → Int32 → Int32)
  | .iadd, 1 => some (fun x y => x + y)
  | .isub, 1 => some (fun x y => x - y)
  | .imul, 1 => some (fun x y => x * y)
  | .iand, 1 => some (fun x y => x &&& y)
  | .ior, 1 => some (fun x y => x ||| y)
  | .ixor, 1 => some (fun x y => x ^^^ y)
  | .ishl, 1 => some (fun x y => x <<< (y &&& 31))
  | .ishr, 1 => some (fun x y => x >>> (y &&& 31))
  | .iushr, 1 => some (fun x y => (x.toUInt32 >>> (y.toUInt32 &&& Int32.toUInt32 31)).toInt32)
  | _, _ => none
def ai_bl : Instr → Nat → Option (Int64 → Int64 → Int64)
  | .ladd, 1 => some (fun x y => x + y)
  | .lsub, 1 => some (fun x y => x - y)
  | .land, 1 => some (fun x y => x &&& y)
  | .lor, 1 => some (fun x y => x ||| y)
  | _, _ => none
def ai_bs : Instr → Nat → Option (Int64 → Int32 → Int64)
  | .lshl, 1 => some (fun x y => x <<< (y.toInt64 &&& 63))
  | .lshr, 1 => some (fun x y => x >>> (y.toInt64 &&& 63))
  | .lushr, 1 => some (fun x y => (x.toUInt64 >>> (y.toInt64.toUInt64 &&& Int64.toUInt64 63)).toInt64)
  | _, _ => none
def ai_cs : Instr → Nat → Option AV
  | .iconst n, 1 => some (.inl (Int32.ofInt n))
  | .bipush n, 2 => some (.inl (Int8.ofInt n).toInt32)
  | .sipush n, 3 => some (.inl (Int16.ofInt n).toInt32)
  | .lconst n, 1 => some (.inr (.inr (.inl (some (Int64.ofNat (n : Nat))))))
  | .aconst_null, 1 => some (.inr (.inr (.inr (.inl none))))
  | _, _ => none
def ai_ld : Instr → Nat → Option (Nat × Nat)
  | .iload_n k, 1 => some (k.val, 1)
  | .iload k, 2 => some (k, 1)
  | .lload_n k, 1 => some (k.val, 2)
  | .lload k, 2 => some (k, 2)
  | .aload_n k, 1 => some (k.val, 3)
  | .aload k, 2 => some (k, 3)
  | _, _ => none
def ai_sr : Instr → Nat → Option (Nat × Nat)
  | .istore_n k, 1 => some (k.val, 1)
  | .istore k, 2 => some (k, 1)
  | .lstore_n k, 1 => some (k.val, 2)
  | .lstore k, 2 => some (k, 2)
  | .astore_n k, 1 => some (k.val, 3)
  | .astore k, 2 => some (k, 3)
  | _, _ => none
section AIR
variable {p : Program} {l : Launch} {e : Env} {R : Room} {s : State} {m : MethodId} {args : Array Value} {below : List Frame} {meth : Method} {c : Code} {H : Heap} {locs : List Loc} {cells slots : Nat} {Q : State → Prop}
variable {cc : ByteArray} {pc : Nat} {ls : Array Slot} {rest : List Value} {i : Instr} {len : Nat}
theorem ai_bi_ok (hx : p.tables.exec = Jvm.exec) (hb : c.code = cc) {f : Int32 → Int32 → Int32} (h : ai_bi i len = some f) (hd : decode cc pc = .ok (i, len)) {x y : Int32}
    (k : W p l e R s m args below meth c H locs cells slots Q (F0 m (pc + len) ls (.int (f x y) :: rest))) : W p l e R s m args below meth c H locs cells slots Q (F0 m pc ls (.int y :: .int x :: rest)) := by
  unfold ai_bi at h
  split at h
  · cases h; exact lv_iadd hx hb hd k
  · cases h; exact lv_isub hx hb hd k
  · cases h; exact lv_imul hx hb hd k
  · cases h; exact lv_iand hx hb hd k
  · cases h; exact lv_ior hx hb hd k
  · cases h; exact lv_ixor hx hb hd k
  · cases h; exact lv_ishl hx hb hd k
  · cases h; exact lv_ishr hx hb hd k
  · cases h; exact lv_iushr hx hb hd rfl k
  · cases h
theorem ai_bl_ok (hx : p.tables.exec = Jvm.exec) (hb : c.code = cc) {f : Int64 → Int64 → Int64} (h : ai_bl i len = some f) (hd : decode cc pc = .ok (i, len)) {x y : Int64}
    (k : W p l e R s m args below meth c H locs cells slots Q (F0 m (pc + len) ls (.long (f x y) :: rest))) : W p l e R s m args below meth c H locs cells slots Q (F0 m pc ls (.long y :: .long x :: rest)) := by
  unfold ai_bl at h
  split at h
  · cases h; exact lv_ladd hx hb hd k
  · cases h; exact lv_lsub hx hb hd k
  · cases h; exact lv_land hx hb hd k
  · cases h; exact lv_lor hx hb hd k
  · cases h
theorem ai_bs_ok (hx : p.tables.exec = Jvm.exec) (hb : c.code = cc) {f : Int64 → Int32 → Int64} (h : ai_bs i len = some f) (hd : decode cc pc = .ok (i, len)) {x : Int64} {y : Int32}
    (k : W p l e R s m args below meth c H locs cells slots Q (F0 m (pc + len) ls (.long (f x y) :: rest))) : W p l e R s m args below meth c H locs cells slots Q (F0 m pc ls (.int y :: .long x :: rest)) := by
  unfold ai_bs at h
  split at h
  · cases h; exact lv_lshl hx hb hd rfl k
  · cases h; exact lv_lshr hx hb hd rfl k
  · cases h; exact lv_lushr hx hb hd rfl k
  · cases h
theorem ai_cs_ok (hx : p.tables.exec = Jvm.exec) (hb : c.code = cc) {a : AV} (h : ai_cs i len = some a) (hd : decode cc pc = .ok (i, len)) (E : AE) (ws : va_W)
    (k : ∀ v : Value, ai_V E ws a v → W p l e R s m args below meth c H locs cells slots Q (F0 m (pc + len) ls (v :: rest))) : W p l e R s m args below meth c H locs cells slots Q (F0 m pc ls rest) := by
  unfold ai_cs at h
  split at h
  · cases h; exact lv_iconst hx hb hd rfl (k _ rfl)
  · cases h; exact lv_bipush hx hb hd rfl (k _ rfl)
  · cases h; exact lv_sipush hx hb hd rfl (k _ rfl)
  · cases h; exact lv_lconst hx hb hd rfl (k _ rfl)
  · cases h; exact lv_null hx hb hd (k _ rfl)
  · cases h
theorem ai_ld_ok (hx : p.tables.exec = Jvm.exec) (hb : c.code = cc) {j t : Nat} (h : ai_ld i len = some (j, t)) (hd : decode cc pc = .ok (i, len)) {v : Value} (hl : ls[j]? = some (.val v)) {E : AE} {ws : va_W} {a : AV} (ha : ai_cat a = t) (hv : ai_V E ws a v)
    (k : W p l e R s m args below meth c H locs cells slots Q (F0 m (pc + len) ls (v :: rest))) : W p l e R s m args below meth c H locs cells slots Q (F0 m pc ls rest) := by
  unfold ai_ld at h
  split at h
  · cases h; obtain ⟨x, rfl⟩ := ai_V_int ha hv; exact lv_iload_n hx hb hd rfl hl k
  · cases h; obtain ⟨x, rfl⟩ := ai_V_int ha hv; exact lv_iload hx hb hd hl k
  · cases h; obtain ⟨x, rfl⟩ := ai_V_long ha hv; exact lv_lload_n hx hb hd rfl hl k
  · cases h; obtain ⟨x, rfl⟩ := ai_V_long ha hv; exact lv_lload hx hb hd hl k
  · cases h
    rcases ai_V_ref ha hv with rfl | ⟨x, rfl⟩
    · exact lv_aload_nN hx hb hd rfl hl k
    · exact lv_aload_n hx hb hd rfl hl k
  · cases h
    rcases ai_V_ref ha hv with rfl | ⟨x, rfl⟩
    · exact lv_aloadN hx hb hd hl k
    · exact lv_aload hx hb hd hl k
  · cases h
theorem ai_sr_ok (hx : p.tables.exec = Jvm.exec) (hb : c.code = cc) {j t nL : Nat} {lv : List (Nat × Value)} (h : ai_sr i len = some (j, t)) (hd : decode cc pc = .ok (i, len)) (hl : lv_has ls nL lv) (hn : j < nL) (hn2 : t = 2 → j + 1 < nL) {v : Value} {E : AE} {ws : va_W} {a : AV} (ha : ai_cat a = t) (hv : ai_V E ws a v)
    (k : ∀ ls' : Array Slot, lv_has ls' nL ((j, v) :: lv.filter (ai_fv j t)) → W p l e R s m args below meth c H locs cells slots Q (F0 m (pc + len) ls' rest)) : W p l e R s m args below meth c H locs cells slots Q (F0 m pc ls (v :: rest)) := by
  unfold ai_sr at h
  split at h
  · cases h; obtain ⟨x, rfl⟩ := ai_V_int ha hv; exact lv_istore_n hx hb hd rfl hl hn rfl k
  · cases h; obtain ⟨x, rfl⟩ := ai_V_int ha hv; exact lv_istore hx hb hd hl hn rfl k
  · cases h; obtain ⟨x, rfl⟩ := ai_V_long ha hv; exact lv_lstore_n hx hb hd rfl hl (hn2 rfl) rfl k
  · cases h; obtain ⟨x, rfl⟩ := ai_V_long ha hv; exact lv_lstore hx hb hd hl (hn2 rfl) rfl k
  · cases h
    rcases ai_V_ref ha hv with rfl | ⟨x, rfl⟩
    · exact lv_astore_nN hx hb hd rfl hl hn rfl k
    · exact lv_astore_n hx hb hd rfl hl hn rfl k
  · cases h
    rcases ai_V_ref ha hv with rfl | ⟨x, rfl⟩
    · exact lv_astoreN hx hb hd hl hn rfl k
    · exact lv_astore hx hb hd hl hn rfl k
  · cases h
end AIR
end
section
/-! ===== groups of instructions that move a frame alone, each with its law ===== -/
def ai_g1 (i : Instr) (len pc : Nat) (lo : ALo) (st : List AV) : Option (Nat × ALo × List AV) := match ai_cs i len with
  | some a => some (pc + len, lo, a :: st)
  | none => none
def ai_g2 (i : Instr) (len pc : Nat) (lo : ALo) (st : List AV) : Option (Nat × ALo × List AV) := match ai_ld i len with
  | none => none
  | some jt => match lo.find? (fun q => q.1 == jt.1) with
    | none => none
    | some q => if ai_cat q.2 = jt.2 then some (pc + len, lo, q.2 :: st) else none
def ai_g3 (nL : Nat) (i : Instr) (len pc : Nat) (lo : ALo) (st : List AV) : Option (Nat × ALo × List AV) := match ai_sr i len, st with
  | some jt, a :: st' => if ai_cat a = jt.2 ∧ jt.1 < nL ∧ (jt.2 = 2 → jt.1 + 1 < nL) then some (pc + len, (jt.1, a) :: lo.filter (ai_fl jt.1 jt.2), st') else none
  | _, _ => none
def ai_ri (f : Int32 → Int32 → Int32) (x y : AV) : AV := match x, y with
  | .inl a, .inl b => .inl (f a b)
  | _, _ => ai_top
def ai_r1 (op : Option Int32) (i : Instr) (f : Int32 → Int32 → Int32) (x y : AV) : AV := match op with
  | some k => if i = .iand ∧ x = .inr (.inr (.inr (.inr 40))) ∧ y = .inl 15 then .inl k else ai_ri f x y
  | none => ai_ri f x y
def ai_g4 (op : Option Int32) (i : Instr) (len pc : Nat) (lo : ALo) (st : List AV) : Option (Nat × ALo × List AV) := match ai_bi i len, st with
  | some f, y :: x :: st' => if ai_cat x = 1 ∧ ai_cat y = 1 then some (pc + len, lo, ai_r1 op i f x y :: st') else none
  | _, _ => none
def ai_rl (f : Int64 → Int64 → Int64) (x y : AV) : AV := match x, y with
  | .inr (.inr (.inl (some a))), .inr (.inr (.inl (some b))) => .inr (.inr (.inl (some (f a b))))
  | _, _ => .inr (.inr (.inl none))
def ai_xn : AV → Nat
  | .inr (.inr (.inr (.inr n))) => n
  | _ => 0
def ai_r2 (i : Instr) (f : Int64 → Int64 → Int64) (x y : AV) : AV :=
  if i = .land ∧ y = .inr (.inr (.inl (some 4294967295))) ∧ x = .inr (.inr (.inr (.inr 4))) then .inr (.inr (.inr (.inr 6)))
  else if i = .lor ∧ y = .inr (.inr (.inr (.inr 6))) ∧ x = .inr (.inr (.inr (.inr 3))) then .inr (.inr (.inr (.inr 1)))
  else if i = .land ∧ y = .inr (.inr (.inl (some 255))) ∧ x = .inr (.inr (.inr (.inr (ai_xn x)))) ∧ 10 ≤ ai_xn x ∧ ai_xn x < 18 then .inr (.inr (.inr (.inr (ai_xn x + 10))))
  else ai_rl f x y
def ai_g5 (i : Instr) (len pc : Nat) (lo : ALo) (st : List AV) : Option (Nat × ALo × List AV) := match ai_bl i len, st with
  | some f, y :: x :: st' => if ai_cat x = 2 ∧ ai_cat y = 2 then some (pc + len, lo, ai_r2 i f x y :: st') else none
  | _, _ => none
def ai_rs (f : Int64 → Int32 → Int64) (x y : AV) : AV := match x, y with
  | .inr (.inr (.inl (some a))), .inl b => .inr (.inr (.inl (some (f a b))))
  | _, _ => .inr (.inr (.inl none))
def ai_kn : AV → Nat
  | .inl c => c.toNatClampNeg / 8
  | _ => 0
def ai_r3 (i : Instr) (f : Int64 → Int32 → Int64) (x y : AV) : AV :=
  if i = .lshl ∧ x = .inr (.inr (.inr (.inr 2))) ∧ y = .inl 32 then .inr (.inr (.inr (.inr 3)))
  else if i = .lshr ∧ x = .inr (.inr (.inr (.inr 1))) ∧ y = .inl (nI (8 * ai_kn y)) ∧ ai_kn y < 8 then .inr (.inr (.inr (.inr (10 + ai_kn y))))
  else ai_rs f x y
def ai_g6 (i : Instr) (len pc : Nat) (lo : ALo) (st : List AV) : Option (Nat × ALo × List AV) := match ai_bs i len, st with
  | some f, y :: x :: st' => if ai_cat x = 2 ∧ ai_cat y = 1 then some (pc + len, lo, ai_r3 i f x y :: st') else none
  | _, _ => none
def ai_i2l (x : AV) : AV := match x with
  | .inl c => .inr (.inr (.inl (some c.toInt64)))
  | .inr (.inr (.inr (.inr n))) => if n = 41 then .inr (.inr (.inr (.inr 2))) else if n = 42 then .inr (.inr (.inr (.inr 4))) else .inr (.inr (.inl none))
  | _ => .inr (.inr (.inl none))
def ai_l2i (x : AV) : AV := match x with
  | .inr (.inr (.inl (some c))) => .inl c.toInt32
  | .inr (.inr (.inr (.inr n))) => if 20 ≤ n ∧ n < 28 then .inr (.inr (.inr (.inr (n + 10)))) else ai_top
  | _ => ai_top
def ai_i2b (x : AV) : AV := match x with
  | .inl c => .inl c.toInt8.toInt32
  | _ => ai_top
def ai_g7 (i : Instr) (len pc : Nat) (lo : ALo) (st : List AV) : Option (Nat × ALo × List AV) := match i, len, st with
  | .i2l, 1, x :: st' => if ai_cat x = 1 then some (pc + 1, lo, ai_i2l x :: st') else none
  | .l2i, 1, x :: st' => if ai_cat x = 2 then some (pc + 1, lo, ai_l2i x :: st') else none
  | .i2b, 1, x :: st' => if ai_cat x = 1 then some (pc + 1, lo, ai_i2b x :: st') else none
  | _, _, _ => none
def ai_lc (x y : AV) : AV := match x, y with
  | .inr (.inr (.inl (some a))), .inr (.inr (.inl (some b))) => .inl (lg_cmp a b)
  | _, _ => .inr (.inl (-1, 1))
def ai_g8 (nL : Nat) (i : Instr) (len pc : Nat) (lo : ALo) (st : List AV) : Option (Nat × ALo × List AV) := match i, len, st with
  | .lcmp, 1, y :: x :: st' => if ai_cat x = 2 ∧ ai_cat y = 2 then some (pc + 1, lo, ai_lc x y :: st') else none
  | .dup, 1, x :: st' => if ai_wd x = 1 then some (pc + 1, lo, x :: x :: st') else none
  | .dup2, 1, x :: y :: st' => if ai_wd x = 1 ∧ ai_wd y = 1 then some (pc + 1, lo, x :: y :: x :: y :: st') else none
  | .pop, 1, x :: st' => if ai_wd x = 1 then some (pc + 1, lo, st') else none
  | .iinc j n, 3, st => match lo.find? (fun q => q.1 == j) with
    | some (_, .inl c) => if j < nL then some (pc + 3, (j, .inl (c + Int32.ofInt n)) :: lo.filter (ai_fl j 1), st) else none
    | _ => none
  | .goto off, 3, st => if 0 ≤ (pc : Int) + off then some (((pc : Int) + off).toNat, lo, st) else none
  | _, _, _ => none
def ai_iv : AV → Option (Int × Int)
  | .inl c => some (c.toInt, c.toInt)
  | .inr (.inl q) => some q
  | _ => none
def ai_lt (a b : Int × Int) : Option Bool := if a.2 < b.1 then some true else if b.2 ≤ a.1 then some false else none
def ai_eq (a b : Int × Int) : Option Bool := if a.2 < b.1 then some false else if b.2 < a.1 then some false else if a.1 = a.2 ∧ b.1 = b.2 ∧ a.1 = b.1 then some true else none
def ai_not (b : Option Bool) : Option Bool := match b with
  | some true => some false
  | some false => some true
  | none => none
def ai_cmp (k : Jvm.ClassFile.Cond) (a b : Int × Int) : Option Bool := match k with
  | .eq => ai_eq a b
  | .ne => ai_not (ai_eq a b)
  | .lt => ai_lt a b
  | .ge => ai_not (ai_lt a b)
  | .gt => ai_lt b a
  | .le => ai_not (ai_lt b a)
def ai_rel (k : Jvm.ClassFile.Cond) (x y : Int32) : Prop := match k with
  | .eq => x = y
  | .ne => ¬ x = y
  | .lt => x < y
  | .ge => y ≤ x
  | .gt => y < x
  | .le => x ≤ y
def ai_to (pc : Nat) (off : Int) (b : Option Bool) : Option Nat := if 0 ≤ (pc : Int) + off then (match b with
  | some true => some ((pc : Int) + off).toNat
  | some false => some (pc + 3)
  | none => none) else none
def ai_bo (k : Jvm.ClassFile.Cond) (x y : AV) : Option Bool := match ai_iv x, ai_iv y with
  | some a, some b => ai_cmp k a b
  | _, _ => none
def ai_g9 (i : Instr) (len pc : Nat) (lo : ALo) (st : List AV) : Option (Nat × ALo × List AV) := match i, len, st with
  | .if_icmp k off, 3, y :: x :: st' => match ai_to pc off (ai_bo k x y) with
    | some t => some (t, lo, st')
    | none => none
  | .ifCond k off, 3, x :: st' => match ai_to pc off (ai_bo k x (.inl 0)) with
    | some t => some (t, lo, st')
    | none => none
  | _, _, _ => none
def ai_sw (pc : Nat) (dflt lo hi : Int) (offs : Array Int) (q : Int × Int) : Option Nat :=
  if q.2 < lo ∨ hi < q.1 then (if 0 ≤ (pc : Int) + dflt then some ((pc : Int) + dflt).toNat else none)
  else if q.1 = q.2 then (match offs[(q.1 - lo).toNat]? with
    | some off => if 0 ≤ (pc : Int) + off then some ((pc : Int) + off).toNat else none
    | none => none)
  else none
def ai_g10 (i : Instr) (len pc : Nat) (lo : ALo) (st : List AV) : Option (Nat × ALo × List AV) := match i, st with
  | .tableswitch d a b offs, x :: st' => match ai_iv x with
    | some q => match ai_sw pc d a b offs q with
      | some t => some (t, lo, st')
      | none => none
    | none => none
  | _, _ => none
/-! what stands for the answers -/
section AIV
variable {E : AE} {ws : va_W}
theorem ai_bi_iand {len : Nat} {f : Int32 → Int32 → Int32} (h : ai_bi .iand len = some f) : f = fun x y => x &&& y := by
  match len, h with
  | 0, h => cases h
  | 1, h => exact (Option.some.inj h).symm
  | n + 2, h => cases h
theorem ai_bl_land {len : Nat} {f : Int64 → Int64 → Int64} (h : ai_bl .land len = some f) : f = fun x y => x &&& y := by
  match len, h with
  | 0, h => cases h
  | 1, h => exact (Option.some.inj h).symm
  | n + 2, h => cases h
theorem ai_bl_lor {len : Nat} {f : Int64 → Int64 → Int64} (h : ai_bl .lor len = some f) : f = fun x y => x ||| y := by
  match len, h with
  | 0, h => cases h
  | 1, h => exact (Option.some.inj h).symm
  | n + 2, h => cases h
theorem ai_bs_lshl {len : Nat} {f : Int64 → Int32 → Int64} (h : ai_bs .lshl len = some f) : f = fun (x : Int64) (y : Int32) => x <<< (y.toInt64 &&& 63) := by
  match len, h with
  | 0, h => cases h
  | 1, h => exact (Option.some.inj h).symm
  | n + 2, h => cases h
theorem ai_bs_lshr {len : Nat} {f : Int64 → Int32 → Int64} (h : ai_bs .lshr len = some f) : f = fun (x : Int64) (y : Int32) => x >>> (y.toInt64 &&& 63) := by
  match len, h with
  | 0, h => cases h
  | 1, h => exact (Option.some.inj h).symm
  | n + 2, h => cases h
theorem ai_VX {n : Nat} (h0 : ¬ n = 0) {v : Value} : ai_V E ws (.inr (.inr (.inr (.inr n)))) v ↔ v = ai_xv E n := by
  show (if n = 0 then ∃ a, v = .ref a else v = ai_xv E n) ↔ _
  rw [if_neg h0]
theorem ai_ri_ok {f : Int32 → Int32 → Int32} {x y : AV} {a b : Int32} (hx : ai_V E ws x (.int a)) (hy : ai_V E ws y (.int b)) : ai_V E ws (ai_ri f x y) (.int (f a b)) := by
  unfold ai_ri
  split
  · have h1 : Value.int a = .int _ := hx
    have h2 : Value.int b = .int _ := hy
    cases h1; cases h2
    rfl
  · exact ai_top_ok _
theorem ai_r1_ok {op : Option Int32} (hop : ∀ k, op = some k → E.2.1 &&& 15 = k) {i : Instr} {len : Nat} {f : Int32 → Int32 → Int32} (h : ai_bi i len = some f) {x y : AV} {a b : Int32} (hx : ai_V E ws x (.int a)) (hy : ai_V E ws y (.int b)) : ai_V E ws (ai_r1 op i f x y) (.int (f a b)) := by
  unfold ai_r1
  split
  case h_2 => exact ai_ri_ok hx hy
  next k =>
  split
  · next q =>
    obtain ⟨rfl, rfl, rfl⟩ := q
    rw [ai_bi_iand h]
    have h1 := (ai_VX (by decide)).mp hx
    have h2 : Value.int b = .int 15 := hy
    obtain rfl := Value.int.inj h2
    have h3 : Value.int a = .int E.2.1 := h1
    obtain rfl := Value.int.inj h3
    exact congrArg Value.int (hop k rfl)
  · exact ai_ri_ok hx hy
theorem ai_rl_ok {f : Int64 → Int64 → Int64} {x y : AV} {a b : Int64} (hx : ai_V E ws x (.long a)) (hy : ai_V E ws y (.long b)) : ai_V E ws (ai_rl f x y) (.long (f a b)) := by
  unfold ai_rl
  split
  · have h1 : Value.long a = .long _ := hx
    have h2 : Value.long b = .long _ := hy
    cases h1; cases h2
    rfl
  · exact ⟨_, rfl⟩
theorem ai_r2_ok {i : Instr} {len : Nat} {f : Int64 → Int64 → Int64} (h : ai_bl i len = some f) {x y : AV} {a b : Int64} (hx : ai_V E ws x (.long a)) (hy : ai_V E ws y (.long b)) : ai_V E ws (ai_r2 i f x y) (.long (f a b)) := by
  unfold ai_r2
  split
  · next q =>
    obtain ⟨rfl, rfl, rfl⟩ := q
    rw [ai_bl_land h]
    have h1 : Value.long a = .long E.2.2.2.toInt64 := (ai_VX (by decide)).mp hx
    have h2 : Value.long b = .long 4294967295 := hy
    obtain rfl := Value.long.inj h1
    obtain rfl := Value.long.inj h2
    exact (ai_VX (by decide)).mpr rfl
  · split
    · next q =>
      obtain ⟨rfl, rfl, rfl⟩ := q
      rw [ai_bl_lor h]
      have h1 : Value.long a = .long (E.2.2.1.toInt64 <<< ((32 : Int32).toInt64 &&& 63)) := (ai_VX (by decide)).mp hx
      have h2 : Value.long b = .long (E.2.2.2.toInt64 &&& 4294967295) := (ai_VX (by decide)).mp hy
      obtain rfl := Value.long.inj h1
      obtain rfl := Value.long.inj h2
      exact (ai_VX (by decide)).mpr rfl
    · split
      · next q =>
        obtain ⟨rfl, rfl, q3, q4, q5⟩ := q
        rw [ai_bl_land h]
        generalize ai_xn x = n at q3 q4 q5
        subst q3
        have h1 := (ai_VX (by omega)).mp hx
        have h2 : Value.long b = .long 255 := hy
        obtain rfl := Value.long.inj h2
        rw [ai_xv, if_neg (by omega), if_pos (by omega)] at h1
        obtain rfl := Value.long.inj h1
        refine (ai_VX (by omega)).mpr ?_
        rw [ai_xv, if_neg (by omega), if_pos (by omega)]
        refine congrArg Value.long ?_
        unfold ai_xl
        rw [if_neg (by omega), if_neg (by omega), if_neg (by omega), if_neg (by omega), if_neg (by omega), if_pos (by omega), if_neg (by omega), if_neg (by omega), if_neg (by omega), if_neg (by omega), if_neg (by omega), if_neg (by omega)]
        rw [show n + 10 - 20 = n - 10 by omega]
      · exact ai_rl_ok hx hy
theorem ai_rs_ok {f : Int64 → Int32 → Int64} {x y : AV} {a : Int64} {b : Int32} (hx : ai_V E ws x (.long a)) (hy : ai_V E ws y (.int b)) : ai_V E ws (ai_rs f x y) (.long (f a b)) := by
  unfold ai_rs
  split
  · have h1 : Value.long a = .long _ := hx
    have h2 : Value.int b = .int _ := hy
    cases h1; cases h2
    rfl
  · exact ⟨_, rfl⟩
theorem ai_r3_ok {i : Instr} {len : Nat} {f : Int64 → Int32 → Int64} (h : ai_bs i len = some f) {x y : AV} {a : Int64} {b : Int32} (hx : ai_V E ws x (.long a)) (hy : ai_V E ws y (.int b)) : ai_V E ws (ai_r3 i f x y) (.long (f a b)) := by
  unfold ai_r3
  split
  · next q =>
    obtain ⟨rfl, rfl, rfl⟩ := q
    rw [ai_bs_lshl h]
    have h1 : Value.long a = .long E.2.2.1.toInt64 := (ai_VX (by decide)).mp hx
    have h2 : Value.int b = .int 32 := hy
    obtain rfl := Value.long.inj h1
    obtain rfl := Value.int.inj h2
    exact (ai_VX (by decide)).mpr rfl
  · split
    · next q =>
      obtain ⟨rfl, rfl, q3, q4⟩ := q
      rw [ai_bs_lshr h]
      generalize ai_kn y = n at q3 q4
      subst q3
      have h1 : Value.long a = .long (ai_w0 E) := (ai_VX (by decide)).mp hx
      have h2 : Value.int b = .int (nI (8 * n)) := hy
      obtain rfl := Value.long.inj h1
      obtain rfl := Value.int.inj h2
      refine (ai_VX (by omega)).mpr ?_
      rw [ai_xv, if_neg (by omega), if_pos (by omega)]
      refine congrArg Value.long ?_
      unfold ai_xl
      rw [if_neg (by omega), if_neg (by omega), if_neg (by omega), if_neg (by omega), if_neg (by omega), if_pos (by omega)]
      rw [show 10 + n - 10 = n by omega]
      rfl
    · exact ai_rs_ok hx hy
theorem ai_i2l_ok {x : AV} {a : Int32} (hx : ai_V E ws x (.int a)) : ai_V E ws (ai_i2l x) (.long a.toInt64) := by
  unfold ai_i2l
  split
  · have h1 : Value.int a = .int _ := hx
    cases h1
    rfl
  · next n =>
    split
    · next q =>
      subst q
      have h1 : Value.int a = .int E.2.2.1 := (ai_VX (by decide)).mp hx
      obtain rfl := Value.int.inj h1
      exact (ai_VX (by decide)).mpr rfl
    · split
      · next q =>
        subst q
        have h1 : Value.int a = .int E.2.2.2 := (ai_VX (by decide)).mp hx
        obtain rfl := Value.int.inj h1
        exact (ai_VX (by decide)).mpr rfl
      · exact ⟨_, rfl⟩
  · exact ⟨_, rfl⟩
theorem ai_l2i_ok {x : AV} {a : Int64} (hx : ai_V E ws x (.long a)) : ai_V E ws (ai_l2i x) (.int a.toInt32) := by
  unfold ai_l2i
  split
  · have h1 : Value.long a = .long _ := hx
    cases h1
    rfl
  · next n =>
    split
    · next q =>
      have h1 := (ai_VX (by omega)).mp hx
      rw [ai_xv, if_neg (by omega), if_pos (by omega)] at h1
      cases h1
      refine (ai_VX (by omega)).mpr ?_
      rw [ai_xv, if_neg (by omega), if_neg (by omega)]
      refine congrArg Value.int ?_
      unfold ai_xi ai_xl
      rw [if_neg (by omega), if_neg (by omega), if_neg (by omega), if_neg (by omega), if_neg (by omega), if_neg (by omega), if_neg (by omega), if_neg (by omega), if_neg (by omega)]
      rw [show n + 10 - 30 = n - 20 by omega]
    · exact ai_top_ok _
  · exact ai_top_ok _
theorem ai_i2b_ok {x : AV} {a : Int32} (hx : ai_V E ws x (.int a)) : ai_V E ws (ai_i2b x) (.int a.toInt8.toInt32) := by
  unfold ai_i2b
  split
  · have h1 : Value.int a = .int _ := hx
    cases h1
    rfl
  · exact ai_top_ok _
theorem ai_lc_ok {x y : AV} {a b : Int64} (hx : ai_V E ws x (.long a)) (hy : ai_V E ws y (.long b)) : ai_V E ws (ai_lc x y) (.int (lg_cmp a b)) := by
  unfold ai_lc
  split
  · have h1 : Value.long a = .long _ := hx
    have h2 : Value.long b = .long _ := hy
    cases h1; cases h2
    rfl
  · refine ⟨_, rfl, ?_⟩
    unfold lg_cmp
    split
    · exact ⟨by decide, by decide⟩
    · split
      · exact ⟨by decide, by decide⟩
      · exact ⟨by decide, by decide⟩
theorem ai_iv_ok {a : AV} {q : Int × Int} (h : ai_iv a = some q) {v : Value} (hv : ai_V E ws a v) : ∃ x : Int32, v = .int x ∧ q.1 ≤ x.toInt ∧ x.toInt ≤ q.2 := by
  unfold ai_iv at h
  split at h
  · cases h; exact ⟨_, hv, Int.le_refl _, Int.le_refl _⟩
  · cases h; exact hv
  · cases h
theorem ai_lt_ok {a b : Int × Int} {t : Bool} {x y : Int32} (h : ai_lt a b = some t) (h1 : a.1 ≤ x.toInt) (h2 : x.toInt ≤ a.2) (h3 : b.1 ≤ y.toInt) (h4 : y.toInt ≤ b.2) : x < y ↔ t = true := by
  unfold ai_lt at h
  rw [Int32.lt_iff_toInt_lt]
  split at h
  · cases h; exact ⟨fun _ => rfl, fun _ => by omega⟩
  · split at h
    · cases h; exact ⟨fun q => by omega, fun q => by cases q⟩
    · cases h
theorem ai_eq_ok {a b : Int × Int} {t : Bool} {x y : Int32} (h : ai_eq a b = some t) (h1 : a.1 ≤ x.toInt) (h2 : x.toInt ≤ a.2) (h3 : b.1 ≤ y.toInt) (h4 : y.toInt ≤ b.2) : x = y ↔ t = true := by
  unfold ai_eq at h
  rw [← Int32.toInt_inj]
  split at h
  · cases h; exact ⟨fun q => by omega, fun q => by cases q⟩
  · split at h
    · cases h; exact ⟨fun q => by omega, fun q => by cases q⟩
    · split at h
      · next q => cases h; exact ⟨fun _ => rfl, fun _ => by omega⟩
      · cases h
theorem ai_not_ok {b : Option Bool} {t : Bool} (h : ai_not b = some t) {P : Prop} (k : ∀ u : Bool, b = some u → (P ↔ u = true)) : ¬ P ↔ t = true := by
  match b, h with
  | some true, h =>
    cases h
    have := k true rfl
    exact ⟨fun q => absurd (this.mpr rfl) q, fun q => by cases q⟩
  | some false, h =>
    cases h
    have := k false rfl
    exact ⟨fun _ => rfl, fun _ q => by cases this.mp q⟩
  | none, h => cases h
theorem ai_cmp_ok {k : Jvm.ClassFile.Cond} {a b : Int × Int} {t : Bool} {x y : Int32} (h : ai_cmp k a b = some t) (h1 : a.1 ≤ x.toInt) (h2 : x.toInt ≤ a.2) (h3 : b.1 ≤ y.toInt) (h4 : y.toInt ≤ b.2) : ai_rel k x y ↔ t = true := by
  cases k with
  | eq => exact ai_eq_ok h h1 h2 h3 h4
  | ne => exact ai_not_ok h (fun u hu => ai_eq_ok hu h1 h2 h3 h4)
  | lt => exact ai_lt_ok h h1 h2 h3 h4
  | ge =>
    have := ai_not_ok h (fun u hu => ai_lt_ok hu h1 h2 h3 h4)
    rw [Int32.not_lt] at this
    exact this
  | gt => exact ai_lt_ok h h3 h4 h1 h2
  | le =>
    have := ai_not_ok h (fun u hu => ai_lt_ok hu h3 h4 h1 h2)
    rw [Int32.not_lt] at this
    exact this
theorem ai_bo_ok {k : Jvm.ClassFile.Cond} {x y : AV} {t : Bool} (h : ai_bo k x y = some t) {v w : Value} (hv : ai_V E ws x v) (hw : ai_V E ws y w) : ∃ a b : Int32, v = .int a ∧ w = .int b ∧ (ai_rel k a b ↔ t = true) := by
  unfold ai_bo at h
  split at h
  · next q r h1 h2 =>
    obtain ⟨a, e1, l1, l2⟩ := ai_iv_ok h1 hv
    obtain ⟨b, e2, l3, l4⟩ := ai_iv_ok h2 hw
    exact ⟨a, b, e1, e2, ai_cmp_ok h l1 l2 l3 l4⟩
  · cases h
end AIV
end
section
/-! ===== the groups' laws over the machine ===== -/
def ai_KW (p : Program) (l : Launch) (e : Env) (R : Room) (s : State) (m : MethodId) (args : Array Value) (below : List Frame) (meth : Method) (c : Code) (H : Heap) (locs : List Loc) (cells slots : Nat) (Q : State → Prop) (E : AE) (ws : va_W) (nL : Nat) (r : Nat × ALo × List AV) : Prop :=
  ∀ (ls : Array Slot) (lv : List (Nat × Value)) (vs : List Value), lv_has ls nL lv → ai_L E ws r.2.1 lv → ai_S E ws r.2.2 vs → W p l e R s m args below meth c H locs cells slots Q (F0 m r.1 ls vs)
section AIG
variable {p : Program} {l : Launch} {e : Env} {R : Room} {s : State} {m : MethodId} {args : Array Value} {below : List Frame} {meth : Method} {c : Code} {H : Heap} {locs : List Loc} {cells slots : Nat} {Q : State → Prop}
variable {cc : ByteArray} {pc : Nat} {ls : Array Slot} {i : Instr} {len nL : Nat} {E : AE} {ws : va_W} {lo : ALo} {st : List AV} {lv : List (Nat × Value)} {vs : List Value} {r : Nat × ALo × List AV}
theorem ai_g1_ok (hx : p.tables.exec = Jvm.exec) (hb : c.code = cc) (hd : decode cc pc = .ok (i, len)) (hl : lv_has ls nL lv) (hL : ai_L E ws lo lv) (hS : ai_S E ws st vs) (h : ai_g1 i len pc lo st = some r)
    (k : ai_KW p l e R s m args below meth c H locs cells slots Q E ws nL r) : W p l e R s m args below meth c H locs cells slots Q (F0 m pc ls vs) := by
  unfold ai_g1 at h
  split at h
  · next a ha =>
    cases h
    exact ai_cs_ok hx hb ha hd E ws (fun v hv => k ls lv (v :: vs) hl hL ⟨hv, hS⟩)
  · cases h
theorem ai_g2_ok (hx : p.tables.exec = Jvm.exec) (hb : c.code = cc) (hd : decode cc pc = .ok (i, len)) (hl : lv_has ls nL lv) (hL : ai_L E ws lo lv) (hS : ai_S E ws st vs) (h : ai_g2 i len pc lo st = some r)
    (k : ai_KW p l e R s m args below meth c H locs cells slots Q E ws nL r) : W p l e R s m args below meth c H locs cells slots Q (F0 m pc ls vs) := by
  unfold ai_g2 at h
  split at h
  · cases h
  · next jt hjt =>
    split at h
    · cases h
    · next q hq =>
      split at h
      · next hc =>
        cases h
        obtain ⟨k2, v, h1, h2⟩ := ai_find jt.1 hL hq
        exact ai_ld_ok hx hb hjt hd (lv_at hl k2 h1) hc h2 (k ls lv (v :: vs) hl hL ⟨h2, hS⟩)
      · cases h
theorem ai_g3_ok (hx : p.tables.exec = Jvm.exec) (hb : c.code = cc) (hd : decode cc pc = .ok (i, len)) (hl : lv_has ls nL lv) (hL : ai_L E ws lo lv) (hS : ai_S E ws st vs) (h : ai_g3 nL i len pc lo st = some r)
    (k : ai_KW p l e R s m args below meth c H locs cells slots Q E ws nL r) : W p l e R s m args below meth c H locs cells slots Q (F0 m pc ls vs) := by
  unfold ai_g3 at h
  split at h
  · next jt a st' hjt =>
    match vs, hS with
    | [], hS => exact hS.elim
    | v :: vs, ⟨hv, hS⟩ =>
      split at h
      · next hc =>
        cases h
        exact ai_sr_ok hx hb hjt hd hl hc.2.1 hc.2.2 hc.1 hv (fun ls' hl' => k ls' _ vs hl' ⟨⟨rfl, hv⟩, ai_filter jt.1 jt.2 hL⟩ hS)
      · cases h
  · cases h
theorem ai_g4_ok {op : Option Int32} (hop : ∀ k, op = some k → E.2.1 &&& 15 = k) (hx : p.tables.exec = Jvm.exec) (hb : c.code = cc) (hd : decode cc pc = .ok (i, len)) (hl : lv_has ls nL lv) (hL : ai_L E ws lo lv) (hS : ai_S E ws st vs) (h : ai_g4 op i len pc lo st = some r)
    (k : ai_KW p l e R s m args below meth c H locs cells slots Q E ws nL r) : W p l e R s m args below meth c H locs cells slots Q (F0 m pc ls vs) := by
  unfold ai_g4 at h
  split at h
  · next f y x st' hf =>
    match vs, hS with
    | [], hS => exact hS.elim
    | [_], ⟨_, hS⟩ => exact hS.elim
    | w :: v :: vs, ⟨hw, hv, hS⟩ =>
      split at h
      · next hc =>
        cases h
        obtain ⟨a, rfl⟩ := ai_V_int hc.1 hv
        obtain ⟨b, rfl⟩ := ai_V_int hc.2 hw
        exact ai_bi_ok hx hb hf hd (k ls lv (_ :: vs) hl hL ⟨ai_r1_ok hop hf hv hw, hS⟩)
      · cases h
  · cases h
theorem ai_g5_ok (hx : p.tables.exec = Jvm.exec) (hb : c.code = cc) (hd : decode cc pc = .ok (i, len)) (hl : lv_has ls nL lv) (hL : ai_L E ws lo lv) (hS : ai_S E ws st vs) (h : ai_g5 i len pc lo st = some r)
    (k : ai_KW p l e R s m args below meth c H locs cells slots Q E ws nL r) : W p l e R s m args below meth c H locs cells slots Q (F0 m pc ls vs) := by
  unfold ai_g5 at h
  split at h
  · next f y x st' hf =>
    match vs, hS with
    | [], hS => exact hS.elim
    | [_], ⟨_, hS⟩ => exact hS.elim
    | w :: v :: vs, ⟨hw, hv, hS⟩ =>
      split at h
      · next hc =>
        cases h
        obtain ⟨a, rfl⟩ := ai_V_long hc.1 hv
        obtain ⟨b, rfl⟩ := ai_V_long hc.2 hw
        exact ai_bl_ok hx hb hf hd (k ls lv (_ :: vs) hl hL ⟨ai_r2_ok hf hv hw, hS⟩)
      · cases h
  · cases h
theorem ai_g6_ok (hx : p.tables.exec = Jvm.exec) (hb : c.code = cc) (hd : decode cc pc = .ok (i, len)) (hl : lv_has ls nL lv) (hL : ai_L E ws lo lv) (hS : ai_S E ws st vs) (h : ai_g6 i len pc lo st = some r)
    (k : ai_KW p l e R s m args below meth c H locs cells slots Q E ws nL r) : W p l e R s m args below meth c H locs cells slots Q (F0 m pc ls vs) := by
  unfold ai_g6 at h
  split at h
  · next f y x st' hf =>
    match vs, hS with
    | [], hS => exact hS.elim
    | [_], ⟨_, hS⟩ => exact hS.elim
    | w :: v :: vs, ⟨hw, hv, hS⟩ =>
      split at h
      · next hc =>
        cases h
        obtain ⟨a, rfl⟩ := ai_V_long hc.1 hv
        obtain ⟨b, rfl⟩ := ai_V_int hc.2 hw
        exact ai_bs_ok hx hb hf hd (k ls lv (_ :: vs) hl hL ⟨ai_r3_ok hf hv hw, hS⟩)
      · cases h
  · cases h
theorem ai_g7_ok (hx : p.tables.exec = Jvm.exec) (hb : c.code = cc) (hd : decode cc pc = .ok (i, len)) (hl : lv_has ls nL lv) (hL : ai_L E ws lo lv) (hS : ai_S E ws st vs) (h : ai_g7 i len pc lo st = some r)
    (k : ai_KW p l e R s m args below meth c H locs cells slots Q E ws nL r) : W p l e R s m args below meth c H locs cells slots Q (F0 m pc ls vs) := by
  unfold ai_g7 at h
  split at h
  · next x st' =>
    match vs, hS with
    | [], hS => exact hS.elim
    | v :: vs, ⟨hv, hS⟩ =>
      split at h
      · next hc =>
        cases h
        obtain ⟨a, rfl⟩ := ai_V_int hc hv
        exact lv_i2l hx hb hd rfl (k ls lv (_ :: vs) hl hL ⟨ai_i2l_ok hv, hS⟩)
      · cases h
  · next x st' =>
    match vs, hS with
    | [], hS => exact hS.elim
    | v :: vs, ⟨hv, hS⟩ =>
      split at h
      · next hc =>
        cases h
        obtain ⟨a, rfl⟩ := ai_V_long hc hv
        exact lv_l2i hx hb hd rfl (k ls lv (_ :: vs) hl hL ⟨ai_l2i_ok hv, hS⟩)
      · cases h
  · next x st' =>
    match vs, hS with
    | [], hS => exact hS.elim
    | v :: vs, ⟨hv, hS⟩ =>
      split at h
      · next hc =>
        cases h
        obtain ⟨a, rfl⟩ := ai_V_int hc hv
        exact lv_i2b hx hb hd rfl (k ls lv (_ :: vs) hl hL ⟨ai_i2b_ok hv, hS⟩)
      · cases h
  · cases h
theorem ai_g8_ok (hx : p.tables.exec = Jvm.exec) (hb : c.code = cc) (hd : decode cc pc = .ok (i, len)) (hl : lv_has ls nL lv) (hL : ai_L E ws lo lv) (hS : ai_S E ws st vs) (h : ai_g8 nL i len pc lo st = some r)
    (k : ai_KW p l e R s m args below meth c H locs cells slots Q E ws nL r) : W p l e R s m args below meth c H locs cells slots Q (F0 m pc ls vs) := by
  unfold ai_g8 at h
  split at h
  · next y x st' =>
    match vs, hS with
    | [], hS => exact hS.elim
    | [_], ⟨_, hS⟩ => exact hS.elim
    | w :: v :: vs, ⟨hw, hv, hS⟩ =>
      split at h
      · next hc =>
        cases h
        obtain ⟨a, rfl⟩ := ai_V_long hc.1 hv
        obtain ⟨b, rfl⟩ := ai_V_long hc.2 hw
        exact W.lcmp hx hb hd (k ls lv (_ :: vs) hl hL ⟨ai_lc_ok hv hw, hS⟩)
      · cases h
  · next x st' =>
    match vs, hS with
    | [], hS => exact hS.elim
    | v :: vs, ⟨hv, hS⟩ =>
      split at h
      · next hc =>
        cases h
        exact lv_dup hx hb hd ((ai_V_wd hv).trans hc) (k ls lv (v :: v :: vs) hl hL ⟨hv, hv, hS⟩)
      · cases h
  · next x y st' =>
    match vs, hS with
    | [], hS => exact hS.elim
    | [_], ⟨_, hS⟩ => exact hS.elim
    | v :: w :: vs, ⟨hv, hw, hS⟩ =>
      split at h
      · next hc =>
        cases h
        exact lv_dup2_11 hx hb hd ((ai_V_wd hv).trans hc.1) ((ai_V_wd hw).trans hc.2) (k ls lv (v :: w :: v :: w :: vs) hl hL ⟨hv, hw, hv, hw, hS⟩)
      · cases h
  · next x st' =>
    match vs, hS with
    | [], hS => exact hS.elim
    | v :: vs, ⟨hv, hS⟩ =>
      split at h
      · next hc =>
        cases h
        exact lv_pop hx hb hd ((ai_V_wd hv).trans hc) (k ls lv vs hl hL hS)
      · cases h
  · next st' j n =>
    split at h
    · next j' b hq =>
      split at h
      · next hn =>
        cases h
        obtain ⟨k2, v, h1, h2⟩ := ai_find j hL hq
        have h2 : v = .int b := h2
        subst h2
        exact lv_iinc hx hb hd hl h1 rfl hn rfl (fun ls' hl' => k ls' _ vs hl' ⟨⟨rfl, rfl⟩, ai_filter j 1 hL⟩ hS)
      · cases h
    · cases h
  · next off st' =>
    split at h
    · next hz =>
      cases h
      exact lv_goto hx hb hd (by omega) (k ls lv vs hl hL hS)
    · cases h
  · cases h
theorem ai_icmp_ok (hx : p.tables.exec = Jvm.exec) (hb : c.code = cc) {q : Jvm.ClassFile.Cond} {off : Int} (hd : decode cc pc = .ok (.if_icmp q off, 3)) {rest : List Value} {x y : Int32} {t : Bool} {tg : Nat} (hr : ai_rel q x y ↔ t = true) (ht : ai_to pc off (some t) = some tg)
    (k : W p l e R s m args below meth c H locs cells slots Q (F0 m tg ls rest)) : W p l e R s m args below meth c H locs cells slots Q (F0 m pc ls (.int y :: .int x :: rest)) := by
  unfold ai_to at ht
  by_cases hz : 0 ≤ (pc : Int) + off
  case neg => rw [if_neg hz] at ht; cases ht
  rw [if_pos hz] at ht
  cases t with
  | true =>
    have hy : ai_rel q x y := hr.mpr rfl
    have ht : some ((pc : Int) + off).toNat = some tg := ht
    cases ht
    cases q with
    | eq => exact lv_icmp_eq (tgt := ((pc : Int) + off).toNat) hx hb hd (by omega) (fun _ => k) (fun z => absurd hy z)
    | ne => exact lv_icmp_ne (tgt := ((pc : Int) + off).toNat) hx hb hd (by omega) (fun _ => k) (fun z => absurd z hy)
    | lt => exact lv_icmp_lt (tgt := ((pc : Int) + off).toNat) hx hb hd (by omega) (fun _ => k) (fun z => absurd hy z)
    | ge => exact lv_icmp_ge (tgt := ((pc : Int) + off).toNat) hx hb hd (by omega) (fun _ => k) (fun z => absurd hy z)
    | gt => exact lv_icmp_gt (tgt := ((pc : Int) + off).toNat) hx hb hd (by omega) (fun _ => k) (fun z => absurd hy z)
    | le => exact lv_icmp_le (tgt := ((pc : Int) + off).toNat) hx hb hd (by omega) (fun _ => k) (fun z => absurd hy z)
  | false =>
    have hy : ¬ ai_rel q x y := fun z => by cases hr.mp z
    have ht : some (pc + 3) = some tg := ht
    cases ht
    cases q with
    | eq => exact lv_icmp_eq (tgt := ((pc : Int) + off).toNat) hx hb hd (by omega) (fun z => absurd z hy) (fun _ => k)
    | ne => exact lv_icmp_ne (tgt := ((pc : Int) + off).toNat) hx hb hd (by omega) (fun z => absurd z hy) (fun _ => k)
    | lt => exact lv_icmp_lt (tgt := ((pc : Int) + off).toNat) hx hb hd (by omega) (fun z => absurd z hy) (fun _ => k)
    | ge => exact lv_icmp_ge (tgt := ((pc : Int) + off).toNat) hx hb hd (by omega) (fun z => absurd z hy) (fun _ => k)
    | gt => exact lv_icmp_gt (tgt := ((pc : Int) + off).toNat) hx hb hd (by omega) (fun z => absurd z hy) (fun _ => k)
    | le => exact lv_icmp_le (tgt := ((pc : Int) + off).toNat) hx hb hd (by omega) (fun z => absurd z hy) (fun _ => k)
theorem ai_ifc_ok (hx : p.tables.exec = Jvm.exec) (hb : c.code = cc) {q : Jvm.ClassFile.Cond} {off : Int} (hd : decode cc pc = .ok (.ifCond q off, 3)) {rest : List Value} {x : Int32} {t : Bool} {tg : Nat} (hr : ai_rel q x 0 ↔ t = true) (ht : ai_to pc off (some t) = some tg)
    (k : W p l e R s m args below meth c H locs cells slots Q (F0 m tg ls rest)) : W p l e R s m args below meth c H locs cells slots Q (F0 m pc ls (.int x :: rest)) := by
  unfold ai_to at ht
  by_cases hz : 0 ≤ (pc : Int) + off
  case neg => rw [if_neg hz] at ht; cases ht
  rw [if_pos hz] at ht
  cases t with
  | true =>
    have hy : ai_rel q x 0 := hr.mpr rfl
    have ht : some ((pc : Int) + off).toNat = some tg := ht
    cases ht
    cases q with
    | eq => exact lv_if_eq (tgt := ((pc : Int) + off).toNat) hx hb hd (by omega) (fun _ => k) (fun z => absurd hy z)
    | ne => exact lv_if_ne (tgt := ((pc : Int) + off).toNat) hx hb hd (by omega) (fun _ => k) (fun z => absurd z hy)
    | lt => exact lv_if_lt (tgt := ((pc : Int) + off).toNat) hx hb hd (by omega) (fun _ => k) (fun z => absurd hy z)
    | ge => exact lv_if_ge (tgt := ((pc : Int) + off).toNat) hx hb hd (by omega) (fun _ => k) (fun z => absurd hy z)
    | gt => exact lv_if_gt (tgt := ((pc : Int) + off).toNat) hx hb hd (by omega) (fun _ => k) (fun z => absurd hy z)
    | le => exact lv_if_le (tgt := ((pc : Int) + off).toNat) hx hb hd (by omega) (fun _ => k) (fun z => absurd hy z)
  | false =>
    have hy : ¬ ai_rel q x 0 := fun z => by cases hr.mp z
    have ht : some (pc + 3) = some tg := ht
    cases ht
    cases q with
    | eq => exact lv_if_eq (tgt := ((pc : Int) + off).toNat) hx hb hd (by omega) (fun z => absurd z hy) (fun _ => k)
    | ne => exact lv_if_ne (tgt := ((pc : Int) + off).toNat) hx hb hd (by omega) (fun z => absurd z hy) (fun _ => k)
    | lt => exact lv_if_lt (tgt := ((pc : Int) + off).toNat) hx hb hd (by omega) (fun z => absurd z hy) (fun _ => k)
    | ge => exact lv_if_ge (tgt := ((pc : Int) + off).toNat) hx hb hd (by omega) (fun z => absurd z hy) (fun _ => k)
    | gt => exact lv_if_gt (tgt := ((pc : Int) + off).toNat) hx hb hd (by omega) (fun z => absurd z hy) (fun _ => k)
    | le => exact lv_if_le (tgt := ((pc : Int) + off).toNat) hx hb hd (by omega) (fun z => absurd z hy) (fun _ => k)
theorem ai_g9_ok (hx : p.tables.exec = Jvm.exec) (hb : c.code = cc) (hd : decode cc pc = .ok (i, len)) (hl : lv_has ls nL lv) (hL : ai_L E ws lo lv) (hS : ai_S E ws st vs) (h : ai_g9 i len pc lo st = some r)
    (k : ai_KW p l e R s m args below meth c H locs cells slots Q E ws nL r) : W p l e R s m args below meth c H locs cells slots Q (F0 m pc ls vs) := by
  unfold ai_g9 at h
  split at h
  · next q off y x st' =>
    match vs, hS with
    | [], hS => exact hS.elim
    | [_], ⟨_, hS⟩ => exact hS.elim
    | w :: v :: vs, ⟨hw, hv, hS⟩ =>
      split at h
      · next t ht =>
        cases h
        cases hbo : ai_bo q x y with
        | none => rw [hbo] at ht; unfold ai_to at ht; split at ht <;> cases ht
        | some u =>
          rw [hbo] at ht
          obtain ⟨a, b, rfl, rfl, hr⟩ := ai_bo_ok hbo hv hw
          exact ai_icmp_ok hx hb hd hr ht (k ls lv vs hl hL hS)
      · cases h
  · next q off x st' =>
    match vs, hS with
    | [], hS => exact hS.elim
    | v :: vs, ⟨hv, hS⟩ =>
      split at h
      · next t ht =>
        cases h
        cases hbo : ai_bo q x (.inl 0) with
        | none => rw [hbo] at ht; unfold ai_to at ht; split at ht <;> cases ht
        | some u =>
          rw [hbo] at ht
          obtain ⟨a, b, rfl, e2, hr⟩ := ai_bo_ok (w := .int 0) hbo hv rfl
          cases e2
          exact ai_ifc_ok hx hb hd hr ht (k ls lv vs hl hL hS)
      · cases h
  · cases h
theorem ai_g10_ok (hx : p.tables.exec = Jvm.exec) (hb : c.code = cc) (hd : decode cc pc = .ok (i, len)) (hl : lv_has ls nL lv) (hL : ai_L E ws lo lv) (hS : ai_S E ws st vs) (h : ai_g10 i len pc lo st = some r)
    (k : ai_KW p l e R s m args below meth c H locs cells slots Q E ws nL r) : W p l e R s m args below meth c H locs cells slots Q (F0 m pc ls vs) := by
  unfold ai_g10 at h
  split at h
  · next d a b offs x st' =>
    match vs, hS with
    | [], hS => exact hS.elim
    | v :: vs, ⟨hv, hS⟩ =>
      split at h
      · next q hq =>
        obtain ⟨y, rfl, h1, h2⟩ := ai_iv_ok hq hv
        split at h
        · next t ht =>
          cases h
          unfold ai_sw at ht
          split at ht
          · next ho =>
            split at ht
            · next hz =>
              cases ht
              exact lv_tableOut (tgt := ((pc : Int) + d).toNat) hx hb hd (by omega) (by omega) (k ls lv vs hl hL hS)
            · cases ht
          · next ho =>
            split at ht
            · next he =>
              split at ht
              · next off hoff =>
                split at ht
                · next hz =>
                  cases ht
                  exact lv_tableIn (tgt := ((pc : Int) + off).toNat) hx hb hd (by omega) (by omega) (by rw [show y.toInt = q.1 by omega]; exact hoff) (by omega) (k ls lv vs hl hL hS)
                · cases ht
              · cases ht
            · cases ht
        · cases h
      · cases h
  · cases h
end AIG
def ai_or {α : Type} (a : Option α) (b : Option α) : Option α := match a with
  | some x => some x
  | none => b
theorem ai_or_ok {α : Type} {a b : Option α} {r : α} (h : ai_or a b = some r) : a = some r ∨ b = some r := by
  unfold ai_or at h
  split at h
  · exact Or.inl h
  · exact Or.inr h
/-- an instruction that moves the frame alone -/
def ai_pu (op : Option Int32) (nL : Nat) (i : Instr) (len pc : Nat) (lo : ALo) (st : List AV) : Option (Nat × ALo × List AV) :=
  ai_or (ai_g2 i len pc lo st) (ai_or (ai_g1 i len pc lo st) (ai_or (ai_g9 i len pc lo st) (ai_or (ai_g4 op i len pc lo st) (ai_or (ai_g3 nL i len pc lo st) (ai_or (ai_g8 nL i len pc lo st) (ai_or (ai_g7 i len pc lo st) (ai_or (ai_g5 i len pc lo st) (ai_or (ai_g6 i len pc lo st) (ai_g10 i len pc lo st)))))))))
theorem ai_pu_ok {p : Program} {l : Launch} {e : Env} {R : Room} {s : State} {m : MethodId} {args : Array Value} {below : List Frame} {meth : Method} {c : Code} {H : Heap} {locs : List Loc} {cells slots : Nat} {Q : State → Prop}
    {cc : ByteArray} {pc : Nat} {ls : Array Slot} {i : Instr} {len nL : Nat} {E : AE} {ws : va_W} {lo : ALo} {st : List AV} {lv : List (Nat × Value)} {vs : List Value} {r : Nat × ALo × List AV}
    {op : Option Int32} (hop : ∀ k, op = some k → E.2.1 &&& 15 = k) (hx : p.tables.exec = Jvm.exec) (hb : c.code = cc) (hd : decode cc pc = .ok (i, len)) (hl : lv_has ls nL lv) (hL : ai_L E ws lo lv) (hS : ai_S E ws st vs) (h : ai_pu op nL i len pc lo st = some r)
    (k : ai_KW p l e R s m args below meth c H locs cells slots Q E ws nL r) : W p l e R s m args below meth c H locs cells slots Q (F0 m pc ls vs) := by
  unfold ai_pu at h
  rcases ai_or_ok h with h | h
  · exact ai_g2_ok hx hb hd hl hL hS h k
  rcases ai_or_ok h with h | h
  · exact ai_g1_ok hx hb hd hl hL hS h k
  rcases ai_or_ok h with h | h
  · exact ai_g9_ok hx hb hd hl hL hS h k
  rcases ai_or_ok h with h | h
  · exact ai_g4_ok hop hx hb hd hl hL hS h k
  rcases ai_or_ok h with h | h
  · exact ai_g3_ok hx hb hd hl hL hS h k
  rcases ai_or_ok h with h | h
  · exact ai_g8_ok hx hb hd hl hL hS h k
  rcases ai_or_ok h with h | h
  · exact ai_g7_ok hx hb hd hl hL hS h k
  rcases ai_or_ok h with h | h
  · exact ai_g5_ok hx hb hd hl hL hS h k
  rcases ai_or_ok h with h | h
  · exact ai_g6_ok hx hb hd hl hL hS h k
  · exact ai_g10_ok hx hb hd hl hL hS h k
end
section
/-! ===== the abstract world, and what it stands for ===== -/
def ai_cl (ci : Nat) : String := (vwCl.getD ci ("", fun _ => ("", "", "", false), 0)).1
def ai_ty (t : Nat) : FieldType := match t with
  | 0 => .byte
  | 1 => .int
  | 2 => .long
  | 3 => .boolean
  | n + 4 => .object (ai_cl n)
def ai_kd (t : Nat) : Nat := match t with
  | 0 => 0
  | 1 => 0
  | 2 => 1
  | 3 => 0
  | _ + 4 => 2
def ai_A (E : AE) (ws : va_W) (n k : Nat) (f : Nat → AV) (x : (Nat → Int32) ⊕ (Nat → Int64) ⊕ (Nat → UInt32) ⊕ (Nat → UInt64) ⊕ (Nat → Option Nat)) : Prop := match k, x with
  | 0, .inl g => ∀ j, j < n → ai_V E ws (f j) (.int (g j))
  | 1, .inr (.inl g) => ∀ j, j < n → ai_V E ws (f j) (.long (g j))
  | 2, .inr (.inr (.inr (.inr g))) => ∀ j, j < n → ai_V E ws (f j) (va_rf (g j))
  | _, _ => False
def ai_C (E : AE) (s : State) (ws : va_W) (e : AC) (x : va_E) : Prop := match e, x with
  | .inl a, .inl b => a.2.1 = b.2.1 ∧ ArrOfT s b.1 (ai_ty a.1) ∧ va_RA s b.1 (ai_ty a.1) ∧ ai_A E ws a.2.1 (ai_kd a.1) a.2.2 b.2.2
  | .inr a, .inr b => a.1 = b.1 ∧ ai_S E ws a.2 b.2
  | _, _ => False
def ai_W (E : AE) (s : State) (σ : List AC) (ws : va_W) : Prop := σ.length = ws.length ∧ ∀ (i : Nat) (e : AC) (q : Nat × va_E), σ[i]? = some e → ws[i]? = some q → ai_C E s ws e q.2
theorem ai_A.mono {E : AE} {ws ws' : va_W} (h : ai_Ext ws ws') {n k : Nat} {f : Nat → AV} {x : (Nat → Int32) ⊕ (Nat → Int64) ⊕ (Nat → UInt32) ⊕ (Nat → UInt64) ⊕ (Nat → Option Nat)} (a : ai_A E ws n k f x) : ai_A E ws' n k f x := by
  unfold ai_A at a ⊢
  split at a
  · exact fun j hj => (a j hj).mono h
  · exact fun j hj => (a j hj).mono h
  · exact fun j hj => (a j hj).mono h
  · exact a.elim
theorem ai_C.mono {E : AE} {s : State} {ws ws' : va_W} (h : ai_Ext ws ws') {e : AC} {x : va_E} (a : ai_C E s ws e x) : ai_C E s ws' e x := by
  unfold ai_C at a ⊢
  split at a
  · exact ⟨a.1, a.2.1, a.2.2.1, a.2.2.2.mono h⟩
  · exact ⟨a.1, a.2.mono h⟩
  · exact a.elim
theorem ai_C.moved {E : AE} {s u : State} {ws : va_W} (h : s.vm.Alike u.vm) {e : AC} {x : va_E} (a : ai_C E s ws e x) : ai_C E u ws e x := by
  unfold ai_C at a ⊢
  split at a
  · exact ⟨a.1, arrOfT_moved h a.2.1, a.2.2.1.moved h, a.2.2.2⟩
  · exact a
  · exact a.elim
theorem ai_W.moved {E : AE} {s u : State} {σ : List AC} {ws : va_W} (h : s.vm.Alike u.vm) (a : ai_W E s σ ws) : ai_W E u σ ws := ⟨a.1, fun i e q h1 h2 => (a.2 i e q h1 h2).moved h⟩
theorem ai_W.get {E : AE} {s : State} {σ : List AC} {ws : va_W} (a : ai_W E s σ ws) {i : Nat} {e : AC} (h : σ[i]? = some e) : ∃ q, ws[i]? = some q ∧ ai_C E s ws e q.2 := by
  have hl : i < ws.length := by rw [← a.1]; exact (List.getElem?_eq_some_iff.mp h).1
  exact ⟨ws[i], List.getElem?_eq_getElem hl, a.2 i e _ h (List.getElem?_eq_getElem hl)⟩
theorem ai_ad_set {ws : va_W} {i a : Nat} {x0 x : va_E} (h : ws[i]? = some (a, x0)) (j : Nat) : ai_ad (ws.set i (a, x)) j = ai_ad ws j := by
  unfold ai_ad
  rw [List.getElem?_set]
  by_cases e : i = j
  · subst e
    rw [if_pos rfl, if_pos (List.getElem?_eq_some_iff.mp h).1, h]
    rfl
  · rw [if_neg e]
theorem ai_Ext.set {ws : va_W} {i a : Nat} {x0 x : va_E} (h : ws[i]? = some (a, x0)) : ai_Ext ws (ws.set i (a, x)) := fun j b hb => by rw [ai_ad_set h]; exact hb
theorem ai_Ext.push {ws : va_W} {q : Nat × va_E} : ai_Ext ws (ws ++ [q]) := fun j b hb => by
  unfold ai_ad at hb ⊢
  cases hw : ws[j]? with
  | none => rw [hw] at hb; cases hb
  | some y =>
    rw [hw] at hb
    rw [List.getElem?_append_left (List.getElem?_eq_some_iff.mp hw).1, hw]
    exact hb
theorem ai_W.set {E : AE} {s : State} {σ : List AC} {ws : va_W} (w : ai_W E s σ ws) {i a : Nat} {x0 x : va_E} (h : ws[i]? = some (a, x0)) {e : AC} (c : ai_C E s (ws.set i (a, x)) e x) : ai_W E s (σ.set i e) (ws.set i (a, x)) := by
  refine ⟨by rw [List.length_set, List.length_set]; exact w.1, fun j e' q h1 h2 => ?_⟩
  rw [List.getElem?_set] at h1 h2
  by_cases ej : i = j
  · subst ej
    rw [if_pos rfl] at h1 h2
    split at h1
    · cases h1
      split at h2
      · cases h2; exact c
      · cases h2
    · cases h1
  · rw [if_neg ej] at h1 h2
    exact (w.2 j e' q h1 h2).mono (ai_Ext.set h)
theorem ai_W.push {E : AE} {s : State} {σ : List AC} {ws : va_W} (w : ai_W E s σ ws) {q : Nat × va_E} {e : AC} (c : ai_C E s (ws ++ [q]) e q.2) : ai_W E s (σ ++ [e]) (ws ++ [q]) := by
  refine ⟨by rw [List.length_append, List.length_append, w.1]; rfl, fun j e' q' h1 h2 => ?_⟩
  by_cases hj : j < σ.length
  · rw [List.getElem?_append_left hj] at h1
    rw [List.getElem?_append_left (by rw [← w.1]; exact hj)] at h2
    exact (w.2 j e' q' h1 h2).mono ai_Ext.push
  · rw [List.getElem?_append_right (by omega)] at h1
    rw [List.getElem?_append_right (by rw [← w.1]; omega)] at h2
    have hz : j - σ.length < 1 := (List.getElem?_eq_some_iff.mp h1).1
    rw [show j - σ.length = 0 by omega] at h1
    rw [← w.1, show j - σ.length = 0 by omega] at h2
    cases h1
    cases h2
    exact c
theorem ai_ad_push {ws : va_W} {q : Nat × va_E} : ai_ad (ws ++ [q]) ws.length = some q.1 := by
  unfold ai_ad
  rw [List.getElem?_append_right (Nat.le_refl _), Nat.sub_self]
  rfl
/-! parts of a value -/
def ai_rf : AV → Option Nat
  | .inr (.inr (.inr (.inl (some i)))) => some i
  | _ => none
theorem ai_rf_ok {E : AE} {ws : va_W} {x : AV} {i : Nat} (h : ai_rf x = some i) {v : Value} (hv : ai_V E ws x v) : ∃ a, v = .ref a ∧ ai_ad ws i = some a := by
  unfold ai_rf at h
  split at h
  · cases h; exact hv
  · cases h
def ai_ob (σ : List AC) (x : AV) (ci : Nat) : Option (Nat × List AV) := match ai_rf x with
  | some i => match σ[i]? with
    | some (.inr o) => if o.1 = ci then some (i, o.2) else none
    | _ => none
  | none => none
theorem ai_ob_ok {E : AE} {s : State} {σ : List AC} {ws : va_W} {x : AV} {ci i : Nat} {fs : List AV} (h : ai_ob σ x ci = some (i, fs)) (w : ai_W E s σ ws) {v : Value} (hv : ai_V E ws x v) :
    ∃ a vs, v = .ref a ∧ ws[i]? = some (a, .inr (ci, vs)) ∧ ai_S E ws fs vs := by
  unfold ai_ob at h
  split at h
  · next j hj =>
    obtain ⟨a, rfl, had⟩ := ai_rf_ok hj hv
    split at h
    · next o ho =>
      split at h
      · next he =>
        cases h
        obtain ⟨q, hq, hc⟩ := w.get ho
        unfold ai_ad at had
        rw [hq] at had
        obtain ⟨q1, q2⟩ := q
        have had : q1 = a := Option.some.inj had
        subst had
        match q2, hc with
        | .inl b, hc => exact hc.elim
        | .inr b, hc =>
          obtain ⟨h1, h2⟩ := hc
          obtain ⟨b1, b2⟩ := b
          have h1 : o.1 = b1 := h1
          subst h1
          exact ⟨_, b2, rfl, by rw [hq, he], h2⟩
      · cases h
    · cases h
  · cases h
def ai_ar (σ : List AC) (x : AV) : Option (Nat × Nat × Nat × (Nat → AV)) := match ai_rf x with
  | some i => match σ[i]? with
    | some (.inl o) => some (i, o)
    | _ => none
  | none => none
theorem ai_ar_ok {E : AE} {s : State} {σ : List AC} {ws : va_W} {x : AV} {i t n : Nat} {f : Nat → AV} (h : ai_ar σ x = some (i, t, n, f)) (w : ai_W E s σ ws) {v : Value} (hv : ai_V E ws x v) :
    ∃ a cA y, v = .ref a ∧ ws[i]? = some (a, .inl (cA, n, y)) ∧ ArrOfT s cA (ai_ty t) ∧ va_RA s cA (ai_ty t) ∧ ai_A E ws n (ai_kd t) f y := by
  unfold ai_ar at h
  split at h
  · next j hj =>
    obtain ⟨a, rfl, had⟩ := ai_rf_ok hj hv
    split at h
    · next o ho =>
      cases h
      obtain ⟨q, hq, hc⟩ := w.get ho
      unfold ai_ad at had
      rw [hq] at had
      obtain ⟨q1, q2⟩ := q
      have had : q1 = a := Option.some.inj had
      subst had
      match q2, hc with
      | .inr b, hc => exact hc.elim
      | .inl b, hc =>
        obtain ⟨h1, h2, h3, h4⟩ := hc
        obtain ⟨b1, b2, b3⟩ := b
        have h1 : n = b2 := h1
        subst h1
        exact ⟨_, b1, b3, rfl, hq, h2, h3, h4⟩
    · cases h
  · cases h
def ai_ix (x : AV) (n : Nat) : Option Nat := match x with
  | .inl c => if c < 0 then none else if n ≤ c.toNatClampNeg then none else some c.toNatClampNeg
  | _ => none
theorem ai_ix_ok {E : AE} {ws : va_W} {x : AV} {n j : Nat} (h : ai_ix x n = some j) {v : Value} (hv : ai_V E ws x v) : ∃ c : Int32, v = .int c ∧ vp_in c n ∧ j = c.toNatClampNeg := by
  unfold ai_ix at h
  split at h
  · next c =>
    split at h
    · cases h
    · next h1 =>
      split at h
      · cases h
      · next h2 =>
        cases h
        exact ⟨c, hv, fun q => q.elim h1 h2, rfl⟩
  · cases h
theorem ai_S_get {E : AE} {ws : va_W} : ∀ {fs : List AV} {vs : List Value} {k : Nat} {a : AV}, ai_S E ws fs vs → fs[k]? = some a → ∃ v, vs[k]? = some v ∧ ai_V E ws a v
  | [], _, _, _, _, h => by cases h
  | _ :: _, [], _, _, h, _ => h.elim
  | _ :: _, v :: _, 0, _, h, hk => by cases hk; exact ⟨v, rfl, h.1⟩
  | _ :: _, _ :: _, k + 1, _, h, hk => ai_S_get (k := k) h.2 hk
theorem ai_S_len {E : AE} {ws : va_W} : ∀ {fs : List AV} {vs : List Value}, ai_S E ws fs vs → fs.length = vs.length
  | [], [], _ => rfl
  | [], _ :: _, h => h.elim
  | _ :: _, [], h => h.elim
  | _ :: _, _ :: _, h => by rw [List.length_cons, List.length_cons, ai_S_len h.2]
theorem ai_S_set {E : AE} {ws : va_W} {a : AV} {v : Value} (hv : ai_V E ws a v) : ∀ {fs : List AV} {vs : List Value} {k : Nat}, ai_S E ws fs vs → ai_S E ws (fs.set k a) (vs.set k v)
  | [], [], _, h => h
  | [], _ :: _, _, h => h.elim
  | _ :: _, [], _, h => h.elim
  | _ :: _, _ :: _, 0, h => ⟨hv, h.2⟩
  | _ :: _, _ :: _, k + 1, h => ⟨h.1, ai_S_set hv (k := k) h.2⟩
/-! the classes' tables, by number -/
def ai_tf (ci : Nat) : Nat → FieldType := match ci with
  | 0 => tyX0
  | 1 => tyX1
  | 2 => tyX2
  | 3 => tyX3
  | 4 => tyX4
  | 5 => tyX5
  | 6 => tyX6
  | 7 => tyX7
  | 8 => tyX8
  | 9 => tyX9
  | 10 => tyX10
  | 11 => tyX11
  | _ => tyX12
theorem ai_in0 : ∀ w ∈ u_ws RX0 TX0 2, w ∈ lw_tbl := by decide +kernel
theorem ai_in1 : ∀ w ∈ u_ws RX1 TX1 2, w ∈ lw_tbl := by decide +kernel
theorem ai_in2 : ∀ w ∈ u_ws RX2 TX2 1, w ∈ lw_tbl := by decide +kernel
theorem ai_in3 : ∀ w ∈ u_ws RX3 TX3 7, w ∈ lw_tbl := by decide +kernel
theorem ai_in4 : ∀ w ∈ u_ws RX4 TX4 1, w ∈ lw_tbl := by decide +kernel
theorem ai_in5 : ∀ w ∈ u_ws RX5 TX5 8, w ∈ lw_tbl := by decide +kernel
theorem ai_in6 : ∀ w ∈ u_ws RX6 TX6 6, w ∈ lw_tbl := by decide +kernel
theorem ai_in7 : ∀ w ∈ u_ws RX7 TX7 5, w ∈ lw_tbl := by decide +kernel
theorem ai_in8 : ∀ w ∈ u_ws RX8 TX8 3, w ∈ lw_tbl := by decide +kernel
theorem ai_in9 : ∀ w ∈ u_ws RX9 TX9 6, w ∈ lw_tbl := by decide +kernel
theorem ai_in10 : ∀ w ∈ u_ws RX10 TX10 2, w ∈ lw_tbl := by decide +kernel
theorem ai_in11 : ∀ w ∈ u_ws RX11 TX11 6, w ∈ lw_tbl := by decide +kernel
theorem ai_in12 : ∀ w ∈ u_ws RX12 TX12 40, w ∈ lw_tbl := by decide +kernel
theorem ai_u_good (C : String) (T : u_T) (N : Nat) : ∀ w ∈ u_ws C T N, goodWord w = true := by
  intro w hw
  obtain ⟨k, -, rfl⟩ := List.mem_map.mp hw
  unfold u_lay
  split <;> rfl
/-- what is needed of a class's fields -/
def ai_F (ci : Nat) (r : vw_C) : Prop := (∀ k, k < r.2.2 → parseFieldDescriptor (r.2.1 k).2.2.1 = some (ai_tf ci k)) ∧ (∀ a, a < r.2.2 → ∀ b, b < r.2.2 → a ≠ b → (r.2.1 a).2.1 ≠ (r.2.1 b).2.1) ∧ ∀ w ∈ u_ws r.1 r.2.1 r.2.2, w ∈ lw_tbl
theorem ai_F_all : ∀ (ci : Nat) (r : vw_C), vwCl[ci]? = some r → ai_F ci r
  | 0, _, h => by cases h; exact ⟨tyX0_ok, nmX0, ai_in0⟩
  | 1, _, h => by cases h; exact ⟨tyX1_ok, nmX1, ai_in1⟩
  | 2, _, h => by cases h; exact ⟨tyX2_ok, nmX2, ai_in2⟩
  | 3, _, h => by cases h; exact ⟨tyX3_ok, nmX3, ai_in3⟩
  | 4, _, h => by cases h; exact ⟨tyX4_ok, nmX4, ai_in4⟩
  | 5, _, h => by cases h; exact ⟨tyX5_ok, nmX5, ai_in5⟩
  | 6, _, h => by cases h; exact ⟨tyX6_ok, nmX6, ai_in6⟩
  | 7, _, h => by cases h; exact ⟨tyX7_ok, nmX7, ai_in7⟩
  | 8, _, h => by cases h; exact ⟨tyX8_ok, nmX8, ai_in8⟩
  | 9, _, h => by cases h; exact ⟨tyX9_ok, nmX9, ai_in9⟩
  | 10, _, h => by cases h; exact ⟨tyX10_ok, nmX10, ai_in10⟩
  | 11, _, h => by cases h; exact ⟨tyX11_ok, nmX11, ai_in11⟩
  | 12, _, h => by cases h; exact ⟨tyX12_ok, nmX12, ai_in12⟩
  | n + 13, _, h => by simp [vwCl] at h
def ai_df (t : FieldType) : AV := match t with
  | .long => .inr (.inr (.inl (some 0)))
  | .object _ => .inr (.inr (.inr (.inl none)))
  | .array _ => .inr (.inr (.inr (.inl none)))
  | _ => .inl 0
def ai_fd (ci N : Nat) : List AV := (List.range N).map (fun k => ai_df (ai_tf ci k))
def ai_ok (t : FieldType) : Bool := match t with
  | .float => false
  | .double => false
  | _ => true
theorem ai_df_ok {E : AE} {ws : va_W} {t : FieldType} (h : ai_ok t = true) : ai_V E ws (ai_df t) (defaultValue t) := by
  cases t <;> first | rfl | cases h
theorem ai_S_map {E : AE} {ws : va_W} {f : Nat → AV} {g : Nat → Value} : ∀ (l : List Nat), (∀ k ∈ l, ai_V E ws (f k) (g k)) → ai_S E ws (l.map f) (l.map g)
  | [], _ => trivial
  | a :: l, h => ⟨h a List.mem_cons_self, ai_S_map l (fun k hk => h k (List.mem_cons_of_mem _ hk))⟩
def ai_fit (t : FieldType) (a : AV) : Bool := match t with
  | .int => decide (ai_cat a = 1)
  | .long => decide (ai_cat a = 2)
  | .boolean => match ai_iv a with
    | some q => decide (0 ≤ q.1 ∧ q.2 ≤ 1)
    | none => false
  | .object _ => decide (ai_cat a = 3)
  | .array _ => decide (ai_cat a = 3)
  | _ => false
theorem ai_bool {x : Int32} (h0 : 0 ≤ x.toInt) (h1 : x.toInt ≤ 1) : x = 0 ∨ x = 1 := by
  rcases (show x.toInt = 0 ∨ x.toInt = 1 by omega) with h | h
  · exact Or.inl (Int32.toInt_inj.mp h)
  · exact Or.inr (Int32.toInt_inj.mp h)
theorem ai_fit_ok {E : AE} {ws : va_W} {t : FieldType} {a : AV} (h : ai_fit t a = true) {v : Value} (hv : ai_V E ws a v) : narrow t v = v ∧ fits t v = true := by
  unfold ai_fit at h
  split at h
  · obtain ⟨x, rfl⟩ := ai_V_int (of_decide_eq_true h) hv
    exact ⟨rfl, rfl⟩
  · obtain ⟨x, rfl⟩ := ai_V_long (of_decide_eq_true h) hv
    exact ⟨rfl, rfl⟩
  · split at h
    · next q hq =>
      obtain ⟨x, rfl, h1, h2⟩ := ai_iv_ok hq hv
      obtain ⟨g1, g2⟩ := of_decide_eq_true h
      rcases ai_bool (x := x) (by omega) (by omega) with rfl | rfl
      · exact ⟨rfl, rfl⟩
      · exact ⟨rfl, rfl⟩
    · cases h
  · rcases ai_V_ref (of_decide_eq_true h) hv with rfl | ⟨x, rfl⟩
    · exact ⟨rfl, rfl⟩
    · exact ⟨rfl, rfl⟩
  · rcases ai_V_ref (of_decide_eq_true h) hv with rfl | ⟨x, rfl⟩
    · exact ⟨rfl, rfl⟩
    · exact ⟨rfl, rfl⟩
  · cases h
def ai_up (f : Nat → AV) (k : Nat) (a : AV) : Nat → AV := fun j => if j = k then a else f j
def ai_eqV (a b : AV) : Bool := decide (a = b)
def ai_eqL : List AV → List AV → Bool
  | [], [] => true
  | a :: as, b :: bs => ai_eqV a b && ai_eqL as bs
  | _, _ => false
theorem ai_eqL_ok : ∀ {a b : List AV}, ai_eqL a b = true → a = b
  | [], [], _ => rfl
  | [], _ :: _, h => by cases h
  | _ :: _, [], h => by cases h
  | a :: as, b :: bs, h => by
    have h : (ai_eqV a b && ai_eqL as bs) = true := h
    rw [Bool.and_eq_true] at h
    rw [show a = b from of_decide_eq_true h.1, ai_eqL_ok h.2]
def ai_eqA (a b : AC) : Bool := match a, b with
  | .inl x, .inl y => decide (x.1 = y.1) && (decide (x.2.1 = y.2.1) && (List.range x.2.1).all (fun j => ai_eqV (x.2.2 j) (y.2.2 j)))
  | .inr x, .inr y => decide (x.1 = y.1) && ai_eqL x.2 y.2
  | _, _ => false
def ai_eqW : List AC → List AC → Bool
  | [], [] => true
  | a :: σ, b :: τ => ai_eqA a b && ai_eqW σ τ
  | _, _ => false
theorem ai_eqA_ok {E : AE} {s : State} {ws : va_W} {a b : AC} (h : ai_eqA a b = true) {x : va_E} (c : ai_C E s ws a x) : ai_C E s ws b x := by
  unfold ai_eqA at h
  split at h
  · next u v =>
    obtain ⟨u1, u2, u3⟩ := u
    obtain ⟨v1, v2, v3⟩ := v
    simp only [Bool.and_eq_true, decide_eq_true_eq, List.all_eq_true, List.mem_range] at h
    obtain ⟨h1, h2, h3⟩ := h
    have h3 : ∀ j, j < u2 → u3 j = v3 j := fun j hj => of_decide_eq_true (h3 j hj)
    subst h1; subst h2
    match x, c with
    | .inr q, c => exact c.elim
    | .inl q, c =>
      obtain ⟨c1, c2, c3, c4⟩ := c
      refine ⟨c1, c2, c3, ?_⟩
      have c4 : ai_A E ws u2 (ai_kd u1) u3 q.2.2 := c4
      show ai_A E ws u2 (ai_kd u1) v3 q.2.2
      unfold ai_A at c4 ⊢
      split at c4
      · exact fun j hj => by rw [← h3 j hj]; exact c4 j hj
      · exact fun j hj => by rw [← h3 j hj]; exact c4 j hj
      · exact fun j hj => by rw [← h3 j hj]; exact c4 j hj
      · exact c4.elim
  · next u v =>
    obtain ⟨u1, u2⟩ := u
    obtain ⟨v1, v2⟩ := v
    rw [Bool.and_eq_true] at h
    have h1 : u1 = v1 := of_decide_eq_true h.1
    have h2 : u2 = v2 := ai_eqL_ok h.2
    subst h1; subst h2
    exact c
  · cases h
theorem ai_eqW_get : ∀ {σ τ : List AC}, ai_eqW σ τ = true → σ.length = τ.length ∧ ∀ (i : Nat) (b : AC), τ[i]? = some b → ∃ a, σ[i]? = some a ∧ ai_eqA a b = true
  | [], [], _ => ⟨rfl, fun i b h => by cases h⟩
  | [], _ :: _, h => by cases h
  | _ :: _, [], h => by cases h
  | a :: σ, b :: τ, h => by
    have h : (ai_eqA a b && ai_eqW σ τ) = true := h
    rw [Bool.and_eq_true] at h
    obtain ⟨g1, g2⟩ := ai_eqW_get h.2
    refine ⟨by rw [List.length_cons, List.length_cons, g1], fun i c hc => ?_⟩
    match i, hc with
    | 0, hc => cases hc; exact ⟨a, rfl, h.1⟩
    | i + 1, hc => exact g2 i c hc
theorem ai_eqW_ok {E : AE} {s : State} {σ τ : List AC} {ws : va_W} (h : ai_eqW σ τ = true) (w : ai_W E s σ ws) : ai_W E s τ ws := by
  obtain ⟨g1, g2⟩ := ai_eqW_get h
  refine ⟨g1.symm.trans w.1, fun i b q hb hq => ?_⟩
  obtain ⟨a, ha, hab⟩ := g2 i b hb
  exact ai_eqA_ok hab (w.2 i a q ha hq)
theorem ai_in_lt {b : Int32} {n : Nat} (h : vp_in b n) : b.toNatClampNeg < n := Nat.lt_of_not_le (fun z => h (Or.inr z))
end
section
/-! ===== the instructions that use the world ===== -/
def lw_blk (b : Nat) : List Cond := match b with
  | 0 => k2_sels lw_privs
  | 1 => tables_1_1
  | 2 => tables_1_2
  | 3 => tables_1_3
  | 4 => tables_1_4
  | 5 => tables_1_5
  | 6 => tables_1_6
  | 7 => tables_1_7
  | _ => []
theorem lw_blk_in {b : Nat} {w : Cond} (h : w ∈ lw_blk b) : w ∈ lw_tbl := by
  have e : lw_tbl = k2_sels lw_privs ++ (tables_1_1 ++ (tables_1_2 ++ (tables_1_3 ++ (tables_1_4 ++ (tables_1_5 ++ (tables_1_6 ++ tables_1_7)))))) := rfl
  rw [e]
  unfold lw_blk at h
  simp only [List.mem_append]
  split at h
  · exact Or.inl h
  · exact Or.inr (Or.inl h)
  · exact Or.inr (Or.inr (Or.inl h))
  · exact Or.inr (Or.inr (Or.inr (Or.inl h)))
  · exact Or.inr (Or.inr (Or.inr (Or.inr (Or.inl h))))
  · exact Or.inr (Or.inr (Or.inr (Or.inr (Or.inr (Or.inl h)))))
  · exact Or.inr (Or.inr (Or.inr (Or.inr (Or.inr (Or.inr (Or.inl h))))))
  · exact Or.inr (Or.inr (Or.inr (Or.inr (Or.inr (Or.inr (Or.inr h))))))
  · cases h
def ai_wb (t : Nat) (w : Cond) : Bool := decide ((lw_blk (t / 1000))[t % 1000]? = some w)
theorem ai_wb_ok {t : Nat} {w : Cond} (h : ai_wb t w = true) : w ∈ lw_tbl := lw_blk_in (List.mem_of_getElem? (of_decide_eq_true h))
def ai_w (t : Nat) (w : Cond) : Bool := ai_wb t w && goodWord w
theorem ai_w_ok {t : Nat} {w : Cond} (h : ai_w t w = true) : w ∈ lw_tbl ∧ goodWord w = true := by
  unfold ai_w at h
  rw [Bool.and_eq_true] at h
  exact ⟨ai_wb_ok h.1, h.2⟩
/-- what is looked up in the tables for an instruction, by places -/
def ai_chk (own : String) (i : Instr) (aux : List Nat) : Bool := match i, aux with
  | .getfield x, [ci, k, t] => match vwCl[ci]? with
    | some r => decide (k < r.2.2) && ai_w t (.fieldLink own x r.1 (r.2.1 k).2.1 (r.2.1 k).2.2.1) && decide ((r.2.1 k).1 = r.1)
    | none => false
  | .putfield x, [ci, k, t] => match vwCl[ci]? with
    | some r => decide (k < r.2.2) && ai_w t (.fieldLink own x r.1 (r.2.1 k).2.1 (r.2.1 k).2.2.1) && decide ((r.2.1 k).1 = r.1) && (!(r.2.1 k).2.2.2 || decide (r.1 = own))
    | none => false
  | .new x, [ci, t1, t2, t3] => match vwCl[ci]? with
    | some r => ai_w t1 (.classLink own x r.1) && ai_w t2 (.instantiable r.1 r.2.2) && ai_w t3 (.initialized r.1) && (List.range r.2.2).all (fun k => ai_ok (ai_tf ci k))
    | none => false
  | .newarray y, [t, t1] => decide (ai_ty t = newarray.typeOf y) && ai_w t1 (.arrayClass (newarray.typeOf y)) && decide (t < 4)
  | .anewarray x, [ci, t1, t2] => ai_w t1 (.classLink own x (ai_cl ci)) && ai_wb t2 (.arrayOver (.object (ai_cl ci)))
  | .ldc2_w x, [n, t] => ai_w t (.constantLong own x (Int64.ofNat n))
  | _, _ => true
def ai_h1 (i : Instr) (len : Nat) (aux : List Nat) (st : List AV) (σ : List AC) : Option (List AV) := match i, len, aux, st with
  | .getfield _, 3, [ci, k, _], x :: r => match ai_ob σ x ci with
    | some o => match o.2[k]? with
      | some v => some (v :: r)
      | none => none
    | none => none
  | .ldc2_w _, 3, [n, _], r => some (.inr (.inr (.inl (some (Int64.ofNat n)))) :: r)
  | .arraylength, 1, _, x :: r => match ai_ar σ x with
    | some o => some (.inl (Int32.ofNat o.2.2.1) :: r)
    | none => none
  | .iaload, 1, _, j :: x :: r => match ai_ar σ x with
    | some o => match ai_ix j o.2.2.1 with
      | some k => if o.2.1 = 1 then some (o.2.2.2 k :: r) else none
      | none => none
    | none => none
  | .baload, 1, _, j :: x :: r => match ai_ar σ x with
    | some o => match ai_ix j o.2.2.1 with
      | some k => if o.2.1 = 0 ∨ o.2.1 = 3 then some (o.2.2.2 k :: r) else none
      | none => none
    | none => none
  | .laload, 1, _, j :: x :: r => match ai_ar σ x with
    | some o => match ai_ix j o.2.2.1 with
      | some k => if o.2.1 = 2 then some (o.2.2.2 k :: r) else none
      | none => none
    | none => none
  | .aaload, 1, _, j :: x :: r => match ai_ar σ x with
    | some o => match ai_ix j o.2.2.1 with
      | some k => if 4 ≤ o.2.1 then some (o.2.2.2 k :: r) else none
      | none => none
    | none => none
  | _, _, _, _ => none
def ai_nb (a : AV) : AV := match a with
  | .inl c => .inl (vp_nar .byte c)
  | _ => ai_top
def ai_nz (a : AV) : AV := match a with
  | .inl c => .inl (vp_nar .boolean c)
  | _ => ai_top
def ai_h2 (ini : Bool) (i : Instr) (len : Nat) (aux : List Nat) (st : List AV) (σ : List AC) : Option (List AV × List AC) := match i, len, aux, st with
  | .putfield _, 3, [ci, k, _], v :: x :: r => match ai_ob σ x ci with
    | some o => match vwCl[ci]? with
      | some q => if k < o.2.length ∧ ai_fit (ai_tf ci k) v = true ∧ ((q.2.1 k).2.2.2 = true → ini = true) then some (r, σ.set o.1 (.inr (ci, o.2.set k v))) else none
      | none => none
    | none => none
  | .iastore, 1, _, v :: j :: x :: r => match ai_ar σ x with
    | some o => match ai_ix j o.2.2.1 with
      | some k => if o.2.1 = 1 ∧ ai_cat v = 1 then some (r, σ.set o.1 (.inl (o.2.1, o.2.2.1, ai_up o.2.2.2 k v))) else none
      | none => none
    | none => none
  | .bastore, 1, _, v :: j :: x :: r => match ai_ar σ x with
    | some o => match ai_ix j o.2.2.1 with
      | some k => if ai_cat v = 1 then (if o.2.1 = 0 then some (r, σ.set o.1 (.inl (o.2.1, o.2.2.1, ai_up o.2.2.2 k (ai_nb v)))) else if o.2.1 = 3 then some (r, σ.set o.1 (.inl (o.2.1, o.2.2.1, ai_up o.2.2.2 k (ai_nz v)))) else none) else none
      | none => none
    | none => none
  | .lastore, 1, _, v :: j :: x :: r => match ai_ar σ x with
    | some o => match ai_ix j o.2.2.1 with
      | some k => if o.2.1 = 2 ∧ ai_cat v = 2 then some (r, σ.set o.1 (.inl (o.2.1, o.2.2.1, ai_up o.2.2.2 k v))) else none
      | none => none
    | none => none
  | .aastore, 1, _, v :: j :: x :: r => match ai_ar σ x with
    | some o => match ai_ix j o.2.2.1 with
      | some k => match ai_ob σ v (o.2.1 - 4) with
        | some _ => match vwCl[o.2.1 - 4]? with
          | some _ => if 4 ≤ o.2.1 then some (r, σ.set o.1 (.inl (o.2.1, o.2.2.1, ai_up o.2.2.2 k v))) else none
          | none => none
        | none => none
      | none => none
    | none => none
  | _, _, _, _ => none
def ai_dfa (t : Nat) : AV := if ai_kd t = 0 then .inl 0 else if ai_kd t = 1 then .inr (.inr (.inl (some 0))) else .inr (.inr (.inr (.inl none)))
def ai_h3 (i : Instr) (len : Nat) (aux : List Nat) (st : List AV) (σ : List AC) : Option (List AV × AC × Nat) := match i, len, aux, st with
  | .new _, 3, [ci, _, _, _], r => match vwCl[ci]? with
    | some q => some (r, .inr (ci, ai_fd ci q.2.2), q.2.2)
    | none => none
  | .newarray _, 2, [t, _], n :: r => match ai_ix n 100000 with
    | some k => some (r, .inl (t, k, fun _ => ai_dfa t), k)
    | none => none
  | .anewarray _, 3, [ci, _, _], n :: r => match ai_ix n 100000 with
    | some k => some (r, .inl (ci + 4, k, fun _ => .inr (.inr (.inr (.inl none)))), k)
    | none => none
  | _, _, _, _ => none
section AIH
variable {p : Program} {l : Launch} {e : Env} {R : Room} {s : State} {m : MethodId} {args : Array Value} {below : List Frame} {meth : Method} {c : Code} {H : Heap} {locs : List Loc} {cells slots : Nat} {Q : State → Prop}
variable {cc : ByteArray} {pc : Nat} {ls : Array Slot} {i : Instr} {len : Nat} {aux : List Nat} {E : AE} {ws : va_W} {st st' : List AV} {vs : List Value} {σ σ' : List AC} {own : String} {D : va_G} {A : Nat → Prop} {H0 : Heap}
theorem ai_K1 (hK : va_K D vwCl [] s) {cA : ClassId} {ty : FieldType} (h1 : ArrOfT s cA ty) (h2 : va_RA s cA ty) : va_K D vwCl [(cA, ty)] s :=
  ⟨hK.1, fun k q h => match k, h with
    | 0, h => by cases h; exact ⟨h1, h2⟩⟩
theorem ai_h1_ok (hx : p.tables.exec = Jvm.exec) (hb : c.code = cc) (hown : s.vm.findClass own = some m.cls) (hT : ∀ w, w ∈ lw_tbl → goodWord w = true → w.before args s = true) (hK : va_K D vwCl [] s) (hd : decode cc pc = .ok (i, len)) (hchk : ai_chk own i aux = true)
    (w : ai_W E s σ ws) (hP : va_P D vwCl ws H) (hS : ai_S E ws st vs) (h : ai_h1 i len aux st σ = some st')
    (k : ∀ vs' : List Value, ai_S E ws st' vs' → W p l e R s m args below meth c H locs cells slots Q (F0 m (pc + len) ls vs')) : W p l e R s m args below meth c H locs cells slots Q (F0 m pc ls vs) := by
  unfold ai_h1 at h
  split at h
  · next ix ci kk t x r =>
    match vs, hS with
    | [], hS => exact hS.elim
    | v :: vs, ⟨hv, hS⟩ =>
      split at h
      · next o ho =>
        obtain ⟨oi, fs⟩ := o
        obtain ⟨a, us, rfl, hw, hfs⟩ := ai_ob_ok ho w hv
        split at h
        · next y hy =>
          cases h
          obtain ⟨u, hu, hyu⟩ := ai_S_get hfs hy
          have hchk : (match vwCl[ci]? with
            | some r => decide (kk < r.2.2) && ai_w t (.fieldLink own ix r.1 (r.2.1 kk).2.1 (r.2.1 kk).2.2.1) && decide ((r.2.1 kk).1 = r.1)
            | none => false) = true := hchk
          cases hr : vwCl[ci]? with
          | none => rw [hr] at hchk; cases hchk
          | some r =>
            rw [hr] at hchk
            simp only [Bool.and_eq_true, decide_eq_true_eq] at hchk
            obtain ⟨⟨c1, c2⟩, c3⟩ := hchk
            obtain ⟨f1, f2, f3⟩ := ai_F_all ci r hr
            obtain ⟨g1, g2⟩ := ai_w_ok c2
            refine va_get (own := own) (ref := r.1) (C := r.1) (T := r.2.1) (N := r.2.2) (Ts := u_ws r.1 r.2.1 r.2.2) hx hb (fun w hw => hT w (f3 w hw) (ai_u_good _ _ _ w hw)) (fun w hw => hw) hown hK hP oi hw hr kk c1 (hT _ g1 g2) (fun x hx => by rw [c3] at hx; exact hx) hu hd ?_
            exact k (u :: vs) ⟨hyu, hS⟩
        · cases h
      · cases h
  · next r ix n t =>
    cases h
    have hchk : ai_w t (.constantLong own ix (Int64.ofNat n)) = true := hchk
    obtain ⟨g1, g2⟩ := ai_w_ok hchk
    exact lv_ldc2 hx hb hown (hT _ g1 g2) hd (k (_ :: vs) ⟨rfl, hS⟩)
  · next x r =>
    match vs, hS with
    | [], hS => exact hS.elim
    | v :: vs, ⟨hv, hS⟩ =>
      split at h
      · next o ho =>
        obtain ⟨oi, t, n, f⟩ := o
        obtain ⟨a, cA, y, rfl, hw, h1, h2, h3⟩ := ai_ar_ok ho w hv
        cases h
        exact va_alen hx hb (ai_K1 hK h1 h2) hP oi 0 hw rfl rfl hd (k (_ :: vs) ⟨rfl, hS⟩)
      · cases h
  · next j x r =>
    match vs, hS with
    | [], hS => exact hS.elim
    | [_], ⟨_, hS⟩ => exact hS.elim
    | vj :: v :: vs, ⟨hvj, hv, hS⟩ =>
      split at h
      · next o ho =>
        obtain ⟨oi, t, n, f⟩ := o
        obtain ⟨a, cA, y, rfl, hw, h1, h2, h3⟩ := ai_ar_ok ho w hv
        split at h
        · next kk hk =>
          obtain ⟨b, rfl, hin, rfl⟩ := ai_ix_ok hk hvj
          split at h
          · next ht =>
            cases h
            have ht : t = 1 := ht
            subst ht
            match y, h3, hw with
            | .inl g, h3, hw => exact va_iald hx hb (ai_K1 hK h1 h2) hP oi 0 hw rfl hin hd (k (_ :: vs) ⟨h3 _ (ai_in_lt hin), hS⟩)
            | .inr (.inl g), h3, hw => exact h3.elim
            | .inr (.inr (.inl g)), h3, hw => exact h3.elim
            | .inr (.inr (.inr (.inl g))), h3, hw => exact h3.elim
            | .inr (.inr (.inr (.inr g))), h3, hw => exact h3.elim
          · cases h
        · cases h
      · cases h
  · next j x r =>
    match vs, hS with
    | [], hS => exact hS.elim
    | [_], ⟨_, hS⟩ => exact hS.elim
    | vj :: v :: vs, ⟨hvj, hv, hS⟩ =>
      split at h
      · next o ho =>
        obtain ⟨oi, t, n, f⟩ := o
        obtain ⟨a, cA, y, rfl, hw, h1, h2, h3⟩ := ai_ar_ok ho w hv
        split at h
        · next kk hk =>
          obtain ⟨b, rfl, hin, rfl⟩ := ai_ix_ok hk hvj
          split at h
          · next ht =>
            cases h
            have ht : t = 0 ∨ t = 3 := ht
            rcases ht with ht | ht
            · subst ht
              match y, h3, hw with
              | .inl g, h3, hw => exact va_bald hx hb (ai_K1 hK h1 h2) hP oi 0 hw rfl hin hd (k (_ :: vs) ⟨h3 _ (ai_in_lt hin), hS⟩)
              | .inr (.inl g), h3, hw => exact h3.elim
              | .inr (.inr (.inl g)), h3, hw => exact h3.elim
              | .inr (.inr (.inr (.inl g))), h3, hw => exact h3.elim
              | .inr (.inr (.inr (.inr g))), h3, hw => exact h3.elim
            · subst ht
              match y, h3, hw with
              | .inl g, h3, hw => exact va_zald hx hb (ai_K1 hK h1 h2) hP oi 0 hw rfl hin hd (k (_ :: vs) ⟨h3 _ (ai_in_lt hin), hS⟩)
              | .inr (.inl g), h3, hw => exact h3.elim
              | .inr (.inr (.inl g)), h3, hw => exact h3.elim
              | .inr (.inr (.inr (.inl g))), h3, hw => exact h3.elim
              | .inr (.inr (.inr (.inr g))), h3, hw => exact h3.elim
          · cases h
        · cases h
      · cases h
  · next j x r =>
    match vs, hS with
    | [], hS => exact hS.elim
    | [_], ⟨_, hS⟩ => exact hS.elim
    | vj :: v :: vs, ⟨hvj, hv, hS⟩ =>
      split at h
      · next o ho =>
        obtain ⟨oi, t, n, f⟩ := o
        obtain ⟨a, cA, y, rfl, hw, h1, h2, h3⟩ := ai_ar_ok ho w hv
        split at h
        · next kk hk =>
          obtain ⟨b, rfl, hin, rfl⟩ := ai_ix_ok hk hvj
          split at h
          · next ht =>
            cases h
            have ht : t = 2 := ht
            subst ht
            match y, h3, hw with
            | .inl g, h3, hw => exact h3.elim
            | .inr (.inl g), h3, hw => exact va_lald hx hb (ai_K1 hK h1 h2) hP oi 0 hw rfl hin hd (k (_ :: vs) ⟨h3 _ (ai_in_lt hin), hS⟩)
            | .inr (.inr (.inl g)), h3, hw => exact h3.elim
            | .inr (.inr (.inr (.inl g))), h3, hw => exact h3.elim
            | .inr (.inr (.inr (.inr g))), h3, hw => exact h3.elim
          · cases h
        · cases h
      · cases h
  · next j x r =>
    match vs, hS with
    | [], hS => exact hS.elim
    | [_], ⟨_, hS⟩ => exact hS.elim
    | vj :: v :: vs, ⟨hvj, hv, hS⟩ =>
      split at h
      · next o ho =>
        obtain ⟨oi, t, n, f⟩ := o
        obtain ⟨a, cA, y, rfl, hw, h1, h2, h3⟩ := ai_ar_ok ho w hv
        split at h
        · next kk hk =>
          obtain ⟨b, rfl, hin, rfl⟩ := ai_ix_ok hk hvj
          split at h
          · next ht =>
            cases h
            have ht : 4 ≤ t := ht
            obtain ⟨t4, rfl⟩ : ∃ t4, t = t4 + 4 := ⟨t - 4, by omega⟩
            match y, h3, hw with
            | .inl g, h3, hw => exact h3.elim
            | .inr (.inl g), h3, hw => exact h3.elim
            | .inr (.inr (.inl g)), h3, hw => exact h3.elim
            | .inr (.inr (.inr (.inl g))), h3, hw => exact h3.elim
            | .inr (.inr (.inr (.inr g))), h3, hw => exact va_aldq hx hb (ai_K1 hK h1 h2) hP oi 0 hw rfl hin hd (k (_ :: vs) ⟨h3 _ (ai_in_lt hin), hS⟩)
          · cases h
        · cases h
      · cases h
  · cases h
end AIH
end
section
/-! ===== stores and makings ===== -/
theorem ai_cl_of {ci : Nat} {r : vw_C} (h : vwCl[ci]? = some r) : ai_cl ci = r.1 := by
  unfold ai_cl
  rw [List.getD_eq_getElem?_getD, h]
  rfl
theorem ai_up_i {E : AE} {ws ws' : va_W} {n : Nat} (hE : ai_Ext ws ws') {f : Nat → AV} {g : Nat → Int32} (h : ∀ j, j < n → ai_V E ws (f j) (.int (g j))) {k : Nat} {a : AV} {x : Int32} (ha : ai_V E ws a (.int x)) : ∀ j, j < n → ai_V E ws' (ai_up f k a j) (.int (upd g k x j)) := by
  intro j hj
  unfold ai_up upd
  by_cases e : j = k
  · rw [if_pos e, if_pos e]; exact ha.mono hE
  · rw [if_neg e, if_neg e]; exact (h j hj).mono hE
theorem ai_up_l {E : AE} {ws ws' : va_W} {n : Nat} (hE : ai_Ext ws ws') {f : Nat → AV} {g : Nat → Int64} (h : ∀ j, j < n → ai_V E ws (f j) (.long (g j))) {k : Nat} {a : AV} {x : Int64} (ha : ai_V E ws a (.long x)) : ∀ j, j < n → ai_V E ws' (ai_up f k a j) (.long (vp_updL g k x j)) := by
  intro j hj
  unfold ai_up vp_updL
  by_cases e : j = k
  · rw [if_pos e, if_pos e]; exact ha.mono hE
  · rw [if_neg e, if_neg e]; exact (h j hj).mono hE
theorem ai_up_q {E : AE} {ws ws' : va_W} {n : Nat} (hE : ai_Ext ws ws') {f : Nat → AV} {g : Nat → Option Nat} (h : ∀ j, j < n → ai_V E ws (f j) (va_rf (g j))) {k : Nat} {a : AV} {x : Nat} (ha : ai_V E ws a (.ref x)) : ∀ j, j < n → ai_V E ws' (ai_up f k a j) (va_rf (va_up g k (some x) j)) := by
  intro j hj
  unfold ai_up va_up
  by_cases e : j = k
  · rw [if_pos e, if_pos e]; exact ha.mono hE
  · rw [if_neg e, if_neg e]; exact (h j hj).mono hE
theorem ai_nb_ok {E : AE} {ws : va_W} {a : AV} {x : Int32} (h : ai_V E ws a (.int x)) : ai_V E ws (ai_nb a) (.int (vp_nar .byte x)) := by
  unfold ai_nb
  split
  · have h : Value.int x = .int _ := h
    obtain rfl := Value.int.inj h
    rfl
  · exact ai_top_ok _
theorem ai_nz_ok {E : AE} {ws : va_W} {a : AV} {x : Int32} (h : ai_V E ws a (.int x)) : ai_V E ws (ai_nz a) (.int (vp_nar .boolean x)) := by
  unfold ai_nz
  split
  · have h : Value.int x = .int _ := h
    obtain rfl := Value.int.inj h
    rfl
  · exact ai_top_ok _
theorem ai_setA {E : AE} {s : State} {σ : List AC} {ws : va_W} (w : ai_W E s σ ws) {i a t n : Nat} {cA : ClassId} {x0 : va_E} {f : Nat → AV} (y : (Nat → Int32) ⊕ (Nat → Int64) ⊕ (Nat → UInt32) ⊕ (Nat → UInt64) ⊕ (Nat → Option Nat)) (h : ws[i]? = some (a, x0)) (h1 : ArrOfT s cA (ai_ty t)) (h2 : va_RA s cA (ai_ty t))
    (h3 : ai_A E (ws.set i (a, .inl (cA, n, y))) n (ai_kd t) f y) : ai_W E s (σ.set i (.inl (t, n, f))) (ws.set i (a, .inl (cA, n, y))) := w.set (x := .inl (cA, n, y)) h ⟨rfl, h1, h2, h3⟩
theorem ai_pushA {E : AE} {s : State} {σ : List AC} {ws : va_W} (w : ai_W E s σ ws) {a t n : Nat} {cA : ClassId} {f : Nat → AV} (y : (Nat → Int32) ⊕ (Nat → Int64) ⊕ (Nat → UInt32) ⊕ (Nat → UInt64) ⊕ (Nat → Option Nat)) (h1 : ArrOfT s cA (ai_ty t)) (h2 : va_RA s cA (ai_ty t))
    (h3 : ai_A E (ws ++ [(a, .inl (cA, n, y))]) n (ai_kd t) f y) : ai_W E s (σ ++ [.inl (t, n, f)]) (ws ++ [(a, .inl (cA, n, y))]) := w.push (q := (a, .inl (cA, n, y))) ⟨rfl, h1, h2, h3⟩
section AIH2
variable {p : Program} {l : Launch} {e : Env} {R : Room} {s : State} {m : MethodId} {args : Array Value} {below : List Frame} {meth : Method} {c : Code} {H : Heap} {locs : List Loc} {cells slots : Nat} {Q : State → Prop}
variable {cc : ByteArray} {pc : Nat} {ls : Array Slot} {i : Instr} {len : Nat} {aux : List Nat} {E : AE} {ws : va_W} {st st' : List AV} {vs : List Value} {σ σ' : List AC} {own : String} {D : va_G} {A : Nat → Prop} {H0 : Heap}
set_option maxHeartbeats 4000000 in
theorem ai_h2_ok {ini : Bool} (hini : ini = true → meth.name = "<init>") (hx : p.tables.exec = Jvm.exec) (hb : c.code = cc) (hown : s.vm.findClass own = some m.cls) (hT : ∀ w, w ∈ lw_tbl → goodWord w = true → w.before args s = true) (hK : va_K D vwCl [] s) (hd : decode cc pc = .ok (i, len)) (hchk : ai_chk own i aux = true)
    (w : ai_W E s σ ws) (hP : va_P D vwCl ws H) (hD : va_D A ws) (hSs : va_S A H0 H locs) (hS : ai_S E ws st vs) (h : ai_h2 ini i len aux st σ = some (st', σ'))
    (k : ∀ (ws' : va_W) (H' : Heap) (locs' : List Loc) (vs' : List Value), ai_Ext ws ws' → ai_W E s σ' ws' → va_P D vwCl ws' H' → va_D A ws' → va_S A H0 H' locs' → ai_S E ws' st' vs' → W p l e R s m args below meth c H' locs' cells slots Q (F0 m (pc + len) ls vs')) : W p l e R s m args below meth c H locs cells slots Q (F0 m pc ls vs) := by
  unfold ai_h2 at h
  split at h
  · next ix ci kk t y x r =>
    match vs, hS with
    | [], hS => exact hS.elim
    | [_], ⟨_, hS⟩ => exact hS.elim
    | u :: v :: vs, ⟨hu, hv, hS⟩ =>
      split at h
      · next o ho =>
        obtain ⟨oi, fs⟩ := o
        obtain ⟨a, us, rfl, hw, hfs⟩ := ai_ob_ok ho w hv
        split at h
        · next q hq =>
          split at h
          · next hc =>
            cases h
            obtain ⟨hc1, hc2, hc3⟩ := hc
            have hchk : (match vwCl[ci]? with
              | some r => decide (kk < r.2.2) && ai_w t (.fieldLink own ix r.1 (r.2.1 kk).2.1 (r.2.1 kk).2.2.1) && decide ((r.2.1 kk).1 = r.1) && (!(r.2.1 kk).2.2.2 || decide (r.1 = own))
              | none => false) = true := hchk
            rw [hq] at hchk
            simp only [Bool.and_eq_true, decide_eq_true_eq, Bool.or_eq_true, Bool.not_eq_true'] at hchk
            obtain ⟨⟨⟨c1, c2⟩, c3⟩, c4⟩ := hchk
            obtain ⟨f1, f2, f3⟩ := ai_F_all ci q hq
            obtain ⟨g1, g2⟩ := ai_w_ok c2
            obtain ⟨n1, n2⟩ := ai_fit_ok hc2 hu
            have hlen : kk < us.length := by rw [← ai_S_len hfs]; exact hc1
            have fin : ∀ (H1 : Heap) (locs1 : List Loc), va_P D vwCl (ws.set oi (a, .inr (ci, us.set kk u))) H1 → va_D A (ws.set oi (a, .inr (ci, us.set kk u))) → va_S A H0 H1 locs1 → W p l e R s m args below meth c H1 locs1 cells slots Q (F0 m (pc + 3) ls vs) :=
              fun H1 locs1 p1 d1 s1 => k _ H1 locs1 vs (ai_Ext.set hw) (w.set (x := .inr (ci, us.set kk u)) hw ⟨rfl, (ai_S_set hu hfs).mono (ai_Ext.set hw)⟩) p1 d1 s1 (hS.mono (ai_Ext.set hw))
            cases hfl : (q.2.1 kk).2.2.2 with
            | false => exact va_put (own := own) (ref := q.1) (C := q.1) (T := q.2.1) (N := q.2.2) (Ts := u_ws q.1 q.2.1 q.2.2) hx hb (fun w hw => hT w (f3 w hw) (ai_u_good _ _ _ w hw)) (fun w hw => hw) (ai_tf ci) f1 f2 hown hK hP hD hSs oi hw hq kk c1 (hT _ g1 g2) (fun x hx => by rw [c3] at hx; exact hx) hfl (f1 kk c1) n1 n2 hlen hd fin
            | true =>
              have ho : q.1 = own := c4.elim (fun z => by rw [hfl] at z; cases z) id
              exact va_putF (own := own) (ref := q.1) (C := q.1) (T := q.2.1) (N := q.2.2) (Ts := u_ws q.1 q.2.1 q.2.2) hx hb (fun w hw => hT w (f3 w hw) (ai_u_good _ _ _ w hw)) (fun w hw => hw) (ai_tf ci) f1 f2 hown hK hP hD hSs oi hw hq kk c1 (hT _ g1 g2) (fun x hx => by rw [c3] at hx; exact hx) hfl (hini (hc3 hfl)) (c3.trans ho) (f1 kk c1) n1 n2 hlen hd fin
          · cases h
        · cases h
      · cases h
  · next y j x r =>
    match vs, hS with
    | [], hS => exact hS.elim
    | [_], ⟨_, hS⟩ => exact hS.elim
    | [_, _], ⟨_, _, hS⟩ => exact hS.elim
    | u :: vj :: v :: vs, ⟨hu, hvj, hv, hS⟩ =>
      split at h
      · next o ho =>
        obtain ⟨oi, t, n, f⟩ := o
        obtain ⟨a, cA, y, rfl, hw, h1, h2, h3⟩ := ai_ar_ok ho w hv
        split at h
        · next kk hk =>
          obtain ⟨b, rfl, hin, rfl⟩ := ai_ix_ok hk hvj
          split at h
          · next hc =>
            cases h
            obtain ⟨ht, hcu⟩ := hc
            have ht : t = 1 := ht
            subst ht
            obtain ⟨xu, rfl⟩ := ai_V_int hcu hu
            match y, h3, hw with
            | .inl g, h3, hw => exact va_iast hx hb (ai_K1 hK h1 h2) hP hD hSs oi 0 hw rfl hin hd (fun H1 locs1 p1 d1 s1 => k _ H1 locs1 vs (ai_Ext.set hw) (ai_setA w (.inl (upd g b.toNatClampNeg xu)) hw h1 h2 (ai_up_i (ai_Ext.set hw) h3 hu)) p1 d1 s1 (hS.mono (ai_Ext.set hw)))
            | .inr (.inl g), h3, hw => exact h3.elim
            | .inr (.inr (.inl g)), h3, hw => exact h3.elim
            | .inr (.inr (.inr (.inl g))), h3, hw => exact h3.elim
            | .inr (.inr (.inr (.inr g))), h3, hw => exact h3.elim
          · cases h
        · cases h
      · cases h
  · next y j x r =>
    match vs, hS with
    | [], hS => exact hS.elim
    | [_], ⟨_, hS⟩ => exact hS.elim
    | [_, _], ⟨_, _, hS⟩ => exact hS.elim
    | u :: vj :: v :: vs, ⟨hu, hvj, hv, hS⟩ =>
      split at h
      · next o ho =>
        obtain ⟨oi, t, n, f⟩ := o
        obtain ⟨a, cA, y, rfl, hw, h1, h2, h3⟩ := ai_ar_ok ho w hv
        split at h
        · next kk hk =>
          obtain ⟨b, rfl, hin, rfl⟩ := ai_ix_ok hk hvj
          split at h
          · next hcu =>
            obtain ⟨xu, rfl⟩ := ai_V_int hcu hu
            split at h
            · next ht =>
              cases h
              have ht : t = 0 := ht
              subst ht
              match y, h3, hw with
              | .inl g, h3, hw => exact va_bast hx hb (ai_K1 hK h1 h2) hP hD hSs oi 0 hw rfl hin hd (fun H1 locs1 p1 d1 s1 => k _ H1 locs1 vs (ai_Ext.set hw) (ai_setA w (.inl (upd g b.toNatClampNeg (vp_nar .byte xu))) hw h1 h2 (ai_up_i (ai_Ext.set hw) h3 (ai_nb_ok hu))) p1 d1 s1 (hS.mono (ai_Ext.set hw)))
              | .inr (.inl g), h3, hw => exact h3.elim
              | .inr (.inr (.inl g)), h3, hw => exact h3.elim
              | .inr (.inr (.inr (.inl g))), h3, hw => exact h3.elim
              | .inr (.inr (.inr (.inr g))), h3, hw => exact h3.elim
            · split at h
              · next ht =>
                cases h
                have ht : t = 3 := ht
                subst ht
                match y, h3, hw with
                | .inl g, h3, hw => exact va_zast hx hb (ai_K1 hK h1 h2) hP hD hSs oi 0 hw rfl hin hd (fun H1 locs1 p1 d1 s1 => k _ H1 locs1 vs (ai_Ext.set hw) (ai_setA w (.inl (upd g b.toNatClampNeg (vp_nar .boolean xu))) hw h1 h2 (ai_up_i (ai_Ext.set hw) h3 (ai_nz_ok hu))) p1 d1 s1 (hS.mono (ai_Ext.set hw)))
                | .inr (.inl g), h3, hw => exact h3.elim
                | .inr (.inr (.inl g)), h3, hw => exact h3.elim
                | .inr (.inr (.inr (.inl g))), h3, hw => exact h3.elim
                | .inr (.inr (.inr (.inr g))), h3, hw => exact h3.elim
              · cases h
          · cases h
        · cases h
      · cases h
  · next y j x r =>
    match vs, hS with
    | [], hS => exact hS.elim
    | [_], ⟨_, hS⟩ => exact hS.elim
    | [_, _], ⟨_, _, hS⟩ => exact hS.elim
    | u :: vj :: v :: vs, ⟨hu, hvj, hv, hS⟩ =>
      split at h
      · next o ho =>
        obtain ⟨oi, t, n, f⟩ := o
        obtain ⟨a, cA, y, rfl, hw, h1, h2, h3⟩ := ai_ar_ok ho w hv
        split at h
        · next kk hk =>
          obtain ⟨b, rfl, hin, rfl⟩ := ai_ix_ok hk hvj
          split at h
          · next hc =>
            cases h
            obtain ⟨ht, hcu⟩ := hc
            have ht : t = 2 := ht
            subst ht
            obtain ⟨xu, rfl⟩ := ai_V_long hcu hu
            match y, h3, hw with
            | .inl g, h3, hw => exact h3.elim
            | .inr (.inl g), h3, hw => exact va_last hx hb (ai_K1 hK h1 h2) hP hD hSs oi 0 hw rfl hin hd (fun H1 locs1 p1 d1 s1 => k _ H1 locs1 vs (ai_Ext.set hw) (ai_setA w (.inr (.inl (vp_updL g b.toNatClampNeg xu))) hw h1 h2 (ai_up_l (ai_Ext.set hw) h3 hu)) p1 d1 s1 (hS.mono (ai_Ext.set hw)))
            | .inr (.inr (.inl g)), h3, hw => exact h3.elim
            | .inr (.inr (.inr (.inl g))), h3, hw => exact h3.elim
            | .inr (.inr (.inr (.inr g))), h3, hw => exact h3.elim
          · cases h
        · cases h
      · cases h
  · next y j x r =>
    match vs, hS with
    | [], hS => exact hS.elim
    | [_], ⟨_, hS⟩ => exact hS.elim
    | [_, _], ⟨_, _, hS⟩ => exact hS.elim
    | u :: vj :: v :: vs, ⟨hu, hvj, hv, hS⟩ =>
      split at h
      · next o ho =>
        obtain ⟨oi, t, n, f⟩ := o
        obtain ⟨a, cA, y, rfl, hw, h1, h2, h3⟩ := ai_ar_ok ho w hv
        split at h
        · next kk hk =>
          obtain ⟨b, rfl, hin, rfl⟩ := ai_ix_ok hk hvj
          split at h
          · next ob hob =>
            obtain ⟨obi, ofs⟩ := ob
            obtain ⟨a2, us2, rfl, hw2, -⟩ := ai_ob_ok hob w hu
            split at h
            · next q hq =>
              split at h
              · next ht =>
                cases h
                have ht : 4 ≤ t := ht
                obtain ⟨t4, rfl⟩ : ∃ t4, t = t4 + 4 := ⟨t - 4, by omega⟩
                have hw2 : ws[obi]? = some (a2, .inr (t4, us2)) := hw2
                have hq : vwCl[t4]? = some q := hq
                have e4 : ai_ty (t4 + 4) = .object q.1 := by show FieldType.object (ai_cl t4) = _; rw [ai_cl_of hq]
                match y, h3, hw with
                | .inl g, h3, hw => exact h3.elim
                | .inr (.inl g), h3, hw => exact h3.elim
                | .inr (.inr (.inl g)), h3, hw => exact h3.elim
                | .inr (.inr (.inr (.inl g))), h3, hw => exact h3.elim
                | .inr (.inr (.inr (.inr g))), h3, hw => exact va_astq hx hb (ai_K1 hK h1 h2) hP hD hSs oi 0 obi t4 hw (by rw [e4]; rfl) hw2 hq hin hd (fun H1 locs1 p1 d1 s1 => k _ H1 locs1 vs (ai_Ext.set hw) (ai_setA w (.inr (.inr (.inr (.inr (va_up g b.toNatClampNeg (some a2)))))) hw h1 h2 (ai_up_q (ai_Ext.set hw) h3 hu)) p1 d1 s1 (hS.mono (ai_Ext.set hw)))
              · cases h
            · cases h
          · cases h
        · cases h
      · cases h
  · cases h
set_option maxHeartbeats 4000000 in
theorem ai_h3_ok (hx : p.tables.exec = Jvm.exec) (hb : c.code = cc) (hown : s.vm.findClass own = some m.cls) (hT : ∀ w, w ∈ lw_tbl → goodWord w = true → w.before args s = true) (hO : ∀ C : String, Cond.arrayOver (.object C) ∈ lw_tbl → va_AO C s) (hK : va_K D vwCl [] s) (hd : decode cc pc = .ok (i, len)) (hchk : ai_chk own i aux = true)
    (w : ai_W E s σ ws) (hP : va_P D vwCl ws H) (hD : va_D A ws) (hSs : va_S A H0 H locs) (hA : ∀ q, H0.size ≤ q → A q) (hS : ai_S E ws st vs) {ce : AC} {ds : Nat} (h : ai_h3 i len aux st σ = some (st', ce, ds)) (hc1 : cells + 1 ≤ R.cells) (hs1 : slots + ds ≤ R.slots)
    (k : ∀ (ws' : va_W) (H' : Heap) (vs' : List Value), ai_Ext ws ws' → ai_W E s (σ ++ [ce]) ws' → va_P D vwCl ws' H' → va_D A ws' → va_S A H0 H' locs → ai_S E ws' (.inr (.inr (.inr (.inl (some σ.length)))) :: st') vs' → W p l e R s m args below meth c H' locs (cells + 1) (slots + ds) Q (F0 m (pc + len) ls vs')) : W p l e R s m args below meth c H locs cells slots Q (F0 m pc ls vs) := by
  have hadd : ∀ (q : Nat × va_E) , ai_ad (ws ++ [q]) σ.length = some q.1 := fun q => by rw [w.1]; exact ai_ad_push
  unfold ai_h3 at h
  split at h
  · next ix ci t1 t2 t3 =>
    split at h
    · next q hq =>
      cases h
      have hchk : (match vwCl[ci]? with
        | some r => ai_w t1 (.classLink own ix r.1) && ai_w t2 (.instantiable r.1 r.2.2) && ai_w t3 (.initialized r.1) && (List.range r.2.2).all (fun k => ai_ok (ai_tf ci k))
        | none => false) = true := hchk
      rw [hq] at hchk
      simp only [Bool.and_eq_true, List.all_eq_true] at hchk
      obtain ⟨⟨⟨c1, c2⟩, c3⟩, c4⟩ := hchk
      obtain ⟨f1, f2, f3⟩ := ai_F_all ci q hq
      refine va_new (own := own) (C := q.1) (T := q.2.1) (N := q.2.2) (Ts := u_ws q.1 q.2.1 q.2.2) (fs := (List.range q.2.2).map (fun k => defaultValue (ai_tf ci k))) hx hb (fun w hw => hT w (f3 w hw) (ai_u_good _ _ _ w hw)) (fun w hw => hw) (ai_tf ci) f1 hown (hT _ (ai_w_ok c1).1 (ai_w_ok c1).2) (hT _ (ai_w_ok c2).1 (ai_w_ok c2).2) (hT _ (ai_w_ok c3).1 (ai_w_ok c3).2) hK hP hD hSs hA hq ?_ hc1 hs1 hd ?_
      · intro j hj
        unfold vp_V
        rw [List.getD_eq_getElem?_getD, List.getElem?_map, List.getElem?_range hj]
        rfl
      · intro qa H1 p1 d1 s1
        exact k _ H1 (.ref qa :: vs) ai_Ext.push (w.push (q := (qa, .inr (ci, (List.range q.2.2).map (fun k => defaultValue (ai_tf ci k))))) ⟨rfl, ai_S_map _ (fun k hk => ai_df_ok (c4 k hk))⟩) p1 d1 s1 ⟨⟨qa, rfl, hadd _⟩, hS.mono ai_Ext.push⟩
    · cases h
  · next y t t1 n r =>
    match vs, hS with
    | [], hS => exact hS.elim
    | v :: vs, ⟨hv, hS⟩ =>
      split at h
      · next kk hk =>
        cases h
        obtain ⟨b, rfl, hin, rfl⟩ := ai_ix_ok hk hv
        have hchk : (decide (ai_ty t = newarray.typeOf y) && ai_w t1 (.arrayClass (newarray.typeOf y)) && decide (t < 4)) = true := hchk
        simp only [Bool.and_eq_true, decide_eq_true_eq] at hchk
        obtain ⟨⟨c1, c2⟩, c3⟩ := hchk
        have hn : ¬ b < 0 := fun z => hin (Or.inl z)
        have hn2 : b.toNatClampNeg < 100000 := Nat.lt_of_not_le fun z => hin (Or.inr z)
        have hcA := hT _ (ai_w_ok c2).1 (ai_w_ok c2).2
        match t, c1, c3 with
        | 0, c1, _ =>
          exact va_newa (a0 := (b.toNatClampNeg, .inl (fun _ => 0))) hx hb hcA c1.symm hK hP hD hSs hA (fun cA => rfl) hn rfl (by show _ * 1 ≤ _; omega) hc1 hs1 hd (fun qa cA H1 k1 p1 d1 s1 => k _ H1 (.ref qa :: vs) ai_Ext.push (ai_pushA w (.inl (fun _ => 0)) (k1.2 0 _ rfl).1 (k1.2 0 _ rfl).2 (fun _ _ => rfl)) p1 d1 s1 ⟨⟨qa, rfl, hadd _⟩, hS.mono ai_Ext.push⟩)
        | 1, c1, _ =>
          exact va_newa (a0 := (b.toNatClampNeg, .inl (fun _ => 0))) hx hb hcA c1.symm hK hP hD hSs hA (fun cA => rfl) hn rfl (by show _ * 4 ≤ _; omega) hc1 hs1 hd (fun qa cA H1 k1 p1 d1 s1 => k _ H1 (.ref qa :: vs) ai_Ext.push (ai_pushA w (.inl (fun _ => 0)) (k1.2 0 _ rfl).1 (k1.2 0 _ rfl).2 (fun _ _ => rfl)) p1 d1 s1 ⟨⟨qa, rfl, hadd _⟩, hS.mono ai_Ext.push⟩)
        | 2, c1, _ =>
          exact va_newa (a0 := (b.toNatClampNeg, .inr (.inl (fun _ => 0)))) hx hb hcA c1.symm hK hP hD hSs hA (fun cA => rfl) hn rfl (by show _ * 8 ≤ _; omega) hc1 hs1 hd (fun qa cA H1 k1 p1 d1 s1 => k _ H1 (.ref qa :: vs) ai_Ext.push (ai_pushA w (.inr (.inl (fun _ => 0))) (k1.2 0 _ rfl).1 (k1.2 0 _ rfl).2 (fun _ _ => rfl)) p1 d1 s1 ⟨⟨qa, rfl, hadd _⟩, hS.mono ai_Ext.push⟩)
        | 3, c1, _ =>
          exact va_newa (a0 := (b.toNatClampNeg, .inl (fun _ => 0))) hx hb hcA c1.symm hK hP hD hSs hA (fun cA => rfl) hn rfl (by show _ * 1 ≤ _; omega) hc1 hs1 hd (fun qa cA H1 k1 p1 d1 s1 => k _ H1 (.ref qa :: vs) ai_Ext.push (ai_pushA w (.inl (fun _ => 0)) (k1.2 0 _ rfl).1 (k1.2 0 _ rfl).2 (fun _ _ => rfl)) p1 d1 s1 ⟨⟨qa, rfl, hadd _⟩, hS.mono ai_Ext.push⟩)
        | n + 4, _, c3 => exact absurd c3 (by omega)
      · cases h
  · next ix ci t1 t2 n r =>
    match vs, hS with
    | [], hS => exact hS.elim
    | v :: vs, ⟨hv, hS⟩ =>
      split at h
      · next kk hk =>
        cases h
        obtain ⟨b, rfl, hin, rfl⟩ := ai_ix_ok hk hv
        have hchk : (ai_w t1 (.classLink own ix (ai_cl ci)) && ai_wb t2 (.arrayOver (.object (ai_cl ci)))) = true := hchk
        rw [Bool.and_eq_true] at hchk
        obtain ⟨c1, c2⟩ := hchk
        have hn : ¬ b < 0 := fun z => hin (Or.inl z)
        have hn2 : b.toNatClampNeg < 100000 := Nat.lt_of_not_le fun z => hin (Or.inr z)
        exact va_newq hx hb hown (hT _ (ai_w_ok c1).1 (ai_w_ok c1).2) (hO _ (ai_wb_ok c2)) hK hP hD hSs hA hn rfl (by omega) hc1 hs1 hd (fun qa cA H1 k1 p1 d1 s1 => k _ H1 (.ref qa :: vs) ai_Ext.push (ai_pushA (t := ci + 4) w (.inr (.inr (.inr (.inr (fun _ => none))))) (k1.2 0 _ rfl).1 (k1.2 0 _ rfl).2 (fun _ _ => rfl)) p1 d1 s1 ⟨⟨qa, rfl, hadd _⟩, hS.mono ai_Ext.push⟩)
      · cases h
  · cases h
end AIH2
end
section
/-! ===== methods, and the machine's run over the abstract world ===== -/
abbrev AQ : Type := Nat × Instr × Nat × List Nat
/-- own class, name, bytes, locals, what it returns; handlers, their exceptions, kind (0 virtual, 1 static, 2 constructor), parameters, class number, places in the tables; code -/
abbrev AM : Type := (String × MethodName × ByteArray × Nat × Option FieldType) × (List (Nat × Nat × Nat × Nat) × List (Nat × Nat) × Nat × Nat × Nat × List Nat) × List AQ
def m_own (M : AM) : String := M.1.1
def m_y (M : AM) : MethodName := M.1.2.1
def m_cc (M : AM) : ByteArray := M.1.2.2.1
def m_L (M : AM) : Nat := M.1.2.2.2.1
def m_ret (M : AM) : Option FieldType := M.1.2.2.2.2
def m_hh (M : AM) : List (Nat × Nat × Nat × Nat) := M.2.1.1
def m_hx (M : AM) : List (Nat × Nat) := M.2.1.2.1
def m_kind (M : AM) : Nat := M.2.1.2.2.1
def m_n (M : AM) : Nat := M.2.1.2.2.2.1
def m_ci (M : AM) : Nat := M.2.1.2.2.2.2.1
def m_ts (M : AM) : List Nat := M.2.1.2.2.2.2.2
def m_code (M : AM) : List AQ := M.2.2
def m_G : List Cond := lw_tbl.filter goodWord
def m_head (M : AM) : Cond := if m_hh M = [] then .code (m_y M) (m_cc M) (m_L M) (m_ret M) else .codeWith (m_y M) (m_cc M) (m_L M) (m_ret M) (m_hh M)
def m_ws (M : AM) : List Cond := m_head M :: m_G
def ax_n : Nat → String
  | 0 => "java/lang/IllegalArgumentException"
  | 1 => "java/lang/UnsupportedOperationException"
  | 2 => "java/util/NoSuchElementException"
  | 3 => "java/lang/IndexOutOfBoundsException"
  | _ => "java/lang/IllegalStateException"
def ax_up : List String := ["java/lang/RuntimeException", "java/lang/Exception"]
/-- words that are no good words but are kept by their own laws -/
def ax_kw (w : Cond) : Bool := match w with
  | .declares _ => true
  | .castable _ _ => true
  | .methodLinkNest _ _ _ _ => true
  | _ => false
def ax_ck (own : String) (cc : ByteArray) (pc x n t1 t2 ic t3 : Nat) : Bool :=
  decide (n < 5) && ai_w t1 (.classLink own x (ax_n n)) && ai_w t2 (.initialized (ax_n n)) && decide (decode cc (pc + 3) = .ok (.dup, 1)) && decide (decode cc (pc + 4) = .ok (.invokespecial ic, 3)) && decide (decode cc (pc + 7) = .ok (.athrow, 1))
    && ai_w t3 (.methodLink own ic (Bundle.init0 (ax_n n)))
/-- the words of a throw that don't speak of its place -/
def ax_ws (n : Nat) : List Cond := (Bundle.throwableAtoms ++ (Bundle.chain0Atoms (ax_n n) ax_up ++ ([.instantiable (ax_n n) 6, .castable (ax_n n) (ax_n n), .selects (ax_n n) Bundle.tFill0 Bundle.tFill0, .selects (ax_n n) Bundle.tFill Bundle.tFill,
   .lays (ax_n n) Bundle.tN "cause" "Ljava/lang/Throwable;", .lays (ax_n n) Bundle.tN "stackTrace" Bundle.steD, .lays (ax_n n) Bundle.tN "suppressedExceptions" Bundle.listD, .lays (ax_n n) Bundle.tN "detailMessage" "Ljava/lang/String;",
   .isRef (.static Bundle.tN "UNASSIGNED_STACK" Bundle.steD), .isRef (.static Bundle.tN "SUPPRESSED_SENTINEL" Bundle.listD),
   .fieldLink Bundle.tN 198 Bundle.tN "backtrace" "Ljava/lang/Object;", .lays Bundle.tN Bundle.tN "backtrace" "Ljava/lang/Object;", .lays (ax_n n) Bundle.tN "backtrace" "Ljava/lang/Object;"] : List Cond))).filter vx_no
theorem ax_split {own : String} {ic n : Nat} {w : Cond} (h : w ∈ vx_at0 own ic (ax_n n) ax_up) : w = .methodLink own ic (Bundle.init0 (ax_n n)) ∨ w ∈ ax_ws n := by
  obtain ⟨h1, h2⟩ := List.mem_filter.mp h
  unfold Bundle.ownAtoms0 at h1
  rcases List.mem_append.mp h1 with h1 | h1
  · rcases List.mem_append.mp h1 with h1 | h1
    · exact Or.inr (List.mem_filter.mpr ⟨List.mem_append_left _ h1, h2⟩)
    · exact Or.inr (List.mem_filter.mpr ⟨List.mem_append_right _ (List.mem_append_left _ h1), h2⟩)
  · rcases List.mem_cons.mp h1 with h1 | h1
    · exact Or.inl h1
    · exact Or.inr (List.mem_filter.mpr ⟨List.mem_append_right _ (List.mem_append_right _ h1), h2⟩)
def ax_one (w : Cond) : Bool := decide (w ∈ lw_tbl) && (vx_ot w && (goodWord w || ax_kw w))
set_option maxRecDepth 100000 in
theorem ax_w0 : (ax_ws 0).all ax_one = true := by decide +kernel
set_option maxRecDepth 100000 in
theorem ax_w1 : (ax_ws 1).all ax_one = true := by decide +kernel
set_option maxRecDepth 100000 in
theorem ax_w2 : (ax_ws 2).all ax_one = true := by decide +kernel
set_option maxRecDepth 100000 in
theorem ax_w3 : (ax_ws 3).all ax_one = true := by decide +kernel
set_option maxRecDepth 100000 in
theorem ax_w4 : (ax_ws 4).all ax_one = true := by decide +kernel
theorem ax_all {own : String} {ic n : Nat} (hn : n < 5) (hm : Cond.methodLink own ic (Bundle.init0 (ax_n n)) ∈ lw_tbl) : ∀ w ∈ vx_at0 own ic (ax_n n) ax_up, w ∈ lw_tbl ∧ vx_ot w = true ∧ (goodWord w = true ∨ ax_kw w = true) := by
  intro w hw
  rcases ax_split hw with rfl | hw
  · exact ⟨hm, rfl, Or.inl rfl⟩
  · have h : ax_one w = true := by
      match n, hn, hw with
      | 0, _, hw => exact List.all_eq_true.mp ax_w0 w hw
      | 1, _, hw => exact List.all_eq_true.mp ax_w1 w hw
      | 2, _, hw => exact List.all_eq_true.mp ax_w2 w hw
      | 3, _, hw => exact List.all_eq_true.mp ax_w3 w hw
      | 4, _, hw => exact List.all_eq_true.mp ax_w4 w hw
    unfold ax_one at h
    simp only [Bool.and_eq_true, decide_eq_true_eq, Bool.or_eq_true] at h
    exact h
def ai_ck2 (mt : List AM) (own : String) (cc : ByteArray) (q : AQ) : Bool := match q.2.1, q.2.2.2 with
  | .invokevirtual x, [k, t] => match mt[k]? with
    | some M => ai_w t (.methodLink own x (m_y M))
    | none => false
  | .invokestatic x, [k, t] => match mt[k]? with
    | some M => ai_w t (.methodLink own x (m_y M))
    | none => false
  | .invokespecial x, [k, t] => match mt[k]? with
    | some M => ai_w t (.methodLink own x (m_y M))
    | none => false
  | .invokespecial x, [t1, t2, t3] => ai_w t1 (.methodLink own x Lib.objectInit) && ai_w t2 (.instanceMethod Lib.objectInit) && ai_w t3 (.code Lib.objectInit ⟨#[0xb1]⟩ 1 none)
  | .invokespecial x, [k, t, _, _] => match mt[k]? with
    | some M => ai_wb t (.methodLinkNest own x (m_y M) "MountYard")
    | none => false
  | .new x, [n, t1, t2, ic, t3] => ax_ck own cc q.1 x n t1 t2 ic t3
  | _, _ => true
def ai_ckh (own : String) (hh : List (Nat × Nat × Nat × Nat)) (hx : List (Nat × Nat)) : Bool := match hh, hx with
  | [], [] => true
  | q :: hh, x :: hx => decide (x.1 < 5) && decide (q.2.2.2 ≠ 0) && ai_w x.2 (.classLink own q.2.2.2 (ax_n x.1)) && ai_ckh own hh hx
  | _, _ => false
/-- what a method's row in the list must be -/
def ai_mok1 (M : AM) : Bool :=
  plainName (m_own M) && decide ((m_y M).cls = m_own M) && decide (m_own M ≠ "java/lang/invoke/MethodHandle") && decide (m_own M ≠ "java/lang/invoke/VarHandle")
    && decide ((parseMethodDescriptor (m_y M).desc).map (fun d => d.parameters.length) = some (m_n M)) && decide (m_L M ≤ 16)
    && (match m_ts M with
      | [tc, ti, tk, tsel] => ai_w tc (m_head M) && ai_w ti (.initialized (m_own M))
        && (match m_kind M with
          | 0 => ai_w tk (.instanceMethod (m_y M)) && ai_w tsel (.selects (m_own M) (m_y M) (m_y M)) && decide ((vwCl[m_ci M]?).map (fun r => r.1) = some (m_own M)) && decide (m_hh M = [])
          | 1 => ai_w tk (.static (m_y M))
          | _ => ai_w tk (.instanceMethod (m_y M)) && decide ((m_y M).name = "<init>") && decide (m_ret M = none) && decide (m_hh M = []) && decide (m_kind M = 2))
      | _ => false)
    && ai_ckh (m_own M) (m_hh M) (m_hx M)
def ai_row (mt : List AM) (M : AM) (q : AQ) : Bool := decide (decode (m_cc M) q.1 = .ok (q.2.1, q.2.2.1)) && ai_chk (m_own M) q.2.1 q.2.2.2 && ai_ck2 mt (m_own M) (m_cc M) q
def ai_mok2 (mt : List AM) (M : AM) : Bool := (m_code M).all (ai_row mt M)
def ai_call (mt : List AM) (i : Instr) (len : Nat) (aux : List Nat) (st : List AV) (σ : List AC) : Option (AM × List AV × List AV) := match i, len, aux with
  | .invokevirtual _, 3, [k, _] => match mt[k]? with
    | some M => match st.drop (m_n M) with
      | x :: r => match ai_ob σ x (m_ci M) with
        | some _ => if m_kind M = 0 ∧ (r.map ai_wd).sum ≤ 8 then some (M, x :: (st.take (m_n M)).reverse, r) else none
        | none => none
      | [] => none
    | none => none
  | .invokestatic _, 3, [k, _] => match mt[k]? with
    | some M => if m_kind M = 1 ∧ m_n M ≤ st.length ∧ ((st.drop (m_n M)).map ai_wd).sum ≤ 8 then some (M, (st.take (m_n M)).reverse, st.drop (m_n M)) else none
    | none => none
  | .invokespecial _, 3, [k, _] => match mt[k]? with
    | some M => match st.drop (m_n M) with
      | x :: r => match ai_rf x with
        | some _ => if m_kind M = 2 ∧ (r.map ai_wd).sum ≤ 8 then some (M, x :: (st.take (m_n M)).reverse, r) else none
        | none => none
      | [] => none
    | none => none
  | .invokespecial _, 3, [k, _, _, _] => match mt[k]? with
    | some M => match st.drop (m_n M) with
      | x :: r => match ai_rf x with
        | some _ => if m_kind M = 2 ∧ (r.map ai_wd).sum ≤ 8 then some (M, x :: (st.take (m_n M)).reverse, r) else none
        | none => none
      | [] => none
    | none => none
  | _, _, _ => none
def ai_oi (i : Instr) (len : Nat) (aux : List Nat) (st : List AV) : Option (List AV) := match i, len, aux, st with
  | .invokespecial _, 3, [_, _, _], x :: r => match ai_rf x with
    | some _ => if (r.map ai_wd).sum ≤ 8 then some r else none
    | none => none
  | _, _, _, _ => none
def ai_sc (sc : Option (Nat × (Nat → AV))) (i : Instr) (len : Nat) (st : List AV) : Option (List AV) := match sc, i, len, st with
  | some q, .iaload, 1, j :: x :: r => if x = .inr (.inr (.inr (.inr 5))) then (match ai_ix j q.1 with
    | some k => some (q.2 k :: r)
    | none => none) else none
  | some q, .arraylength, 1, x :: r => if x = .inr (.inr (.inr (.inr 5))) then some (.inl (Int32.ofNat q.1) :: r) else none
  | _, _, _, _ => none
def ai_ret (M : AM) (i : Instr) (len : Nat) (st : List AV) : Option (Option AV) := match i, len, st with
  | .ireturn, 1, [x] => match m_ret M with
    | some t => if (t = .int ∨ t = .boolean) ∧ ai_fit t x = true then some (some x) else none
    | none => none
  | .lreturn, 1, [x] => if m_ret M = some .long ∧ ai_cat x = 2 then some (some x) else none
  | .areturn, 1, [x] => match m_ret M with
    | some (.object _) => if ai_cat x = 3 then some (some x) else none
    | _ => none
  | .return_, 1, [] => if m_ret M = none then some none else none
  | _, _, _ => none
def ai_th (d : Nat) (M : AM) (i : Instr) (len : Nat) (aux : List Nat) (st : List AV) : Option Nat := match i, len, aux with
  | .new _, 3, [n, _, _, _, _] => if 6 ≤ d ∧ m_hh M = [] ∧ (st.map ai_wd).sum ≤ 8 then some n else none
  | _, _, _ => none
def ai_hnd (pc E : Nat) : List (Nat × Nat × Nat × Nat) → List (Nat × Nat) → Option Nat
  | q :: hh, x :: hx => if q.1 ≤ pc ∧ pc < q.2.1 then (if x.1 = E then some q.2.2.1 else ai_hnd pc E hh hx) else ai_hnd pc E hh hx
  | _, _ => none
def ai_args : Nat → List AV → ALo
  | _, [] => []
  | i, v :: vs => (i, v) :: ai_args (if ai_wd v = 2 then i + 2 else i + 1) vs
abbrev AR : Type := (Option AV ⊕ Nat) × List AC × Nat × Nat
def ai_add (c s : Nat) (r : Option AR) : Option AR := match r with
  | some q => some (q.1, q.2.1, c + q.2.2.1, s + q.2.2.2)
  | none => none
abbrev AIH : Type := Option (Nat × (Nat → AV)) → Nat → AM → Nat → ALo → List AV → List AC → Option AR
/-- answers that are known beforehand -/
abbrev AXT : Type := Nat → AM → List AV → List AC → Option AR
def ai_body (ext : AXT) (mt : List AM) (op : Option Int32) (ih : AIH) (sc : Option (Nat × (Nat → AV))) (d : Nat) (M : AM) (pc : Nat) (lo : ALo) (st : List AV) (σ : List AC) : Option AR :=
  match (m_code M).find? (fun q => q.1 == pc) with
  | none => none
  | some q =>
    match ai_pu op (m_L M) q.2.1 q.2.2.1 pc lo st with
    | some r => ih sc d M r.1 r.2.1 r.2.2 σ
    | none =>
    match ai_h1 q.2.1 q.2.2.1 q.2.2.2 st σ with
    | some st' => ih sc d M (pc + q.2.2.1) lo st' σ
    | none =>
    match ai_h2 (decide (m_kind M = 2)) q.2.1 q.2.2.1 q.2.2.2 st σ with
    | some r => ih sc d M (pc + q.2.2.1) lo r.1 r.2
    | none =>
    match ai_h3 q.2.1 q.2.2.1 q.2.2.2 st σ with
    | some r => ai_add 1 r.2.2 (ih sc d M (pc + q.2.2.1) lo (.inr (.inr (.inr (.inl (some σ.length)))) :: r.1) (σ ++ [r.2.1]))
    | none =>
    match ai_sc sc q.2.1 q.2.2.1 st with
    | some st' => ih sc d M (pc + q.2.2.1) lo st' σ
    | none =>
    match ai_ret M q.2.1 q.2.2.1 st with
    | some v => some (.inl v, σ, 0, 0)
    | none =>
    match ai_th d M q.2.1 q.2.2.1 q.2.2.2 st with
    | some n => some (.inr n, σ, 1, 6)
    | none =>
    match ai_oi q.2.1 q.2.2.1 q.2.2.2 st with
    | some st' => if 1 ≤ d then ih sc d M (pc + q.2.2.1) lo st' σ else none
    | none =>
    match ai_call mt q.2.1 q.2.2.1 q.2.2.2 st σ with
    | none => none
    | some r =>
      match d with
      | 0 => none
      | d' + 1 =>
        if ((r.2.1).map ai_wd).sum ≤ m_L r.1 then
          match ai_or (ext d' r.1 r.2.1 σ) (ih none d' r.1 0 (ai_args 0 r.2.1) [] σ) with
          | none => none
          | some (.inl v, σ', dc, ds) => ai_add dc ds (ih sc (d' + 1) M (pc + q.2.2.1) lo (v.toList ++ r.2.2) σ')
          | some (.inr n, σ', dc, ds) =>
            if m_kind r.1 = 2 then none else
            match ai_hnd pc n (m_hh M) (m_hx M) with
            | some h => ai_add dc ds (ih sc (d' + 1) M h lo [.inr (.inr (.inr (.inr 0)))] σ')
            | none => if m_hh M = [] then some (.inr n, σ', dc, ds) else none
        else none
def ai_run (ext : AXT) (mt : List AM) (op : Option Int32) (fuel : Nat) : AIH := Nat.rec (motive := fun _ => AIH) (fun _ _ _ _ _ _ _ => none) (fun _ ih => ai_body ext mt op ih) fuel
end
section
/-! ===== the run's law over the machine ===== -/
def ai_O (E : AE) (ws : va_W) (o : Option AV) (v : Option Value) : Prop := match o, v with
  | none, none => True
  | some a, some x => ai_V E ws a x
  | _, _ => False
def ai_Ev (E : AE) (D : va_G) (σ : List AC) (ws0 : va_W) (A : Nat → Prop) (st t : State) (ws : va_W) : Prop := ai_W E t σ ws ∧ ai_Ext ws0 ws ∧ va_P D vwCl ws t.heap ∧ va_D A ws ∧ va_F A st t
def ai_Q (E : AE) (D : va_G) (o : Option AV ⊕ Nat) (σ : List AC) (ws0 : va_W) (A : Nat → Prop) : Array Value → State → Outcome → State → Prop := fun _ st oc t => ∃ (ov : Option AV) (v : Option Value) (ws : va_W), o = .inl ov ∧ oc = .returned v ∧ ai_O E ws ov v ∧ ai_Ev E D σ ws0 A st t ws
def ai_X (E : AE) (D : va_G) (o : Option AV ⊕ Nat) (σ : List AC) (ws0 : va_W) (A : Nat → Prop) : String → State → State → Prop := fun N st t => ∃ (n : Nat) (ws : va_W), o = .inr n ∧ N = ax_n n ∧ ai_Ev E D σ ws0 A st t ws
def ai_G (D : va_G) (s : State) : Prop := va_K D vwCl [] s ∧ (∀ C : String, Cond.arrayOver (.object C) ∈ lw_tbl → va_AO C s) ∧ (∀ w, w ∈ lw_tbl → ax_kw w = true → va_Nw w s) ∧ ∀ a b : Nat, a < 5 → b < 5 → a ≠ b → va_Nc (ax_n a) (ax_n b) s
def ai_Z (A : Nat → Prop) (s : State) (H : Heap) : Prop := vx_Zq Bundle.tN "UNASSIGNED_STACK" Bundle.steD A s H ∧ vx_Zq Bundle.tN "SUPPRESSED_SENTINEL" Bundle.listD A s H
theorem ax_kw_on {w : Cond} (h : ax_kw w = true) : w.onTables = true := by
  unfold ax_kw at h
  split at h <;> first | rfl | cases h
theorem ax_kw_warm {w : Cond} (h : ax_kw w = true) {s U : State} (hW : s.WarmedH U.vm) (k : va_Nw w s) : va_Nw w U := by
  unfold ax_kw at h
  split at h
  · exact va_Nw.warmD hW k
  · exact va_Nw.warmC hW k
  · exact va_Nw.warmM hW k
  · cases h
theorem ai_G.warm {D : va_G} {s U : State} (hW : s.WarmedH U.vm) (h : ai_G D s) : ai_G D U :=
  ⟨va_K.moved hW.alike h.1, fun C hC => (h.2.1 C hC).moved hW.alike, fun w hw hk => ax_kw_warm hk hW (h.2.2.1 w hw hk), fun a b ha hb hn => (h.2.2.2 a b ha hb hn).moved hW.alike⟩
theorem ai_G.same {D : va_G} {s U : State} (e : s.vm = U.vm) (h : ai_G D s) : ai_G D U :=
  ⟨va_K.moved (by rw [e]; exact Vm.Alike.refl _) h.1, fun C hC => (h.2.1 C hC).moved (by rw [e]; exact Vm.Alike.refl _), fun w hw hk => va_Nw.same (ax_kw_on hk) e (h.2.2.1 w hw hk), fun a b ha hb hn => (h.2.2.2 a b ha hb hn).moved (by rw [e]; exact Vm.Alike.refl _)⟩
theorem ai_Z.moved {A : Nat → Prop} {s U : State} {H : Heap} (e : s.vm.Alike U.vm) (h : ai_Z A s H) : ai_Z A U H := ⟨h.1.moved e, h.2.moved e⟩
theorem ai_Z.kept {A : Nat → Prop} {s : State} {H H1 : Heap} (h : ai_Z A s H) (k : ∀ a : Nat, a < H.size → ¬ A a → H1[a]? = H[a]?) : ai_Z A s H1 := ⟨h.1.kept k, h.2.kept k⟩
theorem ai_Z.narrow {A B : Nat → Prop} {s : State} {H : Heap} (h : ai_Z A s H) (k : ∀ q, B q → A q) : ai_Z B s H := ⟨h.1.narrow k, h.2.narrow k⟩
theorem m_G_in {w : Cond} (h : w ∈ lw_tbl) (g : goodWord w = true) : w ∈ m_G := List.mem_filter.mpr ⟨h, g⟩
theorem m_G_of {w : Cond} (h : w ∈ m_G) : w ∈ lw_tbl ∧ goodWord w = true := List.mem_filter.mp h
theorem m_good {ws : List Cond} (h : ∀ w ∈ ws, w ∈ m_G) : GoodIn m_G ws := fun w hw => ⟨h w hw, good_of_word (m_G_of (h w hw)).2⟩
/-- the frame of a method that is walked -/
def ai_Fr (M : AM) (D : va_G) (l : Launch) (p : Program) (s : State) (m : MethodId) (args : Array Value) (meth : Method) (c : Code) : Prop :=
  p.tables.exec = Jvm.exec ∧ c.code = m_cc M ∧ c.maxLocals = m_L M ∧ s.vm.findClass (m_own M) = some m.cls ∧ meth.sig.returnType = m_ret M ∧ meth.locks = false ∧ (m_kind M = 2 → meth.name = "<init>") ∧ c.exceptionTable.toList = tableOf (m_hh M) ∧ (∀ w, w ∈ lw_tbl → goodWord w = true → w.before args s = true) ∧ ai_G D s ∧ l.stackTraces = false
def ai_Pc (D : va_G) (E : AE) (σ : List AC) (ws : va_W) (sz : Nat) (av : List Value) : Array Value → State → Prop := va_Pc av (fun U => U.heap.size = sz ∧ ai_W E U σ ws ∧ va_P D vwCl ws U.heap ∧ va_D (fun _ => True) ws ∧ ai_G D U ∧ ai_Z (va_A ws sz) U U.heap)
def ai_rm (d dc ds : Nat) : Room := { frames := d, cells := dc, slots := ds, locals := 36 * d }
/-- a method's contract, out of a run -/
def ai_CT (l : Launch) (D : va_G) (E : AE) (M : AM) (as : List AV) (σ : List AC) (d : Nat) (r : AR) : Prop :=
  ∀ (ws : va_W) (sz : Nat) (av : List Value), ai_S E ws as av → vx_Met l (m_y M) (m_ws M) (ai_rm d r.2.2.1 r.2.2.2) (ai_Pc D E σ ws sz av) (ai_Q E D r.1 r.2.1 ws (va_A ws sz)) (ai_X E D r.1 r.2.1 ws (va_A ws sz)) r.2.2.1 r.2.2.2 (va_A ws sz)
theorem ai_Pc_blind {D : va_G} {E : AE} {σ : List AC} {ws : va_W} {sz : Nat} {av : List Value} : FrameBlind (ai_Pc D E σ ws sz av) := by
  intro a U g mk h
  obtain ⟨h0, h1, h2, h3, h4, h5, h6⟩ := h
  exact ⟨h0, h1, h2.moved (Vm.Alike.refl U.vm), h3, h4, h5.same (U := U.calling g mk a) (show U.vm = (U.calling g mk a).vm from rfl), h6.moved (Vm.Alike.refl U.vm)⟩
theorem ai_S_app {E : AE} {ws : va_W} : ∀ {a b : List AV} {x y : List Value}, ai_S E ws a x → ai_S E ws b y → ai_S E ws (a ++ b) (x ++ y)
  | [], _, [], _, _, h => h
  | [], _, _ :: _, _, h, _ => h.elim
  | _ :: _, _, [], _, h, _ => h.elim
  | _ :: _, _, _ :: _, _, h, k => ⟨h.1, ai_S_app h.2 k⟩
theorem ai_S_rev {E : AE} {ws : va_W} : ∀ {a : List AV} {x : List Value}, ai_S E ws a x → ai_S E ws a.reverse x.reverse
  | [], [], h => h
  | [], _ :: _, h => h.elim
  | _ :: _, [], h => h.elim
  | _ :: _, _ :: _, h => by
    rw [List.reverse_cons, List.reverse_cons]
    exact ai_S_app (ai_S_rev h.2) ⟨h.1, trivial⟩
theorem ai_S_take {E : AE} {ws : va_W} : ∀ (n : Nat) {a : List AV} {x : List Value}, ai_S E ws a x → ai_S E ws (a.take n) (x.take n)
  | 0, _, _, _ => trivial
  | _ + 1, [], [], h => h
  | _ + 1, [], _ :: _, h => h.elim
  | _ + 1, _ :: _, [], h => h.elim
  | n + 1, _ :: _, _ :: _, h => ⟨h.1, ai_S_take n h.2⟩
theorem ai_S_drop {E : AE} {ws : va_W} : ∀ (n : Nat) {a : List AV} {x : List Value}, ai_S E ws a x → ai_S E ws (a.drop n) (x.drop n)
  | 0, _, _, h => h
  | _ + 1, [], [], h => h
  | _ + 1, [], _ :: _, h => h.elim
  | _ + 1, _ :: _, [], h => h.elim
  | n + 1, _ :: _, _ :: _, h => ai_S_drop n h.2
theorem ai_S_sum {E : AE} {ws : va_W} : ∀ {a : List AV} {x : List Value}, ai_S E ws a x → (x.map fun v => v.category).sum = (a.map ai_wd).sum
  | [], [], _ => rfl
  | [], _ :: _, h => h.elim
  | _ :: _, [], h => h.elim
  | _ :: _, _ :: _, h => by rw [List.map_cons, List.map_cons, List.sum_cons, List.sum_cons, ai_S_sum h.2, ai_V_wd h.1]
theorem ai_args_ok {E : AE} {ws : va_W} : ∀ (i : Nat) {a : List AV} {x : List Value}, ai_S E ws a x → ai_L E ws (ai_args i a) (lv_args i x)
  | _, [], [], _ => trivial
  | _, [], _ :: _, h => h.elim
  | _, _ :: _, [], h => h.elim
  | i, a :: as, v :: vs, h => by
    refine ⟨⟨rfl, h.1⟩, ?_⟩
    rw [show v.category = ai_wd a from ai_V_wd h.1]
    exact ai_args_ok _ h.2
theorem ai_sl_len : ∀ (x : List Value), (lg_sl x).length = (x.map fun v => v.category).sum
  | [] => rfl
  | v :: x => by
    have e : lg_sl (v :: x) = (if v.category = 2 then [.val v, .second] else [.val v]) ++ lg_sl x := rfl
    rw [e, List.length_append, ai_sl_len x, List.map_cons, List.sum_cons]
    rcases lv_cat v with h | h
    · rw [if_neg (by omega), h]; rfl
    · rw [if_pos h, h]; rfl
theorem ai_hnd_ok {own : String} {pc E : Nat} {args : Array Value} {s : State} (hT : ∀ w, w ∈ lw_tbl → goodWord w = true → w.before args s = true) (hN : ∀ a b : Nat, a < 5 → b < 5 → a ≠ b → va_Nc (ax_n a) (ax_n b) s) (hE : E < 5) : ∀ {hh : List (Nat × Nat × Nat × Nat)} {hx : List (Nat × Nat)} {h : Nat}, ai_ckh own hh hx = true → ai_hnd pc E hh hx = some h →
    ∃ (pre : List ExceptionTableEntry) (x : ExceptionTableEntry) (suf : List ExceptionTableEntry), tableOf hh = pre ++ x :: suf ∧ (∀ z ∈ pre, covers z pc = false ∨ (z.catchType ≠ 0 ∧ ∃ nm : String, (Cond.classLink own z.catchType nm).before args s = true ∧ va_Nc (ax_n E) nm s)) ∧ covers x pc = true ∧ x.catchType ≠ 0 ∧ (Cond.classLink own x.catchType (ax_n E)).before args s = true ∧ x.handlerPc = h
  | [], _, _, _, k => by cases k
  | _ :: _, [], _, _, k => by cases k
  | q :: hh, x :: hx, h, c, k => by
    have c : (decide (x.1 < 5) && decide (q.2.2.2 ≠ 0) && ai_w x.2 (.classLink own q.2.2.2 (ax_n x.1)) && ai_ckh own hh hx) = true := c
    simp only [Bool.and_eq_true, decide_eq_true_eq] at c
    obtain ⟨⟨⟨c1, c2⟩, c3⟩, c4⟩ := c
    have hl := hT _ (ai_w_ok c3).1 (ai_w_ok c3).2
    have k : (if q.1 ≤ pc ∧ pc < q.2.1 then (if x.1 = E then some q.2.2.1 else ai_hnd pc E hh hx) else ai_hnd pc E hh hx) = some h := k
    have hcov : covers ⟨q.1, q.2.1, q.2.2.1, q.2.2.2⟩ pc = decide (q.1 ≤ pc ∧ pc < q.2.1) := by simp [covers]
    by_cases hc : q.1 ≤ pc ∧ pc < q.2.1
    · rw [if_pos hc] at k
      by_cases he : x.1 = E
      · rw [if_pos he] at k
        cases k
        exact ⟨[], ⟨q.1, q.2.1, q.2.2.1, q.2.2.2⟩, tableOf hh, rfl, (fun z hz => by cases hz), (by rw [hcov]; exact decide_eq_true hc), c2, (by rw [← he]; exact hl), rfl⟩
      · rw [if_neg he] at k
        obtain ⟨pre, y, suf, e1, e2, e3⟩ := ai_hnd_ok hT hN hE c4 k
        refine ⟨⟨q.1, q.2.1, q.2.2.1, q.2.2.2⟩ :: pre, y, suf, by show _ :: tableOf hh = _; rw [e1]; rfl, fun z hz => ?_, e3⟩
        rcases List.mem_cons.mp hz with rfl | hz
        · exact Or.inr ⟨c2, ax_n x.1, hl, hN E x.1 hE c1 (fun z => he z.symm)⟩
        · exact e2 z hz
    · rw [if_neg hc] at k
      obtain ⟨pre, y, suf, e1, e2, e3⟩ := ai_hnd_ok hT hN hE c4 k
      refine ⟨⟨q.1, q.2.1, q.2.2.1, q.2.2.2⟩ :: pre, y, suf, by show _ :: tableOf hh = _; rw [e1]; rfl, fun z hz => ?_, e3⟩
      rcases List.mem_cons.mp hz with rfl | hz
      · exact Or.inl (by rw [hcov]; exact decide_eq_false hc)
      · exact e2 z hz
theorem ai_cast : ∀ n, n < 5 → Cond.castable (ax_n n) (ax_n n) ∈ lw_tbl := by decide +kernel
/-- a method that never throws -/
theorem ai_toMet {l : Launch} {y : MethodName} {ws : List Cond} {rm : Room} {Pc : Array Value → State → Prop} {Qc : Array Value → State → Outcome → State → Prop} {XC : String → State → State → Prop} {mc ms : Nat} {free : Addr → Prop} (h : vx_Met l y ws rm Pc Qc XC mc ms free) (hX : ∀ N st t, ¬ XC N st t) : Met l y ws rm Pc Qc mc ms free := by
  intro p e ha hc hk s m args below hf happ hP hK
  obtain ⟨n, o, h1, h2, h3, hQ⟩ := h p e ha hc hk s m args below hf happ hP hK
  refine ⟨n, o, h1, h2, h3, ?_⟩
  rcases hQ with hQ | ⟨q, -, E, ce, L, hx, -⟩
  · exact hQ
  · exact absurd hx (hX _ _ _)
theorem ai_mono {σ : List AC} {ws : va_W} {D : va_G} {A : Nat → Prop} {H : Heap} {s : State} {locs : List Loc} (hD : va_D A ws) (hS : va_S A s.heap H locs) (hA : ∀ q, s.heap.size ≤ q → A q) : ∀ q, va_A ws H.size q → A q := by
  intro q h
  rcases h with ⟨k, e, h⟩ | h
  · exact hD.2 k (q, e) h
  · exact hA q (Nat.le_trans hS.1 h)
end
section
/-! ===== contracts out of runs, and calls ===== -/
def ai_Sc (sc : Option (Nat × (Nat → AV))) (E : AE) (A : Nat → Prop) (s : State) : Prop := ∀ q, sc = some q → ∃ xs : Nat → Int32, va_X E.1 q.1 xs s s.heap ∧ E.1 < s.heap.size ∧ ¬ A E.1 ∧ ∀ (j : Nat) (ws : va_W), j < q.1 → ai_V E ws (q.2 j) (.int (xs j))
def ai_Wk (mt : List AM) (M : AM) : Prop := ai_mok2 mt M = true ∧ ai_ckh (m_own M) (m_hh M) (m_hx M) = true
def ai_SND (mt : List AM) (l : Launch) (D : va_G) (E : AE) (ih : AIH) : Prop :=
  ∀ (sc : Option (Nat × (Nat → AV))) (d : Nat) (M : AM) (pc : Nat) (lo : ALo) (st : List AV) (σ : List AC) (r : AR), ai_Wk mt M → ih sc d M pc lo st σ = some r →
  ∀ (p : Program) (e : Env) (R : Room) (s : State) (m : MethodId) (args : Array Value) (below : List Frame) (meth : Method) (c : Code) (ws0 : va_W) (A : Nat → Prop) (ws : va_W) (H : Heap) (locs : List Loc) (ls : Array Slot) (lv : List (Nat × Value)) (vs : List Value) (cells slots mc ms : Nat),
    ai_Fr M D l p s m args meth c → ai_Sc sc E A s → (∀ q, s.heap.size ≤ q → A q) → ai_Z A s s.heap → ai_Ext ws0 ws → ai_W E s σ ws → va_P D vwCl ws H → va_D A ws → va_S A s.heap H locs → lv_has ls (m_L M) lv → ai_L E ws lo lv → ai_S E ws st vs → d ≤ R.frames → 36 * d ≤ R.locals → cells + r.2.2.1 ≤ mc → slots + r.2.2.2 ≤ ms → mc ≤ R.cells → ms ≤ R.slots →
    W p l e R s m args below meth c H locs cells slots (vx_MQ below (ai_Q E D r.1 r.2.1 ws0 A) (ai_X E D r.1 r.2.1 ws0 A) args s mc ms A) (F0 m pc ls vs)
/-- a method's row says -/
def ai_Mk (M : AM) : Prop := plainName (m_own M) = true ∧ (m_y M).cls = m_own M ∧ m_own M ≠ "java/lang/invoke/MethodHandle" ∧ m_own M ≠ "java/lang/invoke/VarHandle" ∧ (parseMethodDescriptor (m_y M).desc).map (fun d => d.parameters.length) = some (m_n M) ∧ m_L M ≤ 16 ∧
  m_head M ∈ m_G ∧ Cond.initialized (m_own M) ∈ m_G ∧ ai_ckh (m_own M) (m_hh M) (m_hx M) = true ∧
  (m_kind M = 0 → Cond.instanceMethod (m_y M) ∈ m_G ∧ Cond.selects (m_own M) (m_y M) (m_y M) ∈ m_G ∧ (vwCl[m_ci M]?).map (fun r => r.1) = some (m_own M) ∧ m_hh M = []) ∧
  (m_kind M = 1 → Cond.static (m_y M) ∈ m_G) ∧
  (m_kind M = 2 → Cond.instanceMethod (m_y M) ∈ m_G ∧ (m_y M).name = "<init>" ∧ m_ret M = none ∧ m_hh M = [])
theorem ai_w_G {t : Nat} {w : Cond} (h : ai_w t w = true) : w ∈ m_G := m_G_in (ai_w_ok h).1 (ai_w_ok h).2
theorem ai_Mk_of {M : AM} (h : ai_mok1 M = true) : ai_Mk M := by
  unfold ai_mok1 at h
  simp only [Bool.and_eq_true, decide_eq_true_eq] at h
  obtain ⟨⟨⟨⟨⟨⟨⟨h1, h2⟩, h3⟩, h4⟩, h5⟩, h6⟩, h7⟩, h8⟩ := h
  split at h7
  · next tc ti tk tsel hts =>
    simp only [Bool.and_eq_true] at h7
    obtain ⟨⟨g1, g2⟩, g3⟩ := h7
    refine ⟨h1, h2, h3, h4, h5, h6, ai_w_G g1, ai_w_G g2, h8, ?_, ?_, ?_⟩
    · intro hk
      rw [hk] at g3
      simp only [Bool.and_eq_true, decide_eq_true_eq] at g3
      exact ⟨ai_w_G g3.1.1.1, ai_w_G g3.1.1.2, g3.1.2, g3.2⟩
    · intro hk
      rw [hk] at g3
      exact ai_w_G g3
    · intro hk
      rw [hk] at g3
      simp only [Bool.and_eq_true, decide_eq_true_eq] at g3
      exact ⟨ai_w_G g3.1.1.1.1, g3.1.1.1.2, g3.1.1.2, g3.1.2⟩
  · cases h7
section ACT
variable {mt : List AM} {l : Launch} {D : va_G} {E : AE} {ih : AIH}
set_option maxHeartbeats 4000000 in
theorem ai_ct (hl : l.stackTraces = false) (S : ai_SND mt l D E ih) {M : AM} (hM : ai_Wk mt M) (K : ai_Mk M) {as : List AV} {σ : List AC} {d : Nat} {r : AR} (h : ih none d M 0 (ai_args 0 as) [] σ = some r) (hn : (as.map ai_wd).sum ≤ m_L M) : ai_CT l D E M as σ d r := by
  intro ws sz av hav
  obtain ⟨k1, k2, k3, k4, k5, k6, k7, k8, k9, k10, k11, k12⟩ := K
  have hlen : (lg_sl av).length ≤ m_L M := by rw [ai_sl_len, ai_S_sum hav]; exact hn
  have key : ∀ (p : Program) (e : Env) (s : State) (m : MethodId) (args : Array Value) (below : List Frame) (meth : Method) (c : Code) (s₁ : State), BodyLoose p l (m_y M) (headSpec (m_ws M) (ai_rm d r.2.2.1 r.2.2.2)) (m_cc M) (m_L M) (m_ret M) e s m args below meth c s₁ → c.maxLocals = m_L M → c.exceptionTable.toList = tableOf (m_hh M) → ai_Pc D E σ ws sz av args s →
      W p l e (headSpec (m_ws M) (ai_rm d r.2.2.1 r.2.2.2)).room s m args below meth c s.heap [] 0 0 (vx_MQ below (ai_Q E D r.1 r.2.1 ws (va_A ws sz)) (ai_X E D r.1 r.2.1 ws (va_A ws sz)) args s r.2.2.1 r.2.2.2 (va_A ws sz)) (entryFrame m args (m_L M)) := by
    intro p e s m args below meth c s₁ B hml htab hP
    obtain ⟨rfl, hsz, hW, hPP, hD, hG, hZ⟩ := hP
    subst hsz
    have hts := atoms_spec (ws := m_ws M) B.pre
    rw [lg_entry_eq]
    refine S none d M 0 (ai_args 0 as) [] σ r hM h p e _ s m _ below meth c ws (va_A ws s.heap.size) ws s.heap [] _ (lv_args 0 av) [] 0 0 r.2.2.1 r.2.2.2 ?_ ?_ ?_ hZ ai_Ext.rf hW hPP hD.self va_S.rf (lv_entry av hlen) (ai_args_ok 0 hav) trivial (Nat.le_refl _) (Nat.le_refl _) (by omega) (by omega) (Nat.le_refl _) (Nat.le_refl _)
    · refine ⟨B.exec, B.bytes, hml, ?_, B.returns, B.notSynchronized, ?_, htab, fun w hw hg => hts w (List.mem_cons_of_mem _ (m_G_in hw hg)), hG, hl⟩
      · have := findClass_of_methodNamed B.named
        rw [k2] at this
        exact this
      · intro hk
        exact (name_of_methodNamed B.named B.method).1.trans (k12 hk).2.1
    · intro q hq; cases hq
    · intro q hq; exact Or.inr hq
  by_cases hh : m_hh M = []
  · refine vx_ofW (cc := m_cc M) (maxL := m_L M) (ret := m_ret M) (ws' := m_G) (by rw [k2]; exact k1) (by unfold m_ws m_head; rw [if_pos hh]) ?_
    intro p e s m args below meth c s₁ B hml hempty hP
    exact key p e s m args below meth c s₁ B hml (by rw [hh]; exact List.eq_nil_iff_forall_not_mem.mpr hempty) hP
  · refine vx_ofWH (cc := m_cc M) (maxL := m_L M) (ret := m_ret M) (hh := m_hh M) (ws' := m_G) (by rw [k2]; exact k1) (by unfold m_ws m_head; rw [if_neg hh]) ?_
    intro p e s m args below meth c s₁ B hml hP
    have hts := atoms_spec (ws := m_ws M) B.pre
    have hc := hts (m_head M) List.mem_cons_self
    unfold m_head at hc
    rw [if_neg hh] at hc
    exact key p e s m args below meth c s₁ B hml (vx_table (x := m_y M) B hc) hP
end ACT
section ACR
variable {mt : List AM} {l : Launch} {D : va_G} {E : AE}
variable {p : Program} {e : Env} {R : Room} {s : State} {m : MethodId} {args : Array Value} {below : List Frame} {meth : Method} {c : Code} {H : Heap} {locs : List Loc} {cells slots : Nat} {pc : Nat} {ls : Array Slot} {i : Instr} {len : Nat} {aux : List Nat} {ws : va_W} {st : List AV} {vs : List Value} {σ : List AC} {A : Nat → Prop} {lv : List (Nat × Value)}
theorem ai_pre (hG : ai_G D s) (hZ : ai_Z A s s.heap) (hA : ∀ q, s.heap.size ≤ q → A q) (hW : ai_W E s σ ws) (hP : va_P D vwCl ws H) (hD : va_D A ws) (hS : va_S A s.heap H locs) (av : List Value) : ∀ U : State, U.heap = H → s.WarmedH U.vm → ai_Pc D E σ ws H.size av av.toArray U := by
  intro U hU hw
  exact ⟨rfl, by rw [hU], hW.moved hw.alike, by rw [hU]; exact hP, hD.weaken (fun _ _ _ _ => trivial), hG.warm hw, by rw [hU]; exact ((hZ.kept hS.2.1).moved hw.alike).narrow (ai_mono (σ := σ) (D := D) hD hS hA)⟩
theorem ai_split {n : Nat} {x : AV} {rr : List AV} (hS : ai_S E ws st vs) (h : st.drop n = x :: rr) : ∃ (v : Value) (vr : List Value), vs = (vs.take n).reverse.reverse ++ v :: vr ∧ (vs.take n).reverse.length = n ∧ ai_V E ws x v ∧ ai_S E ws rr vr ∧ ai_S E ws (st.take n).reverse (vs.take n).reverse := by
  have h1 := ai_S_drop n hS
  rw [h] at h1
  have hl : n < vs.length := by
    rw [← ai_S_len hS]
    rcases Nat.lt_or_ge n st.length with g | g
    · exact g
    · rw [List.drop_eq_nil_of_le g] at h; cases h
  cases hd : vs.drop n with
  | nil => rw [hd] at h1; exact h1.elim
  | cons v vr =>
    rw [hd] at h1
    refine ⟨v, vr, ?_, ?_, h1.1, h1.2, ai_S_rev (ai_S_take n hS)⟩
    · rw [List.reverse_reverse, ← hd, List.take_append_drop]
    · rw [List.length_reverse, List.length_take]; omega
set_option maxHeartbeats 4000000 in
theorem ai_callrun {M M' : AM} {as rest : List AV} {d' : Nat} {r : AR} (F : ai_Fr M D l p s m args meth c) (hZ : ai_Z A s s.heap) (hA : ∀ q, s.heap.size ≤ q → A q) (hW : ai_W E s σ ws) (hP : va_P D vwCl ws H) (hD : va_D A ws) (hS : va_S A s.heap H locs) (hl : lv_has ls (m_L M) lv) (hSt : ai_S E ws st vs)
    (hd : decode (m_cc M) pc = .ok (i, len)) (hck : ai_ck2 mt (m_own M) (m_cc M) (pc, i, len, aux) = true) (hcall : ai_call mt i len aux st σ = some (M', as, rest)) (hMs : ∀ M ∈ mt, ai_Mk M) (ct : ai_CT l D E M' as σ d' r) (hk2 : m_kind M' = 2 → ∃ ov, r.1 = .inl ov)
    (hfr : d' + 1 ≤ R.frames) (hlo : 36 * (d' + 1) ≤ R.locals) (hc : cells + r.2.2.1 ≤ R.cells) (hs : slots + r.2.2.2 ≤ R.slots) :
    len = 3 ∧ M' ∈ mt ∧ ∃ (vr : List Value) (av : Array Value), ai_S E ws rest vr ∧ vx_Run p l e R s m args below meth c H locs cells slots r.2.2.1 r.2.2.2 (F0 m pc ls vs) vr (ai_Q E D r.1 r.2.1 ws (va_A ws H.size) av) (ai_X E D r.1 r.2.1 ws (va_A ws H.size)) (va_A ws H.size) := by
  obtain ⟨hx, hb, hml, hown, hr, hlocks, hini, htab, hT, hG, htr⟩ := F
  have hts : ∀ w ∈ m_G, w.before args s = true := fun w hw => hT w (m_G_of hw).1 (m_G_of hw).2
  have hRoom : ∀ M' : AM, m_L M' ≤ 16 → (ai_rm d' r.2.2.1 r.2.2.2).frames + 1 ≤ R.frames ∧ 8 + (m_L M' + 11) + (ai_rm d' r.2.2.1 r.2.2.2).locals ≤ R.locals := fun M' h => ⟨hfr, by show 8 + (m_L M' + 11) + 36 * d' ≤ R.locals; omega⟩
  unfold ai_call at hcall
  split at hcall
  · next x k t =>
    split at hcall
    · next Mc hMc =>
      split at hcall
      · next xo rr hdrop =>
        split at hcall
        · next ob hob =>
          split at hcall
          · next hcond =>
            cases hcall
            have hmem : M' ∈ mt := List.mem_of_getElem? hMc
            obtain ⟨k1, k2, k3, k4, k5, k6, k7, k8, k9, k10, -, -⟩ := hMs M' hmem
            obtain ⟨q1, q2, q3, q4⟩ := k10 hcond.1
            obtain ⟨v, vr, e1, e2, e3, e4, e5⟩ := ai_split hSt hdrop
            obtain ⟨oi, ofs⟩ := ob
            obtain ⟨a, us, rfl, hw, -⟩ := ai_ob_ok hob hW e3
            have hck : (match mt[k]? with
              | some M => ai_w t (.methodLink (m_own _) x (m_y M))
              | none => false) = true := hck
            rw [hMc] at hck
            cases hrow : vwCl[m_ci M']? with
            | none => rw [hrow] at q3; cases q3
            | some row =>
              rw [hrow] at q3
              have q3 : row.1 = m_own M' := Option.some.inj q3
              refine ⟨rfl, hmem, vr, (Value.ref a :: (vs.take (m_n M')).reverse).toArray, e4, ?_⟩
              refine vx_runV (Ts := m_G) (C := m_own M') (ws := m_ws M') (rm := ai_rm d' r.2.2.1 r.2.2.2) (Pc := ai_Pc D E σ ws H.size (.ref a :: (vs.take (m_n M')).reverse)) (n := m_n M') ⟨hx, hb, hml, hown, hts⟩ (ct ws H.size _ ⟨e3, e5⟩)
                (cwV (m_n M') hts (m_good ?_) (by unfold m_ws m_head; rw [if_pos q4]) rfl rfl ⟨k2, by rw [k2]; exact k3, by rw [k2]; exact k4, k5⟩ (hRoom M' k6))
                ⟨ai_Pc_blind, ?_, ai_pre hG hZ hA hW hP hD hS _⟩ rfl e2 hl.1 e1 (lv_room (by rw [ai_S_sum e4]; exact hcond.2)) hd ⟨hc, hs⟩
              · intro w hw
                unfold wsV at hw
                rcases List.mem_append.mp hw with hw | hw
                · simp only [List.mem_cons, List.not_mem_nil, or_false] at hw
                  rcases hw with rfl | rfl | rfl | rfl
                  · exact ai_w_G hck
                  · exact q1
                  · exact q2
                  · exact k8
                · rcases List.mem_cons.mp hw with rfl | hw
                  · exact k7
                  · exact hw
              · obtain ⟨cell, g1, g2, g3⟩ := va_recv hG.1 hP hrow hw
                exact ⟨cell, g1, g2, by rw [← q3]; exact g3⟩
          · cases hcall
        · cases hcall
      · cases hcall
    · cases hcall
  · next x k t =>
    split at hcall
    · next Mc hMc =>
      split at hcall
      · next hcond =>
        cases hcall
        have hmem : M' ∈ mt := List.mem_of_getElem? hMc
        obtain ⟨k1, k2, k3, k4, k5, k6, k7, k8, k9, -, k11, -⟩ := hMs M' hmem
        have q1 := k11 hcond.1
        have e5 := ai_S_rev (ai_S_take (m_n M') hSt)
        have e4 := ai_S_drop (m_n M') hSt
        have e1 : vs = (vs.take (m_n M')).reverse.reverse ++ vs.drop (m_n M') := by rw [List.reverse_reverse, List.take_append_drop]
        have e2 : (vs.take (m_n M')).reverse.length = m_n M' := by
          rw [List.length_reverse, List.length_take, ← ai_S_len hSt]
          exact Nat.min_eq_left hcond.2.1
        have hck : (match mt[k]? with
          | some M => ai_w t (.methodLink (m_own _) x (m_y M))
          | none => false) = true := hck
        rw [hMc] at hck
        have hgood : GoodIn m_G (va_wsS (m_own M) x (m_y M') (m_ws M')) := m_good (by
          intro w hw
          unfold va_wsS at hw
          rcases List.mem_append.mp hw with hw | hw
          · simp only [List.mem_cons, List.not_mem_nil, or_false] at hw
            rcases hw with rfl | rfl | rfl
            · exact ai_w_G hck
            · exact q1
            · rw [k2]; exact k8
          · rcases List.mem_cons.mp hw with rfl | hw
            · exact k7
            · exact hw)
        refine ⟨rfl, hmem, vs.drop (m_n M'), ((vs.take (m_n M')).reverse).toArray, e4, ?_⟩
        by_cases hh : m_hh M' = []
        · exact vx_runS (Ts := m_G) (ws := m_ws M') (rm := ai_rm d' r.2.2.1 r.2.2.2) (Pc := ai_Pc D E σ ws H.size (vs.take (m_n M')).reverse) (n := m_n M') ⟨hx, hb, hml, hown, hts⟩ (ct ws H.size _ e5)
            (va_cwS (m_n M') hts hgood (by unfold m_ws m_head; rw [if_pos hh]) rfl rfl ⟨by rw [k2]; exact k3, by rw [k2]; exact k4, k5⟩ (hRoom M' k6))
            ⟨ai_Pc_blind, ai_pre hG hZ hA hW hP hD hS _⟩ rfl e2 hl.1 e1 (lv_room (by rw [ai_S_sum e4]; exact hcond.2.2)) hd ⟨hc, hs⟩
        · exact vx_runSX (hh := m_hh M') (Ts := m_G) (ws := m_ws M') (rm := ai_rm d' r.2.2.1 r.2.2.2) (Pc := ai_Pc D E σ ws H.size (vs.take (m_n M')).reverse) (n := m_n M') ⟨hx, hb, hml, hown, hts⟩ (ct ws H.size _ e5)
            (vx_cwSW (m_n M') hts hgood (by unfold m_ws m_head; rw [if_neg hh]) rfl rfl ⟨by rw [k2]; exact k3, by rw [k2]; exact k4, k5⟩ (hRoom M' k6))
            ⟨ai_Pc_blind, ai_pre hG hZ hA hW hP hD hS _⟩ rfl e2 hl.1 e1 (lv_room (by rw [ai_S_sum e4]; exact hcond.2.2)) hd ⟨hc, hs⟩
      · cases hcall
    · cases hcall
  · next x k t =>
    split at hcall
    · next Mc hMc =>
      split at hcall
      · next xo rr hdrop =>
        split at hcall
        · next ob hob =>
          split at hcall
          · next hcond =>
            cases hcall
            have hmem : M' ∈ mt := List.mem_of_getElem? hMc
            obtain ⟨k1, k2, k3, k4, k5, k6, k7, k8, k9, -, -, k12⟩ := hMs M' hmem
            obtain ⟨q1, q2, q3, q4⟩ := k12 hcond.1
            obtain ⟨v, vr, e1, e2, e3, e4, e5⟩ := ai_split hSt hdrop
            obtain ⟨a, rfl, -⟩ := ai_rf_ok hob e3
            obtain ⟨ov, hov⟩ := hk2 hcond.1
            have hck : (match mt[k]? with
              | some M => ai_w t (.methodLink (m_own _) x (m_y M))
              | none => false) = true := hck
            rw [hMc] at hck
            refine ⟨rfl, hmem, vr, (Value.ref a :: (vs.take (m_n M')).reverse).toArray, e4, ?_⟩
            have run := va_runI (b := a) (As := (vs.take (m_n M')).reverse) (rest := vr) (bytes := m_cc M') (maxL := m_L M') (Ts := m_G) (ws := m_ws M') (rm := ai_rm d' r.2.2.1 r.2.2.2) (Pc := ai_Pc D E σ ws H.size (.ref a :: (vs.take (m_n M')).reverse)) (n := m_n M') (below := below) (meth := meth) (cells := cells) (slots := slots) (locs := locs) (e := e) (g := F0 m pc ls vs) ⟨hx, hb, hml, hown, hts⟩ (ai_toMet (ct ws H.size _ ⟨e3, e5⟩) (fun N st t hX => by obtain ⟨n, w9, hn, -⟩ := hX; rw [hov] at hn; cases hn))
              (cwI (m_n M') hts (m_good (fun w hw => by
                rcases List.mem_cons.mp hw with rfl | hw
                · exact k7
                · exact hw)) (by unfold m_ws m_head; rw [if_pos q4, q3]) rfl rfl (hts _ (by rw [k2]; exact k8)) (hts _ (ai_w_G hck)) (hts _ q1) q2 ⟨by rw [k2]; exact k3, by rw [k2]; exact k4, k5⟩ (hRoom M' k6))
              ⟨ai_Pc_blind, ai_pre hG hZ hA hW hP hD hS _⟩ rfl e2 hl.1 e1 (lv_room (by rw [ai_S_sum e4]; exact hcond.2)) hd ⟨hc, hs⟩
            exact fun T hT X => Or.inl (run T hT X)
          · cases hcall
        · cases hcall
      · cases hcall
    · cases hcall
  · next x k t z1 z2 =>
    split at hcall
    · next Mc hMc =>
      split at hcall
      · next xo rr hdrop =>
        split at hcall
        · next ob hob =>
          split at hcall
          · next hcond =>
            cases hcall
            have hmem : M' ∈ mt := List.mem_of_getElem? hMc
            obtain ⟨k1, k2, k3, k4, k5, k6, k7, k8, k9, -, -, k12⟩ := hMs M' hmem
            obtain ⟨q1, q2, q3, q4⟩ := k12 hcond.1
            obtain ⟨v, vr, e1, e2, e3, e4, e5⟩ := ai_split hSt hdrop
            obtain ⟨a, rfl, -⟩ := ai_rf_ok hob e3
            obtain ⟨ov, hov⟩ := hk2 hcond.1
            have hck : (match mt[k]? with
              | some M' => ai_wb t (.methodLinkNest (m_own M) x (m_y M') "MountYard")
              | none => false) = true := hck
            rw [hMc] at hck
            have hnw : va_Nw (.methodLinkNest (m_own M) x (m_y M') "MountYard") s := hG.2.2.1 _ (ai_wb_ok hck) rfl
            refine ⟨rfl, hmem, vr, (Value.ref a :: (vs.take (m_n M')).reverse).toArray, e4, ?_⟩
            have run := va_runIN (host := "MountYard") (b := a) (As := (vs.take (m_n M')).reverse) (rest := vr) (bytes := m_cc M') (maxL := m_L M') (Ts := m_G) (ws := m_ws M') (rm := ai_rm d' r.2.2.1 r.2.2.2) (Pc := ai_Pc D E σ ws H.size (.ref a :: (vs.take (m_n M')).reverse)) (n := m_n M') (below := below) (meth := meth) (cells := cells) (slots := slots) (locs := locs) (e := e) (g := F0 m pc ls vs) ⟨hx, hb, hml, hown, hts⟩ (ai_toMet (ct ws H.size _ ⟨e3, e5⟩) (fun N st t hX => by obtain ⟨n, w9, hn, -⟩ := hX; rw [hov] at hn; cases hn))
              ⟨va_cnB (m_n M') hts (m_good (fun w hw => by
                rcases List.mem_cons.mp hw with rfl | hw
                · exact k7
                · exact hw)) (by unfold m_ws m_head; rw [if_pos q4, q3]) rfl rfl hnw (hts _ (by rw [k2]; exact k8)) ⟨by rw [k2]; exact k3, by rw [k2]; exact k4, k5⟩ (hRoom M' k6), q2, hts _ q1⟩
              ⟨ai_Pc_blind, ai_pre hG hZ hA hW hP hD hS _⟩ rfl e2 hl.1 e1 (lv_room (by rw [ai_S_sum e4]; exact hcond.2)) hd ⟨hc, hs⟩
            exact fun T hT X => Or.inl (run T hT X)
          · cases hcall
        · cases hcall
      · cases hcall
    · cases hcall
  · cases hcall
end ACR
end
section
/-! ===== the whole run ===== -/
section AMN
variable {mt : List AM} {l : Launch} {D : va_G} {E : AE}
variable {p : Program} {e : Env} {R : Room} {s : State} {m : MethodId} {args : Array Value} {below : List Frame} {meth : Method} {c : Code} {H : Heap} {locs : List Loc} {cells slots : Nat} {pc : Nat} {ls : Array Slot} {i : Instr} {len : Nat} {aux : List Nat} {ws ws0 : va_W} {st st' : List AV} {vs : List Value} {σ : List AC} {A : Nat → Prop} {lv : List (Nat × Value)} {mc ms : Nat}
theorem ai_end {t : State} (hW : ai_W E s σ ws) (hE : ai_Ext ws0 ws) (hP : va_P D vwCl ws H) (hD : va_D A ws) (hS : va_S A s.heap H locs) (ht : t.heap = H) (ha : s.vm.Alike t.vm) : ai_Ev E D σ ws0 A s t ws :=
  ⟨hW.moved ha, hE, by rw [ht]; exact hP, hD, hS.F ht⟩
set_option maxHeartbeats 1000000 in
theorem ai_ret_ok {M : AM} {ov : Option AV} (F : ai_Fr M D l p s m args meth c) (hW : ai_W E s σ ws) (hE : ai_Ext ws0 ws) (hP : va_P D vwCl ws H) (hD : va_D A ws) (hS : va_S A s.heap H locs) (hSt : ai_S E ws st vs) (hd : decode (m_cc M) pc = .ok (i, len)) (h : ai_ret M i len st = some ov) (hc : cells ≤ mc) (hs : slots ≤ ms) :
    W p l e R s m args below meth c H locs cells slots (vx_MQ below (ai_Q E D (.inl ov) σ ws0 A) (ai_X E D (.inl ov) σ ws0 A) args s mc ms A) (F0 m pc ls vs) := by
  obtain ⟨hx, hb, hml, hown, hr, hlocks, hini, htab, hT, hG, htr⟩ := F
  refine W.widen hc hs (vx_ret ?_)
  have fin : ∀ (v : Option Value), ai_O E ws ov v → ∀ t : State, t.heap = H → s.WarmedH t.vm → ai_Q E D (.inl ov) σ ws0 A args s (.returned v) t := fun v hv t ht hw => ⟨ov, v, ws, rfl, rfl, hv, ai_end hW hE hP hD hS ht hw.alike⟩
  unfold ai_ret at h
  split at h
  · next x =>
    match vs, hSt with
    | [], hSt => exact hSt.elim
    | _ :: _ :: _, ⟨_, hSt⟩ => exact hSt.elim
    | [v], ⟨hv, _⟩ =>
      split at h
      · next t hret =>
        split at h
        · next hcond =>
          cases h
          obtain ⟨n1, -⟩ := ai_fit_ok hcond.2 hv
          have hi : ∃ y : Int32, v = .int y := by
            rcases hcond.1 with rfl | rfl
            · exact ai_V_int (of_decide_eq_true hcond.2) hv
            · have h2 : (match ai_iv x with
                | some q => decide (0 ≤ q.1 ∧ q.2 ≤ 1)
                | none => false) = true := hcond.2
              split at h2
              · next q hq => obtain ⟨y, hy, -⟩ := ai_iv_ok hq hv; exact ⟨y, hy⟩
              · cases h2
          obtain ⟨y, rfl⟩ := hi
          exact W.zret hx hb (hr.trans hret) n1 (fin _ hv) hS.2.2 hd hlocks
        · cases h
      · cases h
  · next x =>
    match vs, hSt with
    | [], hSt => exact hSt.elim
    | _ :: _ :: _, ⟨_, hSt⟩ => exact hSt.elim
    | [v], ⟨hv, _⟩ =>
      split at h
      · next hcond =>
        cases h
        obtain ⟨y, rfl⟩ := ai_V_long hcond.2 hv
        exact W.lret hx hb (hr.trans hcond.1) (fin _ hv) hS.2.2 hd hlocks
      · cases h
  · next x =>
    match vs, hSt with
    | [], hSt => exact hSt.elim
    | _ :: _ :: _, ⟨_, hSt⟩ => exact hSt.elim
    | [v], ⟨hv, _⟩ =>
      split at h
      · next C hret =>
        split at h
        · next hcond =>
          cases h
          exact W.aret hx hb (hr.trans hret) (Or.inl ⟨C, rfl⟩) (ai_V_ref hcond hv) (fin _ hv) hS.2.2 hd hlocks
        · cases h
      · cases h
  · match vs, hSt with
    | _ :: _, hSt => exact hSt.elim
    | [], _ =>
      split at h
      · next hcond =>
        cases h
        exact W.vret hx hb (hr.trans hcond) (fin none trivial) hS.2.2 hd hlocks
      · cases h
  · cases h
set_option maxHeartbeats 1000000 in
theorem ai_th_ok {M : AM} {d n : Nat} (F : ai_Fr M D l p s m args meth c) (hZ : ai_Z A s s.heap) (hW : ai_W E s σ ws) (hE : ai_Ext ws0 ws) (hP : va_P D vwCl ws H) (hD : va_D A ws) (hS : va_S A s.heap H locs) (hl : lv_has ls (m_L M) lv) (hSt : ai_S E ws st vs) (hd : decode (m_cc M) pc = .ok (i, len)) (hck : ai_ck2 mt (m_own M) (m_cc M) (pc, i, len, aux) = true) (h : ai_th d M i len aux st = some n)
    (hfr : d ≤ R.frames) (hlo : 36 * d ≤ R.locals) (hc : cells + 1 ≤ mc) (hs : slots + 6 ≤ ms) (hRc : mc ≤ R.cells) (hRs : ms ≤ R.slots) :
    n < 5 ∧ W p l e R s m args below meth c H locs cells slots (vx_MQ below (ai_Q E D (.inr n) σ ws0 A) (ai_X E D (.inr n) σ ws0 A) args s mc ms A) (F0 m pc ls vs) := by
  obtain ⟨hx, hb, hml, hown, hr, hlocks, hini, htab, hT, hG, htr⟩ := F
  unfold ai_th at h
  split at h
  · next x n' t1 t2 ic z =>
    split at h
    · next hcond =>
      cases h
      have hck : ax_ck (m_own M) (m_cc M) pc x n t1 t2 ic z = true := hck
      unfold ax_ck at hck
      simp only [Bool.and_eq_true, decide_eq_true_eq] at hck
      obtain ⟨⟨⟨⟨⟨⟨c0, c1⟩, c2⟩, c3⟩, c4⟩, c5⟩, c7⟩ := hck
      have c6 := ax_all (own := m_own M) (ic := ic) c0 (ai_w_ok c7).1
      refine ⟨c0, ?_⟩
      have hk := hT _ (ai_w_ok c1).1 (ai_w_ok c1).2
      have hi := hT _ (ai_w_ok c2).1 (ai_w_ok c2).2
      have hcls : Bundle.fit (ax_n n) = true := by
        match n, c0 with
        | 0, _ => decide +kernel
        | 1, _ => decide +kernel
        | 2, _ => decide +kernel
        | 3, _ => decide +kernel
        | 4, _ => decide +kernel
      refine vx_throw0 (cls := ax_n n) (names := ax_up) hx hb htr hown hcls (by decide +kernel) hk hi (fun w hw => ?_) (fun w hw => ?_) hZ.1 hZ.2 hS (hl.1.trans hml.symm) hd c3 c4 c5 ?_ ?_ ?_ (by omega) (by omega) hlocks ?_ hS.2.2 hc hs
      · obtain ⟨g1, g2, g3⟩ := c6 w hw
        rcases g3 with g3 | g3
        · exact hT w g1 g3
        · exact va_Nw.use (ax_kw_on g3) (hG.2.2.1 w g1 g3)
      · rcases List.mem_cons.mp hw with rfl | hw
        · rfl
        · rcases List.mem_cons.mp hw with rfl | hw
          · rfl
          · exact (c6 w hw).2.1
      · intro y hy
        rw [htab, hcond.2.1] at hy
        cases hy
      · show 2 + 3 < R.frames
        omega
      · have := ai_S_sum hSt
        have h8 := hcond.2.2
        show _ + (13 * (2 + 1) + 42) ≤ R.locals
        omega
      · intro t ha h1 h2
        refine ⟨n, ws, rfl, rfl, hW.moved ha, hE, hP.kept (fun k q hk => h2 q.1 ((hP k q hk).lt)), hD, Nat.le_trans hS.1 h1, fun q g1 g2 => ?_⟩
        rw [h2 q (Nat.lt_of_lt_of_le g1 hS.1)]
        exact hS.2.1 q g1 g2
    · cases h
  · cases h
theorem ai_sc_ok {M : AM} {sc : Option (Nat × (Nat → AV))} (F : ai_Fr M D l p s m args meth c) (hsc : ai_Sc sc E A s) (hS : va_S A s.heap H locs) (hSt : ai_S E ws st vs) (hd : decode (m_cc M) pc = .ok (i, len)) (h : ai_sc sc i len st = some st') {Q : State → Prop}
    (k : ∀ vs' : List Value, ai_S E ws st' vs' → W p l e R s m args below meth c H locs cells slots Q (F0 m (pc + len) ls vs')) : W p l e R s m args below meth c H locs cells slots Q (F0 m pc ls vs) := by
  obtain ⟨hx, hb, hml, hown, hr, hlocks, hini, htab, hT, hG, htr⟩ := F
  unfold ai_sc at h
  split at h
  · next q j x r =>
    obtain ⟨xs, hX, hbl, hbA, hval⟩ := hsc q rfl
    match vs, hSt with
    | [], hSt => exact hSt.elim
    | [_], ⟨_, hSt⟩ => exact hSt.elim
    | vj :: v :: vs, ⟨hvj, hv, hSt2⟩ =>
      split at h
      · next hx5 =>
        subst hx5
        have hv : v = .ref E.1 := (ai_VX (by decide)).mp hv
        subst hv
        split at h
        · next kk hk =>
          cases h
          obtain ⟨b, rfl, hin, rfl⟩ := ai_ix_ok hk hvj
          exact va_sld hx hb hX hbl hbA hS hin hd (k (_ :: vs) ⟨hval _ _ (ai_in_lt hin), hSt2⟩)
        · cases h
      · cases h
  · next q x r =>
    obtain ⟨xs, hX, hbl, hbA, hval⟩ := hsc q rfl
    match vs, hSt with
    | [], hSt => exact hSt.elim
    | v :: vs, ⟨hv, hSt2⟩ =>
      split at h
      · next hx5 =>
        subst hx5
        have hv : v = .ref E.1 := (ai_VX (by decide)).mp hv
        subst hv
        cases h
        exact va_slen hx hb hX hbl hbA hS hd (k (_ :: vs) ⟨rfl, hSt2⟩)
      · cases h
  · cases h
theorem ai_oi_ok {M : AM} {d : Nat} (F : ai_Fr M D l p s m args meth c) (hl : lv_has ls (m_L M) lv) (hSt : ai_S E ws st vs) (hd : decode (m_cc M) pc = .ok (i, len)) (hck : ai_ck2 mt (m_own M) (m_cc M) (pc, i, len, aux) = true) (h : ai_oi i len aux st = some st') (h1 : 1 ≤ d) (hfr : d ≤ R.frames) (hlo : 36 * d ≤ R.locals) {Q : State → Prop}
    (k : ∀ vs' : List Value, ai_S E ws st' vs' → W p l e R s m args below meth c H locs cells slots Q (F0 m (pc + len) ls vs')) : W p l e R s m args below meth c H locs cells slots Q (F0 m pc ls vs) := by
  obtain ⟨hx, hb, hml, hown, hr, hlocks, hini, htab, hT, hG, htr⟩ := F
  unfold ai_oi at h
  split at h
  · next ix t1 t2 t3 x r =>
    match vs, hSt with
    | [], hSt => exact hSt.elim
    | v :: vs, ⟨hv, hSt⟩ =>
      split at h
      · next o ho =>
        obtain ⟨a, rfl, -⟩ := ai_rf_ok ho hv
        split at h
        · next h8 =>
          cases h
          have hck : (ai_w t1 (.methodLink (m_own M) ix Lib.objectInit) && ai_w t2 (.instanceMethod Lib.objectInit) && ai_w t3 (.code Lib.objectInit ⟨#[0xb1]⟩ 1 none)) = true := hck
          simp only [Bool.and_eq_true] at hck
          obtain ⟨⟨c1, c2⟩, c3⟩ := hck
          have hsum := ai_S_sum hSt
          refine W.objInit hx hb hown (hT _ (ai_w_ok c1).1 (ai_w_ok c1).2) (hT _ (ai_w_ok c2).1 (ai_w_ok c2).2) (hT _ (ai_w_ok c3).1 (ai_w_ok c3).2) (g := F0 m pc ls (.ref a :: vs)) rfl (hl.1.trans hml.symm) rfl hd (by omega) ?_ (k vs hSt)
          have := lv_room (m := m) (pc := pc) (ls := ls) (rest := .ref a :: vs) (st := vs) (by omega)
          omega
        · cases h
      · cases h
  · cases h
end AMN
end
section
/-! ===== every run is sound ===== -/
theorem ai_add_ok {c s : Nat} {x : Option AR} {r : AR} (h : ai_add c s x = some r) : ∃ y : AR, x = some y ∧ r.1 = y.1 ∧ r.2.1 = y.2.1 ∧ r.2.2.1 = c + y.2.2.1 ∧ r.2.2.2 = s + y.2.2.2 := by
  unfold ai_add at h
  split at h
  · next y => cases h; exact ⟨y, rfl, rfl, rfl, rfl, rfl⟩
  · cases h
theorem ai_call_mem {mt : List AM} {i : Instr} {len : Nat} {aux : List Nat} {st : List AV} {σ : List AC} {r : AM × List AV × List AV} (h : ai_call mt i len aux st σ = some r) : r.1 ∈ mt := by
  unfold ai_call at h
  split at h
  · split at h
    · next M hM =>
      split at h
      · split at h
        · split at h
          · cases h; exact List.mem_of_getElem? hM
          · cases h
        · cases h
      · cases h
    · cases h
  · split at h
    · next M hM =>
      split at h
      · cases h; exact List.mem_of_getElem? hM
      · cases h
    · cases h
  · split at h
    · next M hM =>
      split at h
      · split at h
        · split at h
          · cases h; exact List.mem_of_getElem? hM
          · cases h
        · cases h
      · cases h
    · cases h
  · split at h
    · next M hM =>
      split at h
      · split at h
        · split at h
          · cases h; exact List.mem_of_getElem? hM
          · cases h
        · cases h
      · cases h
    · cases h
  · cases h
section ASD
variable {mt : List AM} {l : Launch} {D : va_G} {E : AE}
variable {p : Program} {e : Env} {R : Room} {s : State} {m : MethodId} {args : Array Value} {below : List Frame} {meth : Method} {c : Code} {H : Heap} {locs : List Loc} {cells slots : Nat} {pc : Nat} {ls : Array Slot} {ws ws0 : va_W} {vs : List Value} {σ : List AC} {A : Nat → Prop} {Q : State → Prop}
theorem ai_after {dc ds : Nat} {vr : List Value} {o : Option AV ⊕ Nat} {σ' : List AC} {av : Array Value} (run : vx_Run p l e R s m args below meth c H locs cells slots dc ds (F0 m pc ls vs) vr (ai_Q E D o σ' ws (va_A ws H.size) av) (ai_X E D o σ' ws (va_A ws H.size)) (va_A ws H.size)) (hA : ∀ q, s.heap.size ≤ q → A q) (hD : va_D A ws) (hS : va_S A s.heap H locs)
    (kr : ∀ (ov : Option AV) (v : Option Value) (ws' : va_W) (H' : Heap) (locs' : List Loc), o = .inl ov → ai_O E ws' ov v → ai_W E s σ' ws' → ai_Ext ws ws' → va_P D vwCl ws' H' → va_D A ws' → va_S A s.heap H' locs' → W p l e R s m args below meth c H' locs' (cells + dc) (slots + ds) Q (F0 m (pc + 3) ls (v.toList ++ vr)))
    (kx : ∀ (n : Nat) (ws' : va_W) (H' : Heap) (locs' : List Loc) (q : Addr) (ce : Cell), o = .inr n → ai_W E s σ' ws' → ai_Ext ws ws' → va_P D vwCl ws' H' → va_D A ws' → va_S A s.heap H' locs' → H'[q]? = some ce → ce.vm = .none → s.vm.findClass (ax_n n) = some ce.cls → vx_W p l e R s m args below meth c H' locs' (cells + dc) (slots + ds) Q (F0 m pc ls vr) q) :
    W p l e R s m args below meth c H locs cells slots Q (F0 m pc ls vs) := by
  have mono := ai_mono (σ := []) (D := D) hD hS hA
  intro T hT X
  rcases run T hT X with ⟨v, st₀, t, T', L, h0, X', hL, e1, e2, hq, st⟩ | ⟨q, st₀, t, T', L, En, ce, h0, X', hL, e1, e2, hx, hce, hcv, hcl, st⟩
  · obtain ⟨ov, v', ws', ho, hv, hO, hW, hEx, hP, hD', hF⟩ := hq
    cases hv
    obtain ⟨k1, k2, k3⟩ := vx_keep h0 e1 hS (fun q _ h => mono q h) mono hL hF
    have ha : s.vm.Alike t.vm := by rw [← e2]; exact X'.warmed.alike
    obtain ⟨t2, a1, b1⟩ := kr ov v ws' T'.heap (locs ++ L) ho hO (hW.moved ha.symm) hEx (by rw [e1]; exact hP) (hD'.weaken (fun _ _ _ h => mono _ h)) k3 T' rfl X'
    exact ⟨t2, st t2 a1, b1⟩
  · obtain ⟨n, ws', ho, rfl, hW, hEx, hP, hD', hF⟩ := hx
    obtain ⟨k1, k2, k3⟩ := vx_keep h0 e1 hS (fun q _ h => mono q h) mono hL hF
    have ha : s.vm.Alike t.vm := by rw [← e2]; exact X'.warmed.alike
    obtain ⟨t2, a1, b1⟩ := kx n ws' T'.heap (locs ++ L) q ce ho (hW.moved ha.symm) hEx (by rw [e1]; exact hP) (hD'.weaken (fun _ _ _ h => mono _ h)) k3 (by rw [e1]; exact hce) hcv hcl T' rfl X'
    exact ⟨t2, st.trans a1, b1⟩
end ASD
theorem ai_toS {E : AE} {ws : va_W} {o : Option AV} {v : Option Value} {a : List AV} {x : List Value} (h : ai_O E ws o v) (k : ai_S E ws a x) : ai_S E ws (o.toList ++ a) (v.toList ++ x) := by
  match o, v, h with
  | none, none, _ => exact k
  | some _, some _, h => exact ⟨h, k⟩
set_option maxHeartbeats 4000000 in
/-- one step of the run is sound, if what it goes on with is -/
theorem ai_body_ok {mt : List AM} {l : Launch} {D : va_G} {E : AE} {ext : AXT} {op : Option Int32} {ih : AIH} (htr : l.stackTraces = false) (hop : ∀ k, op = some k → E.2.1 &&& 15 = k) (hM1 : ∀ M ∈ mt, ai_Mk M) (hM2 : ∀ M ∈ mt, ai_mok2 mt M = true)
    (hext : ∀ (M : AM) (as : List AV) (σ : List AC) (d : Nat) (r : AR), M ∈ mt → ext d M as σ = some r → ai_CT l D E M as σ d r ∧ ∀ n, r.1 = .inr n → n < 5) (hih5 : ∀ sc d M pc lo st σ (r : AR), ai_Wk mt M → ih sc d M pc lo st σ = some r → ∀ n, r.1 = .inr n → n < 5) (S : ai_SND mt l D E ih) :
    ai_SND mt l D E (ai_body ext mt op ih) := by
  intro sc d M pc lo st σ r hMm hrun p e R s m args below meth c ws0 A ws H locs ls lv vs cells slots mc ms F hsc hA hZ hE hW hP hD hS hl hL hSt hfr hlo hc hs hRc hRs
  obtain ⟨hx, hb, hml, hown, hr, hlocks, hini, htab, hT, hG, -⟩ := id F
  unfold ai_body at hrun
  split at hrun
  · cases hrun
  next q hq =>
  have hmem : q ∈ m_code M := List.mem_of_find?_eq_some hq
  have hpc : q.1 = pc := by have := List.find?_some hq; exact beq_iff_eq.mp this
  obtain ⟨qpc, i, len, aux⟩ := q
  have hpc : qpc = pc := hpc
  subst hpc
  have hrow := List.all_eq_true.mp hMm.1 _ hmem
  unfold ai_row at hrow
  simp only [Bool.and_eq_true, decide_eq_true_eq] at hrow
  obtain ⟨⟨hd, hchk⟩, hck2⟩ := hrow
  dsimp only at hrun hd hchk
  split at hrun
  · next r1 h1 =>
    exact ai_pu_ok hop hx hb hd hl hL hSt h1 (fun ls' lv' vs' hl' hL' hS' => S sc d M r1.1 r1.2.1 r1.2.2 σ r hMm hrun p e R s m args below meth c ws0 A ws H locs ls' lv' vs' cells slots mc ms F hsc hA hZ hE hW hP hD hS hl' hL' hS' hfr hlo hc hs hRc hRs)
  split at hrun
  · next st' h1 =>
    exact ai_h1_ok hx hb hown hT hG.1 hd hchk hW hP hSt h1 (fun vs' hS' => S sc d M _ lo st' σ r hMm hrun p e R s m args below meth c ws0 A ws H locs ls lv vs' cells slots mc ms F hsc hA hZ hE hW hP hD hS hl hL hS' hfr hlo hc hs hRc hRs)
  split at hrun
  · next r2 h2 =>
    exact ai_h2_ok (st' := r2.1) (σ' := r2.2) (fun hi => hini (of_decide_eq_true hi)) hx hb hown hT hG.1 hd hchk hW hP hD hS hSt h2 (fun ws' H' locs' vs' hE' hW' hP' hD' hS' hSt' => S sc d M _ lo r2.1 r2.2 r hMm hrun p e R s m args below meth c ws0 A ws' H' locs' ls lv vs' cells slots mc ms F hsc hA hZ (hE.tr hE') hW' hP' hD' hS' hl (hL.mono hE') hSt' hfr hlo hc hs hRc hRs)
  split at hrun
  · next r3 h3 =>
    obtain ⟨y, hy, y1, y2, y3, y4⟩ := ai_add_ok hrun
    rw [y1, y2]
    exact ai_h3_ok (st' := r3.1) (ce := r3.2.1) (ds := r3.2.2) hx hb hown hT hG.2.1 hG.1 hd hchk hW hP hD hS hA hSt h3 (by omega) (by omega) (fun ws' H' vs' hE' hW' hP' hD' hS' hSt' => S sc d M _ lo _ _ y hMm hy p e R s m args below meth c ws0 A ws' H' locs ls lv vs' (cells + 1) (slots + r3.2.2) mc ms F hsc hA hZ (hE.tr hE') hW' hP' hD' hS' hl (hL.mono hE') hSt' hfr hlo (by omega) (by omega) hRc hRs)
  split at hrun
  · next st' h1 =>
    exact ai_sc_ok F hsc hS hSt hd h1 (fun vs' hS' => S sc d M _ lo st' σ r hMm hrun p e R s m args below meth c ws0 A ws H locs ls lv vs' cells slots mc ms F hsc hA hZ hE hW hP hD hS hl hL hS' hfr hlo hc hs hRc hRs)
  split at hrun
  · next v h1 =>
    cases hrun
    exact ai_ret_ok F hW hE hP hD hS hSt hd h1 (by omega) (by omega)
  split at hrun
  · next n h1 =>
    cases hrun
    exact (ai_th_ok (mt := mt) F hZ hW hE hP hD hS hl hSt hd hck2 h1 hfr hlo hc hs hRc hRs).2
  split at hrun
  · next st' h1 =>
    split at hrun
    · next hd1 =>
      exact ai_oi_ok (mt := mt) F hl hSt hd hck2 h1 hd1 hfr hlo (fun vs' hS' => S sc d M _ lo st' σ r hMm hrun p e R s m args below meth c ws0 A ws H locs ls lv vs' cells slots mc ms F hsc hA hZ hE hW hP hD hS hl hL hS' hfr hlo hc hs hRc hRs)
    · cases hrun
  split at hrun
  · cases hrun
  next rc hcall =>
  have hmem' := ai_call_mem hcall
  obtain ⟨M', as, rest⟩ := rc
  obtain ⟨d', rfl⟩ : ∃ d', d = d' + 1 := by
    cases d with
    | zero => cases hrun
    | succ k => exact ⟨k, rfl⟩
  dsimp only at hrun
  split at hrun
  case isFalse => cases hrun
  next hn =>
  have got : ∀ y : AR, ai_or (ext d' M' as σ) (ih none d' M' 0 (ai_args 0 as) [] σ) = some y → ai_CT l D E M' as σ d' y ∧ ∀ n, y.1 = .inr n → n < 5 := by
    intro y hy
    rcases ai_or_ok hy with hy | hy
    · exact hext M' as σ d' y hmem' hy
    · exact ⟨ai_ct htr S ⟨hM2 M' hmem', (hM1 M' hmem').2.2.2.2.2.2.2.2.1⟩ (hM1 M' hmem') hy hn, hih5 none d' M' 0 _ _ _ y ⟨hM2 M' hmem', (hM1 M' hmem').2.2.2.2.2.2.2.2.1⟩ hy⟩
  split at hrun
  · cases hrun
  · next v σ1 dc ds hy =>
    obtain ⟨ct, -⟩ := got _ hy
    obtain ⟨y, hy2, y1, y2, y3, y4⟩ := ai_add_ok hrun
    obtain ⟨hlen, -, vr, av, hvr, run⟩ := ai_callrun (below := below) (R := R) (cells := cells) (slots := slots) (e := e) F hZ hA hW hP hD hS hl hSt hd hck2 hcall hM1 ct (fun _ => ⟨v, rfl⟩) hfr hlo (by dsimp only; omega) (by dsimp only; omega)
    have hlen : len = 3 := hlen
    subst hlen
    rw [y1, y2]
    refine ai_after run hA hD hS (fun ov v' ws' H' locs' ho hO hW' hE' hP' hD' hS' => ?_) (fun n ws' H' locs' q ce ho => by cases ho)
    cases ho
    exact S sc (d' + 1) M _ lo _ σ1 y hMm hy2 p e R s m args below meth c ws0 A ws' H' locs' ls lv _ (cells + dc) (slots + ds) mc ms F hsc hA hZ (hE.tr hE') hW' hP' hD' hS' hl (hL.mono hE') (ai_toS hO (hvr.mono hE')) hfr hlo (by omega) (by omega) hRc hRs
  · next n σ1 dc ds hy =>
    obtain ⟨ct, h5⟩ := got _ hy
    have h5 := h5 n rfl
    split at hrun
    · cases hrun
    next hk2 =>
    split at hrun
    · next h hh =>
      obtain ⟨y, hy2, y1, y2, y3, y4⟩ := ai_add_ok hrun
      obtain ⟨hlen, -, vr, av, hvr, run⟩ := ai_callrun (below := below) (R := R) (cells := cells) (slots := slots) (e := e) F hZ hA hW hP hD hS hl hSt hd hck2 hcall hM1 ct (fun z => absurd z hk2) hfr hlo (by dsimp only; omega) (by dsimp only; omega)
      rw [y1, y2]
      refine ai_after run hA hD hS (fun ov v' ws' H' locs' ho => by cases ho) (fun n2 ws' H' locs' q ce ho hW' hE' hP' hD' hS' hcell hcv hcl => ?_)
      cases ho
      obtain ⟨pre, x, suf, g1, g2, g3, g4, g5, g6⟩ := ai_hnd_ok hT hG.2.2.2 h5 hMm.2 hh
      refine vx_catch hown pre x suf (htab.trans g1) g2 g3 g4 g5 (va_Nw.use rfl (hG.2.2.1 _ (ai_cast n h5) rfl)) hcell hcv hcl ?_
      rw [g6]
      exact S sc (d' + 1) M h lo _ σ1 y hMm hy2 p e R s m args below meth c ws0 A ws' H' locs' ls lv _ (cells + dc) (slots + ds) mc ms F hsc hA hZ (hE.tr hE') hW' hP' hD' hS' hl (hL.mono hE') ⟨⟨q, rfl⟩, trivial⟩ hfr hlo (by omega) (by omega) hRc hRs
    · next hh =>
      split at hrun
      · next hnil =>
        cases hrun
        dsimp only at hc hs
        obtain ⟨hlen, -, vr, av, hvr, run⟩ := ai_callrun (below := below) (R := R) (cells := cells) (slots := slots) (e := e) F hZ hA hW hP hD hS hl hSt hd hck2 hcall hM1 ct (fun z => absurd z hk2) hfr hlo (by dsimp only; omega) (by dsimp only; omega)
        refine ai_after run hA hD hS (fun ov v' ws' H' locs' ho => by cases ho) (fun n2 ws' H' locs' q ce ho hW' hE' hP' hD' hS' hcell hcv hcl => ?_)
        cases ho
        refine vx_out (by intro z hz; rw [htab, hnil] at hz; cases hz) hlocks hcell hcv hcl (fun t ht ha => ⟨n, ws', rfl, rfl, ai_end hW' (hE.tr hE') hP' hD' hS' ht ha⟩) hS'.2.2 hc hs
      · cases hrun
theorem ai_body5 {mt : List AM} {ext : AXT} {op : Option Int32} {ih : AIH} (hM2 : ∀ M ∈ mt, ai_Wk mt M) (hext : ∀ (d : Nat) (M : AM) (as : List AV) (σ : List AC) (r : AR), M ∈ mt → ext d M as σ = some r → ∀ n, r.1 = .inr n → n < 5) (hih5 : ∀ sc d M pc lo st σ (r : AR), ai_Wk mt M → ih sc d M pc lo st σ = some r → ∀ n, r.1 = .inr n → n < 5) :
    ∀ sc d M pc lo st σ (r : AR), ai_Wk mt M → ai_body ext mt op ih sc d M pc lo st σ = some r → ∀ n, r.1 = .inr n → n < 5 := by
  intro sc d M pc lo st σ r hMm hrun n hn
  unfold ai_body at hrun
  split at hrun
  · cases hrun
  next q hq =>
  have hmem : q ∈ m_code M := List.mem_of_find?_eq_some hq
  have hrow := List.all_eq_true.mp hMm.1 _ hmem
  unfold ai_row at hrow
  simp only [Bool.and_eq_true, decide_eq_true_eq] at hrow
  obtain ⟨⟨hd, hchk⟩, hck2⟩ := hrow
  split at hrun
  · exact hih5 _ _ _ _ _ _ _ r hMm hrun n hn
  split at hrun
  · exact hih5 _ _ _ _ _ _ _ r hMm hrun n hn
  split at hrun
  · exact hih5 _ _ _ _ _ _ _ r hMm hrun n hn
  split at hrun
  · obtain ⟨y, hy, y1, -⟩ := ai_add_ok hrun
    exact hih5 _ _ _ _ _ _ _ y hMm hy n (y1.symm.trans hn)
  split at hrun
  · exact hih5 _ _ _ _ _ _ _ r hMm hrun n hn
  split at hrun
  · cases hrun; cases hn
  split at hrun
  · next n' h1 =>
    cases hrun
    cases hn
    unfold ai_th at h1
    split at h1
    · next x n2 t1 t2 ic z e1 e2 e3 =>
      split at h1
      · cases h1
        unfold ai_ck2 at hck2
        rw [e1, e3] at hck2
        have hck2 : ax_ck (m_own M) (m_cc M) q.1 x n t1 t2 ic z = true := hck2
        unfold ax_ck at hck2
        simp only [Bool.and_eq_true, decide_eq_true_eq] at hck2
        exact hck2.1.1.1.1.1.1
      · cases h1
    · cases h1
  split at hrun
  · split at hrun
    · exact hih5 _ _ _ _ _ _ _ r hMm hrun n hn
    · cases hrun
  split at hrun
  · cases hrun
  next rc hcall =>
  have hmem' := ai_call_mem hcall
  cases d with
  | zero => cases hrun
  | succ d' =>
    dsimp only at hrun
    split at hrun
    case isFalse => cases hrun
    split at hrun
    · cases hrun
    · obtain ⟨y, hy, y1, -⟩ := ai_add_ok hrun
      exact hih5 _ _ _ _ _ _ _ y hMm hy n (y1.symm.trans hn)
    · next n' σ1 dc ds hy =>
      split at hrun
      · cases hrun
      split at hrun
      · obtain ⟨y, hy, y1, -⟩ := ai_add_ok hrun
        exact hih5 _ _ _ _ _ _ _ y hMm hy n (y1.symm.trans hn)
      · split at hrun
        · cases hrun
          cases hn
          rcases ai_or_ok hy with hy | hy
          · exact hext _ _ _ _ _ hmem' hy n rfl
          · exact hih5 _ _ _ _ _ _ _ _ (hM2 _ hmem') hy n rfl
        · cases hrun
theorem ai_run_ok {mt : List AM} {l : Launch} {D : va_G} {E : AE} {ext : AXT} {op : Option Int32} (htr : l.stackTraces = false) (hop : ∀ k, op = some k → E.2.1 &&& 15 = k) (hM1 : ∀ M ∈ mt, ai_Mk M) (hM2 : ∀ M ∈ mt, ai_mok2 mt M = true)
    (hext : ∀ (M : AM) (as : List AV) (σ : List AC) (d : Nat) (r : AR), M ∈ mt → ext d M as σ = some r → ai_CT l D E M as σ d r ∧ ∀ n, r.1 = .inr n → n < 5) : ∀ fuel : Nat, ai_SND mt l D E (ai_run ext mt op fuel) ∧ ∀ sc d M pc lo st σ (r : AR), ai_Wk mt M → ai_run ext mt op fuel sc d M pc lo st σ = some r → ∀ n, r.1 = .inr n → n < 5
  | 0 => ⟨(fun sc d M pc lo st σ r _ h => by have h : none = some r := h; cases h), (fun sc d M pc lo st σ r _ h => by have h : none = some r := h; cases h)⟩
  | f + 1 => by
    obtain ⟨h1, h2⟩ := ai_run_ok htr hop hM1 hM2 hext f
    exact ⟨ai_body_ok htr hop hM1 hM2 hext h2 h1, ai_body5 (fun M hM => ⟨hM2 M hM, (hM1 M hM).2.2.2.2.2.2.2.2.1⟩) (fun d M as σ r hM h => (hext M as σ d r hM h).2) h2⟩
end
section
def mc_0 : List AQ := [(0, .aload_n 0, 1, []), (1, .invokespecial 3, 3, [1041, 1034, 1035]), (4, .aload_n 0, 1, []), (5, .iload_n 1, 1, []), (6, .newarray .byte, 2, [0, 1049]), (8, .putfield 9, 3, [0, 0, 1042]), (11, .aload_n 0, 1, []), (12, .iconst 0, 1, []), (13, .putfield 15, 3, [0, 1, 1043]), (16, .return_, 1, [])]
def mm_0 : AM := ((RX0, ⟨RX0, "<init>", "(I)V"⟩, prog_2_method_1_code, 2, none), ([], [], 2, 1, 0, [1040, 1002, 1039, 0]), mc_0)
def mc_1 : List AQ := [(0, .aload_n 0, 1, []), (1, .getfield 15, 3, [0, 1, 1043]), (4, .ireturn, 1, [])]
def mm_1 : AM := ((RX0, ⟨RX0, "count", "()I"⟩, prog_2_method_2_code, 1, (some FieldType.int)), ([], [], 0, 0, 0, [2072, 1002, 2070, 2071]), mc_1)
def mc_2 : List AQ := [(0, .iload_n 1, 1, []), (1, .ifCond .lt 15, 3, []), (4, .iload_n 1, 1, []), (5, .aload_n 0, 1, []), (6, .getfield 15, 3, [0, 1, 1043]), (9, .if_icmp .ge 7, 3, []), (12, .iconst 1, 1, []), (13, .goto 4, 3, []), (16, .iconst 0, 1, []), (17, .ireturn, 1, [])]
def mm_2 : AM := ((RX0, ⟨RX0, "has", "(I)Z"⟩, prog_2_method_3_code, 2, (some FieldType.boolean)), ([], [], 0, 1, 0, [4190, 1002, 4188, 4189]), mc_2)
def mc_3 : List AQ := [(0, .iload_n 1, 1, []), (1, .ifCond .lt 24, 3, []), (4, .iload_n 1, 1, []), (5, .aload_n 0, 1, []), (6, .getfield 15, 3, [0, 1, 1043]), (9, .if_icmp .ge 16, 3, []), (12, .aload_n 0, 1, []), (13, .getfield 9, 3, [0, 0, 1042]), (16, .iload_n 1, 1, []), (17, .baload, 1, []), (18, .sipush 255, 3, []), (21, .iand, 1, []), (22, .goto 4, 3, []), (25, .iconst 0, 1, []), (26, .ireturn, 1, [])]
def mm_3 : AM := ((RX0, ⟨RX0, "at", "(I)I"⟩, prog_2_method_4_code, 2, (some FieldType.int)), ([], [], 0, 1, 0, [3086, 1002, 3084, 3085]), mc_3)
def mc_4 : List AQ := [(0, .aload_n 0, 1, []), (1, .iconst 0, 1, []), (2, .putfield 15, 3, [0, 1, 1043]), (5, .return_, 1, [])]
def mm_4 : AM := ((RX0, ⟨RX0, "empty", "()V"⟩, prog_2_method_5_code, 1, none), ([], [], 0, 0, 0, [2122, 1002, 2120, 2121]), mc_4)
def mc_5 : List AQ := [(0, .iconst 0, 1, []), (1, .istore 4, 2, []), (3, .iload 4, 2, []), (5, .iload_n 3, 1, []), (6, .if_icmp .ge 56, 3, []), (9, .iload 4, 2, []), (11, .bipush 8, 2, []), (13, .if_icmp .ge 49, 3, []), (16, .aload_n 0, 1, []), (17, .getfield 15, 3, [0, 1, 1043]), (20, .aload_n 0, 1, []), (21, .getfield 9, 3, [0, 0, 1042]), (24, .arraylength, 1, []), (25, .if_icmp .ge 37, 3, []), (28, .aload_n 0, 1, []), (29, .getfield 9, 3, [0, 0, 1042]), (32, .aload_n 0, 1, []), (33, .getfield 15, 3, [0, 1, 1043]), (36, .lload_n 1, 1, []), (37, .bipush 8, 2, []), (39, .iload 4, 2, []), (41, .imul, 1, []), (42, .lushr, 1, []), (43, .l2i, 1, []), (44, .i2b, 1, []), (45, .bastore, 1, []), (46, .aload_n 0, 1, []), (47, .dup, 1, []), (48, .getfield 15, 3, [0, 1, 1043]), (51, .iconst 1, 1, []), (52, .iadd, 1, []), (53, .putfield 15, 3, [0, 1, 1043]), (56, .iinc 4 1, 3, []), (59, .goto (-56), 3, []), (62, .return_, 1, [])]
def mm_5 : AM := ((RX0, ⟨RX0, "putNumber", "(JI)V"⟩, prog_2_method_8_code, 5, none), ([], [], 0, 2, 0, [2114, 1002, 2112, 2113]), mc_5)
def mc_6 : List AQ := [(0, .iload_n 1, 1, []), (1, .ifCond .le 40, 3, []), (4, .iload_n 1, 1, []), (5, .aload_n 0, 1, []), (6, .getfield 15, 3, [0, 1, 1043]), (9, .if_icmp .gt 32, 3, []), (12, .aload_n 0, 1, []), (13, .getfield 9, 3, [0, 0, 1042]), (16, .iload_n 1, 1, []), (17, .aload_n 0, 1, []), (18, .getfield 9, 3, [0, 0, 1042]), (21, .iconst 0, 1, []), (22, .aload_n 0, 1, []), (23, .getfield 15, 3, [0, 1, 1043]), (26, .iload_n 1, 1, []), (27, .isub, 1, []), (28, .invokestatic 43, 3, []), (31, .aload_n 0, 1, []), (32, .dup, 1, []), (33, .getfield 15, 3, [0, 1, 1043]), (36, .iload_n 1, 1, []), (37, .isub, 1, []), (38, .putfield 15, 3, [0, 1, 1043]), (41, .return_, 1, [])]
def mm_6 : AM := ((RX0, ⟨RX0, "cutFront", "(I)V"⟩, prog_2_method_12_code, 2, none), ([], [], 0, 1, 0, [2080, 1002, 2078, 2079]), mc_6)
def mc_7 : List AQ := [(0, .iload_n 2, 1, []), (1, .iconst 1, 1, []), (2, .if_icmp .lt 8, 3, []), (5, .iload_n 2, 1, []), (6, .iconst 4, 1, []), (7, .if_icmp .le 5, 3, []), (10, .iconst 0, 1, []), (11, .ireturn, 1, []), (12, .iconst 0, 1, []), (13, .istore_n 3, 1, []), (14, .iconst 0, 1, []), (15, .istore 4, 2, []), (17, .iload 4, 2, []), (19, .iload_n 2, 1, []), (20, .if_icmp .ge 37, 3, []), (23, .aload_n 0, 1, []), (24, .iload_n 1, 1, []), (25, .iload 4, 2, []), (27, .iadd, 1, []), (28, .invokevirtual 39, 3, [3, 3083]), (31, .istore 5, 2, []), (33, .iload 5, 2, []), (35, .ifCond .ne 5, 3, []), (38, .iconst 0, 1, []), (39, .ireturn, 1, []), (40, .iload_n 3, 1, []), (41, .iload 5, 2, []), (43, .bipush 8, 2, []), (45, .iload 4, 2, []), (47, .imul, 1, []), (48, .ishl, 1, []), (49, .ior, 1, []), (50, .istore_n 3, 1, []), (51, .iinc 4 1, 3, []), (54, .goto (-37), 3, []), (57, .iload_n 3, 1, []), (58, .ireturn, 1, [])]
def mm_7 : AM := ((RX0, ⟨RX0, "word", "(II)I"⟩, prog_2_method_14_code, 6, (some FieldType.int)), ([], [], 0, 2, 0, [4028, 1002, 4026, 4027]), mc_7)
def mc_8 : List AQ := [(0, .aload_n 0, 1, []), (1, .invokespecial 3, 3, [1221, 1034, 1035]), (4, .aload_n 0, 1, []), (5, .iload_n 1, 1, []), (6, .newarray .int, 2, [1, 1229]), (8, .putfield 9, 3, [1, 0, 1222]), (11, .aload_n 0, 1, []), (12, .iconst 0, 1, []), (13, .putfield 15, 3, [1, 1, 1223]), (16, .return_, 1, [])]
def mm_8 : AM := ((RX1, ⟨RX1, "<init>", "(I)V"⟩, prog_3_method_1_code, 2, none), ([], [], 2, 1, 1, [1220, 1011, 1219, 0]), mc_8)
def mc_9 : List AQ := [(0, .aload_n 0, 1, []), (1, .getfield 15, 3, [1, 1, 1223]), (4, .ireturn, 1, [])]
def mm_9 : AM := ((RX1, ⟨RX1, "count", "()I"⟩, prog_3_method_2_code, 1, (some FieldType.int)), ([], [], 0, 0, 1, [5036, 1011, 5034, 5035]), mc_9)
def mc_10 : List AQ := [(0, .iload_n 1, 1, []), (1, .ifCond .lt 15, 3, []), (4, .iload_n 1, 1, []), (5, .aload_n 0, 1, []), (6, .getfield 15, 3, [1, 1, 1223]), (9, .if_icmp .ge 7, 3, []), (12, .iconst 1, 1, []), (13, .goto 4, 3, []), (16, .iconst 0, 1, []), (17, .ireturn, 1, [])]
def mm_10 : AM := ((RX1, ⟨RX1, "has", "(I)Z"⟩, prog_3_method_3_code, 2, (some FieldType.boolean)), ([], [], 0, 1, 1, [5062, 1011, 5060, 5061]), mc_10)
def mc_11 : List AQ := [(0, .iload_n 1, 1, []), (1, .ifCond .lt 20, 3, []), (4, .iload_n 1, 1, []), (5, .aload_n 0, 1, []), (6, .getfield 15, 3, [1, 1, 1223]), (9, .if_icmp .ge 12, 3, []), (12, .aload_n 0, 1, []), (13, .getfield 9, 3, [1, 0, 1222]), (16, .iload_n 1, 1, []), (17, .iaload, 1, []), (18, .goto 4, 3, []), (21, .iconst (-1), 1, []), (22, .ireturn, 1, [])]
def mm_11 : AM := ((RX1, ⟨RX1, "at", "(I)I"⟩, prog_3_method_4_code, 2, (some FieldType.int)), ([], [], 0, 1, 1, [2175, 1011, 2173, 2174]), mc_11)
def mc_12 : List AQ := [(0, .aload_n 0, 1, []), (1, .iconst 0, 1, []), (2, .putfield 15, 3, [1, 1, 1223]), (5, .return_, 1, [])]
def mm_12 : AM := ((RX1, ⟨RX1, "empty", "()V"⟩, prog_3_method_5_code, 1, none), ([], [], 0, 0, 1, [2167, 1011, 2165, 2166]), mc_12)
def mc_13 : List AQ := [(0, .aload_n 0, 1, []), (1, .getfield 15, 3, [1, 1, 1223]), (4, .aload_n 0, 1, []), (5, .getfield 9, 3, [1, 0, 1222]), (8, .arraylength, 1, []), (9, .if_icmp .ge 23, 3, []), (12, .aload_n 0, 1, []), (13, .getfield 9, 3, [1, 0, 1222]), (16, .aload_n 0, 1, []), (17, .getfield 15, 3, [1, 1, 1223]), (20, .iload_n 1, 1, []), (21, .iastore, 1, []), (22, .aload_n 0, 1, []), (23, .dup, 1, []), (24, .getfield 15, 3, [1, 1, 1223]), (27, .iconst 1, 1, []), (28, .iadd, 1, []), (29, .putfield 15, 3, [1, 1, 1223]), (32, .return_, 1, [])]
def mm_13 : AM := ((RX1, ⟨RX1, "put", "(I)V"⟩, prog_3_method_6_code, 2, none), ([], [], 0, 1, 1, [2179, 1011, 2177, 2178]), mc_13)
def mc_14 : List AQ := [(0, .iconst 0, 1, []), (1, .istore_n 2, 1, []), (2, .iload_n 2, 1, []), (3, .aload_n 1, 1, []), (4, .getfield 15, 3, [1, 1, 1223]), (7, .if_icmp .ge 18, 3, []), (10, .aload_n 0, 1, []), (11, .aload_n 1, 1, []), (12, .iload_n 2, 1, []), (13, .invokevirtual 19, 3, [11, 2172]), (16, .invokevirtual 23, 3, [13, 2176]), (19, .iinc 2 1, 3, []), (22, .goto (-20), 3, []), (25, .return_, 1, [])]
def mm_14 : AM := ((RX1, ⟨RX1, "putAll", "(LMountYard$FileList;)V"⟩, prog_3_method_7_code, 3, none), ([], [], 0, 1, 1, [2171, 1011, 2169, 2170]), mc_14)
def mc_15 : List AQ := [(0, .aload_n 0, 1, []), (1, .invokespecial 3, 3, [1174, 1034, 1035]), (4, .aload_n 0, 1, []), (5, .new 9, 3, [0, 1175, 1037, 1002]), (8, .dup, 1, []), (9, .sipush 160, 3, []), (12, .invokespecial 11, 3, [0, 1176]), (15, .putfield 14, 3, [2, 0, 1177]), (18, .return_, 1, [])]
def mm_15 : AM := ((RX2, ⟨RX2, "<init>", "()V"⟩, prog_4_method_1_code, 1, none), ([], [], 2, 0, 2, [1173, 1008, 1172, 0]), mc_15)
def mc_16 : List AQ := [(0, .aload_n 0, 1, []), (1, .invokespecial 3, 3, [1135, 1034, 1035]), (4, .return_, 1, [])]
def mm_16 : AM := ((RX3, ⟨RX3, "<init>", "()V"⟩, prog_5_method_1_code, 1, none), ([], [], 2, 0, 3, [1134, 1007, 1133, 0]), mc_16)
def mc_17 : List AQ := [(0, .aload_n 0, 1, []), (1, .invokespecial 3, 3, [1128, 1034, 1035]), (4, .aload_n 0, 1, []), (5, .bipush 8, 2, []), (7, .anewarray 9, 3, [3, 1129, 1130]), (10, .putfield 11, 3, [4, 0, 1165]), (13, .iconst 0, 1, []), (14, .istore_n 1, 1, []), (15, .iload_n 1, 1, []), (16, .aload_n 0, 1, []), (17, .getfield 11, 3, [4, 0, 1165]), (20, .arraylength, 1, []), (21, .if_icmp .ge 22, 3, []), (24, .aload_n 0, 1, []), (25, .getfield 11, 3, [4, 0, 1165]), (28, .iload_n 1, 1, []), (29, .new 9, 3, [3, 1129, 1131, 1007]), (32, .dup, 1, []), (33, .invokespecial 17, 3, [16, 1132, 0, 0]), (36, .aastore, 1, []), (37, .iinc 1 1, 3, []), (40, .goto (-25), 3, []), (43, .return_, 1, [])]
def mm_17 : AM := ((RX4, ⟨RX4, "<init>", "()V"⟩, prog_6_method_1_code, 2, none), ([], [], 2, 0, 4, [1127, 1006, 1126, 0]), mc_17)
def mc_18 : List AQ := [(0, .iconst 0, 1, []), (1, .istore_n 1, 1, []), (2, .iconst 0, 1, []), (3, .istore_n 2, 1, []), (4, .iload_n 2, 1, []), (5, .aload_n 0, 1, []), (6, .getfield 11, 3, [4, 0, 1165]), (9, .arraylength, 1, []), (10, .if_icmp .ge 24, 3, []), (13, .aload_n 0, 1, []), (14, .getfield 11, 3, [4, 0, 1165]), (17, .iload_n 2, 1, []), (18, .aaload, 1, []), (19, .getfield 18, 3, [3, 0, 1136]), (22, .ifCond .eq 6, 3, []), (25, .iinc 1 1, 3, []), (28, .iinc 2 1, 3, []), (31, .goto (-27), 3, []), (34, .iload_n 1, 1, []), (35, .ireturn, 1, [])]
def mm_18 : AM := ((RX4, ⟨RX4, "count", "()I"⟩, prog_6_method_2_code, 3, (some FieldType.int)), ([], [], 0, 0, 4, [2095, 1006, 2093, 2094]), mc_18)
def mc_19 : List AQ := [(0, .aload_n 0, 1, []), (1, .invokespecial 3, 3, [1062, 1034, 1035]), (4, .aload_n 0, 1, []), (5, .iload_n 1, 1, []), (6, .putfield 9, 3, [5, 0, 1065]), (9, .aload_n 0, 1, []), (10, .new 15, 3, [0, 1063, 1037, 1002]), (13, .dup, 1, []), (14, .bipush 24, 2, []), (16, .invokespecial 17, 3, [0, 1064]), (19, .putfield 20, 3, [5, 1, 1068]), (22, .aload_n 0, 1, []), (23, .iconst 0, 1, []), (24, .putfield 24, 3, [5, 2, 1071]), (27, .aload_n 0, 1, []), (28, .iconst 0, 1, []), (29, .putfield 27, 3, [5, 3, 1075]), (32, .return_, 1, [])]
def mm_19 : AM := ((RX5, ⟨RX5, "<init>", "(I)V"⟩, prog_7_method_1_code, 2, none), ([], [], 2, 1, 5, [1061, 1004, 1060, 0]), mc_19)
def mc_20 : List AQ := [(0, .aload_n 0, 1, []), (1, .invokespecial 3, 3, [1207, 1034, 1035]), (4, .aload_n 0, 1, []), (5, .aload_n 1, 1, []), (6, .putfield 9, 3, [6, 0, 2027]), (9, .aload_n 0, 1, []), (10, .iconst 4, 1, []), (11, .anewarray 15, 3, [8, 1208, 1209]), (14, .putfield 17, 3, [6, 1, 2028]), (17, .aload_n 0, 1, []), (18, .iconst 4, 1, []), (19, .newarray .int, 2, [1, 1229]), (21, .putfield 21, 3, [6, 2, 2029]), (24, .iconst 0, 1, []), (25, .istore_n 2, 1, []), (26, .iload_n 2, 1, []), (27, .iconst 4, 1, []), (28, .if_icmp .ge 29, 3, []), (31, .aload_n 0, 1, []), (32, .getfield 17, 3, [6, 1, 2028]), (35, .iload_n 2, 1, []), (36, .new 15, 3, [8, 1208, 1210, 1010]), (39, .dup, 1, []), (40, .invokespecial 25, 3, [42, 1211]), (43, .aastore, 1, []), (44, .aload_n 0, 1, []), (45, .getfield 21, 3, [6, 2, 2029]), (48, .iload_n 2, 1, []), (49, .iload_n 2, 1, []), (50, .iastore, 1, []), (51, .iinc 2 1, 3, []), (54, .goto (-28), 3, []), (57, .aload_n 0, 1, []), (58, .new 26, 3, [7, 2000, 2001, 1012]), (61, .dup, 1, []), (62, .invokespecial 28, 3, [35, 2002]), (65, .putfield 29, 3, [6, 3, 2030]), (68, .aload_n 0, 1, []), (69, .new 26, 3, [7, 2000, 2001, 1012]), (72, .dup, 1, []), (73, .invokespecial 28, 3, [35, 2002]), (76, .putfield 33, 3, [6, 4, 2031]), (79, .aload_n 0, 1, []), (80, .new 36, 3, [1, 2025, 1217, 1011]), (83, .dup, 1, []), (84, .bipush 8, 2, []), (86, .invokespecial 38, 3, [8, 2026]), (89, .putfield 41, 3, [6, 5, 2032]), (92, .return_, 1, [])]
def mm_20 : AM := ((RX6, ⟨RX6, "<init>", "(LMountYard$Tree;)V"⟩, prog_8_method_1_code, 3, none), ([], [], 2, 1, 6, [1206, 1009, 1205, 0]), mc_20)
def mc_21 : List AQ := [(0, .iload_n 1, 1, []), (1, .ifCond .lt 12, 3, []), (4, .iload_n 1, 1, []), (5, .iconst 4, 1, []), (6, .if_icmp .ge 7, 3, []), (9, .iconst 1, 1, []), (10, .goto 4, 3, []), (13, .iconst 0, 1, []), (14, .ireturn, 1, [])]
def mm_21 : AM := ((RX6, ⟨RX6, "has", "(I)Z"⟩, prog_8_method_2_code, 2, (some FieldType.boolean)), ([], [], 0, 1, 6, [2130, 1009, 2128, 2129]), mc_21)
def mc_22 : List AQ := [(0, .aload_n 0, 1, []), (1, .iload_n 1, 1, []), (2, .invokevirtual 45, 3, [21, 2135]), (5, .ifCond .eq 17, 3, []), (8, .aload_n 0, 1, []), (9, .getfield 17, 3, [6, 1, 2028]), (12, .aload_n 0, 1, []), (13, .getfield 21, 3, [6, 2, 2029]), (16, .iload_n 1, 1, []), (17, .iaload, 1, []), (18, .aaload, 1, []), (19, .goto 9, 3, []), (22, .aload_n 0, 1, []), (23, .getfield 17, 3, [6, 1, 2028]), (26, .iconst 0, 1, []), (27, .aaload, 1, []), (28, .areturn, 1, [])]
def mm_22 : AM := ((RX6, ⟨RX6, "table", "(I)LMountYard$Table;"⟩, prog_8_method_3_code, 2, (some (FieldType.object "MountYard$Table"))), ([], [], 0, 1, 6, [2147, 1009, 2146, 1]), mc_22)
def mc_23 : List AQ := [(0, .aload_n 0, 1, []), (1, .getfield 29, 3, [6, 3, 2030]), (4, .aload_n 2, 1, []), (5, .iconst 0, 1, []), (6, .aload_n 2, 1, []), (7, .invokestatic 49, 3, [25, 4237]), (10, .invokevirtual 53, 3, [38, 5002]), (13, .aload_n 0, 1, []), (14, .getfield 29, 3, [6, 3, 2030]), (17, .aload_n 0, 1, []), (18, .getfield 9, 3, [6, 0, 2027]), (21, .aload_n 0, 1, []), (22, .iload_n 1, 1, []), (23, .invokevirtual 57, 3, [22, 2144]), (26, .invokevirtual 61, 3, [40, 5015]), (29, .aload_n 0, 1, []), (30, .getfield 29, 3, [6, 3, 2030]), (33, .areturn, 1, [])]
def mm_23 : AM := ((RX6, ⟨RX6, "routeA", "(ILMountYard$ByteRow;)LMountYard$Route;"⟩, prog_8_method_4_code, 3, (some (FieldType.object "MountYard$Route"))), ([], [], 0, 2, 6, [4236, 1009, 4234, 4235]), mc_23)
def mc_24 : List AQ := [(0, .aload_n 0, 1, []), (1, .getfield 33, 3, [6, 4, 2031]), (4, .aload_n 2, 1, []), (5, .aload_n 2, 1, []), (6, .invokestatic 49, 3, [25, 4237]), (9, .iconst 1, 1, []), (10, .iadd, 1, []), (11, .aload_n 2, 1, []), (12, .invokevirtual 65, 3, [1, 5000]), (15, .invokevirtual 53, 3, [38, 5002]), (18, .aload_n 0, 1, []), (19, .getfield 33, 3, [6, 4, 2031]), (22, .aload_n 0, 1, []), (23, .getfield 9, 3, [6, 0, 2027]), (26, .aload_n 0, 1, []), (27, .iload_n 1, 1, []), (28, .invokevirtual 57, 3, [22, 2144]), (31, .invokevirtual 61, 3, [40, 5015]), (34, .aload_n 0, 1, []), (35, .getfield 33, 3, [6, 4, 2031]), (38, .areturn, 1, [])]
def mm_24 : AM := ((RX6, ⟨RX6, "routeB", "(ILMountYard$ByteRow;)LMountYard$Route;"⟩, prog_8_method_5_code, 3, (some (FieldType.object "MountYard$Route"))), ([], [], 0, 2, 6, [5074, 1009, 5072, 5073]), mc_24)
def mc_25 : List AQ := [(0, .iconst 0, 1, []), (1, .istore_n 1, 1, []), (2, .iload_n 1, 1, []), (3, .aload_n 0, 1, []), (4, .invokevirtual 65, 3, [1, 5000]), (7, .if_icmp .ge 21, 3, []), (10, .aload_n 0, 1, []), (11, .iload_n 1, 1, []), (12, .invokevirtual 71, 3, [3, 5001]), (15, .bipush 32, 2, []), (17, .if_icmp .ne 5, 3, []), (20, .iload_n 1, 1, []), (21, .ireturn, 1, []), (22, .iinc 1 1, 3, []), (25, .goto (-23), 3, []), (28, .aload_n 0, 1, []), (29, .invokevirtual 65, 3, [1, 5000]), (32, .ireturn, 1, [])]
def mm_25 : AM := ((RX6, ⟨RX6, "firstSpace", "(LMountYard$ByteRow;)I"⟩, prog_8_method_6_code, 2, (some FieldType.int)), ([], [], 1, 1, 6, [4239, 1009, 4238, 0]), mc_25)
def mc_26 : List AQ := [(0, .aload_n 0, 1, []), (1, .getfield 9, 3, [6, 0, 2027]), (4, .iload_n 2, 1, []), (5, .invokevirtual 75, 3, [56, 5083]), (8, .getfield 81, 3, [5, 6, 1085]), (11, .istore 4, 2, []), (13, .iload 4, 2, []), (15, .ifCond .ne 9, 3, []), (18, .iload_n 3, 1, []), (19, .ifCond .eq 5, 3, []), (22, .iconst 0, 1, []), (23, .ireturn, 1, []), (24, .iconst 0, 1, []), (25, .istore 5, 2, []), (27, .iload 5, 2, []), (29, .aload_n 1, 1, []), (30, .invokevirtual 87, 3, [9, 5084]), (33, .if_icmp .ge 32, 3, []), (36, .aload_n 0, 1, []), (37, .getfield 9, 3, [6, 0, 2027]), (40, .aload_n 1, 1, []), (41, .iload 5, 2, []), (43, .invokevirtual 88, 3, [11, 5085]), (46, .invokevirtual 75, 3, [56, 5083]), (49, .getfield 81, 3, [5, 6, 1085]), (52, .iload 4, 2, []), (54, .if_icmp .eq 5, 3, []), (57, .iconst 0, 1, []), (58, .ireturn, 1, []), (59, .iinc 5 1, 3, []), (62, .goto (-35), 3, []), (65, .iconst 1, 1, []), (66, .ireturn, 1, [])]
def mm_26 : AM := ((RX6, ⟨RX6, "kindsFit", "(LMountYard$FileList;II)Z"⟩, prog_8_method_7_code, 6, (some FieldType.boolean)), ([], [], 0, 3, 6, [5082, 1009, 5080, 5081]), mc_26)
def mc_27 : List AQ := [(0, .aload_n 0, 1, []), (1, .getfield 41, 3, [6, 5, 2032]), (4, .invokevirtual 89, 3, [12, 5105]), (7, .iload 4, 2, []), (9, .iconst 2, 1, []), (10, .if_icmp .ne 20, 3, []), (13, .aload_n 0, 1, []), (14, .iload_n 1, 1, []), (15, .invokevirtual 57, 3, [22, 2144]), (18, .iload_n 3, 1, []), (19, .aload_n 0, 1, []), (20, .getfield 9, 3, [6, 0, 2027]), (23, .aload_n 0, 1, []), (24, .getfield 41, 3, [6, 5, 2032]), (27, .invokevirtual 92, 3, [49, 5106]), (30, .aload_n 0, 1, []), (31, .getfield 41, 3, [6, 5, 2032]), (34, .aload_n 2, 1, []), (35, .invokevirtual 96, 3, [14, 5107]), (38, .iload 4, 2, []), (40, .iconst 1, 1, []), (41, .if_icmp .ne 20, 3, []), (44, .aload_n 0, 1, []), (45, .iload_n 1, 1, []), (46, .invokevirtual 57, 3, [22, 2144]), (49, .iload_n 3, 1, []), (50, .aload_n 0, 1, []), (51, .getfield 9, 3, [6, 0, 2027]), (54, .aload_n 0, 1, []), (55, .getfield 41, 3, [6, 5, 2032]), (58, .invokevirtual 92, 3, [49, 5106]), (61, .aload_n 0, 1, []), (62, .getfield 41, 3, [6, 5, 2032]), (65, .areturn, 1, [])]
def mm_27 : AM := ((RX6, ⟨RX6, "joined", "(ILMountYard$FileList;II)LMountYard$FileList;"⟩, prog_8_method_8_code, 5, (some (FieldType.object "MountYard$FileList"))), ([], [], 0, 4, 6, [5104, 1009, 5102, 5103]), mc_27)
def mc_28 : List AQ := [(0, .aload_n 0, 1, []), (1, .iload_n 1, 1, []), (2, .invokevirtual 57, 3, [22, 2144]), (5, .iload_n 2, 1, []), (6, .invokevirtual 100, 3, [46, 5116]), (9, .ireturn, 1, [])]
def mm_28 : AM := ((RX6, ⟨RX6, "isKey", "(II)Z"⟩, prog_8_method_9_code, 3, (some FieldType.boolean)), ([], [], 0, 2, 6, [5115, 1009, 5113, 5114]), mc_28)
def mc_29 : List AQ := [(0, .aload_n 0, 1, []), (1, .iload_n 1, 1, []), (2, .iload_n 2, 1, []), (3, .invokevirtual 103, 3, [28, 5112]), (6, .ifCond .ne 14, 3, []), (9, .aload_n 0, 1, []), (10, .iload_n 1, 1, []), (11, .invokevirtual 57, 3, [22, 2144]), (14, .invokevirtual 107, 3, [44, 5120]), (17, .ifCond .ne 7, 3, []), (20, .iconst 1, 1, []), (21, .goto 4, 3, []), (24, .iconst 0, 1, []), (25, .ireturn, 1, [])]
def mm_29 : AM := ((RX6, ⟨RX6, "mayBeKey", "(II)Z"⟩, prog_8_method_10_code, 3, (some FieldType.boolean)), ([], [], 0, 2, 6, [5111, 1009, 5109, 5110]), mc_29)
def mc_30 : List AQ := [(0, .aload_n 0, 1, []), (1, .iload_n 1, 1, []), (2, .invokevirtual 57, 3, [22, 2144]), (5, .iload_n 2, 1, []), (6, .aload_n 3, 1, []), (7, .invokevirtual 111, 3, [47, 5125]), (10, .return_, 1, [])]
def mm_30 : AM := ((RX6, ⟨RX6, "setList", "(IILMountYard$FileList;)V"⟩, prog_8_method_11_code, 4, none), ([], [], 0, 3, 6, [5124, 1009, 5122, 5123]), mc_30)
def mc_31 : List AQ := [(0, .aload_n 0, 1, []), (1, .iload_n 1, 1, []), (2, .invokevirtual 57, 3, [22, 2144]), (5, .iload_n 2, 1, []), (6, .invokevirtual 115, 3, []), (9, .aload_n 0, 1, []), (10, .iload_n 1, 1, []), (11, .invokevirtual 57, 3, [22, 2144]), (14, .invokevirtual 118, 3, [43, 5142]), (17, .ireturn, 1, [])]
def mm_31 : AM := ((RX6, ⟨RX6, "removeKey", "(II)I"⟩, prog_8_method_12_code, 3, (some FieldType.int)), ([], [], 0, 2, 6, [5137, 1009, 5135, 5136]), mc_31)
def mc_32 : List AQ := [(0, .aload_n 0, 1, []), (1, .iload_n 1, 1, []), (2, .invokevirtual 45, 3, [21, 2135]), (5, .ifCond .eq 23, 3, []), (8, .aload_n 0, 1, []), (9, .iload_n 2, 1, []), (10, .invokevirtual 45, 3, [21, 2135]), (13, .ifCond .eq 15, 3, []), (16, .aload_n 0, 1, []), (17, .getfield 21, 3, [6, 2, 2029]), (20, .iload_n 2, 1, []), (21, .aload_n 0, 1, []), (22, .getfield 21, 3, [6, 2, 2029]), (25, .iload_n 1, 1, []), (26, .iaload, 1, []), (27, .iastore, 1, []), (28, .return_, 1, [])]
def mm_32 : AM := ((RX6, ⟨RX6, "shareTable", "(II)V"⟩, prog_8_method_13_code, 3, none), ([], [], 0, 2, 6, [2134, 1009, 2132, 2133]), mc_32)
def mc_33 : List AQ := [(0, .iconst 0, 1, []), (1, .istore_n 3, 1, []), (2, .iload_n 3, 1, []), (3, .iconst 4, 1, []), (4, .if_icmp .ge 48, 3, []), (7, .aload_n 0, 1, []), (8, .iload_n 2, 1, []), (9, .invokevirtual 45, 3, [21, 2135]), (12, .ifCond .eq 34, 3, []), (15, .aload_n 0, 1, []), (16, .iload_n 3, 1, []), (17, .iload_n 2, 1, []), (18, .invokevirtual 121, 3, [34, 2140]), (21, .ifCond .ne 25, 3, []), (24, .aload_n 0, 1, []), (25, .getfield 17, 3, [6, 1, 2028]), (28, .iload_n 3, 1, []), (29, .aaload, 1, []), (30, .aload_n 0, 1, []), (31, .iload_n 1, 1, []), (32, .invokevirtual 57, 3, [22, 2144]), (35, .invokevirtual 124, 3, [48, 2148]), (38, .aload_n 0, 1, []), (39, .getfield 21, 3, [6, 2, 2029]), (42, .iload_n 2, 1, []), (43, .iload_n 3, 1, []), (44, .iastore, 1, []), (45, .return_, 1, []), (46, .iinc 3 1, 3, []), (49, .goto (-47), 3, []), (52, .return_, 1, [])]
def mm_33 : AM := ((RX6, ⟨RX6, "copyTable", "(II)V"⟩, prog_8_method_14_code, 4, none), ([], [], 0, 2, 6, [2139, 1009, 2137, 2138]), mc_33)
def mc_34 : List AQ := [(0, .iconst 0, 1, []), (1, .istore_n 3, 1, []), (2, .iload_n 3, 1, []), (3, .iconst 4, 1, []), (4, .if_icmp .ge 26, 3, []), (7, .iload_n 3, 1, []), (8, .iload_n 2, 1, []), (9, .if_icmp .eq 15, 3, []), (12, .aload_n 0, 1, []), (13, .getfield 21, 3, [6, 2, 2029]), (16, .iload_n 3, 1, []), (17, .iaload, 1, []), (18, .iload_n 1, 1, []), (19, .if_icmp .ne 5, 3, []), (22, .iconst 1, 1, []), (23, .ireturn, 1, []), (24, .iinc 3 1, 3, []), (27, .goto (-25), 3, []), (30, .iconst 0, 1, []), (31, .ireturn, 1, [])]
def mm_34 : AM := ((RX6, ⟨RX6, "isUsedByOthers", "(II)Z"⟩, prog_8_method_15_code, 4, (some FieldType.boolean)), ([], [], 0, 2, 6, [2143, 1009, 2142, 0]), mc_34)
def mc_35 : List AQ := [(0, .aload_n 0, 1, []), (1, .invokespecial 3, 3, [2005, 1034, 1035]), (4, .aload_n 0, 1, []), (5, .new 9, 3, [1, 2006, 1217, 1011]), (8, .dup, 1, []), (9, .iconst 4, 1, []), (10, .invokespecial 11, 3, [8, 2007]), (13, .putfield 14, 3, [7, 0, 2008]), (16, .aload_n 0, 1, []), (17, .bipush 60, 2, []), (19, .newarray .int, 2, [1, 1229]), (21, .putfield 20, 3, [7, 1, 2010]), (24, .return_, 1, [])]
def mm_35 : AM := ((RX7, ⟨RX7, "<init>", "()V"⟩, prog_9_method_1_code, 1, none), ([], [], 2, 0, 7, [2004, 1012, 2003, 0]), mc_35)
def mc_36 : List AQ := [(0, .aload_n 0, 1, []), (1, .getfield 24, 3, [7, 4, 2013]), (4, .ireturn, 1, [])]
def mm_36 : AM := ((RX7, ⟨RX7, "found", "()Z"⟩, prog_9_method_2_code, 1, (some FieldType.boolean)), ([], [], 0, 0, 7, [5049, 1012, 5047, 5048]), mc_36)
def mc_37 : List AQ := [(0, .aload_n 0, 1, []), (1, .getfield 28, 3, [7, 3, 2012]), (4, .ireturn, 1, [])]
def mm_37 : AM := ((RX7, ⟨RX7, "last", "()I"⟩, prog_9_method_3_code, 1, (some FieldType.int)), ([], [], 0, 0, 7, [5078, 1012, 5076, 5077]), mc_37)
def mc_38 : List AQ := [(0, .aload_n 0, 1, []), (1, .iconst 0, 1, []), (2, .putfield 32, 3, [7, 2, 2011]), (5, .iload_n 2, 1, []), (6, .istore 4, 2, []), (8, .iload_n 2, 1, []), (9, .istore 5, 2, []), (11, .iload 5, 2, []), (13, .iload_n 3, 1, []), (14, .if_icmp .gt 44, 3, []), (17, .iload 5, 2, []), (19, .iload_n 3, 1, []), (20, .if_icmp .eq 14, 3, []), (23, .aload_n 1, 1, []), (24, .iload 5, 2, []), (26, .invokevirtual 35, 3, [3, 5006]), (29, .bipush 47, 2, []), (31, .if_icmp .ne 21, 3, []), (34, .aload_n 0, 1, []), (35, .aload_n 1, 1, []), (36, .iload 4, 2, []), (38, .iload 5, 2, []), (40, .iload 4, 2, []), (42, .isub, 1, []), (43, .invokevirtual 41, 3, [39, 5007]), (46, .iload 5, 2, []), (48, .iconst 1, 1, []), (49, .iadd, 1, []), (50, .istore 4, 2, []), (52, .iinc 5 1, 3, []), (55, .goto (-44), 3, []), (58, .return_, 1, [])]
def mm_38 : AM := ((RX7, ⟨RX7, "split", "(LMountYard$ByteRow;II)V"⟩, prog_9_method_4_code, 6, none), ([], [], 0, 3, 7, [5005, 1012, 5003, 5004]), mc_38)
def mc_39 : List AQ := [(0, .aload_n 1, 1, []), (1, .iload_n 2, 1, []), (2, .iload_n 3, 1, []), (3, .invokevirtual 45, 3, [7, 5011]), (6, .istore 4, 2, []), (8, .iload_n 3, 1, []), (9, .ifCond .eq 10, 3, []), (12, .iload 4, 2, []), (14, .bipush 46, 2, []), (16, .if_icmp .ne 4, 3, []), (19, .return_, 1, []), (20, .iload 4, 2, []), (22, .sipush 11822, 3, []), (25, .if_icmp .ne 20, 3, []), (28, .aload_n 0, 1, []), (29, .aload_n 0, 1, []), (30, .getfield 32, 3, [7, 2, 2011]), (33, .iconst 1, 1, []), (34, .isub, 1, []), (35, .iconst 0, 1, []), (36, .invokestatic 49, 3, []), (39, .putfield 32, 3, [7, 2, 2011]), (42, .goto 33, 3, []), (45, .aload_n 0, 1, []), (46, .getfield 32, 3, [7, 2, 2011]), (49, .bipush 60, 2, []), (51, .if_icmp .ge 24, 3, []), (54, .aload_n 0, 1, []), (55, .getfield 20, 3, [7, 1, 2010]), (58, .aload_n 0, 1, []), (59, .getfield 32, 3, [7, 2, 2011]), (62, .iload 4, 2, []), (64, .iastore, 1, []), (65, .aload_n 0, 1, []), (66, .dup, 1, []), (67, .getfield 32, 3, [7, 2, 2011]), (70, .iconst 1, 1, []), (71, .iadd, 1, []), (72, .putfield 32, 3, [7, 2, 2011]), (75, .return_, 1, [])]
def mm_39 : AM := ((RX7, ⟨RX7, "takePiece", "(LMountYard$ByteRow;II)V"⟩, prog_9_method_5_code, 5, none), ([], [], 0, 3, 7, [5010, 1012, 5009, 21]), mc_39)
def mc_40 : List AQ := [(0, .aload_n 0, 1, []), (1, .iconst 1, 1, []), (2, .putfield 24, 3, [7, 4, 2013]), (5, .aload_n 0, 1, []), (6, .iconst 0, 1, []), (7, .aload_n 1, 1, []), (8, .aload_n 2, 1, []), (9, .invokevirtual 54, 3, [41, 5019]), (12, .iconst 0, 1, []), (13, .istore_n 3, 1, []), (14, .iload_n 3, 1, []), (15, .aload_n 0, 1, []), (16, .getfield 32, 3, [7, 2, 2011]), (19, .if_icmp .ge 57, 3, []), (22, .iload_n 3, 1, []), (23, .bipush 60, 2, []), (25, .if_icmp .ge 51, 3, []), (28, .aload_n 0, 1, []), (29, .getfield 24, 3, [7, 4, 2013]), (32, .ifCond .eq 44, 3, []), (35, .aload_n 0, 1, []), (36, .aload_n 0, 1, []), (37, .getfield 20, 3, [7, 1, 2010]), (40, .iload_n 3, 1, []), (41, .iaload, 1, []), (42, .aload_n 1, 1, []), (43, .invokevirtual 58, 3, []), (46, .istore 4, 2, []), (48, .iload 4, 2, []), (50, .iconst (-1), 1, []), (51, .if_icmp .ne 11, 3, []), (54, .aload_n 0, 1, []), (55, .iconst 0, 1, []), (56, .putfield 24, 3, [7, 4, 2013]), (59, .goto 11, 3, []), (62, .aload_n 0, 1, []), (63, .iload 4, 2, []), (65, .aload_n 1, 1, []), (66, .aload_n 2, 1, []), (67, .invokevirtual 54, 3, [41, 5019]), (70, .iinc 3 1, 3, []), (73, .goto (-59), 3, []), (76, .return_, 1, [])]
def mm_40 : AM := ((RX7, ⟨RX7, "follow", "(LMountYard$Tree;LMountYard$Table;)V"⟩, prog_9_method_6_code, 5, none), ([], [], 0, 2, 7, [5018, 1012, 5016, 5017]), mc_40)
def mc_41 : List AQ := [(0, .aload_n 0, 1, []), (1, .iload_n 1, 1, []), (2, .putfield 28, 3, [7, 3, 2012]), (5, .aload_n 0, 1, []), (6, .getfield 14, 3, [7, 0, 2008]), (9, .invokevirtual 62, 3, [12, 5023]), (12, .aload_n 3, 1, []), (13, .iload_n 1, 1, []), (14, .aload_n 2, 1, []), (15, .aload_n 0, 1, []), (16, .getfield 14, 3, [7, 0, 2008]), (19, .invokevirtual 65, 3, [49, 5024]), (22, .return_, 1, [])]
def mm_41 : AM := ((RX7, ⟨RX7, "arriveAt", "(ILMountYard$Tree;LMountYard$Table;)V"⟩, prog_9_method_7_code, 4, none), ([], [], 0, 3, 7, [5022, 1012, 5021, 22]), mc_41)
def mc_42 : List AQ := [(0, .aload_n 0, 1, []), (1, .invokespecial 3, 3, [1214, 1034, 1035]), (4, .aload_n 0, 1, []), (5, .iconst 4, 1, []), (6, .newarray .int, 2, [1, 1229]), (8, .putfield 9, 3, [8, 0, 1230]), (11, .aload_n 0, 1, []), (12, .iconst 4, 1, []), (13, .anewarray 15, 3, [1, 1215, 1216]), (16, .putfield 17, 3, [8, 1, 1231]), (19, .iconst 0, 1, []), (20, .istore_n 1, 1, []), (21, .iload_n 1, 1, []), (22, .aload_n 0, 1, []), (23, .getfield 17, 3, [8, 1, 1231]), (26, .arraylength, 1, []), (27, .if_icmp .ge 23, 3, []), (30, .aload_n 0, 1, []), (31, .getfield 17, 3, [8, 1, 1231]), (34, .iload_n 1, 1, []), (35, .new 15, 3, [1, 1215, 1217, 1011]), (38, .dup, 1, []), (39, .iconst 4, 1, []), (40, .invokespecial 21, 3, [8, 1218]), (43, .aastore, 1, []), (44, .iinc 1 1, 3, []), (47, .goto (-26), 3, []), (50, .aload_n 0, 1, []), (51, .iconst 0, 1, []), (52, .putfield 24, 3, [8, 2, 1232]), (55, .return_, 1, [])]
def mm_42 : AM := ((RX8, ⟨RX8, "<init>", "()V"⟩, prog_10_method_1_code, 2, none), ([], [], 2, 0, 8, [1213, 1010, 1212, 0]), mc_42)
def mc_43 : List AQ := [(0, .aload_n 0, 1, []), (1, .getfield 24, 3, [8, 2, 1232]), (4, .ireturn, 1, [])]
def mm_43 : AM := ((RX8, ⟨RX8, "keyCount", "()I"⟩, prog_10_method_2_code, 1, (some FieldType.int)), ([], [], 0, 0, 8, [5145, 1010, 5143, 5144]), mc_43)
def mc_44 : List AQ := [(0, .aload_n 0, 1, []), (1, .getfield 24, 3, [8, 2, 1232]), (4, .iconst 4, 1, []), (5, .if_icmp .lt 7, 3, []), (8, .iconst 1, 1, []), (9, .goto 4, 3, []), (12, .iconst 0, 1, []), (13, .ireturn, 1, [])]
def mm_44 : AM := ((RX8, ⟨RX8, "isFull", "()Z"⟩, prog_10_method_3_code, 1, (some FieldType.boolean)), ([], [], 0, 0, 8, [2163, 1010, 2161, 2162]), mc_44)
def mc_45 : List AQ := [(0, .iconst 0, 1, []), (1, .istore_n 2, 1, []), (2, .iload_n 2, 1, []), (3, .aload_n 0, 1, []), (4, .getfield 24, 3, [8, 2, 1232]), (7, .if_icmp .ge 26, 3, []), (10, .iload_n 2, 1, []), (11, .iconst 4, 1, []), (12, .if_icmp .ge 21, 3, []), (15, .aload_n 0, 1, []), (16, .getfield 9, 3, [8, 0, 1230]), (19, .iload_n 2, 1, []), (20, .iaload, 1, []), (21, .iload_n 1, 1, []), (22, .if_icmp .ne 5, 3, []), (25, .iload_n 2, 1, []), (26, .ireturn, 1, []), (27, .iinc 2 1, 3, []), (30, .goto (-28), 3, []), (33, .iconst (-1), 1, []), (34, .ireturn, 1, [])]
def mm_45 : AM := ((RX8, ⟨RX8, "placeOf", "(I)I"⟩, prog_10_method_4_code, 3, (some FieldType.int)), ([], [], 0, 1, 8, [2159, 1010, 2157, 2158]), mc_45)
def mc_46 : List AQ := [(0, .aload_n 0, 1, []), (1, .iload_n 1, 1, []), (2, .invokevirtual 28, 3, [45, 2156]), (5, .iconst (-1), 1, []), (6, .if_icmp .eq 7, 3, []), (9, .iconst 1, 1, []), (10, .goto 4, 3, []), (13, .iconst 0, 1, []), (14, .ireturn, 1, [])]
def mm_46 : AM := ((RX8, ⟨RX8, "hasKey", "(I)Z"⟩, prog_10_method_5_code, 2, (some FieldType.boolean)), ([], [], 0, 1, 8, [5119, 1010, 5117, 5118]), mc_46)
def mc_47 : List AQ := [(0, .aload_n 0, 1, []), (1, .iload_n 1, 1, []), (2, .invokevirtual 28, 3, [45, 2156]), (5, .istore_n 3, 1, []), (6, .iload_n 3, 1, []), (7, .iconst (-1), 1, []), (8, .if_icmp .ne 32, 3, []), (11, .aload_n 0, 1, []), (12, .invokevirtual 32, 3, [44, 2160]), (15, .ifCond .ne 25, 3, []), (18, .aload_n 0, 1, []), (19, .getfield 24, 3, [8, 2, 1232]), (22, .istore_n 3, 1, []), (23, .aload_n 0, 1, []), (24, .getfield 9, 3, [8, 0, 1230]), (27, .iload_n 3, 1, []), (28, .iload_n 1, 1, []), (29, .iastore, 1, []), (30, .aload_n 0, 1, []), (31, .dup, 1, []), (32, .getfield 24, 3, [8, 2, 1232]), (35, .iconst 1, 1, []), (36, .iadd, 1, []), (37, .putfield 24, 3, [8, 2, 1232]), (40, .iload_n 3, 1, []), (41, .iconst (-1), 1, []), (42, .if_icmp .eq 22, 3, []), (45, .aload_n 0, 1, []), (46, .getfield 17, 3, [8, 1, 1231]), (49, .iload_n 3, 1, []), (50, .aaload, 1, []), (51, .invokevirtual 36, 3, [12, 2164]), (54, .aload_n 0, 1, []), (55, .getfield 17, 3, [8, 1, 1231]), (58, .iload_n 3, 1, []), (59, .aaload, 1, []), (60, .aload_n 2, 1, []), (61, .invokevirtual 39, 3, [14, 2168]), (64, .return_, 1, [])]
def mm_47 : AM := ((RX8, ⟨RX8, "setList", "(ILMountYard$FileList;)V"⟩, prog_10_method_6_code, 4, none), ([], [], 0, 2, 8, [2155, 1010, 2153, 2154]), mc_47)
def mc_48 : List AQ := [(0, .aload_n 0, 1, []), (1, .iconst 0, 1, []), (2, .putfield 24, 3, [8, 2, 1232]), (5, .iconst 0, 1, []), (6, .istore_n 2, 1, []), (7, .iload_n 2, 1, []), (8, .aload_n 1, 1, []), (9, .getfield 24, 3, [8, 2, 1232]), (12, .if_icmp .ge 30, 3, []), (15, .iload_n 2, 1, []), (16, .iconst 4, 1, []), (17, .if_icmp .ge 25, 3, []), (20, .aload_n 0, 1, []), (21, .aload_n 1, 1, []), (22, .getfield 9, 3, [8, 0, 1230]), (25, .iload_n 2, 1, []), (26, .iaload, 1, []), (27, .aload_n 1, 1, []), (28, .getfield 17, 3, [8, 1, 1231]), (31, .iload_n 2, 1, []), (32, .aaload, 1, []), (33, .invokevirtual 43, 3, [47, 2152]), (36, .iinc 2 1, 3, []), (39, .goto (-32), 3, []), (42, .return_, 1, [])]
def mm_48 : AM := ((RX8, ⟨RX8, "copyFrom", "(LMountYard$Table;)V"⟩, prog_10_method_8_code, 3, none), ([], [], 0, 1, 8, [2151, 1010, 2149, 2150]), mc_48)
def mc_49 : List AQ := [(0, .aload_n 0, 1, []), (1, .iload_n 1, 1, []), (2, .invokevirtual 28, 3, [45, 2156]), (5, .istore 4, 2, []), (7, .iload 4, 2, []), (9, .iconst (-1), 1, []), (10, .if_icmp .ne 10, 3, []), (13, .iload_n 1, 1, []), (14, .aload_n 2, 1, []), (15, .aload_n 3, 1, []), (16, .invokestatic 47, 3, [50, 5028]), (19, .return_, 1, []), (20, .iconst 0, 1, []), (21, .istore 5, 2, []), (23, .iload 5, 2, []), (25, .aload_n 0, 1, []), (26, .getfield 17, 3, [8, 1, 1231]), (29, .iload 4, 2, []), (31, .aaload, 1, []), (32, .invokevirtual 51, 3, [9, 5033]), (35, .if_icmp .ge 26, 3, []), (38, .aload_n 0, 1, []), (39, .getfield 17, 3, [8, 1, 1231]), (42, .iload 4, 2, []), (44, .aaload, 1, []), (45, .iload 5, 2, []), (47, .invokevirtual 55, 3, [11, 5037]), (50, .aload_n 2, 1, []), (51, .aload_n 3, 1, []), (52, .invokestatic 47, 3, [50, 5028]), (55, .iinc 5 1, 3, []), (58, .goto (-35), 3, []), (61, .return_, 1, [])]
def mm_49 : AM := ((RX8, ⟨RX8, "putStandIns", "(ILMountYard$Tree;LMountYard$FileList;)V"⟩, prog_10_method_9_code, 6, none), ([], [], 0, 3, 8, [5027, 1010, 5025, 5026]), mc_49)
def mc_50 : List AQ := [(0, .aload_n 1, 1, []), (1, .iload_n 0, 1, []), (2, .invokevirtual 58, 3, [56, 5031]), (5, .getfield 64, 3, [5, 7, 1091]), (8, .ifCond .ne 8, 3, []), (11, .aload_n 2, 1, []), (12, .iload_n 0, 1, []), (13, .invokevirtual 70, 3, [13, 5032]), (16, .return_, 1, [])]
def mm_50 : AM := ((RX8, ⟨RX8, "putUnlessGone", "(ILMountYard$Tree;LMountYard$FileList;)V"⟩, prog_10_method_10_code, 3, none), ([], [], 1, 3, 8, [5030, 1010, 5029, 0]), mc_50)
def mc_51 : List AQ := [(0, .aload_n 0, 1, []), (1, .invokespecial 3, 3, [1122, 1034, 1035]), (4, .aload_n 0, 1, []), (5, .aload_n 1, 1, []), (6, .putfield 9, 3, [9, 0, 1183]), (9, .aload_n 0, 1, []), (10, .new 15, 3, [4, 1123, 1124, 1006]), (13, .dup, 1, []), (14, .invokespecial 17, 3, [17, 1125]), (17, .putfield 18, 3, [9, 1, 1184]), (20, .aload_n 0, 1, []), (21, .new 22, 3, [2, 1169, 1170, 1008]), (24, .dup, 1, []), (25, .invokespecial 24, 3, [15, 1171]), (28, .putfield 25, 3, [9, 2, 1185]), (31, .aload_n 0, 1, []), (32, .new 29, 3, [0, 1181, 1037, 1002]), (35, .dup, 1, []), (36, .sipush 160, 3, []), (39, .invokespecial 31, 3, [0, 1182]), (42, .putfield 34, 3, [9, 3, 1186]), (45, .aload_n 0, 1, []), (46, .iconst 0, 1, []), (47, .putfield 38, 3, [9, 4, 1187]), (50, .aload_n 0, 1, []), (51, .sipush 160, 3, []), (54, .putfield 42, 3, [9, 5, 1188]), (57, .return_, 1, [])]
def mm_51 : AM := ((RX9, ⟨RX9, "<init>", "(LMountYard$Tree;)V"⟩, prog_11_method_1_code, 2, none), ([], [], 2, 1, 9, [1121, 1005, 1120, 0]), mc_51)
def mc_52 : List AQ := [(0, .aload_n 0, 1, []), (1, .getfield 18, 3, [9, 1, 1184]), (4, .invokevirtual 46, 3, [18, 2092]), (7, .ireturn, 1, [])]
def mm_52 : AM := ((RX9, ⟨RX9, "handleCount", "()I"⟩, prog_11_method_2_code, 1, (some FieldType.int)), ([], [], 0, 0, 9, [2091, 1005, 2089, 2090]), mc_52)
def mc_53 : List AQ := [(0, .aload_n 0, 1, []), (1, .invokespecial 3, 3, [1055, 1034, 1035]), (4, .aload_n 0, 1, []), (5, .bipush 40, 2, []), (7, .anewarray 9, 3, [5, 1056, 1057]), (10, .putfield 11, 3, [10, 0, 1110]), (13, .iconst 0, 1, []), (14, .istore_n 1, 1, []), (15, .iload_n 1, 1, []), (16, .aload_n 0, 1, []), (17, .getfield 11, 3, [10, 0, 1110]), (20, .arraylength, 1, []), (21, .if_icmp .ge 23, 3, []), (24, .aload_n 0, 1, []), (25, .getfield 11, 3, [10, 0, 1110]), (28, .iload_n 1, 1, []), (29, .new 9, 3, [5, 1056, 1058, 1004]), (32, .dup, 1, []), (33, .iload_n 1, 1, []), (34, .invokespecial 17, 3, [19, 1059]), (37, .aastore, 1, []), (38, .iinc 1 1, 3, []), (41, .goto (-26), 3, []), (44, .aload_n 0, 1, []), (45, .getfield 11, 3, [10, 0, 1110]), (48, .iconst 0, 1, []), (49, .aaload, 1, []), (50, .iconst 1, 1, []), (51, .putfield 20, 3, [5, 6, 1083]), (54, .aload_n 0, 1, []), (55, .getfield 11, 3, [10, 0, 1110]), (58, .iconst 0, 1, []), (59, .aaload, 1, []), (60, .bipush 7, 2, []), (62, .putfield 24, 3, [5, 4, 1077]), (65, .aload_n 0, 1, []), (66, .iconst 1, 1, []), (67, .putfield 28, 3, [10, 1, 1111]), (70, .return_, 1, [])]
def mm_53 : AM := ((RX10, ⟨RX10, "<init>", "()V"⟩, prog_12_method_1_code, 2, none), ([], [], 2, 0, 10, [1054, 1003, 1053, 0]), mc_53)
def mc_54 : List AQ := [(0, .aload_n 0, 1, []), (1, .getfield 28, 3, [10, 1, 1111]), (4, .ireturn, 1, [])]
def mm_54 : AM := ((RX10, ⟨RX10, "made", "()I"⟩, prog_12_method_2_code, 1, (some FieldType.int)), ([], [], 0, 0, 10, [2103, 1003, 2101, 2102]), mc_54)
def mc_55 : List AQ := [(0, .iload_n 1, 1, []), (1, .ifCond .lt 15, 3, []), (4, .iload_n 1, 1, []), (5, .aload_n 0, 1, []), (6, .getfield 28, 3, [10, 1, 1111]), (9, .if_icmp .ge 7, 3, []), (12, .iconst 1, 1, []), (13, .goto 4, 3, []), (16, .iconst 0, 1, []), (17, .ireturn, 1, [])]
def mm_55 : AM := ((RX10, ⟨RX10, "has", "(I)Z"⟩, prog_12_method_4_code, 2, (some FieldType.boolean)), ([], [], 0, 1, 10, [4217, 1003, 4215, 4216]), mc_55)
def mc_56 : List AQ := [(0, .iload_n 1, 1, []), (1, .ifCond .lt 20, 3, []), (4, .iload_n 1, 1, []), (5, .aload_n 0, 1, []), (6, .getfield 28, 3, [10, 1, 1111]), (9, .if_icmp .ge 12, 3, []), (12, .aload_n 0, 1, []), (13, .getfield 11, 3, [10, 0, 1110]), (16, .iload_n 1, 1, []), (17, .aaload, 1, []), (18, .goto 9, 3, []), (21, .aload_n 0, 1, []), (22, .getfield 11, 3, [10, 0, 1110]), (25, .iconst 0, 1, []), (26, .aaload, 1, []), (27, .areturn, 1, [])]
def mm_56 : AM := ((RX10, ⟨RX10, "node", "(I)LMountYard$Node;"⟩, prog_12_method_5_code, 2, (some (FieldType.object "MountYard$Node"))), ([], [], 0, 1, 10, [4001, 1003, 3239, 4000]), mc_56)
def mc_57 : List AQ := [(0, .aload_n 0, 1, []), (1, .invokespecial 1, 3, [1033, 1034, 1035]), (4, .aload_n 0, 1, []), (5, .new 7, 3, [0, 1036, 1037, 1002]), (8, .dup, 1, []), (9, .sipush 320, 3, []), (12, .invokespecial 11, 3, [0, 1038]), (15, .putfield 14, 3, [11, 0, 2046]), (18, .aload_n 0, 1, []), (19, .new 7, 3, [0, 1036, 1037, 1002]), (22, .dup, 1, []), (23, .sipush 400, 3, []), (26, .invokespecial 11, 3, [0, 1038]), (29, .putfield 18, 3, [11, 1, 2047]), (32, .aload_n 0, 1, []), (33, .new 7, 3, [0, 1036, 1037, 1002]), (36, .dup, 1, []), (37, .bipush 60, 2, []), (39, .invokespecial 11, 3, [0, 1038]), (42, .putfield 21, 3, [11, 2, 2048]), (45, .aload_n 0, 1, []), (46, .new 24, 3, [10, 1050, 1051, 1003]), (49, .dup, 1, []), (50, .invokespecial 26, 3, [53, 1052]), (53, .putfield 27, 3, [11, 3, 2049]), (56, .aload_n 0, 1, []), (57, .new 31, 3, [9, 1117, 1118, 1005]), (60, .dup, 1, []), (61, .aload_n 0, 1, []), (62, .getfield 27, 3, [11, 3, 2049]), (65, .invokespecial 33, 3, [51, 1119]), (68, .putfield 36, 3, [11, 4, 2050]), (71, .aload_n 0, 1, []), (72, .new 40, 3, [6, 1202, 1203, 1009]), (75, .dup, 1, []), (76, .aload_n 0, 1, []), (77, .getfield 27, 3, [11, 3, 2049]), (80, .invokespecial 42, 3, [20, 1204]), (83, .putfield 43, 3, [11, 5, 2051]), (86, .return_, 1, [])]
def mm_57 : AM := ((RX11, ⟨RX11, "<init>", "()V"⟩, prog_1_method_1_code, 1, none), ([], [], 2, 0, 11, [1032, 1001, 1031, 0]), mc_57)
def mc_58 : List AQ := [(0, .iload_n 3, 1, []), (1, .iconst 1, 1, []), (2, .if_icmp .lt 9, 3, []), (5, .iload_n 3, 1, []), (6, .bipush 8, 2, []), (8, .if_icmp .le 11, 3, []), (11, .new 47, 3, [0, 2189, 1017, 49, 2232]), (14, .dup, 1, []), (15, .invokespecial 49, 3, []), (18, .athrow, 1, []), (19, .aload_n 0, 1, []), (20, .getfield 14, 3, [11, 0, 2046]), (23, .invokevirtual 50, 3, [1, 2069]), (26, .iload_n 3, 1, []), (27, .iadd, 1, []), (28, .sipush 320, 3, []), (31, .if_icmp .le 11, 3, []), (34, .new 54, 3, [1, 3014, 1018, 56, 3023]), (37, .dup, 1, []), (38, .invokespecial 56, 3, []), (41, .athrow, 1, []), (42, .aload_n 0, 1, []), (43, .getfield 14, 3, [11, 0, 2046]), (46, .lload_n 1, 1, []), (47, .iload_n 3, 1, []), (48, .invokevirtual 57, 3, [5, 2111]), (51, .return_, 1, [])]
def mm_58 : AM := ((RX11, ⟨RX11, "feed", "(JI)V"⟩, prog_1_method_2_code, 4, none), ([], [], 0, 2, 11, [2188, 1001, 2186, 2187]), mc_58)
def mc_59_0 : List AQ := [(0, .aload_n 0, 1, []), (1, .getfield 18, 3, [11, 1, 2047]), (4, .invokevirtual 50, 3, [1, 2069]), (7, .sipush 240, 3, []), (10, .if_icmp .le 11, 3, []), (13, .new 54, 3, [1, 3014, 1018, 56, 3023]), (16, .dup, 1, []), (17, .invokespecial 56, 3, []), (20, .athrow, 1, []), (21, .aload_n 0, 1, []), (22, .getfield 14, 3, [11, 0, 2046]), (25, .invokevirtual 50, 3, [1, 2069]), (28, .iconst 4, 1, []), (29, .if_icmp .ge 11, 3, []), (32, .new 61, 3, [2, 3037, 1019, 63, 3046]), (35, .dup, 1, []), (36, .invokespecial 63, 3, []), (39, .athrow, 1, []), (40, .aload_n 0, 1, []), (41, .getfield 14, 3, [11, 0, 2046]), (44, .iconst 0, 1, []), (45, .iconst 4, 1, []), (46, .invokevirtual 64, 3, []), (49, .lstore_n 1, 1, []), (50, .aload_n 0, 1, []), (51, .getfield 36, 3, [11, 4, 2050]), (54, .lload_n 1, 1, []), (55, .invokevirtual 68, 3, []), (58, .ifCond .ne 19, 3, []), (61, .aload_n 0, 1, []), (62, .getfield 14, 3, [11, 0, 2046]), (65, .invokevirtual 72, 3, [4, 2119]), (68, .aload_n 0, 1, []), (69, .getfield 36, 3, [11, 4, 2050]), (72, .invokevirtual 75, 3, []), (75, .iconst 0, 1, []), (76, .ireturn, 1, []), (77, .aload_n 0, 1, []), (78, .getfield 14, 3, [11, 0, 2046]), (81, .invokevirtual 50, 3, [1, 2069]), (84, .i2l, 1, []), (85, .lload_n 1, 1, []), (86, .lcmp, 1, []), (87, .ifCond .ge 11, 3, []), (90, .new 61, 3, [2, 3037, 1019, 63, 3046]), (93, .dup, 1, []), (94, .invokespecial 63, 3, []), (97, .athrow, 1, []), (98, .aload_n 0, 1, []), (99, .getfield 36, 3, [11, 4, 2050])]
def mc_59_1 : List AQ := [(102, .aload_n 0, 1, []), (103, .getfield 14, 3, [11, 0, 2046]), (106, .lload_n 1, 1, []), (107, .l2i, 1, []), (108, .invokevirtual 78, 3, []), (111, .aload_n 0, 1, []), (112, .getfield 36, 3, [11, 4, 2050]), (115, .invokevirtual 82, 3, []), (118, .istore_n 3, 1, []), (119, .aload_n 0, 1, []), (120, .getfield 36, 3, [11, 4, 2050]), (123, .iload_n 3, 1, []), (124, .aload_n 0, 1, []), (125, .getfield 18, 3, [11, 1, 2047]), (128, .invokevirtual 86, 3, []), (131, .ireturn, 1, [])]
def mc_59 : List AQ := mc_59_0 ++ (mc_59_1)
def mm_59 : AM := ((RX11, ⟨RX11, "serve", "()I"⟩, prog_1_method_3_code, 4, (some FieldType.int)), ([], [], 0, 0, 11, [3036, 1001, 3034, 3035]), mc_59)
def mc_60 : List AQ := [(0, .iload_n 1, 1, []), (1, .ifCond .eq 13, 3, []), (4, .aload_n 0, 1, []), (5, .getfield 18, 3, [11, 1, 2047]), (8, .invokevirtual 50, 3, [1, 2069]), (11, .goto 10, 3, []), (14, .aload_n 0, 1, []), (15, .getfield 14, 3, [11, 0, 2046]), (18, .invokevirtual 50, 3, [1, 2069]), (21, .ireturn, 1, [])]
def mm_60 : AM := ((RX11, ⟨RX11, "size", "(Z)I"⟩, prog_1_method_4_code, 2, (some FieldType.int)), ([], [], 0, 1, 11, [2068, 1001, 2066, 2067]), mc_60)
def mc_61 : List AQ := [(0, .aload_n 0, 1, []), (1, .getfield 18, 3, [11, 1, 2047]), (4, .iload_n 1, 1, []), (5, .invokevirtual 90, 3, [2, 4187]), (8, .ifCond .ne 11, 3, []), (11, .new 94, 3, [3, 4191, 1026, 96, 4200]), (14, .dup, 1, []), (15, .invokespecial 96, 3, []), (18, .athrow, 1, []), (19, .aload_n 0, 1, []), (20, .getfield 18, 3, [11, 1, 2047]), (23, .iload_n 1, 1, []), (24, .invokevirtual 97, 3, [3, 4206]), (27, .ireturn, 1, [])]
def mm_61 : AM := ((RX11, ⟨RX11, "out", "(I)I"⟩, prog_1_method_5_code, 2, (some FieldType.int)), ([], [], 0, 1, 11, [4186, 1001, 4184, 4185]), mc_61)
def mc_62 : List AQ := [(0, .iload_n 1, 1, []), (1, .ifCond .lt 14, 3, []), (4, .iload_n 1, 1, []), (5, .aload_n 0, 1, []), (6, .getfield 18, 3, [11, 1, 2047]), (9, .invokevirtual 50, 3, [1, 2069]), (12, .if_icmp .le 5, 3, []), (15, .iconst 0, 1, []), (16, .ireturn, 1, []), (17, .aload_n 0, 1, []), (18, .getfield 18, 3, [11, 1, 2047]), (21, .iload_n 1, 1, []), (22, .invokevirtual 101, 3, [6, 2077]), (25, .iconst 1, 1, []), (26, .ireturn, 1, [])]
def mm_62 : AM := ((RX11, ⟨RX11, "drop", "(I)Z"⟩, prog_1_method_6_code, 2, (some FieldType.boolean)), ([], [], 0, 1, 11, [2076, 1001, 2074, 2075]), mc_62)
def mc_63 : List AQ := [(0, .aload_n 0, 1, []), (1, .getfield 36, 3, [11, 4, 2050]), (4, .invokevirtual 104, 3, [52, 2088]), (7, .ireturn, 1, [])]
def mm_63 : AM := ((RX11, ⟨RX11, "handles", "()I"⟩, prog_1_method_7_code, 1, (some FieldType.int)), ([], [], 0, 0, 11, [2087, 1001, 2085, 2086]), mc_63)
def mc_64 : List AQ := [(0, .aload_n 0, 1, []), (1, .getfield 27, 3, [11, 3, 2049]), (4, .iload_n 1, 1, []), (5, .invokevirtual 107, 3, [55, 4214]), (8, .ifCond .ne 11, 3, []), (11, .new 94, 3, [3, 4191, 1026, 96, 4200]), (14, .dup, 1, []), (15, .invokespecial 96, 3, []), (18, .athrow, 1, []), (19, .aload_n 0, 1, []), (20, .getfield 27, 3, [11, 3, 2049]), (23, .iload_n 1, 1, []), (24, .invokevirtual 108, 3, [56, 4218]), (27, .astore_n 3, 1, []), (28, .iload_n 2, 1, []), (29, .tableswitch 85 0 4 #[35, 40, 45, 53, 72], 35, []), (64, .aload_n 3, 1, []), (65, .getfield 112, 3, [5, 2, 1073]), (68, .ireturn, 1, []), (69, .aload_n 3, 1, []), (70, .getfield 118, 3, [5, 5, 1081]), (73, .ireturn, 1, []), (74, .aload_n 3, 1, []), (75, .getfield 121, 3, [5, 1, 1069]), (78, .invokevirtual 50, 3, [1, 2069]), (81, .ireturn, 1, []), (82, .aload_n 3, 1, []), (83, .getfield 124, 3, [5, 4, 1079]), (86, .aload_n 3, 1, []), (87, .getfield 127, 3, [5, 6, 1087]), (90, .ifCond .eq 8, 3, []), (93, .bipush 8, 2, []), (95, .goto 4, 3, []), (98, .iconst 0, 1, []), (99, .iadd, 1, []), (100, .ireturn, 1, []), (101, .aload_n 3, 1, []), (102, .getfield 131, 3, [5, 7, 1090]), (105, .ifCond .eq 7, 3, []), (108, .iconst 1, 1, []), (109, .goto 4, 3, []), (112, .iconst 0, 1, []), (113, .ireturn, 1, []), (114, .new 94, 3, [3, 4191, 1026, 96, 4200]), (117, .dup, 1, []), (118, .invokespecial 96, 3, []), (121, .athrow, 1, [])]
def mm_64 : AM := ((RX11, ⟨RX11, "about", "(II)I"⟩, prog_1_method_8_code, 4, (some FieldType.int)), ([], [], 0, 2, 11, [4213, 1001, 4211, 4212]), mc_64)
def mc_65 : List AQ := [(0, .aload_n 0, 1, []), (1, .getfield 27, 3, [11, 3, 2049]), (4, .iload_n 1, 1, []), (5, .invokevirtual 107, 3, [55, 4214]), (8, .ifCond .eq 21, 3, []), (11, .aload_n 0, 1, []), (12, .getfield 27, 3, [11, 3, 2049]), (15, .iload_n 1, 1, []), (16, .invokevirtual 108, 3, [56, 4218]), (19, .getfield 121, 3, [5, 1, 1069]), (22, .iload_n 2, 1, []), (23, .invokevirtual 90, 3, [2, 4187]), (26, .ifCond .ne 11, 3, []), (29, .new 94, 3, [3, 4191, 1026, 96, 4200]), (32, .dup, 1, []), (33, .invokespecial 96, 3, []), (36, .athrow, 1, []), (37, .aload_n 0, 1, []), (38, .getfield 27, 3, [11, 3, 2049]), (41, .iload_n 1, 1, []), (42, .invokevirtual 108, 3, [56, 4218]), (45, .getfield 121, 3, [5, 1, 1069]), (48, .iload_n 2, 1, []), (49, .invokevirtual 97, 3, [3, 4206]), (52, .ireturn, 1, [])]
def mm_65 : AM := ((RX11, ⟨RX11, "data", "(II)I"⟩, prog_1_method_9_code, 3, (some FieldType.int)), ([], [], 0, 2, 11, [4225, 1001, 4223, 4224]), mc_65)
def mc_66 : List AQ := [(0, .aload_n 0, 1, []), (1, .getfield 27, 3, [11, 3, 2049]), (4, .invokevirtual 134, 3, [54, 2100]), (7, .ireturn, 1, [])]
def mm_66 : AM := ((RX11, ⟨RX11, "files", "()I"⟩, prog_1_method_10_code, 1, (some FieldType.int)), ([], [], 0, 0, 11, [2099, 1001, 2097, 2098]), mc_66)
def mc_67 : List AQ := [(0, .iload_n 3, 1, []), (1, .iconst 1, 1, []), (2, .if_icmp .lt 31, 3, []), (5, .iload_n 3, 1, []), (6, .bipush 8, 2, []), (8, .if_icmp .gt 25, 3, []), (11, .aload_n 0, 1, []), (12, .getfield 21, 3, [11, 2, 2048]), (15, .invokevirtual 50, 3, [1, 2069]), (18, .iload_n 3, 1, []), (19, .iadd, 1, []), (20, .bipush 60, 2, []), (22, .if_icmp .gt 11, 3, []), (25, .lload_n 1, 1, []), (26, .iload_n 3, 1, []), (27, .invokestatic 137, 3, [74, 2108]), (30, .ifCond .ne 5, 3, []), (33, .iconst 0, 1, []), (34, .ireturn, 1, []), (35, .aload_n 0, 1, []), (36, .getfield 21, 3, [11, 2, 2048]), (39, .lload_n 1, 1, []), (40, .iload_n 3, 1, []), (41, .invokevirtual 57, 3, [5, 2111]), (44, .iconst 1, 1, []), (45, .ireturn, 1, [])]
def mm_67 : AM := ((RX11, ⟨RX11, "type", "(JI)Z"⟩, prog_1_method_11_code, 4, (some FieldType.boolean)), ([], [], 0, 2, 11, [2107, 1001, 2105, 2106]), mc_67)
def mc_68 : List AQ := [(0, .aload_n 0, 1, []), (1, .getfield 21, 3, [11, 2, 2048]), (4, .invokevirtual 72, 3, [4, 2119]), (7, .return_, 1, [])]
def mm_68 : AM := ((RX11, ⟨RX11, "clear", "()V"⟩, prog_1_method_12_code, 1, none), ([], [], 0, 0, 11, [2118, 1001, 2116, 2117]), mc_68)
def mc_69 : List AQ := [(0, .aload_n 0, 1, []), (1, .getfield 43, 3, [11, 5, 2051]), (4, .iload_n 1, 1, []), (5, .invokevirtual 141, 3, [21, 2127]), (8, .ifCond .ne 11, 3, []), (11, .new 47, 3, [0, 2189, 1017, 49, 2232]), (14, .dup, 1, []), (15, .invokespecial 49, 3, []), (18, .athrow, 1, []), (19, .aload_n 0, 1, []), (20, .getfield 43, 3, [11, 5, 2051]), (23, .iload_n 1, 1, []), (24, .aload_n 0, 1, []), (25, .getfield 21, 3, [11, 2, 2048]), (28, .invokevirtual 142, 3, [23, 4233]), (31, .astore_n 2, 1, []), (32, .aload_n 2, 1, []), (33, .invokevirtual 146, 3, [36, 5046]), (36, .ifCond .eq 13, 3, []), (39, .aload_n 2, 1, []), (40, .getfield 152, 3, [7, 0, 2009]), (43, .invokevirtual 156, 3, [9, 5050]), (46, .ifCond .ne 11, 3, []), (49, .new 61, 3, [2, 3037, 1019, 63, 3046]), (52, .dup, 1, []), (53, .invokespecial 63, 3, []), (56, .athrow, 1, []), (57, .aload_n 2, 1, []), (58, .getfield 152, 3, [7, 0, 2009]), (61, .iconst 0, 1, []), (62, .invokevirtual 159, 3, [11, 5051]), (65, .ireturn, 1, [])]
def mm_69 : AM := ((RX11, ⟨RX11, "look", "(I)I"⟩, prog_1_method_13_code, 3, (some FieldType.int)), ([], [], 0, 1, 11, [4232, 1001, 4230, 4231]), mc_69)
def mc_70 : List AQ := [(0, .aload_n 0, 1, []), (1, .getfield 43, 3, [11, 5, 2051]), (4, .iload_n 1, 1, []), (5, .invokevirtual 141, 3, [21, 2127]), (8, .ifCond .ne 11, 3, []), (11, .new 47, 3, [0, 2189, 1017, 49, 2232]), (14, .dup, 1, []), (15, .invokespecial 49, 3, []), (18, .athrow, 1, []), (19, .aload_n 0, 1, []), (20, .getfield 43, 3, [11, 5, 2051]), (23, .iload_n 1, 1, []), (24, .aload_n 0, 1, []), (25, .getfield 21, 3, [11, 2, 2048]), (28, .invokevirtual 142, 3, [23, 4233]), (31, .astore_n 3, 1, []), (32, .aload_n 3, 1, []), (33, .invokevirtual 146, 3, [36, 5046]), (36, .ifCond .ne 11, 3, []), (39, .new 61, 3, [2, 3037, 1019, 63, 3046]), (42, .dup, 1, []), (43, .invokespecial 63, 3, []), (46, .athrow, 1, []), (47, .aload_n 3, 1, []), (48, .getfield 152, 3, [7, 0, 2009]), (51, .iload_n 2, 1, []), (52, .invokevirtual 160, 3, [10, 5059]), (55, .ifCond .ne 11, 3, []), (58, .new 94, 3, [3, 4191, 1026, 96, 4200]), (61, .dup, 1, []), (62, .invokespecial 96, 3, []), (65, .athrow, 1, []), (66, .aload_n 3, 1, []), (67, .getfield 152, 3, [7, 0, 2009]), (70, .iload_n 2, 1, []), (71, .invokevirtual 159, 3, [11, 5051]), (74, .ireturn, 1, [])]
def mm_70 : AM := ((RX11, ⟨RX11, "member", "(II)I"⟩, prog_1_method_14_code, 4, (some FieldType.int)), ([], [], 0, 2, 11, [5058, 1001, 5056, 5057]), mc_70)
def mc_71_0 : List AQ := [(0, .aload_n 0, 1, []), (1, .getfield 43, 3, [11, 5, 2051]), (4, .iload_n 1, 1, []), (5, .invokevirtual 141, 3, [21, 2127]), (8, .ifCond .eq 12, 3, []), (11, .iload_n 2, 1, []), (12, .ifCond .lt 8, 3, []), (15, .iload_n 2, 1, []), (16, .iconst 2, 1, []), (17, .if_icmp .le 11, 3, []), (20, .new 47, 3, [0, 2189, 1017, 49, 2232]), (23, .dup, 1, []), (24, .invokespecial 49, 3, []), (27, .athrow, 1, []), (28, .aload_n 0, 1, []), (29, .getfield 43, 3, [11, 5, 2051]), (32, .iload_n 1, 1, []), (33, .aload_n 0, 1, []), (34, .getfield 21, 3, [11, 2, 2048]), (37, .invokevirtual 142, 3, [23, 4233]), (40, .astore_n 3, 1, []), (41, .aload_n 0, 1, []), (42, .getfield 43, 3, [11, 5, 2051]), (45, .iload_n 1, 1, []), (46, .aload_n 0, 1, []), (47, .getfield 21, 3, [11, 2, 2048]), (50, .invokevirtual 161, 3, [24, 5071]), (53, .astore 4, 2, []), (55, .aload_n 3, 1, []), (56, .invokevirtual 146, 3, [36, 5046]), (59, .ifCond .eq 21, 3, []), (62, .aload 4, 2, []), (64, .invokevirtual 146, 3, [36, 5046]), (67, .ifCond .eq 13, 3, []), (70, .aload_n 3, 1, []), (71, .getfield 152, 3, [7, 0, 2009]), (74, .invokevirtual 156, 3, [9, 5050]), (77, .ifCond .ne 11, 3, []), (80, .new 61, 3, [2, 3037, 1019, 63, 3046]), (83, .dup, 1, []), (84, .invokespecial 63, 3, []), (87, .athrow, 1, []), (88, .aload_n 0, 1, []), (89, .getfield 43, 3, [11, 5, 2051]), (92, .aload_n 3, 1, []), (93, .getfield 152, 3, [7, 0, 2009]), (96, .aload 4, 2, []), (98, .invokevirtual 164, 3, [37, 5075]), (101, .iload_n 2, 1, []), (102, .invokevirtual 167, 3, [26, 5079])]
def mc_71_1 : List AQ := [(105, .ifCond .ne 11, 3, []), (108, .new 171, 3, [4, 5086, 1027, 173, 5095]), (111, .dup, 1, []), (112, .invokespecial 173, 3, []), (115, .athrow, 1, []), (116, .aload_n 0, 1, []), (117, .getfield 43, 3, [11, 5, 2051]), (120, .iload_n 1, 1, []), (121, .aload_n 3, 1, []), (122, .getfield 152, 3, [7, 0, 2009]), (125, .aload 4, 2, []), (127, .invokevirtual 164, 3, [37, 5075]), (130, .iload_n 2, 1, []), (131, .invokevirtual 174, 3, [27, 5101]), (134, .astore 5, 2, []), (136, .aload 5, 2, []), (138, .invokevirtual 156, 3, [9, 5050]), (141, .iconst 4, 1, []), (142, .if_icmp .gt 19, 3, []), (145, .aload_n 0, 1, []), (146, .getfield 43, 3, [11, 5, 2051]), (149, .iload_n 1, 1, []), (150, .aload 4, 2, []), (152, .invokevirtual 164, 3, [37, 5075]), (155, .invokevirtual 178, 3, [29, 5108]), (158, .ifCond .ne 11, 3, []), (161, .new 54, 3, [1, 3014, 1018, 56, 3023]), (164, .dup, 1, []), (165, .invokespecial 56, 3, []), (168, .athrow, 1, []), (169, .aload_n 0, 1, []), (170, .getfield 43, 3, [11, 5, 2051]), (173, .iload_n 1, 1, []), (174, .aload 4, 2, []), (176, .invokevirtual 164, 3, [37, 5075]), (179, .aload 5, 2, []), (181, .invokevirtual 182, 3, [30, 5121]), (184, .aload 5, 2, []), (186, .invokevirtual 156, 3, [9, 5050]), (189, .ireturn, 1, [])]
def mc_71 : List AQ := mc_71_0 ++ (mc_71_1)
def mm_71 : AM := ((RX11, ⟨RX11, "bind", "(II)I"⟩, prog_1_method_15_code, 6, (some FieldType.int)), ([], [], 0, 2, 11, [5070, 1001, 5068, 5069]), mc_71)
def mc_72 : List AQ := [(0, .aload_n 0, 1, []), (1, .getfield 43, 3, [11, 5, 2051]), (4, .iload_n 1, 1, []), (5, .invokevirtual 141, 3, [21, 2127]), (8, .ifCond .ne 11, 3, []), (11, .new 47, 3, [0, 2189, 1017, 49, 2232]), (14, .dup, 1, []), (15, .invokespecial 49, 3, []), (18, .athrow, 1, []), (19, .aload_n 0, 1, []), (20, .getfield 43, 3, [11, 5, 2051]), (23, .iload_n 1, 1, []), (24, .aload_n 0, 1, []), (25, .getfield 21, 3, [11, 2, 2048]), (28, .invokevirtual 142, 3, [23, 4233]), (31, .astore_n 2, 1, []), (32, .aload_n 2, 1, []), (33, .invokevirtual 146, 3, [36, 5046]), (36, .ifCond .eq 18, 3, []), (39, .aload_n 0, 1, []), (40, .getfield 43, 3, [11, 5, 2051]), (43, .iload_n 1, 1, []), (44, .aload_n 2, 1, []), (45, .invokevirtual 164, 3, [37, 5075]), (48, .invokevirtual 186, 3, [28, 5133]), (51, .ifCond .ne 11, 3, []), (54, .new 61, 3, [2, 3037, 1019, 63, 3046]), (57, .dup, 1, []), (58, .invokespecial 63, 3, []), (61, .athrow, 1, []), (62, .aload_n 0, 1, []), (63, .getfield 43, 3, [11, 5, 2051]), (66, .iload_n 1, 1, []), (67, .aload_n 2, 1, []), (68, .invokevirtual 164, 3, [37, 5075]), (71, .invokevirtual 189, 3, [31, 5134]), (74, .ireturn, 1, [])]
def mm_72 : AM := ((RX11, ⟨RX11, "unbind", "(I)I"⟩, prog_1_method_16_code, 3, (some FieldType.int)), ([], [], 0, 1, 11, [5132, 1001, 5130, 5131]), mc_72)
def mc_73 : List AQ := [(0, .aload_n 0, 1, []), (1, .getfield 43, 3, [11, 5, 2051]), (4, .iload_n 1, 1, []), (5, .invokevirtual 141, 3, [21, 2127]), (8, .ifCond .eq 19, 3, []), (11, .aload_n 0, 1, []), (12, .getfield 43, 3, [11, 5, 2051]), (15, .iload_n 2, 1, []), (16, .invokevirtual 141, 3, [21, 2127]), (19, .ifCond .eq 8, 3, []), (22, .iload_n 1, 1, []), (23, .iload_n 2, 1, []), (24, .if_icmp .ne 5, 3, []), (27, .iconst 0, 1, []), (28, .ireturn, 1, []), (29, .iload_n 3, 1, []), (30, .ifCond .eq 15, 3, []), (33, .aload_n 0, 1, []), (34, .getfield 43, 3, [11, 5, 2051]), (37, .iload_n 1, 1, []), (38, .iload_n 2, 1, []), (39, .invokevirtual 193, 3, [32, 2131]), (42, .goto 12, 3, []), (45, .aload_n 0, 1, []), (46, .getfield 43, 3, [11, 5, 2051]), (49, .iload_n 1, 1, []), (50, .iload_n 2, 1, []), (51, .invokevirtual 197, 3, [33, 2136]), (54, .iconst 1, 1, []), (55, .ireturn, 1, [])]
def mm_73 : AM := ((RX11, ⟨RX11, "fork", "(IIZ)Z"⟩, prog_1_method_17_code, 4, (some FieldType.boolean)), ([], [], 0, 3, 11, [2126, 1001, 2124, 2125]), mc_73)
def mc_74 : List AQ := [(0, .iconst 0, 1, []), (1, .istore_n 3, 1, []), (2, .iload_n 3, 1, []), (3, .iload_n 2, 1, []), (4, .if_icmp .ge 77, 3, []), (7, .iload_n 3, 1, []), (8, .bipush 8, 2, []), (10, .if_icmp .ge 71, 3, []), (13, .lload_n 0, 1, []), (14, .bipush 8, 2, []), (16, .iload_n 3, 1, []), (17, .imul, 1, []), (18, .lushr, 1, []), (19, .l2i, 1, []), (20, .sipush 255, 3, []), (23, .iand, 1, []), (24, .istore 4, 2, []), (26, .iload 4, 2, []), (28, .bipush 97, 2, []), (30, .if_icmp .lt 14, 3, []), (33, .iload 4, 2, []), (35, .bipush 122, 2, []), (37, .if_icmp .gt 7, 3, []), (40, .iconst 1, 1, []), (41, .goto 4, 3, []), (44, .iconst 0, 1, []), (45, .istore 5, 2, []), (47, .iload 5, 2, []), (49, .ifCond .ne 26, 3, []), (52, .iload 4, 2, []), (54, .bipush 46, 2, []), (56, .if_icmp .eq 19, 3, []), (59, .iload 4, 2, []), (61, .bipush 47, 2, []), (63, .if_icmp .eq 12, 3, []), (66, .iload 4, 2, []), (68, .bipush 32, 2, []), (70, .if_icmp .eq 5, 3, []), (73, .iconst 0, 1, []), (74, .ireturn, 1, []), (75, .iinc 3 1, 3, []), (78, .goto (-76), 3, []), (81, .iconst 1, 1, []), (82, .ireturn, 1, [])]
def mm_74 : AM := ((RX11, ⟨RX11, "areTextSigns", "(JI)Z"⟩, prog_1_method_18_code, 6, (some FieldType.boolean)), ([], [], 1, 2, 11, [2110, 1001, 2109, 0]), mc_74)
def mc_75_0 : List AQ := [(0, .aload_n 0, 1, []), (1, .invokespecial 1, 3, [5151, 1034, 1035]), (4, .aload_n 0, 1, []), (5, .iconst 1, 1, []), (6, .putfield 7, 3, [12, 1, 5153]), (9, .aload_n 0, 1, []), (10, .bipush 40, 2, []), (12, .newarray .int, 2, [1, 1229]), (14, .putfield 13, 3, [12, 2, 5154]), (17, .aload_n 0, 1, []), (18, .bipush 40, 2, []), (20, .newarray .int, 2, [1, 1229]), (22, .putfield 17, 3, [12, 3, 5155]), (25, .aload_n 0, 1, []), (26, .bipush 40, 2, []), (28, .newarray .int, 2, [1, 1229]), (30, .putfield 20, 3, [12, 4, 5156]), (33, .aload_n 0, 1, []), (34, .bipush 40, 2, []), (36, .newarray .int, 2, [1, 1229]), (38, .putfield 23, 3, [12, 5, 5157]), (41, .aload_n 0, 1, []), (42, .bipush 40, 2, []), (44, .newarray .boolean, 2, [3, 6033]), (46, .putfield 26, 3, [12, 6, 5158]), (49, .aload_n 0, 1, []), (50, .bipush 40, 2, []), (52, .newarray .boolean, 2, [3, 6033]), (54, .putfield 30, 3, [12, 7, 5159]), (57, .aload_n 0, 1, []), (58, .bipush 40, 2, []), (60, .newarray .int, 2, [1, 1229]), (62, .putfield 33, 3, [12, 8, 5160]), (65, .aload_n 0, 1, []), (66, .sipush 160, 3, []), (69, .newarray .int, 2, [1, 1229]), (71, .putfield 36, 3, [12, 9, 5161]), (74, .aload_n 0, 1, []), (75, .sipush 960, 3, []), (78, .newarray .int, 2, [1, 1229]), (80, .putfield 39, 3, [12, 10, 5162]), (83, .aload_n 0, 1, []), (84, .bipush 8, 2, []), (86, .newarray .int, 2, [1, 1229]), (88, .putfield 42, 3, [12, 12, 5164]), (91, .aload_n 0, 1, []), (92, .bipush 8, 2, []), (94, .newarray .int, 2, [1, 1229]), (96, .putfield 45, 3, [12, 13, 5165]), (99, .aload_n 0, 1, [])]
def mc_75_1 : List AQ := [(100, .bipush 8, 2, []), (102, .newarray .int, 2, [1, 1229]), (104, .putfield 48, 3, [12, 14, 5166]), (107, .aload_n 0, 1, []), (108, .bipush 8, 2, []), (110, .newarray .long, 2, [2, 6034]), (112, .putfield 51, 3, [12, 15, 5167]), (115, .aload_n 0, 1, []), (116, .bipush 8, 2, []), (118, .newarray .int, 2, [1, 1229]), (120, .putfield 55, 3, [12, 16, 5168]), (123, .aload_n 0, 1, []), (124, .sipush 320, 3, []), (127, .newarray .int, 2, [1, 1229]), (129, .putfield 58, 3, [12, 18, 5170]), (132, .aload_n 0, 1, []), (133, .sipush 400, 3, []), (136, .newarray .int, 2, [1, 1229]), (138, .putfield 61, 3, [12, 20, 5172]), (141, .aload_n 0, 1, []), (142, .sipush 160, 3, []), (145, .putfield 64, 3, [12, 21, 5173]), (148, .aload_n 0, 1, []), (149, .bipush 60, 2, []), (151, .newarray .int, 2, [1, 1229]), (153, .putfield 67, 3, [12, 27, 5179]), (156, .aload_n 0, 1, []), (157, .bipush 60, 2, []), (159, .newarray .int, 2, [1, 1229]), (161, .putfield 70, 3, [12, 29, 5181]), (164, .aload_n 0, 1, []), (165, .bipush 60, 2, []), (167, .newarray .int, 2, [1, 1229]), (169, .putfield 73, 3, [12, 30, 5182]), (172, .aload_n 0, 1, []), (173, .iconst 4, 1, []), (174, .newarray .int, 2, [1, 1229]), (176, .putfield 76, 3, [12, 32, 5184]), (179, .aload_n 0, 1, []), (180, .iconst 4, 1, []), (181, .newarray .int, 2, [1, 1229]), (183, .putfield 79, 3, [12, 34, 5186]), (186, .aload_n 0, 1, []), (187, .iconst 4, 1, []), (188, .newarray .int, 2, [1, 1229]), (190, .putfield 82, 3, [12, 35, 5187]), (193, .aload_n 0, 1, []), (194, .bipush 16, 2, []), (196, .newarray .int, 2, [1, 1229]), (198, .putfield 85, 3, [12, 36, 5188])]
def mc_75_2 : List AQ := [(201, .aload_n 0, 1, []), (202, .bipush 16, 2, []), (204, .newarray .int, 2, [1, 1229]), (206, .putfield 88, 3, [12, 37, 5189]), (209, .aload_n 0, 1, []), (210, .bipush 64, 2, []), (212, .newarray .int, 2, [1, 1229]), (214, .putfield 91, 3, [12, 38, 5190]), (217, .aload_n 0, 1, []), (218, .bipush 8, 2, []), (220, .newarray .int, 2, [1, 1229]), (222, .putfield 94, 3, [12, 39, 5191]), (225, .aload_n 0, 1, []), (226, .getfield 26, 3, [12, 6, 5158]), (229, .iconst 0, 1, []), (230, .iconst 1, 1, []), (231, .bastore, 1, []), (232, .aload_n 0, 1, []), (233, .getfield 23, 3, [12, 5, 5157]), (236, .iconst 0, 1, []), (237, .bipush 7, 2, []), (239, .iastore, 1, []), (240, .iconst 0, 1, []), (241, .istore_n 1, 1, []), (242, .iload_n 1, 1, []), (243, .iconst 4, 1, []), (244, .if_icmp .ge 16, 3, []), (247, .aload_n 0, 1, []), (248, .getfield 79, 3, [12, 34, 5186]), (251, .iload_n 1, 1, []), (252, .iload_n 1, 1, []), (253, .iastore, 1, []), (254, .iinc 1 1, 3, []), (257, .goto (-15), 3, []), (260, .return_, 1, [])]
def mc_75 : List AQ := mc_75_0 ++ (mc_75_1 ++ (mc_75_2))
def mm_75 : AM := ((RX12, ⟨RX12, "<init>", "()V"⟩, prog_14_method_1_code, 2, none), ([], [], 2, 0, 12, [5150, 1013, 5149, 0]), mc_75)
def mc_76 : List AQ := [(0, .aload_n 0, 1, []), (1, .getfield 97, 3, [12, 0, 5152]), (4, .ireturn, 1, [])]
def mm_76 : AM := ((RX12, ⟨RX12, "thrown", "()I"⟩, prog_14_method_2_code, 1, (some FieldType.int)), ([], [], 0, 0, 12, [6038, 1013, 6036, 6037]), mc_76)
def mc_77 : List AQ := [(0, .aload_n 0, 1, []), (1, .iload_n 1, 1, []), (2, .putfield 97, 3, [12, 0, 5152]), (5, .iconst 0, 1, []), (6, .ireturn, 1, [])]
def mm_77 : AM := ((RX12, ⟨RX12, "fail", "(I)I"⟩, prog_14_method_3_code, 2, (some FieldType.int)), ([], [], 0, 1, 12, [6051, 1013, 6050, 24]), mc_77)
def mc_78 : List AQ := [(0, .aload_n 0, 1, []), (1, .iload_n 3, 1, []), (2, .iconst 1, 1, []), (3, .if_icmp .lt 9, 3, []), (6, .iload_n 3, 1, []), (7, .bipush 8, 2, []), (9, .if_icmp .le 7, 3, []), (12, .iconst 1, 1, []), (13, .goto 20, 3, []), (16, .aload_n 0, 1, []), (17, .getfield 100, 3, [12, 17, 5169]), (20, .iload_n 3, 1, []), (21, .iadd, 1, []), (22, .sipush 320, 3, []), (25, .if_icmp .le 7, 3, []), (28, .iconst 2, 1, []), (29, .goto 4, 3, []), (32, .iconst 0, 1, []), (33, .putfield 97, 3, [12, 0, 5152]), (36, .iconst 0, 1, []), (37, .istore 4, 2, []), (39, .iload 4, 2, []), (41, .iload_n 3, 1, []), (42, .if_icmp .ge 47, 3, []), (45, .aload_n 0, 1, []), (46, .getfield 97, 3, [12, 0, 5152]), (49, .ifCond .ne 40, 3, []), (52, .aload_n 0, 1, []), (53, .getfield 58, 3, [12, 18, 5170]), (56, .aload_n 0, 1, []), (57, .getfield 100, 3, [12, 17, 5169]), (60, .lload_n 1, 1, []), (61, .bipush 8, 2, []), (63, .iload 4, 2, []), (65, .imul, 1, []), (66, .lshr, 1, []), (67, .ldc2_w 103, 3, [255, 6043]), (70, .land, 1, []), (71, .l2i, 1, []), (72, .iastore, 1, []), (73, .aload_n 0, 1, []), (74, .dup, 1, []), (75, .getfield 100, 3, [12, 17, 5169]), (78, .iconst 1, 1, []), (79, .iadd, 1, []), (80, .putfield 100, 3, [12, 17, 5169]), (83, .iinc 4 1, 3, []), (86, .goto (-47), 3, []), (89, .return_, 1, [])]
def mm_78 : AM := ((RX12, ⟨RX12, "feed", "(JI)V"⟩, prog_14_method_4_code, 5, none), ([], [], 0, 2, 12, [6042, 1013, 6040, 6041]), mc_78)
def mc_79_0 : List AQ := [(0, .aload_n 0, 1, []), (1, .iconst 0, 1, []), (2, .putfield 97, 3, [12, 0, 5152]), (5, .aload_n 0, 1, []), (6, .getfield 105, 3, [12, 19, 5171]), (9, .sipush 240, 3, []), (12, .if_icmp .le 9, 3, []), (15, .aload_n 0, 1, []), (16, .iconst 1, 1, []), (17, .invokevirtual 269, 3, [77, 6048]), (20, .ireturn, 1, []), (21, .aload_n 0, 1, []), (22, .getfield 100, 3, [12, 17, 5169]), (25, .iconst 4, 1, []), (26, .if_icmp .ge 9, 3, []), (29, .aload_n 0, 1, []), (30, .iconst 2, 1, []), (31, .invokevirtual 269, 3, [77, 6048]), (34, .ireturn, 1, []), (35, .aload_n 0, 1, []), (36, .iconst 0, 1, []), (37, .iconst 4, 1, []), (38, .invokevirtual 118, 3, []), (41, .lstore_n 1, 1, []), (42, .lload_n 1, 1, []), (43, .ldc2_w 175, 3, [7, 6056]), (46, .lcmp, 1, []), (47, .ifCond .lt 13, 3, []), (50, .lload_n 1, 1, []), (51, .aload_n 0, 1, []), (52, .getfield 64, 3, [12, 21, 5173]), (55, .i2l, 1, []), (56, .lcmp, 1, []), (57, .ifCond .le 27, 3, []), (60, .aload_n 0, 1, []), (61, .iconst 0, 1, []), (62, .putfield 100, 3, [12, 17, 5169]), (65, .aload_n 0, 1, []), (66, .iconst 0, 1, []), (67, .putfield 153, 3, [12, 11, 5163]), (70, .aload_n 0, 1, []), (71, .iconst 0, 1, []), (72, .putfield 166, 3, [12, 22, 5174]), (75, .aload_n 0, 1, []), (76, .sipush 160, 3, []), (79, .putfield 64, 3, [12, 21, 5173]), (82, .iconst 0, 1, []), (83, .ireturn, 1, []), (84, .aload_n 0, 1, []), (85, .getfield 100, 3, [12, 17, 5169])]
def mc_79_1 : List AQ := [(88, .i2l, 1, []), (89, .lload_n 1, 1, []), (90, .lcmp, 1, []), (91, .ifCond .ge 9, 3, []), (94, .aload_n 0, 1, []), (95, .iconst 2, 1, []), (96, .invokevirtual 269, 3, [77, 6048]), (99, .ireturn, 1, []), (100, .aload_n 0, 1, []), (101, .lload_n 1, 1, []), (102, .l2i, 1, []), (103, .putfield 130, 3, [12, 23, 5175]), (106, .aload_n 0, 1, []), (107, .aload_n 0, 1, []), (108, .getfield 58, 3, [12, 18, 5170]), (111, .iconst 4, 1, []), (112, .iaload, 1, []), (113, .putfield 115, 3, [12, 24, 5176]), (116, .aload_n 0, 1, []), (117, .invokevirtual 272, 3, []), (120, .istore_n 3, 1, []), (121, .iload_n 3, 1, []), (122, .ifCond .eq 27, 3, []), (125, .aload_n 0, 1, []), (126, .bipush 107, 2, []), (128, .aload_n 0, 1, []), (129, .getfield 115, 3, [12, 24, 5176]), (132, .isub, 1, []), (133, .invokevirtual 170, 3, []), (136, .aload_n 0, 1, []), (137, .lconst 1, 1, []), (138, .iconst 2, 1, []), (139, .invokevirtual 111, 3, []), (142, .aload_n 0, 1, []), (143, .iload_n 3, 1, []), (144, .i2l, 1, []), (145, .iconst 1, 1, []), (146, .invokevirtual 111, 3, []), (149, .aload_n 0, 1, []), (150, .invokevirtual 275, 3, []), (153, .aload_n 0, 1, []), (154, .aload_n 0, 1, []), (155, .getfield 130, 3, [12, 23, 5175]), (158, .invokevirtual 278, 3, []), (161, .aload_n 0, 1, []), (162, .getfield 61, 3, [12, 20, 5172]), (165, .aload_n 0, 1, []), (166, .getfield 108, 3, [12, 25, 5177]), (169, .iconst 4, 1, []), (170, .iadd, 1, [])]
def mc_79_2 : List AQ := [(171, .iaload, 1, []), (172, .ireturn, 1, [])]
def mc_79 : List AQ := mc_79_0 ++ (mc_79_1 ++ (mc_79_2))
def mm_79 : AM := ((RX12, ⟨RX12, "serve", "()I"⟩, prog_14_method_43_code, 4, (some FieldType.int)), ([], [], 0, 0, 12, [6047, 1013, 6045, 6046]), mc_79)
def mc_80 : List AQ := [(0, .aload_n 0, 1, []), (1, .iconst 0, 1, []), (2, .putfield 97, 3, [12, 0, 5152]), (5, .iload_n 1, 1, []), (6, .ifCond .eq 10, 3, []), (9, .aload_n 0, 1, []), (10, .getfield 105, 3, [12, 19, 5171]), (13, .goto 7, 3, []), (16, .aload_n 0, 1, []), (17, .getfield 100, 3, [12, 17, 5169]), (20, .ireturn, 1, [])]
def mm_80 : AM := ((RX12, ⟨RX12, "size", "(Z)I"⟩, prog_14_method_44_code, 2, (some FieldType.int)), ([], [], 0, 1, 12, [6219, 1013, 6217, 6218]), mc_80)
def mc_81 : List AQ := [(0, .aload_n 0, 1, []), (1, .iload_n 1, 1, []), (2, .ifCond .lt 11, 3, []), (5, .iload_n 1, 1, []), (6, .aload_n 0, 1, []), (7, .getfield 105, 3, [12, 19, 5171]), (10, .if_icmp .lt 7, 3, []), (13, .iconst 1, 1, []), (14, .goto 4, 3, []), (17, .iconst 0, 1, []), (18, .putfield 97, 3, [12, 0, 5152]), (21, .aload_n 0, 1, []), (22, .getfield 97, 3, [12, 0, 5152]), (25, .ifCond .ne 12, 3, []), (28, .aload_n 0, 1, []), (29, .getfield 61, 3, [12, 20, 5172]), (32, .iload_n 1, 1, []), (33, .iaload, 1, []), (34, .goto 4, 3, []), (37, .iconst 0, 1, []), (38, .ireturn, 1, [])]
def mm_81 : AM := ((RX12, ⟨RX12, "out", "(I)I"⟩, prog_14_method_45_code, 2, (some FieldType.int)), ([], [], 0, 1, 12, [6223, 1013, 6221, 6222]), mc_81)
def mc_82 : List AQ := [(0, .aload_n 0, 1, []), (1, .iconst 0, 1, []), (2, .putfield 97, 3, [12, 0, 5152]), (5, .iload_n 1, 1, []), (6, .ifCond .lt 11, 3, []), (9, .iload_n 1, 1, []), (10, .aload_n 0, 1, []), (11, .getfield 105, 3, [12, 19, 5171]), (14, .if_icmp .le 5, 3, []), (17, .iconst 0, 1, []), (18, .ireturn, 1, []), (19, .aload_n 0, 1, []), (20, .aload_n 0, 1, []), (21, .getfield 105, 3, [12, 19, 5171]), (24, .iload_n 1, 1, []), (25, .isub, 1, []), (26, .putfield 105, 3, [12, 19, 5171]), (29, .iconst 0, 1, []), (30, .istore_n 2, 1, []), (31, .iload_n 2, 1, []), (32, .aload_n 0, 1, []), (33, .getfield 105, 3, [12, 19, 5171]), (36, .if_icmp .ge 23, 3, []), (39, .aload_n 0, 1, []), (40, .getfield 61, 3, [12, 20, 5172]), (43, .iload_n 2, 1, []), (44, .aload_n 0, 1, []), (45, .getfield 61, 3, [12, 20, 5172]), (48, .iload_n 2, 1, []), (49, .iload_n 1, 1, []), (50, .iadd, 1, []), (51, .iaload, 1, []), (52, .iastore, 1, []), (53, .iinc 2 1, 3, []), (56, .goto (-25), 3, []), (59, .iconst 1, 1, []), (60, .ireturn, 1, [])]
def mm_82 : AM := ((RX12, ⟨RX12, "drop", "(I)Z"⟩, prog_14_method_46_code, 3, (some FieldType.boolean)), ([], [], 0, 1, 12, [6227, 1013, 6225, 6226]), mc_82)
def mc_83 : List AQ := [(0, .aload_n 0, 1, []), (1, .iconst 0, 1, []), (2, .putfield 97, 3, [12, 0, 5152]), (5, .aload_n 0, 1, []), (6, .getfield 153, 3, [12, 11, 5163]), (9, .ireturn, 1, [])]
def mm_83 : AM := ((RX12, ⟨RX12, "handles", "()I"⟩, prog_14_method_47_code, 1, (some FieldType.int)), ([], [], 0, 0, 12, [6231, 1013, 6229, 6230]), mc_83)
def mc_84_0 : List AQ := [(0, .aload_n 0, 1, []), (1, .iload_n 1, 1, []), (2, .ifCond .lt 20, 3, []), (5, .iload_n 1, 1, []), (6, .aload_n 0, 1, []), (7, .getfield 7, 3, [12, 1, 5153]), (10, .if_icmp .ge 12, 3, []), (13, .iload_n 2, 1, []), (14, .ifCond .lt 8, 3, []), (17, .iload_n 2, 1, []), (18, .iconst 4, 1, []), (19, .if_icmp .le 7, 3, []), (22, .iconst 1, 1, []), (23, .goto 4, 3, []), (26, .iconst 0, 1, []), (27, .putfield 97, 3, [12, 0, 5152]), (30, .aload_n 0, 1, []), (31, .getfield 97, 3, [12, 0, 5152]), (34, .ifCond .le 5, 3, []), (37, .iconst 0, 1, []), (38, .ireturn, 1, []), (39, .iload_n 2, 1, []), (40, .ifCond .ne 12, 3, []), (43, .aload_n 0, 1, []), (44, .getfield 13, 3, [12, 2, 5154]), (47, .iload_n 1, 1, []), (48, .iaload, 1, []), (49, .goto 75, 3, []), (52, .iload_n 2, 1, []), (53, .iconst 1, 1, []), (54, .if_icmp .ne 12, 3, []), (57, .aload_n 0, 1, []), (58, .getfield 17, 3, [12, 3, 5155]), (61, .iload_n 1, 1, []), (62, .iaload, 1, []), (63, .goto 61, 3, []), (66, .iload_n 2, 1, []), (67, .iconst 2, 1, []), (68, .if_icmp .ne 12, 3, []), (71, .aload_n 0, 1, []), (72, .getfield 20, 3, [12, 4, 5156]), (75, .iload_n 1, 1, []), (76, .iaload, 1, []), (77, .goto 47, 3, []), (80, .iload_n 2, 1, []), (81, .iconst 3, 1, []), (82, .if_icmp .ne 28, 3, []), (85, .aload_n 0, 1, []), (86, .getfield 23, 3, [12, 5, 5157]), (89, .iload_n 1, 1, [])]
def mc_84_1 : List AQ := [(90, .iaload, 1, []), (91, .aload_n 0, 1, []), (92, .getfield 26, 3, [12, 6, 5158]), (95, .iload_n 1, 1, []), (96, .baload, 1, []), (97, .ifCond .eq 8, 3, []), (100, .bipush 8, 2, []), (102, .goto 4, 3, []), (105, .iconst 0, 1, []), (106, .iadd, 1, []), (107, .goto 17, 3, []), (110, .aload_n 0, 1, []), (111, .getfield 30, 3, [12, 7, 5159]), (114, .iload_n 1, 1, []), (115, .baload, 1, []), (116, .ifCond .eq 7, 3, []), (119, .iconst 1, 1, []), (120, .goto 4, 3, []), (123, .iconst 0, 1, []), (124, .ireturn, 1, [])]
def mc_84 : List AQ := mc_84_0 ++ (mc_84_1)
def mm_84 : AM := ((RX12, ⟨RX12, "about", "(II)I"⟩, prog_14_method_48_code, 3, (some FieldType.int)), ([], [], 0, 2, 12, [6235, 1013, 6233, 6234]), mc_84)
def mc_85 : List AQ := [(0, .aload_n 0, 1, []), (1, .iload_n 1, 1, []), (2, .ifCond .lt 25, 3, []), (5, .iload_n 1, 1, []), (6, .aload_n 0, 1, []), (7, .getfield 7, 3, [12, 1, 5153]), (10, .if_icmp .ge 17, 3, []), (13, .iload_n 2, 1, []), (14, .ifCond .lt 13, 3, []), (17, .iload_n 2, 1, []), (18, .aload_n 0, 1, []), (19, .getfield 20, 3, [12, 4, 5156]), (22, .iload_n 1, 1, []), (23, .iaload, 1, []), (24, .if_icmp .lt 7, 3, []), (27, .iconst 1, 1, []), (28, .goto 4, 3, []), (31, .iconst 0, 1, []), (32, .putfield 97, 3, [12, 0, 5152]), (35, .aload_n 0, 1, []), (36, .getfield 97, 3, [12, 0, 5152]), (39, .ifCond .ne 17, 3, []), (42, .aload_n 0, 1, []), (43, .getfield 39, 3, [12, 10, 5162]), (46, .bipush 24, 2, []), (48, .iload_n 1, 1, []), (49, .imul, 1, []), (50, .iload_n 2, 1, []), (51, .iadd, 1, []), (52, .iaload, 1, []), (53, .goto 4, 3, []), (56, .iconst 0, 1, []), (57, .ireturn, 1, [])]
def mm_85 : AM := ((RX12, ⟨RX12, "data", "(II)I"⟩, prog_14_method_49_code, 3, (some FieldType.int)), ([], [], 0, 2, 12, [6239, 1013, 6237, 6238]), mc_85)
def mc_86 : List AQ := [(0, .aload_n 0, 1, []), (1, .iconst 0, 1, []), (2, .putfield 97, 3, [12, 0, 5152]), (5, .aload_n 0, 1, []), (6, .getfield 7, 3, [12, 1, 5153]), (9, .ireturn, 1, [])]
def mm_86 : AM := ((RX12, ⟨RX12, "files", "()I"⟩, prog_14_method_50_code, 1, (some FieldType.int)), ([], [], 0, 0, 12, [7003, 1013, 7001, 7002]), mc_86)
def mc_87 : List AQ := [(0, .iload_n 0, 1, []), (1, .bipush 97, 2, []), (3, .if_icmp .lt 9, 3, []), (6, .iload_n 0, 1, []), (7, .bipush 122, 2, []), (9, .if_icmp .le 21, 3, []), (12, .iload_n 0, 1, []), (13, .bipush 46, 2, []), (15, .if_icmp .eq 15, 3, []), (18, .iload_n 0, 1, []), (19, .bipush 47, 2, []), (21, .if_icmp .eq 9, 3, []), (24, .iload_n 0, 1, []), (25, .bipush 32, 2, []), (27, .if_icmp .ne 7, 3, []), (30, .iconst 1, 1, []), (31, .goto 4, 3, []), (34, .iconst 0, 1, []), (35, .ireturn, 1, [])]
def mm_87 : AM := ((RX12, ⟨RX12, "isCharacter", "(I)Z"⟩, prog_14_method_51_code, 1, (some FieldType.boolean)), ([], [], 1, 1, 12, [7010, 1013, 7009, 0]), mc_87)
def mc_88_0 : List AQ := [(0, .aload_n 0, 1, []), (1, .iconst 0, 1, []), (2, .putfield 97, 3, [12, 0, 5152]), (5, .iload_n 3, 1, []), (6, .ifCond .le 24, 3, []), (9, .iload_n 3, 1, []), (10, .bipush 9, 2, []), (12, .if_icmp .ge 18, 3, []), (15, .aload_n 0, 1, []), (16, .getfield 281, 3, [12, 26, 5178]), (19, .iload_n 3, 1, []), (20, .iadd, 1, []), (21, .bipush 60, 2, []), (23, .if_icmp .gt 7, 3, []), (26, .iconst 1, 1, []), (27, .goto 4, 3, []), (30, .iconst 0, 1, []), (31, .istore 4, 2, []), (33, .iconst 0, 1, []), (34, .istore 5, 2, []), (36, .iload 5, 2, []), (38, .iload_n 3, 1, []), (39, .if_icmp .ge 31, 3, []), (42, .iload 4, 2, []), (44, .ifCond .eq 26, 3, []), (47, .lload_n 1, 1, []), (48, .bipush 8, 2, []), (50, .iload 5, 2, []), (52, .imul, 1, []), (53, .lshr, 1, []), (54, .ldc2_w 103, 3, [255, 6043]), (57, .land, 1, []), (58, .l2i, 1, []), (59, .invokestatic 284, 3, [87, 7008]), (62, .istore 4, 2, []), (64, .iinc 5 1, 3, []), (67, .goto (-31), 3, []), (70, .iconst 0, 1, []), (71, .istore 5, 2, []), (73, .iload 5, 2, []), (75, .iload_n 3, 1, []), (76, .if_icmp .ge 45, 3, []), (79, .iload 4, 2, []), (81, .ifCond .eq 40, 3, []), (84, .aload_n 0, 1, []), (85, .getfield 67, 3, [12, 27, 5179]), (88, .aload_n 0, 1, []), (89, .getfield 281, 3, [12, 26, 5178]), (92, .lload_n 1, 1, []), (93, .bipush 8, 2, [])]
def mc_88_1 : List AQ := [(95, .iload 5, 2, []), (97, .imul, 1, []), (98, .lshr, 1, []), (99, .ldc2_w 103, 3, [255, 6043]), (102, .land, 1, []), (103, .l2i, 1, []), (104, .iastore, 1, []), (105, .aload_n 0, 1, []), (106, .dup, 1, []), (107, .getfield 281, 3, [12, 26, 5178]), (110, .iconst 1, 1, []), (111, .iadd, 1, []), (112, .putfield 281, 3, [12, 26, 5178]), (115, .iinc 5 1, 3, []), (118, .goto (-45), 3, []), (121, .iload 4, 2, []), (123, .ireturn, 1, [])]
def mc_88 : List AQ := mc_88_0 ++ (mc_88_1)
def mm_88 : AM := ((RX12, ⟨RX12, "type", "(JI)Z"⟩, prog_14_method_52_code, 6, (some FieldType.boolean)), ([], [], 0, 2, 12, [7007, 1013, 7005, 7006]), mc_88)
def mc_89 : List AQ := [(0, .aload_n 0, 1, []), (1, .iconst 0, 1, []), (2, .putfield 97, 3, [12, 0, 5152]), (5, .aload_n 0, 1, []), (6, .iconst 0, 1, []), (7, .putfield 281, 3, [12, 26, 5178]), (10, .return_, 1, [])]
def mm_89 : AM := ((RX12, ⟨RX12, "clear", "()V"⟩, prog_14_method_53_code, 1, none), ([], [], 0, 0, 12, [7014, 1013, 7012, 7013]), mc_89)
def mc_90 : List AQ := [(0, .iconst 0, 1, []), (1, .istore_n 1, 1, []), (2, .iload_n 1, 1, []), (3, .aload_n 0, 1, []), (4, .getfield 281, 3, [12, 26, 5178]), (7, .if_icmp .ge 20, 3, []), (10, .aload_n 0, 1, []), (11, .getfield 67, 3, [12, 27, 5179]), (14, .iload_n 1, 1, []), (15, .iaload, 1, []), (16, .bipush 32, 2, []), (18, .if_icmp .eq 9, 3, []), (21, .iinc 1 1, 3, []), (24, .goto (-22), 3, []), (27, .iload_n 1, 1, []), (28, .ireturn, 1, [])]
def mm_90 : AM := ((RX12, ⟨RX12, "space", "()I"⟩, prog_14_method_54_code, 2, (some FieldType.int)), ([], [], 0, 0, 12, [7029, 1013, 7028, 62]), mc_90)
def mc_91_0 : List AQ := [(0, .aload_n 0, 1, []), (1, .iconst 0, 1, []), (2, .putfield 287, 3, [12, 28, 5180]), (5, .iload_n 1, 1, []), (6, .istore_n 3, 1, []), (7, .iload_n 1, 1, []), (8, .istore 4, 2, []), (10, .iload 4, 2, []), (12, .iload_n 2, 1, []), (13, .if_icmp .gt 169, 3, []), (16, .iload 4, 2, []), (18, .iload_n 2, 1, []), (19, .if_icmp .eq 15, 3, []), (22, .aload_n 0, 1, []), (23, .getfield 67, 3, [12, 27, 5179]), (26, .iload 4, 2, []), (28, .iaload, 1, []), (29, .bipush 47, 2, []), (31, .if_icmp .ne 145, 3, []), (34, .iload 4, 2, []), (36, .iload_n 3, 1, []), (37, .isub, 1, []), (38, .istore 5, 2, []), (40, .iload 5, 2, []), (42, .iconst 1, 1, []), (43, .if_icmp .ne 18, 3, []), (46, .aload_n 0, 1, []), (47, .getfield 67, 3, [12, 27, 5179]), (50, .iload_n 3, 1, []), (51, .iaload, 1, []), (52, .bipush 46, 2, []), (54, .if_icmp .ne 7, 3, []), (57, .iconst 1, 1, []), (58, .goto 4, 3, []), (61, .iconst 0, 1, []), (62, .istore 6, 2, []), (64, .iload 5, 2, []), (66, .iconst 2, 1, []), (67, .if_icmp .ne 31, 3, []), (70, .aload_n 0, 1, []), (71, .getfield 67, 3, [12, 27, 5179]), (74, .iload_n 3, 1, []), (75, .iaload, 1, []), (76, .bipush 46, 2, []), (78, .if_icmp .ne 20, 3, []), (81, .aload_n 0, 1, []), (82, .getfield 67, 3, [12, 27, 5179]), (85, .iload_n 3, 1, []), (86, .iconst 1, 1, []), (87, .iadd, 1, [])]
def mc_91_1 : List AQ := [(88, .iaload, 1, []), (89, .bipush 46, 2, []), (91, .if_icmp .ne 7, 3, []), (94, .iconst 1, 1, []), (95, .goto 4, 3, []), (98, .iconst 0, 1, []), (99, .istore 7, 2, []), (101, .iload 7, 2, []), (103, .ifCond .eq 27, 3, []), (106, .aload_n 0, 1, []), (107, .aload_n 0, 1, []), (108, .getfield 287, 3, [12, 28, 5180]), (111, .ifCond .le 12, 3, []), (114, .aload_n 0, 1, []), (115, .getfield 287, 3, [12, 28, 5180]), (118, .iconst 1, 1, []), (119, .isub, 1, []), (120, .goto 4, 3, []), (123, .iconst 0, 1, []), (124, .putfield 287, 3, [12, 28, 5180]), (127, .goto 44, 3, []), (130, .iload 5, 2, []), (132, .ifCond .le 39, 3, []), (135, .iload 6, 2, []), (137, .ifCond .ne 34, 3, []), (140, .aload_n 0, 1, []), (141, .getfield 70, 3, [12, 29, 5181]), (144, .aload_n 0, 1, []), (145, .getfield 287, 3, [12, 28, 5180]), (148, .iload_n 3, 1, []), (149, .iastore, 1, []), (150, .aload_n 0, 1, []), (151, .getfield 73, 3, [12, 30, 5182]), (154, .aload_n 0, 1, []), (155, .getfield 287, 3, [12, 28, 5180]), (158, .iload 4, 2, []), (160, .iastore, 1, []), (161, .aload_n 0, 1, []), (162, .dup, 1, []), (163, .getfield 287, 3, [12, 28, 5180]), (166, .iconst 1, 1, []), (167, .iadd, 1, []), (168, .putfield 287, 3, [12, 28, 5180]), (171, .iload 4, 2, []), (173, .iconst 1, 1, []), (174, .iadd, 1, []), (175, .istore_n 3, 1, []), (176, .iinc 4 1, 3, []), (179, .goto (-169), 3, []), (182, .return_, 1, [])]
def mc_91 : List AQ := mc_91_0 ++ (mc_91_1)
def mm_91 : AM := ((RX12, ⟨RX12, "cut", "(II)V"⟩, prog_14_method_55_code, 8, none), ([], [], 0, 2, 12, [7033, 1013, 7032, 63]), mc_91)
def mc_92 : List AQ := [(0, .iconst 0, 1, []), (1, .istore_n 3, 1, []), (2, .iload_n 3, 1, []), (3, .aload_n 0, 1, []), (4, .getfield 82, 3, [12, 35, 5187]), (7, .iload_n 1, 1, []), (8, .iaload, 1, []), (9, .if_icmp .ge 23, 3, []), (12, .aload_n 0, 1, []), (13, .getfield 85, 3, [12, 36, 5188]), (16, .iconst 4, 1, []), (17, .iload_n 1, 1, []), (18, .imul, 1, []), (19, .iload_n 3, 1, []), (20, .iadd, 1, []), (21, .iaload, 1, []), (22, .iload_n 2, 1, []), (23, .if_icmp .eq 9, 3, []), (26, .iinc 3 1, 3, []), (29, .goto (-27), 3, []), (32, .iload_n 3, 1, []), (33, .aload_n 0, 1, []), (34, .getfield 82, 3, [12, 35, 5187]), (37, .iload_n 1, 1, []), (38, .iaload, 1, []), (39, .if_icmp .ge 7, 3, []), (42, .iload_n 3, 1, []), (43, .goto 4, 3, []), (46, .iconst (-1), 1, []), (47, .ireturn, 1, [])]
def mm_92 : AM := ((RX12, ⟨RX12, "keyOf", "(II)I"⟩, prog_14_method_56_code, 4, (some FieldType.int)), ([], [], 0, 2, 12, [7041, 1013, 7040, 65]), mc_92)
def mc_93_0 : List AQ := [(0, .aload_n 0, 1, []), (1, .iload_n 1, 1, []), (2, .iload_n 2, 1, []), (3, .invokevirtual 290, 3, [92, 7038]), (6, .istore_n 3, 1, []), (7, .aload_n 0, 1, []), (8, .iconst 0, 1, []), (9, .putfield 293, 3, [12, 31, 5183]), (12, .iload_n 3, 1, []), (13, .ifCond .ge 24, 3, []), (16, .aload_n 0, 1, []), (17, .getfield 30, 3, [12, 7, 5159]), (20, .iload_n 2, 1, []), (21, .baload, 1, []), (22, .ifCond .ne 15, 3, []), (25, .aload_n 0, 1, []), (26, .getfield 76, 3, [12, 32, 5184]), (29, .iconst 0, 1, []), (30, .iload_n 2, 1, []), (31, .iastore, 1, []), (32, .aload_n 0, 1, []), (33, .iconst 1, 1, []), (34, .putfield 293, 3, [12, 31, 5183]), (37, .iconst 0, 1, []), (38, .istore 4, 2, []), (40, .iload_n 3, 1, []), (41, .ifCond .lt 73, 3, []), (44, .iload 4, 2, []), (46, .aload_n 0, 1, []), (47, .getfield 88, 3, [12, 37, 5189]), (50, .iconst 4, 1, []), (51, .iload_n 1, 1, []), (52, .imul, 1, []), (53, .iload_n 3, 1, []), (54, .iadd, 1, []), (55, .iaload, 1, []), (56, .if_icmp .ge 58, 3, []), (59, .aload_n 0, 1, []), (60, .getfield 91, 3, [12, 38, 5190]), (63, .bipush 16, 2, []), (65, .iload_n 1, 1, []), (66, .imul, 1, []), (67, .iconst 4, 1, []), (68, .iload_n 3, 1, []), (69, .imul, 1, []), (70, .iadd, 1, []), (71, .iload 4, 2, []), (73, .iadd, 1, []), (74, .iaload, 1, []), (75, .istore 5, 2, [])]
def mc_93_1 : List AQ := [(77, .aload_n 0, 1, []), (78, .getfield 30, 3, [12, 7, 5159]), (81, .iload 5, 2, []), (83, .baload, 1, []), (84, .ifCond .ne 24, 3, []), (87, .aload_n 0, 1, []), (88, .getfield 76, 3, [12, 32, 5184]), (91, .aload_n 0, 1, []), (92, .getfield 293, 3, [12, 31, 5183]), (95, .iload 5, 2, []), (97, .iastore, 1, []), (98, .aload_n 0, 1, []), (99, .dup, 1, []), (100, .getfield 293, 3, [12, 31, 5183]), (103, .iconst 1, 1, []), (104, .iadd, 1, []), (105, .putfield 293, 3, [12, 31, 5183]), (108, .iinc 4 1, 3, []), (111, .goto (-71), 3, []), (114, .return_, 1, [])]
def mc_93 : List AQ := mc_93_0 ++ (mc_93_1)
def mm_93 : AM := ((RX12, ⟨RX12, "unite", "(II)V"⟩, prog_14_method_57_code, 6, none), ([], [], 0, 2, 12, [7037, 1013, 7036, 64]), mc_93)
def mc_94_0 : List AQ := [(0, .aload_n 0, 1, []), (1, .getfield 79, 3, [12, 34, 5186]), (4, .iload_n 1, 1, []), (5, .iaload, 1, []), (6, .istore_n 3, 1, []), (7, .iload_n 2, 1, []), (8, .ifCond .eq 38, 3, []), (11, .aload_n 0, 1, []), (12, .aload_n 0, 1, []), (13, .invokevirtual 296, 3, [90, 7026]), (16, .aload_n 0, 1, []), (17, .getfield 281, 3, [12, 26, 5178]), (20, .if_icmp .ge 12, 3, []), (23, .aload_n 0, 1, []), (24, .invokevirtual 296, 3, [90, 7026]), (27, .iconst 1, 1, []), (28, .iadd, 1, []), (29, .goto 7, 3, []), (32, .aload_n 0, 1, []), (33, .getfield 281, 3, [12, 26, 5178]), (36, .aload_n 0, 1, []), (37, .getfield 281, 3, [12, 26, 5178]), (40, .invokevirtual 299, 3, [91, 7030]), (43, .goto 12, 3, []), (46, .aload_n 0, 1, []), (47, .iconst 0, 1, []), (48, .aload_n 0, 1, []), (49, .invokevirtual 296, 3, [90, 7026]), (52, .invokevirtual 299, 3, [91, 7030]), (55, .aload_n 0, 1, []), (56, .iconst 0, 1, []), (57, .putfield 302, 3, [12, 33, 5185]), (60, .aload_n 0, 1, []), (61, .iload_n 3, 1, []), (62, .iconst 0, 1, []), (63, .invokevirtual 305, 3, [93, 7034]), (66, .iconst 0, 1, []), (67, .istore 4, 2, []), (69, .iload 4, 2, []), (71, .aload_n 0, 1, []), (72, .getfield 287, 3, [12, 28, 5180]), (75, .if_icmp .ge 110, 3, []), (78, .iconst (-1), 1, []), (79, .istore 5, 2, []), (81, .iconst 0, 1, []), (82, .istore 6, 2, []), (84, .iload 6, 2, []), (86, .aload_n 0, 1, []), (87, .getfield 293, 3, [12, 31, 5183]), (90, .if_icmp .ge 69, 3, [])]
def mc_94_1 : List AQ := [(93, .iload 5, 2, []), (95, .ifCond .ge 64, 3, []), (98, .aload_n 0, 1, []), (99, .getfield 26, 3, [12, 6, 5158]), (102, .aload_n 0, 1, []), (103, .getfield 76, 3, [12, 32, 5184]), (106, .iload 6, 2, []), (108, .iaload, 1, []), (109, .baload, 1, []), (110, .ifCond .eq 40, 3, []), (113, .aload_n 0, 1, []), (114, .aload_n 0, 1, []), (115, .getfield 76, 3, [12, 32, 5184]), (118, .iload 6, 2, []), (120, .iaload, 1, []), (121, .iconst 0, 1, []), (122, .aload_n 0, 1, []), (123, .getfield 70, 3, [12, 29, 5181]), (126, .iload 4, 2, []), (128, .iaload, 1, []), (129, .aload_n 0, 1, []), (130, .getfield 73, 3, [12, 30, 5182]), (133, .iload 4, 2, []), (135, .iaload, 1, []), (136, .aload_n 0, 1, []), (137, .getfield 70, 3, [12, 29, 5181]), (140, .iload 4, 2, []), (142, .iaload, 1, []), (143, .isub, 1, []), (144, .invokevirtual 191, 3, []), (147, .goto 4, 3, []), (150, .iconst (-1), 1, []), (151, .istore 5, 2, []), (153, .iinc 6 1, 3, []), (156, .goto (-72), 3, []), (159, .iload 5, 2, []), (161, .ifCond .ge 5, 3, []), (164, .iconst 0, 1, []), (165, .ireturn, 1, []), (166, .aload_n 0, 1, []), (167, .iload 5, 2, []), (169, .putfield 302, 3, [12, 33, 5185]), (172, .aload_n 0, 1, []), (173, .iload_n 3, 1, []), (174, .iload 5, 2, []), (176, .invokevirtual 305, 3, [93, 7034]), (179, .iinc 4 1, 3, []), (182, .goto (-113), 3, []), (185, .iconst 1, 1, []), (186, .ireturn, 1, [])]
def mc_94 : List AQ := mc_94_0 ++ (mc_94_1)
def mm_94 : AM := ((RX12, ⟨RX12, "find", "(IZ)Z"⟩, prog_14_method_58_code, 7, (some FieldType.boolean)), ([], [], 0, 2, 12, [7025, 1013, 7024, 61]), mc_94)
def mc_95 : List AQ := [(0, .iload_n 0, 1, []), (1, .ifCond .lt 12, 3, []), (4, .iload_n 0, 1, []), (5, .iconst 4, 1, []), (6, .if_icmp .ge 7, 3, []), (9, .iconst 1, 1, []), (10, .goto 4, 3, []), (13, .iconst 0, 1, []), (14, .ireturn, 1, [])]
def mm_95 : AM := ((RX12, ⟨RX12, "isProcess", "(I)Z"⟩, prog_14_method_59_code, 1, (some FieldType.boolean)), ([], [], 1, 1, 12, [7021, 1013, 7020, 0]), mc_95)
def mc_96 : List AQ := [(0, .aload_n 0, 1, []), (1, .iload_n 1, 1, []), (2, .invokestatic 308, 3, [95, 7019]), (5, .ifCond .ne 7, 3, []), (8, .iconst 1, 1, []), (9, .goto 24, 3, []), (12, .aload_n 0, 1, []), (13, .iload_n 1, 1, []), (14, .iconst 0, 1, []), (15, .invokevirtual 311, 3, [94, 7022]), (18, .ifCond .eq 10, 3, []), (21, .aload_n 0, 1, []), (22, .getfield 293, 3, [12, 31, 5183]), (25, .ifCond .ne 7, 3, []), (28, .iconst 2, 1, []), (29, .goto 4, 3, []), (32, .iconst 0, 1, []), (33, .putfield 97, 3, [12, 0, 5152]), (36, .aload_n 0, 1, []), (37, .getfield 97, 3, [12, 0, 5152]), (40, .ifCond .ne 12, 3, []), (43, .aload_n 0, 1, []), (44, .getfield 76, 3, [12, 32, 5184]), (47, .iconst 0, 1, []), (48, .iaload, 1, []), (49, .goto 4, 3, []), (52, .iconst 0, 1, []), (53, .ireturn, 1, [])]
def mm_96 : AM := ((RX12, ⟨RX12, "look", "(I)I"⟩, prog_14_method_60_code, 2, (some FieldType.int)), ([], [], 0, 1, 12, [7018, 1013, 7016, 7017]), mc_96)
def mc_97 : List AQ := [(0, .aload_n 0, 1, []), (1, .iload_n 1, 1, []), (2, .invokestatic 308, 3, [95, 7019]), (5, .ifCond .ne 7, 3, []), (8, .iconst 1, 1, []), (9, .goto 33, 3, []), (12, .aload_n 0, 1, []), (13, .iload_n 1, 1, []), (14, .iconst 0, 1, []), (15, .invokevirtual 311, 3, [94, 7022]), (18, .ifCond .ne 7, 3, []), (21, .iconst 2, 1, []), (22, .goto 20, 3, []), (25, .iload_n 2, 1, []), (26, .ifCond .lt 11, 3, []), (29, .iload_n 2, 1, []), (30, .aload_n 0, 1, []), (31, .getfield 293, 3, [12, 31, 5183]), (34, .if_icmp .lt 7, 3, []), (37, .iconst 3, 1, []), (38, .goto 4, 3, []), (41, .iconst 0, 1, []), (42, .putfield 97, 3, [12, 0, 5152]), (45, .aload_n 0, 1, []), (46, .getfield 97, 3, [12, 0, 5152]), (49, .ifCond .ne 12, 3, []), (52, .aload_n 0, 1, []), (53, .getfield 76, 3, [12, 32, 5184]), (56, .iload_n 2, 1, []), (57, .iaload, 1, []), (58, .goto 4, 3, []), (61, .iconst 0, 1, []), (62, .ireturn, 1, [])]
def mm_97 : AM := ((RX12, ⟨RX12, "member", "(II)I"⟩, prog_14_method_61_code, 3, (some FieldType.int)), ([], [], 0, 2, 12, [7045, 1013, 7043, 7044]), mc_97)
def mc_98 : List AQ := [(0, .iconst 0, 1, []), (1, .istore_n 2, 1, []), (2, .iload_n 2, 1, []), (3, .aload_n 0, 1, []), (4, .getfield 293, 3, [12, 31, 5183]), (7, .if_icmp .ge 23, 3, []), (10, .aload_n 0, 1, []), (11, .getfield 94, 3, [12, 39, 5191]), (14, .iload_n 1, 1, []), (15, .iload_n 2, 1, []), (16, .iadd, 1, []), (17, .aload_n 0, 1, []), (18, .getfield 76, 3, [12, 32, 5184]), (21, .iload_n 2, 1, []), (22, .iaload, 1, []), (23, .iastore, 1, []), (24, .iinc 2 1, 3, []), (27, .goto (-25), 3, []), (30, .return_, 1, [])]
def mm_98 : AM := ((RX12, ⟨RX12, "keep", "(I)V"⟩, prog_14_method_62_code, 3, none), ([], [], 0, 1, 12, [7053, 1013, 7052, 66]), mc_98)
def mc_99 : List AQ := [(0, .aload_n 0, 1, []), (1, .getfield 26, 3, [12, 6, 5158]), (4, .iload_n 3, 1, []), (5, .baload, 1, []), (6, .iload_n 1, 1, []), (7, .if_icmp .ne 7, 3, []), (10, .iconst 1, 1, []), (11, .goto 4, 3, []), (14, .iconst 0, 1, []), (15, .istore 4, 2, []), (17, .iconst 0, 1, []), (18, .istore 5, 2, []), (20, .iload 5, 2, []), (22, .iload_n 2, 1, []), (23, .if_icmp .ge 37, 3, []), (26, .iload 4, 2, []), (28, .ifCond .eq 23, 3, []), (31, .aload_n 0, 1, []), (32, .getfield 26, 3, [12, 6, 5158]), (35, .aload_n 0, 1, []), (36, .getfield 94, 3, [12, 39, 5191]), (39, .iload 5, 2, []), (41, .iaload, 1, []), (42, .baload, 1, []), (43, .iload_n 1, 1, []), (44, .if_icmp .ne 7, 3, []), (47, .iconst 1, 1, []), (48, .goto 4, 3, []), (51, .iconst 0, 1, []), (52, .istore 4, 2, []), (54, .iinc 5 1, 3, []), (57, .goto (-37), 3, []), (60, .iload 4, 2, []), (62, .ireturn, 1, [])]
def mm_99 : AM := ((RX12, ⟨RX12, "areAll", "(ZII)Z"⟩, prog_14_method_63_code, 6, (some FieldType.boolean)), ([], [], 0, 3, 12, [7057, 1013, 7056, 67]), mc_99)
def mc_100_0 : List AQ := [(0, .aload_n 0, 1, []), (1, .iconst 0, 1, []), (2, .putfield 97, 3, [12, 0, 5152]), (5, .iload_n 1, 1, []), (6, .invokestatic 308, 3, [95, 7019]), (9, .ifCond .eq 12, 3, []), (12, .iload_n 2, 1, []), (13, .ifCond .lt 8, 3, []), (16, .iload_n 2, 1, []), (17, .iconst 2, 1, []), (18, .if_icmp .le 9, 3, []), (21, .aload_n 0, 1, []), (22, .iconst 1, 1, []), (23, .invokevirtual 269, 3, [77, 6048]), (26, .ireturn, 1, []), (27, .aload_n 0, 1, []), (28, .iload_n 1, 1, []), (29, .iconst 0, 1, []), (30, .invokevirtual 311, 3, [94, 7022]), (33, .ifCond .eq 10, 3, []), (36, .aload_n 0, 1, []), (37, .getfield 293, 3, [12, 31, 5183]), (40, .ifCond .ne 9, 3, []), (43, .aload_n 0, 1, []), (44, .iconst 2, 1, []), (45, .invokevirtual 269, 3, [77, 6048]), (48, .ireturn, 1, []), (49, .aload_n 0, 1, []), (50, .getfield 293, 3, [12, 31, 5183]), (53, .istore_n 3, 1, []), (54, .aload_n 0, 1, []), (55, .iconst 0, 1, []), (56, .invokevirtual 315, 3, [98, 7050]), (59, .aload_n 0, 1, []), (60, .iload_n 1, 1, []), (61, .iconst 1, 1, []), (62, .invokevirtual 311, 3, [94, 7022]), (65, .ifCond .ne 9, 3, []), (68, .aload_n 0, 1, []), (69, .iconst 2, 1, []), (70, .invokevirtual 269, 3, [77, 6048]), (73, .ireturn, 1, []), (74, .aload_n 0, 1, []), (75, .getfield 302, 3, [12, 33, 5185]), (78, .istore 4, 2, []), (80, .aload_n 0, 1, []), (81, .iconst 1, 1, []), (82, .iload_n 3, 1, []), (83, .iload 4, 2, []), (85, .invokevirtual 318, 3, [99, 7054])]
def mc_100_1 : List AQ := [(88, .ifCond .ne 24, 3, []), (91, .iload_n 2, 1, []), (92, .ifCond .ne 14, 3, []), (95, .aload_n 0, 1, []), (96, .iconst 0, 1, []), (97, .iload_n 3, 1, []), (98, .iload 4, 2, []), (100, .invokevirtual 318, 3, [99, 7054]), (103, .ifCond .ne 9, 3, []), (106, .aload_n 0, 1, []), (107, .iconst 3, 1, []), (108, .invokevirtual 269, 3, [77, 6048]), (111, .ireturn, 1, []), (112, .aload_n 0, 1, []), (113, .getfield 79, 3, [12, 34, 5186]), (116, .iload_n 1, 1, []), (117, .iaload, 1, []), (118, .istore 5, 2, []), (120, .iload_n 2, 1, []), (121, .ifCond .ne 7, 3, []), (124, .iconst 0, 1, []), (125, .goto 7, 3, []), (128, .aload_n 0, 1, []), (129, .getfield 293, 3, [12, 31, 5183]), (132, .istore 6, 2, []), (134, .aload_n 0, 1, []), (135, .iload 5, 2, []), (137, .iload 4, 2, []), (139, .invokevirtual 290, 3, [92, 7038]), (142, .istore 7, 2, []), (144, .iload_n 3, 1, []), (145, .iload 6, 2, []), (147, .iadd, 1, []), (148, .iconst 4, 1, []), (149, .if_icmp .gt 19, 3, []), (152, .iload 7, 2, []), (154, .ifCond .ge 20, 3, []), (157, .aload_n 0, 1, []), (158, .getfield 82, 3, [12, 35, 5187]), (161, .iload 5, 2, []), (163, .iaload, 1, []), (164, .iconst 4, 1, []), (165, .if_icmp .ne 9, 3, []), (168, .aload_n 0, 1, []), (169, .iconst 4, 1, []), (170, .invokevirtual 269, 3, [77, 6048]), (173, .ireturn, 1, []), (174, .iload_n 2, 1, []), (175, .iconst 1, 1, []), (176, .if_icmp .ne 11, 3, [])]
def mc_100_2 : List AQ := [(179, .aload_n 0, 1, []), (180, .iload_n 3, 1, []), (181, .invokevirtual 315, 3, [98, 7050]), (184, .goto 46, 3, []), (187, .iload_n 2, 1, []), (188, .iconst 2, 1, []), (189, .if_icmp .ne 41, 3, []), (192, .iload_n 3, 1, []), (193, .iconst 1, 1, []), (194, .isub, 1, []), (195, .istore 8, 2, []), (197, .iload 8, 2, []), (199, .ifCond .lt 26, 3, []), (202, .aload_n 0, 1, []), (203, .getfield 94, 3, [12, 39, 5191]), (206, .iload 6, 2, []), (208, .iload 8, 2, []), (210, .iadd, 1, []), (211, .aload_n 0, 1, []), (212, .getfield 94, 3, [12, 39, 5191]), (215, .iload 8, 2, []), (217, .iaload, 1, []), (218, .iastore, 1, []), (219, .iinc 8 (-1), 3, []), (222, .goto (-25), 3, []), (225, .aload_n 0, 1, []), (226, .iconst 0, 1, []), (227, .invokevirtual 315, 3, [98, 7050]), (230, .iload 7, 2, []), (232, .ifCond .ge 37, 3, []), (235, .aload_n 0, 1, []), (236, .getfield 82, 3, [12, 35, 5187]), (239, .iload 5, 2, []), (241, .iaload, 1, []), (242, .istore 7, 2, []), (244, .aload_n 0, 1, []), (245, .getfield 85, 3, [12, 36, 5188]), (248, .iconst 4, 1, []), (249, .iload 5, 2, []), (251, .imul, 1, []), (252, .iload 7, 2, []), (254, .iadd, 1, []), (255, .iload 4, 2, []), (257, .iastore, 1, []), (258, .aload_n 0, 1, []), (259, .getfield 82, 3, [12, 35, 5187]), (262, .iload 5, 2, []), (264, .dup2, 1, []), (265, .iaload, 1, []), (266, .iconst 1, 1, [])]
def mc_100_3 : List AQ := [(267, .iadd, 1, []), (268, .iastore, 1, []), (269, .aload_n 0, 1, []), (270, .getfield 88, 3, [12, 37, 5189]), (273, .iconst 4, 1, []), (274, .iload 5, 2, []), (276, .imul, 1, []), (277, .iload 7, 2, []), (279, .iadd, 1, []), (280, .iload_n 3, 1, []), (281, .iload 6, 2, []), (283, .iadd, 1, []), (284, .iastore, 1, []), (285, .iconst 0, 1, []), (286, .istore 8, 2, []), (288, .iload 8, 2, []), (290, .iload_n 3, 1, []), (291, .iload 6, 2, []), (293, .iadd, 1, []), (294, .if_icmp .ge 34, 3, []), (297, .aload_n 0, 1, []), (298, .getfield 91, 3, [12, 38, 5190]), (301, .bipush 16, 2, []), (303, .iload 5, 2, []), (305, .imul, 1, []), (306, .iconst 4, 1, []), (307, .iload 7, 2, []), (309, .imul, 1, []), (310, .iadd, 1, []), (311, .iload 8, 2, []), (313, .iadd, 1, []), (314, .aload_n 0, 1, []), (315, .getfield 94, 3, [12, 39, 5191]), (318, .iload 8, 2, []), (320, .iaload, 1, []), (321, .iastore, 1, []), (322, .iinc 8 1, 3, []), (325, .goto (-37), 3, []), (328, .iload_n 3, 1, []), (329, .iload 6, 2, []), (331, .iadd, 1, []), (332, .ireturn, 1, [])]
def mc_100 : List AQ := mc_100_0 ++ (mc_100_1 ++ (mc_100_2 ++ (mc_100_3)))
def mm_100 : AM := ((RX12, ⟨RX12, "bind", "(II)I"⟩, prog_14_method_64_code, 9, (some FieldType.int)), ([], [], 0, 2, 12, [7049, 1013, 7047, 7048]), mc_100)
def mc_101_0 : List AQ := [(0, .aload_n 0, 1, []), (1, .iload_n 1, 1, []), (2, .invokestatic 308, 3, [95, 7019]), (5, .ifCond .ne 7, 3, []), (8, .iconst 1, 1, []), (9, .goto 34, 3, []), (12, .aload_n 0, 1, []), (13, .iload_n 1, 1, []), (14, .iconst 0, 1, []), (15, .invokevirtual 311, 3, [94, 7022]), (18, .ifCond .eq 20, 3, []), (21, .aload_n 0, 1, []), (22, .aload_n 0, 1, []), (23, .getfield 79, 3, [12, 34, 5186]), (26, .iload_n 1, 1, []), (27, .iaload, 1, []), (28, .aload_n 0, 1, []), (29, .getfield 302, 3, [12, 33, 5185]), (32, .invokevirtual 290, 3, [92, 7038]), (35, .ifCond .ge 7, 3, []), (38, .iconst 2, 1, []), (39, .goto 4, 3, []), (42, .iconst 0, 1, []), (43, .putfield 97, 3, [12, 0, 5152]), (46, .aload_n 0, 1, []), (47, .getfield 97, 3, [12, 0, 5152]), (50, .ifCond .le 5, 3, []), (53, .iconst 0, 1, []), (54, .ireturn, 1, []), (55, .aload_n 0, 1, []), (56, .getfield 79, 3, [12, 34, 5186]), (59, .iload_n 1, 1, []), (60, .iaload, 1, []), (61, .istore_n 2, 1, []), (62, .aload_n 0, 1, []), (63, .iload_n 2, 1, []), (64, .aload_n 0, 1, []), (65, .getfield 302, 3, [12, 33, 5185]), (68, .invokevirtual 290, 3, [92, 7038]), (71, .istore_n 3, 1, []), (72, .aload_n 0, 1, []), (73, .getfield 82, 3, [12, 35, 5187]), (76, .iload_n 2, 1, []), (77, .dup2, 1, []), (78, .iaload, 1, []), (79, .iconst 1, 1, []), (80, .isub, 1, []), (81, .iastore, 1, []), (82, .aload_n 0, 1, []), (83, .iload_n 2, 1, [])]
def mc_101_1 : List AQ := [(84, .aload_n 0, 1, []), (85, .getfield 82, 3, [12, 35, 5187]), (88, .iload_n 2, 1, []), (89, .iaload, 1, []), (90, .iload_n 2, 1, []), (91, .iload_n 3, 1, []), (92, .invokevirtual 322, 3, []), (95, .aload_n 0, 1, []), (96, .getfield 82, 3, [12, 35, 5187]), (99, .iload_n 2, 1, []), (100, .iaload, 1, []), (101, .ireturn, 1, [])]
def mc_101 : List AQ := mc_101_0 ++ (mc_101_1)
def mm_101 : AM := ((RX12, ⟨RX12, "unbind", "(I)I"⟩, prog_14_method_66_code, 4, (some FieldType.int)), ([], [], 0, 1, 12, [7061, 1013, 7059, 7060]), mc_101)
def mc_102_0 : List AQ := [(0, .aload_n 0, 1, []), (1, .iconst 0, 1, []), (2, .putfield 97, 3, [12, 0, 5152]), (5, .iload_n 1, 1, []), (6, .invokestatic 308, 3, [95, 7019]), (9, .ifCond .eq 15, 3, []), (12, .iload_n 2, 1, []), (13, .invokestatic 308, 3, [95, 7019]), (16, .ifCond .eq 8, 3, []), (19, .iload_n 1, 1, []), (20, .iload_n 2, 1, []), (21, .if_icmp .ne 5, 3, []), (24, .iconst 0, 1, []), (25, .ireturn, 1, []), (26, .aload_n 0, 1, []), (27, .getfield 79, 3, [12, 34, 5186]), (30, .iload_n 1, 1, []), (31, .iaload, 1, []), (32, .istore 4, 2, []), (34, .iload_n 3, 1, []), (35, .ifCond .eq 13, 3, []), (38, .aload_n 0, 1, []), (39, .getfield 79, 3, [12, 34, 5186]), (42, .iload_n 2, 1, []), (43, .iload 4, 2, []), (45, .iastore, 1, []), (46, .iconst 1, 1, []), (47, .ireturn, 1, []), (48, .iconst 0, 1, []), (49, .istore 5, 2, []), (51, .aload_n 0, 1, []), (52, .iload 5, 2, []), (54, .iload_n 2, 1, []), (55, .invokevirtual 326, 3, [103, 7070]), (58, .ifCond .eq 9, 3, []), (61, .iinc 5 1, 3, []), (64, .goto (-13), 3, []), (67, .aload_n 0, 1, []), (68, .getfield 82, 3, [12, 35, 5187]), (71, .iload 5, 2, []), (73, .aload_n 0, 1, []), (74, .getfield 82, 3, [12, 35, 5187]), (77, .iload 4, 2, []), (79, .iaload, 1, []), (80, .iastore, 1, []), (81, .iconst 0, 1, []), (82, .istore 6, 2, []), (84, .iload 6, 2, []), (86, .aload_n 0, 1, []), (87, .getfield 82, 3, [12, 35, 5187])]
def mc_102_1 : List AQ := [(90, .iload 4, 2, []), (92, .iaload, 1, []), (93, .if_icmp .ge 21, 3, []), (96, .aload_n 0, 1, []), (97, .iload 4, 2, []), (99, .iload 6, 2, []), (101, .iload 5, 2, []), (103, .iload 6, 2, []), (105, .invokevirtual 322, 3, []), (108, .iinc 6 1, 3, []), (111, .goto (-27), 3, []), (114, .aload_n 0, 1, []), (115, .getfield 79, 3, [12, 34, 5186]), (118, .iload_n 2, 1, []), (119, .iload 5, 2, []), (121, .iastore, 1, []), (122, .iconst 1, 1, []), (123, .ireturn, 1, [])]
def mc_102 : List AQ := mc_102_0 ++ (mc_102_1)
def mm_102 : AM := ((RX12, ⟨RX12, "fork", "(IIZ)Z"⟩, prog_14_method_67_code, 7, (some FieldType.boolean)), ([], [], 0, 3, 12, [7069, 1013, 7067, 7068]), mc_102)
def mc_103 : List AQ := [(0, .iconst 0, 1, []), (1, .istore_n 3, 1, []), (2, .iconst 0, 1, []), (3, .istore 4, 2, []), (5, .iload 4, 2, []), (7, .iconst 4, 1, []), (8, .if_icmp .ge 36, 3, []), (11, .iload_n 3, 1, []), (12, .ifCond .ne 20, 3, []), (15, .iload 4, 2, []), (17, .iload_n 2, 1, []), (18, .if_icmp .eq 18, 3, []), (21, .aload_n 0, 1, []), (22, .getfield 79, 3, [12, 34, 5186]), (25, .iload 4, 2, []), (27, .iaload, 1, []), (28, .iload_n 1, 1, []), (29, .if_icmp .ne 7, 3, []), (32, .iconst 1, 1, []), (33, .goto 4, 3, []), (36, .iconst 0, 1, []), (37, .istore_n 3, 1, []), (38, .iinc 4 1, 3, []), (41, .goto (-36), 3, []), (44, .iload_n 3, 1, []), (45, .ireturn, 1, [])]
def mm_103 : AM := ((RX12, ⟨RX12, "isUsed", "(II)Z"⟩, prog_14_method_68_code, 5, (some FieldType.boolean)), ([], [], 0, 2, 12, [7073, 1013, 7072, 69]), mc_103)
def mc_104 : List AQ := [(0, .aload_n 0, 1, []), (1, .lload_n 1, 1, []), (2, .iload_n 3, 1, []), (3, .invokevirtual 7, 3, [58, 2185]), (6, .goto 11, 3, []), (9, .astore 4, 2, []), (11, .iconst 1, 1, []), (12, .ireturn, 1, []), (13, .astore 4, 2, []), (15, .iconst 2, 1, []), (16, .ireturn, 1, []), (17, .iconst 0, 1, []), (18, .ireturn, 1, [])]
def mm_104 : AM := ((RL, ⟨RL, "feed", "(LMountYard;JI)I"⟩, method_3_code, 5, (some FieldType.int)), ([(0, 6, 9, 13), (0, 6, 13, 15)], [(0, 2183), (1, 2184)], 1, 3, 0, [2182, 1000, 2181, 0]), mc_104)
def mc_105 : List AQ := [(0, .aload_n 1, 1, []), (1, .iconst 0, 1, []), (2, .aload_n 0, 1, []), (3, .invokevirtual 17, 3, [59, 3033]), (6, .i2l, 1, []), (7, .lastore, 1, []), (8, .goto 9, 3, []), (11, .astore_n 2, 1, []), (12, .iconst 1, 1, []), (13, .ireturn, 1, []), (14, .astore_n 2, 1, []), (15, .iconst 2, 1, []), (16, .ireturn, 1, []), (17, .iconst 0, 1, []), (18, .ireturn, 1, [])]
def mm_105 : AM := ((RL, ⟨RL, "serve", "(LMountYard;[J)I"⟩, method_4_code, 3, (some FieldType.int)), ([(0, 8, 11, 15), (0, 8, 14, 21)], [(1, 2184), (2, 3032)], 1, 2, 0, [3031, 1000, 3030, 0]), mc_105)
def mc_106 : List AQ := [(0, .aload_n 2, 1, []), (1, .iconst 0, 1, []), (2, .aload_n 0, 1, []), (3, .iload_n 1, 1, []), (4, .invokevirtual 23, 3, [61, 4183]), (7, .i2l, 1, []), (8, .lastore, 1, []), (9, .goto 6, 3, []), (12, .astore_n 3, 1, []), (13, .iconst 1, 1, []), (14, .ireturn, 1, []), (15, .iconst 0, 1, []), (16, .ireturn, 1, [])]
def mm_106 : AM := ((RL, ⟨RL, "out", "(LMountYard;I[J)I"⟩, method_5_code, 4, (some FieldType.int)), ([(0, 9, 12, 27)], [(3, 4182)], 1, 3, 0, [4181, 1000, 4180, 0]), mc_106)
def mc_107 : List AQ := [(0, .aload_n 3, 1, []), (1, .iconst 0, 1, []), (2, .aload_n 0, 1, []), (3, .iload_n 1, 1, []), (4, .iload_n 2, 1, []), (5, .invokevirtual 29, 3, [64, 4210]), (8, .i2l, 1, []), (9, .lastore, 1, []), (10, .goto 7, 3, []), (13, .astore 4, 2, []), (15, .iconst 1, 1, []), (16, .ireturn, 1, []), (17, .iconst 0, 1, []), (18, .ireturn, 1, [])]
def mm_107 : AM := ((RL, ⟨RL, "about", "(LMountYard;II[J)I"⟩, method_6_code, 5, (some FieldType.int)), ([(0, 10, 13, 27)], [(3, 4182)], 1, 4, 0, [4209, 1000, 4208, 0]), mc_107)
def mc_108 : List AQ := [(0, .aload_n 3, 1, []), (1, .iconst 0, 1, []), (2, .aload_n 0, 1, []), (3, .iload_n 1, 1, []), (4, .iload_n 2, 1, []), (5, .invokevirtual 33, 3, [65, 4222]), (8, .i2l, 1, []), (9, .lastore, 1, []), (10, .goto 7, 3, []), (13, .astore 4, 2, []), (15, .iconst 1, 1, []), (16, .ireturn, 1, []), (17, .iconst 0, 1, []), (18, .ireturn, 1, [])]
def mm_108 : AM := ((RL, ⟨RL, "data", "(LMountYard;II[J)I"⟩, method_7_code, 5, (some FieldType.int)), ([(0, 10, 13, 27)], [(3, 4182)], 1, 4, 0, [4221, 1000, 4220, 0]), mc_108)
def mc_109 : List AQ := [(0, .aload_n 2, 1, []), (1, .iconst 0, 1, []), (2, .aload_n 0, 1, []), (3, .iload_n 1, 1, []), (4, .invokevirtual 36, 3, [69, 4229]), (7, .i2l, 1, []), (8, .lastore, 1, []), (9, .goto 9, 3, []), (12, .astore_n 3, 1, []), (13, .iconst 1, 1, []), (14, .ireturn, 1, []), (15, .astore_n 3, 1, []), (16, .iconst 2, 1, []), (17, .ireturn, 1, []), (18, .iconst 0, 1, []), (19, .ireturn, 1, [])]
def mm_109 : AM := ((RL, ⟨RL, "look", "(LMountYard;I[J)I"⟩, method_8_code, 4, (some FieldType.int)), ([(0, 9, 12, 13), (0, 9, 15, 21)], [(0, 2183), (2, 3032)], 1, 3, 0, [4228, 1000, 4227, 0]), mc_109)
def mc_110 : List AQ := [(0, .aload_n 3, 1, []), (1, .iconst 0, 1, []), (2, .aload_n 0, 1, []), (3, .iload_n 1, 1, []), (4, .iload_n 2, 1, []), (5, .invokevirtual 39, 3, [70, 5055]), (8, .i2l, 1, []), (9, .lastore, 1, []), (10, .goto 15, 3, []), (13, .astore 4, 2, []), (15, .iconst 1, 1, []), (16, .ireturn, 1, []), (17, .astore 4, 2, []), (19, .iconst 2, 1, []), (20, .ireturn, 1, []), (21, .astore 4, 2, []), (23, .iconst 3, 1, []), (24, .ireturn, 1, []), (25, .iconst 0, 1, []), (26, .ireturn, 1, [])]
def mm_110 : AM := ((RL, ⟨RL, "member", "(LMountYard;II[J)I"⟩, method_9_code, 5, (some FieldType.int)), ([(0, 10, 13, 13), (0, 10, 17, 21), (0, 10, 21, 27)], [(0, 2183), (2, 3032), (3, 4182)], 1, 4, 0, [5054, 1000, 5053, 0]), mc_110)
def mc_111 : List AQ := [(0, .aload_n 3, 1, []), (1, .iconst 0, 1, []), (2, .aload_n 0, 1, []), (3, .iload_n 1, 1, []), (4, .iload_n 2, 1, []), (5, .invokevirtual 42, 3, [71, 5067]), (8, .i2l, 1, []), (9, .lastore, 1, []), (10, .goto 19, 3, []), (13, .astore 4, 2, []), (15, .iconst 1, 1, []), (16, .ireturn, 1, []), (17, .astore 4, 2, []), (19, .iconst 2, 1, []), (20, .ireturn, 1, []), (21, .astore 4, 2, []), (23, .iconst 3, 1, []), (24, .ireturn, 1, []), (25, .astore 4, 2, []), (27, .iconst 4, 1, []), (28, .ireturn, 1, []), (29, .iconst 0, 1, []), (30, .ireturn, 1, [])]
def mm_111 : AM := ((RL, ⟨RL, "bind", "(LMountYard;II[J)I"⟩, method_10_code, 5, (some FieldType.int)), ([(0, 10, 13, 13), (0, 10, 17, 21), (0, 10, 21, 45), (0, 10, 25, 15)], [(0, 2183), (2, 3032), (4, 5066), (1, 2184)], 1, 4, 0, [5065, 1000, 5064, 0]), mc_111)
def mc_112 : List AQ := [(0, .aload_n 2, 1, []), (1, .iconst 0, 1, []), (2, .aload_n 0, 1, []), (3, .iload_n 1, 1, []), (4, .invokevirtual 47, 3, [72, 5129]), (7, .i2l, 1, []), (8, .lastore, 1, []), (9, .goto 9, 3, []), (12, .astore_n 3, 1, []), (13, .iconst 1, 1, []), (14, .ireturn, 1, []), (15, .astore_n 3, 1, []), (16, .iconst 2, 1, []), (17, .ireturn, 1, []), (18, .iconst 0, 1, []), (19, .ireturn, 1, [])]
def mm_112 : AM := ((RL, ⟨RL, "unbind", "(LMountYard;I[J)I"⟩, method_11_code, 4, (some FieldType.int)), ([(0, 9, 12, 13), (0, 9, 15, 21)], [(0, 2183), (2, 3032)], 1, 3, 0, [5128, 1000, 5127, 0]), mc_112)
def mc_113_0 : List AQ := [(0, .new 8, 3, [11, 1028, 1029, 1001]), (3, .dup, 1, []), (4, .invokespecial 50, 3, [57, 1030]), (7, .astore_n 1, 1, []), (8, .new 51, 3, [12, 5146, 5147, 1013]), (11, .dup, 1, []), (12, .invokespecial 53, 3, [75, 5148]), (15, .astore_n 2, 1, []), (16, .iconst 1, 1, []), (17, .newarray .long, 2, [2, 6034]), (19, .astore_n 3, 1, []), (20, .iconst 0, 1, []), (21, .istore 4, 2, []), (23, .iload 4, 2, []), (25, .aload_n 0, 1, []), (26, .arraylength, 1, []), (27, .iconst 4, 1, []), (28, .isub, 1, []), (29, .if_icmp .gt 894, 3, []), (32, .aload_n 0, 1, []), (33, .iload 4, 2, []), (35, .iaload, 1, []), (36, .bipush 15, 2, []), (38, .iand, 1, []), (39, .tableswitch 878 0 15 #[77, 157, 201, 242, 298, 323, 336, 404, 472, 485, 554, 565, 621, 689, 757, 813], 77, []), (116, .aload_n 1, 1, []), (117, .aload_n 0, 1, []), (118, .iload 4, 2, []), (120, .iconst 1, 1, []), (121, .iadd, 1, []), (122, .iaload, 1, []), (123, .i2l, 1, []), (124, .bipush 32, 2, []), (126, .lshl, 1, []), (127, .aload_n 0, 1, []), (128, .iload 4, 2, []), (130, .iconst 2, 1, []), (131, .iadd, 1, []), (132, .iaload, 1, []), (133, .i2l, 1, []), (134, .ldc2_w 54, 3, [4294967295, 7074]), (137, .land, 1, []), (138, .lor, 1, []), (139, .aload_n 0, 1, []), (140, .iload 4, 2, []), (142, .iconst 3, 1, []), (143, .iadd, 1, []), (144, .iaload, 1, []), (145, .invokestatic 56, 3, [104, 2180]), (148, .istore 5, 2, [])]
def mc_113_1 : List AQ := [(150, .aload_n 2, 1, []), (151, .aload_n 0, 1, []), (152, .iload 4, 2, []), (154, .iconst 1, 1, []), (155, .iadd, 1, []), (156, .iaload, 1, []), (157, .i2l, 1, []), (158, .bipush 32, 2, []), (160, .lshl, 1, []), (161, .aload_n 0, 1, []), (162, .iload 4, 2, []), (164, .iconst 2, 1, []), (165, .iadd, 1, []), (166, .iaload, 1, []), (167, .i2l, 1, []), (168, .ldc2_w 54, 3, [4294967295, 7074]), (171, .land, 1, []), (172, .lor, 1, []), (173, .aload_n 0, 1, []), (174, .iload 4, 2, []), (176, .iconst 3, 1, []), (177, .iadd, 1, []), (178, .iaload, 1, []), (179, .invokevirtual 61, 3, [78, 6039]), (182, .aload_n 2, 1, []), (183, .invokevirtual 62, 3, [76, 6035]), (186, .iload 5, 2, []), (188, .if_icmp .eq 5, 3, []), (191, .iconst 0, 1, []), (192, .ireturn, 1, []), (193, .goto 724, 3, []), (196, .aload_n 1, 1, []), (197, .aload_n 3, 1, []), (198, .invokestatic 65, 3, [105, 3029]), (201, .istore 5, 2, []), (203, .aload_n 2, 1, []), (204, .invokevirtual 68, 3, [79, 6044]), (207, .istore 6, 2, []), (209, .aload_n 2, 1, []), (210, .invokevirtual 62, 3, [76, 6035]), (213, .iload 5, 2, []), (215, .if_icmp .eq 5, 3, []), (218, .iconst 0, 1, []), (219, .ireturn, 1, []), (220, .iload 5, 2, []), (222, .ifCond .ne 15, 3, []), (225, .aload_n 3, 1, []), (226, .iconst 0, 1, []), (227, .laload, 1, []), (228, .iload 6, 2, [])]
def mc_113_2 : List AQ := [(230, .i2l, 1, []), (231, .lcmp, 1, []), (232, .ifCond .eq 5, 3, []), (235, .iconst 0, 1, []), (236, .ireturn, 1, []), (237, .goto 680, 3, []), (240, .aload_n 1, 1, []), (241, .aload_n 0, 1, []), (242, .iload 4, 2, []), (244, .iconst 1, 1, []), (245, .iadd, 1, []), (246, .iaload, 1, []), (247, .ifCond .eq 7, 3, []), (250, .iconst 1, 1, []), (251, .goto 4, 3, []), (254, .iconst 0, 1, []), (255, .invokevirtual 69, 3, [60, 2065]), (258, .aload_n 2, 1, []), (259, .aload_n 0, 1, []), (260, .iload 4, 2, []), (262, .iconst 1, 1, []), (263, .iadd, 1, []), (264, .iaload, 1, []), (265, .ifCond .eq 7, 3, []), (268, .iconst 1, 1, []), (269, .goto 4, 3, []), (272, .iconst 0, 1, []), (273, .invokevirtual 73, 3, [80, 6216]), (276, .if_icmp .eq 641, 3, []), (279, .iconst 0, 1, []), (280, .ireturn, 1, []), (281, .aload_n 1, 1, []), (282, .aload_n 0, 1, []), (283, .iload 4, 2, []), (285, .iconst 1, 1, []), (286, .iadd, 1, []), (287, .iaload, 1, []), (288, .aload_n 3, 1, []), (289, .invokestatic 74, 3, [106, 4179]), (292, .istore 5, 2, []), (294, .aload_n 2, 1, []), (295, .aload_n 0, 1, []), (296, .iload 4, 2, []), (298, .iconst 1, 1, []), (299, .iadd, 1, []), (300, .iaload, 1, []), (301, .invokevirtual 77, 3, [81, 6220]), (304, .istore 6, 2, []), (306, .aload_n 2, 1, []), (307, .invokevirtual 62, 3, [76, 6035])]
def mc_113_3 : List AQ := [(310, .iload 5, 2, []), (312, .if_icmp .eq 5, 3, []), (315, .iconst 0, 1, []), (316, .ireturn, 1, []), (317, .iload 5, 2, []), (319, .ifCond .ne 15, 3, []), (322, .aload_n 3, 1, []), (323, .iconst 0, 1, []), (324, .laload, 1, []), (325, .iload 6, 2, []), (327, .i2l, 1, []), (328, .lcmp, 1, []), (329, .ifCond .eq 5, 3, []), (332, .iconst 0, 1, []), (333, .ireturn, 1, []), (334, .goto 583, 3, []), (337, .aload_n 1, 1, []), (338, .aload_n 0, 1, []), (339, .iload 4, 2, []), (341, .iconst 1, 1, []), (342, .iadd, 1, []), (343, .iaload, 1, []), (344, .invokevirtual 78, 3, [62, 2073]), (347, .aload_n 2, 1, []), (348, .aload_n 0, 1, []), (349, .iload 4, 2, []), (351, .iconst 1, 1, []), (352, .iadd, 1, []), (353, .iaload, 1, []), (354, .invokevirtual 82, 3, [82, 6224]), (357, .if_icmp .eq 560, 3, []), (360, .iconst 0, 1, []), (361, .ireturn, 1, []), (362, .aload_n 1, 1, []), (363, .invokevirtual 83, 3, [63, 2084]), (366, .aload_n 2, 1, []), (367, .invokevirtual 86, 3, [83, 6228]), (370, .if_icmp .eq 547, 3, []), (373, .iconst 0, 1, []), (374, .ireturn, 1, []), (375, .aload_n 1, 1, []), (376, .aload_n 0, 1, []), (377, .iload 4, 2, []), (379, .iconst 1, 1, []), (380, .iadd, 1, []), (381, .iaload, 1, []), (382, .aload_n 0, 1, []), (383, .iload 4, 2, []), (385, .iconst 2, 1, []), (386, .iadd, 1, [])]
def mc_113_4 : List AQ := [(387, .iaload, 1, []), (388, .aload_n 3, 1, []), (389, .invokestatic 87, 3, [107, 4207]), (392, .istore 5, 2, []), (394, .aload_n 2, 1, []), (395, .aload_n 0, 1, []), (396, .iload 4, 2, []), (398, .iconst 1, 1, []), (399, .iadd, 1, []), (400, .iaload, 1, []), (401, .aload_n 0, 1, []), (402, .iload 4, 2, []), (404, .iconst 2, 1, []), (405, .iadd, 1, []), (406, .iaload, 1, []), (407, .invokevirtual 90, 3, [84, 6232]), (410, .istore 6, 2, []), (412, .aload_n 2, 1, []), (413, .invokevirtual 62, 3, [76, 6035]), (416, .iload 5, 2, []), (418, .if_icmp .eq 5, 3, []), (421, .iconst 0, 1, []), (422, .ireturn, 1, []), (423, .iload 5, 2, []), (425, .ifCond .ne 15, 3, []), (428, .aload_n 3, 1, []), (429, .iconst 0, 1, []), (430, .laload, 1, []), (431, .iload 6, 2, []), (433, .i2l, 1, []), (434, .lcmp, 1, []), (435, .ifCond .eq 5, 3, []), (438, .iconst 0, 1, []), (439, .ireturn, 1, []), (440, .goto 477, 3, []), (443, .aload_n 1, 1, []), (444, .aload_n 0, 1, []), (445, .iload 4, 2, []), (447, .iconst 1, 1, []), (448, .iadd, 1, []), (449, .iaload, 1, []), (450, .aload_n 0, 1, []), (451, .iload 4, 2, []), (453, .iconst 2, 1, []), (454, .iadd, 1, []), (455, .iaload, 1, []), (456, .aload_n 3, 1, []), (457, .invokestatic 91, 3, [108, 4219]), (460, .istore 5, 2, []), (462, .aload_n 2, 1, [])]
def mc_113_5 : List AQ := [(463, .aload_n 0, 1, []), (464, .iload 4, 2, []), (466, .iconst 1, 1, []), (467, .iadd, 1, []), (468, .iaload, 1, []), (469, .aload_n 0, 1, []), (470, .iload 4, 2, []), (472, .iconst 2, 1, []), (473, .iadd, 1, []), (474, .iaload, 1, []), (475, .invokevirtual 93, 3, [85, 6236]), (478, .istore 6, 2, []), (480, .aload_n 2, 1, []), (481, .invokevirtual 62, 3, [76, 6035]), (484, .iload 5, 2, []), (486, .if_icmp .eq 5, 3, []), (489, .iconst 0, 1, []), (490, .ireturn, 1, []), (491, .iload 5, 2, []), (493, .ifCond .ne 15, 3, []), (496, .aload_n 3, 1, []), (497, .iconst 0, 1, []), (498, .laload, 1, []), (499, .iload 6, 2, []), (501, .i2l, 1, []), (502, .lcmp, 1, []), (503, .ifCond .eq 5, 3, []), (506, .iconst 0, 1, []), (507, .ireturn, 1, []), (508, .goto 409, 3, []), (511, .aload_n 1, 1, []), (512, .invokevirtual 94, 3, [66, 2096]), (515, .aload_n 2, 1, []), (516, .invokevirtual 97, 3, [86, 7000]), (519, .if_icmp .eq 398, 3, []), (522, .iconst 0, 1, []), (523, .ireturn, 1, []), (524, .aload_n 1, 1, []), (525, .aload_n 0, 1, []), (526, .iload 4, 2, []), (528, .iconst 1, 1, []), (529, .iadd, 1, []), (530, .iaload, 1, []), (531, .i2l, 1, []), (532, .bipush 32, 2, []), (534, .lshl, 1, []), (535, .aload_n 0, 1, []), (536, .iload 4, 2, []), (538, .iconst 2, 1, []), (539, .iadd, 1, [])]
def mc_113_6 : List AQ := [(540, .iaload, 1, []), (541, .i2l, 1, []), (542, .ldc2_w 54, 3, [4294967295, 7074]), (545, .land, 1, []), (546, .lor, 1, []), (547, .aload_n 0, 1, []), (548, .iload 4, 2, []), (550, .iconst 3, 1, []), (551, .iadd, 1, []), (552, .iaload, 1, []), (553, .invokevirtual 98, 3, [67, 2104]), (556, .aload_n 2, 1, []), (557, .aload_n 0, 1, []), (558, .iload 4, 2, []), (560, .iconst 1, 1, []), (561, .iadd, 1, []), (562, .iaload, 1, []), (563, .i2l, 1, []), (564, .bipush 32, 2, []), (566, .lshl, 1, []), (567, .aload_n 0, 1, []), (568, .iload 4, 2, []), (570, .iconst 2, 1, []), (571, .iadd, 1, []), (572, .iaload, 1, []), (573, .i2l, 1, []), (574, .ldc2_w 54, 3, [4294967295, 7074]), (577, .land, 1, []), (578, .lor, 1, []), (579, .aload_n 0, 1, []), (580, .iload 4, 2, []), (582, .iconst 3, 1, []), (583, .iadd, 1, []), (584, .iaload, 1, []), (585, .invokevirtual 102, 3, [88, 7004]), (588, .if_icmp .eq 329, 3, []), (591, .iconst 0, 1, []), (592, .ireturn, 1, []), (593, .aload_n 1, 1, []), (594, .invokevirtual 103, 3, [68, 2115]), (597, .aload_n 2, 1, []), (598, .invokevirtual 106, 3, [89, 7011]), (601, .goto 316, 3, []), (604, .aload_n 1, 1, []), (605, .aload_n 0, 1, []), (606, .iload 4, 2, []), (608, .iconst 1, 1, []), (609, .iadd, 1, []), (610, .iaload, 1, []), (611, .aload_n 3, 1, [])]
def mc_113_7 : List AQ := [(612, .invokestatic 107, 3, [109, 4226]), (615, .istore 5, 2, []), (617, .aload_n 2, 1, []), (618, .aload_n 0, 1, []), (619, .iload 4, 2, []), (621, .iconst 1, 1, []), (622, .iadd, 1, []), (623, .iaload, 1, []), (624, .invokevirtual 109, 3, [96, 7015]), (627, .istore 6, 2, []), (629, .aload_n 2, 1, []), (630, .invokevirtual 62, 3, [76, 6035]), (633, .iload 5, 2, []), (635, .if_icmp .eq 5, 3, []), (638, .iconst 0, 1, []), (639, .ireturn, 1, []), (640, .iload 5, 2, []), (642, .ifCond .ne 15, 3, []), (645, .aload_n 3, 1, []), (646, .iconst 0, 1, []), (647, .laload, 1, []), (648, .iload 6, 2, []), (650, .i2l, 1, []), (651, .lcmp, 1, []), (652, .ifCond .eq 5, 3, []), (655, .iconst 0, 1, []), (656, .ireturn, 1, []), (657, .goto 260, 3, []), (660, .aload_n 1, 1, []), (661, .aload_n 0, 1, []), (662, .iload 4, 2, []), (664, .iconst 1, 1, []), (665, .iadd, 1, []), (666, .iaload, 1, []), (667, .aload_n 0, 1, []), (668, .iload 4, 2, []), (670, .iconst 2, 1, []), (671, .iadd, 1, []), (672, .iaload, 1, []), (673, .aload_n 3, 1, []), (674, .invokestatic 110, 3, [110, 5052]), (677, .istore 5, 2, []), (679, .aload_n 2, 1, []), (680, .aload_n 0, 1, []), (681, .iload 4, 2, []), (683, .iconst 1, 1, []), (684, .iadd, 1, []), (685, .iaload, 1, []), (686, .aload_n 0, 1, []), (687, .iload 4, 2, [])]
def mc_113_8 : List AQ := [(689, .iconst 2, 1, []), (690, .iadd, 1, []), (691, .iaload, 1, []), (692, .invokevirtual 112, 3, [97, 7042]), (695, .istore 6, 2, []), (697, .aload_n 2, 1, []), (698, .invokevirtual 62, 3, [76, 6035]), (701, .iload 5, 2, []), (703, .if_icmp .eq 5, 3, []), (706, .iconst 0, 1, []), (707, .ireturn, 1, []), (708, .iload 5, 2, []), (710, .ifCond .ne 15, 3, []), (713, .aload_n 3, 1, []), (714, .iconst 0, 1, []), (715, .laload, 1, []), (716, .iload 6, 2, []), (718, .i2l, 1, []), (719, .lcmp, 1, []), (720, .ifCond .eq 5, 3, []), (723, .iconst 0, 1, []), (724, .ireturn, 1, []), (725, .goto 192, 3, []), (728, .aload_n 1, 1, []), (729, .aload_n 0, 1, []), (730, .iload 4, 2, []), (732, .iconst 1, 1, []), (733, .iadd, 1, []), (734, .iaload, 1, []), (735, .aload_n 0, 1, []), (736, .iload 4, 2, []), (738, .iconst 2, 1, []), (739, .iadd, 1, []), (740, .iaload, 1, []), (741, .aload_n 3, 1, []), (742, .invokestatic 113, 3, [111, 5063]), (745, .istore 5, 2, []), (747, .aload_n 2, 1, []), (748, .aload_n 0, 1, []), (749, .iload 4, 2, []), (751, .iconst 1, 1, []), (752, .iadd, 1, []), (753, .iaload, 1, []), (754, .aload_n 0, 1, []), (755, .iload 4, 2, []), (757, .iconst 2, 1, []), (758, .iadd, 1, []), (759, .iaload, 1, []), (760, .invokevirtual 115, 3, [100, 7046]), (763, .istore 6, 2, [])]
def mc_113_9 : List AQ := [(765, .aload_n 2, 1, []), (766, .invokevirtual 62, 3, [76, 6035]), (769, .iload 5, 2, []), (771, .if_icmp .eq 5, 3, []), (774, .iconst 0, 1, []), (775, .ireturn, 1, []), (776, .iload 5, 2, []), (778, .ifCond .ne 15, 3, []), (781, .aload_n 3, 1, []), (782, .iconst 0, 1, []), (783, .laload, 1, []), (784, .iload 6, 2, []), (786, .i2l, 1, []), (787, .lcmp, 1, []), (788, .ifCond .eq 5, 3, []), (791, .iconst 0, 1, []), (792, .ireturn, 1, []), (793, .goto 124, 3, []), (796, .aload_n 1, 1, []), (797, .aload_n 0, 1, []), (798, .iload 4, 2, []), (800, .iconst 1, 1, []), (801, .iadd, 1, []), (802, .iaload, 1, []), (803, .aload_n 3, 1, []), (804, .invokestatic 116, 3, [112, 5126]), (807, .istore 5, 2, []), (809, .aload_n 2, 1, []), (810, .aload_n 0, 1, []), (811, .iload 4, 2, []), (813, .iconst 1, 1, []), (814, .iadd, 1, []), (815, .iaload, 1, []), (816, .invokevirtual 118, 3, [101, 7058]), (819, .istore 6, 2, []), (821, .aload_n 2, 1, []), (822, .invokevirtual 62, 3, [76, 6035]), (825, .iload 5, 2, []), (827, .if_icmp .eq 5, 3, []), (830, .iconst 0, 1, []), (831, .ireturn, 1, []), (832, .iload 5, 2, []), (834, .ifCond .ne 15, 3, []), (837, .aload_n 3, 1, []), (838, .iconst 0, 1, []), (839, .laload, 1, []), (840, .iload 6, 2, []), (842, .i2l, 1, []), (843, .lcmp, 1, []), (844, .ifCond .eq 5, 3, [])]
def mc_113_10 : List AQ := [(847, .iconst 0, 1, []), (848, .ireturn, 1, []), (849, .goto 68, 3, []), (852, .aload_n 1, 1, []), (853, .aload_n 0, 1, []), (854, .iload 4, 2, []), (856, .iconst 1, 1, []), (857, .iadd, 1, []), (858, .iaload, 1, []), (859, .aload_n 0, 1, []), (860, .iload 4, 2, []), (862, .iconst 2, 1, []), (863, .iadd, 1, []), (864, .iaload, 1, []), (865, .aload_n 0, 1, []), (866, .iload 4, 2, []), (868, .iconst 3, 1, []), (869, .iadd, 1, []), (870, .iaload, 1, []), (871, .ifCond .eq 7, 3, []), (874, .iconst 1, 1, []), (875, .goto 4, 3, []), (878, .iconst 0, 1, []), (879, .invokevirtual 119, 3, [73, 2123]), (882, .aload_n 2, 1, []), (883, .aload_n 0, 1, []), (884, .iload 4, 2, []), (886, .iconst 1, 1, []), (887, .iadd, 1, []), (888, .iaload, 1, []), (889, .aload_n 0, 1, []), (890, .iload 4, 2, []), (892, .iconst 2, 1, []), (893, .iadd, 1, []), (894, .iaload, 1, []), (895, .aload_n 0, 1, []), (896, .iload 4, 2, []), (898, .iconst 3, 1, []), (899, .iadd, 1, []), (900, .iaload, 1, []), (901, .ifCond .eq 7, 3, []), (904, .iconst 1, 1, []), (905, .goto 4, 3, []), (908, .iconst 0, 1, []), (909, .invokevirtual 123, 3, [102, 7066]), (912, .if_icmp .eq 5, 3, []), (915, .iconst 0, 1, []), (916, .ireturn, 1, []), (917, .iinc 4 4, 3, []), (920, .goto (-897), 3, [])]
def mc_113_11 : List AQ := [(923, .iconst 1, 1, []), (924, .ireturn, 1, [])]
def mc_113 : List AQ := mc_113_0 ++ (mc_113_1 ++ (mc_113_2 ++ (mc_113_3 ++ (mc_113_4 ++ (mc_113_5 ++ (mc_113_6 ++ (mc_113_7 ++ (mc_113_8 ++ (mc_113_9 ++ (mc_113_10 ++ (mc_113_11)))))))))))
def mm_113 : AM := ((RL, ⟨RL, "law", "([I)Z"⟩, code, 7, (some .boolean)), ([], [], 1, 1, 0, [0, 1000, 0, 0]), mc_113)
def mt : List AM := [mm_0, mm_1, mm_2, mm_3, mm_4, mm_5, mm_6, mm_7, mm_8, mm_9, mm_10, mm_11, mm_12, mm_13, mm_14, mm_15, mm_16, mm_17, mm_18, mm_19, mm_20, mm_21, mm_22, mm_23, mm_24, mm_25, mm_26, mm_27, mm_28, mm_29, mm_30, mm_31, mm_32, mm_33, mm_34, mm_35, mm_36, mm_37, mm_38, mm_39, mm_40, mm_41, mm_42, mm_43, mm_44, mm_45, mm_46, mm_47, mm_48, mm_49, mm_50, mm_51, mm_52, mm_53, mm_54, mm_55, mm_56, mm_57, mm_58, mm_59, mm_60, mm_61, mm_62, mm_63, mm_64, mm_65, mm_66, mm_67, mm_68, mm_69, mm_70, mm_71, mm_72, mm_73, mm_74, mm_75, mm_76, mm_77, mm_78, mm_79, mm_80, mm_81, mm_82, mm_83, mm_84, mm_85, mm_86, mm_87, mm_88, mm_89, mm_90, mm_91, mm_92, mm_93, mm_94, mm_95, mm_96, mm_97, mm_98, mm_99, mm_100, mm_101, mm_102, mm_103, mm_104, mm_105, mm_106, mm_107, mm_108, mm_109, mm_110, mm_111, mm_112]
end
section
theorem mt_a_0 : ai_mok1 mm_0 = true := by decide +kernel
theorem mt_a_1 : ai_mok1 mm_1 = true := by decide +kernel
theorem mt_a_2 : ai_mok1 mm_2 = true := by decide +kernel
theorem mt_a_3 : ai_mok1 mm_3 = true := by decide +kernel
theorem mt_a_4 : ai_mok1 mm_4 = true := by decide +kernel
theorem mt_a_5 : ai_mok1 mm_5 = true := by decide +kernel
theorem mt_a_6 : ai_mok1 mm_6 = true := by decide +kernel
theorem mt_a_7 : ai_mok1 mm_7 = true := by decide +kernel
theorem mt_a_8 : ai_mok1 mm_8 = true := by decide +kernel
theorem mt_a_9 : ai_mok1 mm_9 = true := by decide +kernel
theorem mt_a_10 : ai_mok1 mm_10 = true := by decide +kernel
theorem mt_a_11 : ai_mok1 mm_11 = true := by decide +kernel
theorem mt_a_12 : ai_mok1 mm_12 = true := by decide +kernel
theorem mt_a_13 : ai_mok1 mm_13 = true := by decide +kernel
theorem mt_a_14 : ai_mok1 mm_14 = true := by decide +kernel
theorem mt_a_15 : ai_mok1 mm_15 = true := by decide +kernel
theorem mt_a_16 : ai_mok1 mm_16 = true := by decide +kernel
theorem mt_a_17 : ai_mok1 mm_17 = true := by decide +kernel
theorem mt_a_18 : ai_mok1 mm_18 = true := by decide +kernel
theorem mt_a_19 : ai_mok1 mm_19 = true := by decide +kernel
theorem mt_a_20 : ai_mok1 mm_20 = true := by decide +kernel
theorem mt_a_21 : ai_mok1 mm_21 = true := by decide +kernel
theorem mt_a_22 : ai_mok1 mm_22 = true := by decide +kernel
theorem mt_a_23 : ai_mok1 mm_23 = true := by decide +kernel
theorem mt_a_24 : ai_mok1 mm_24 = true := by decide +kernel
theorem mt_a_25 : ai_mok1 mm_25 = true := by decide +kernel
theorem mt_a_26 : ai_mok1 mm_26 = true := by decide +kernel
theorem mt_a_27 : ai_mok1 mm_27 = true := by decide +kernel
theorem mt_a_28 : ai_mok1 mm_28 = true := by decide +kernel
theorem mt_a_29 : ai_mok1 mm_29 = true := by decide +kernel
theorem mt_a_30 : ai_mok1 mm_30 = true := by decide +kernel
theorem mt_a_31 : ai_mok1 mm_31 = true := by decide +kernel
theorem mt_a_32 : ai_mok1 mm_32 = true := by decide +kernel
theorem mt_a_33 : ai_mok1 mm_33 = true := by decide +kernel
theorem mt_a_34 : ai_mok1 mm_34 = true := by decide +kernel
theorem mt_a_35 : ai_mok1 mm_35 = true := by decide +kernel
theorem mt_a_36 : ai_mok1 mm_36 = true := by decide +kernel
theorem mt_a_37 : ai_mok1 mm_37 = true := by decide +kernel
theorem mt_a_38 : ai_mok1 mm_38 = true := by decide +kernel
theorem mt_a_39 : ai_mok1 mm_39 = true := by decide +kernel
theorem mt_a_40 : ai_mok1 mm_40 = true := by decide +kernel
theorem mt_a_41 : ai_mok1 mm_41 = true := by decide +kernel
theorem mt_a_42 : ai_mok1 mm_42 = true := by decide +kernel
theorem mt_a_43 : ai_mok1 mm_43 = true := by decide +kernel
theorem mt_a_44 : ai_mok1 mm_44 = true := by decide +kernel
theorem mt_a_45 : ai_mok1 mm_45 = true := by decide +kernel
theorem mt_a_46 : ai_mok1 mm_46 = true := by decide +kernel
theorem mt_a_47 : ai_mok1 mm_47 = true := by decide +kernel
theorem mt_a_48 : ai_mok1 mm_48 = true := by decide +kernel
theorem mt_a_49 : ai_mok1 mm_49 = true := by decide +kernel
theorem mt_a_50 : ai_mok1 mm_50 = true := by decide +kernel
theorem mt_a_51 : ai_mok1 mm_51 = true := by decide +kernel
theorem mt_a_52 : ai_mok1 mm_52 = true := by decide +kernel
theorem mt_a_53 : ai_mok1 mm_53 = true := by decide +kernel
theorem mt_a_54 : ai_mok1 mm_54 = true := by decide +kernel
theorem mt_a_55 : ai_mok1 mm_55 = true := by decide +kernel
theorem mt_a_56 : ai_mok1 mm_56 = true := by decide +kernel
theorem mt_a_57 : ai_mok1 mm_57 = true := by decide +kernel
theorem mt_a_58 : ai_mok1 mm_58 = true := by decide +kernel
theorem mt_a_59 : ai_mok1 mm_59 = true := by decide +kernel
theorem mt_a_60 : ai_mok1 mm_60 = true := by decide +kernel
theorem mt_a_61 : ai_mok1 mm_61 = true := by decide +kernel
theorem mt_a_62 : ai_mok1 mm_62 = true := by decide +kernel
theorem mt_a_63 : ai_mok1 mm_63 = true := by decide +kernel
theorem mt_a_64 : ai_mok1 mm_64 = true := by decide +kernel
theorem mt_a_65 : ai_mok1 mm_65 = true := by decide +kernel
theorem mt_a_66 : ai_mok1 mm_66 = true := by decide +kernel
theorem mt_a_67 : ai_mok1 mm_67 = true := by decide +kernel
theorem mt_a_68 : ai_mok1 mm_68 = true := by decide +kernel
theorem mt_a_69 : ai_mok1 mm_69 = true := by decide +kernel
theorem mt_a_70 : ai_mok1 mm_70 = true := by decide +kernel
theorem mt_a_71 : ai_mok1 mm_71 = true := by decide +kernel
theorem mt_a_72 : ai_mok1 mm_72 = true := by decide +kernel
theorem mt_a_73 : ai_mok1 mm_73 = true := by decide +kernel
theorem mt_a_74 : ai_mok1 mm_74 = true := by decide +kernel
theorem mt_a_75 : ai_mok1 mm_75 = true := by decide +kernel
theorem mt_a_76 : ai_mok1 mm_76 = true := by decide +kernel
theorem mt_a_77 : ai_mok1 mm_77 = true := by decide +kernel
theorem mt_a_78 : ai_mok1 mm_78 = true := by decide +kernel
theorem mt_a_79 : ai_mok1 mm_79 = true := by decide +kernel
theorem mt_a_80 : ai_mok1 mm_80 = true := by decide +kernel
theorem mt_a_81 : ai_mok1 mm_81 = true := by decide +kernel
theorem mt_a_82 : ai_mok1 mm_82 = true := by decide +kernel
theorem mt_a_83 : ai_mok1 mm_83 = true := by decide +kernel
theorem mt_a_84 : ai_mok1 mm_84 = true := by decide +kernel
theorem mt_a_85 : ai_mok1 mm_85 = true := by decide +kernel
theorem mt_a_86 : ai_mok1 mm_86 = true := by decide +kernel
theorem mt_a_87 : ai_mok1 mm_87 = true := by decide +kernel
theorem mt_a_88 : ai_mok1 mm_88 = true := by decide +kernel
theorem mt_a_89 : ai_mok1 mm_89 = true := by decide +kernel
theorem mt_a_90 : ai_mok1 mm_90 = true := by decide +kernel
theorem mt_a_91 : ai_mok1 mm_91 = true := by decide +kernel
theorem mt_a_92 : ai_mok1 mm_92 = true := by decide +kernel
theorem mt_a_93 : ai_mok1 mm_93 = true := by decide +kernel
theorem mt_a_94 : ai_mok1 mm_94 = true := by decide +kernel
theorem mt_a_95 : ai_mok1 mm_95 = true := by decide +kernel
theorem mt_a_96 : ai_mok1 mm_96 = true := by decide +kernel
theorem mt_a_97 : ai_mok1 mm_97 = true := by decide +kernel
theorem mt_a_98 : ai_mok1 mm_98 = true := by decide +kernel
theorem mt_a_99 : ai_mok1 mm_99 = true := by decide +kernel
theorem mt_a_100 : ai_mok1 mm_100 = true := by decide +kernel
theorem mt_a_101 : ai_mok1 mm_101 = true := by decide +kernel
theorem mt_a_102 : ai_mok1 mm_102 = true := by decide +kernel
theorem mt_a_103 : ai_mok1 mm_103 = true := by decide +kernel
theorem mt_a_104 : ai_mok1 mm_104 = true := by decide +kernel
theorem mt_a_105 : ai_mok1 mm_105 = true := by decide +kernel
theorem mt_a_106 : ai_mok1 mm_106 = true := by decide +kernel
theorem mt_a_107 : ai_mok1 mm_107 = true := by decide +kernel
theorem mt_a_108 : ai_mok1 mm_108 = true := by decide +kernel
theorem mt_a_109 : ai_mok1 mm_109 = true := by decide +kernel
theorem mt_a_110 : ai_mok1 mm_110 = true := by decide +kernel
theorem mt_a_111 : ai_mok1 mm_111 = true := by decide +kernel
theorem mt_a_112 : ai_mok1 mm_112 = true := by decide +kernel
theorem mt_ok1 : ∀ M ∈ mt, ai_mok1 M = true := by
  intro M hM
  simp only [mt, List.mem_cons, List.not_mem_nil, or_false] at hM
  rcases hM with rfl | rfl | rfl | rfl | rfl | rfl | rfl | rfl | rfl | rfl | rfl | rfl | rfl | rfl | rfl | rfl | rfl | rfl | rfl | rfl | rfl | rfl | rfl | rfl | rfl | rfl | rfl | rfl | rfl | rfl | rfl | rfl | rfl | rfl | rfl | rfl | rfl | rfl | rfl | rfl | rfl | rfl | rfl | rfl | rfl | rfl | rfl | rfl | rfl | rfl | rfl | rfl | rfl | rfl | rfl | rfl | rfl | rfl | rfl | rfl | rfl | rfl | rfl | rfl | rfl | rfl | rfl | rfl | rfl | rfl | rfl | rfl | rfl | rfl | rfl | rfl | rfl | rfl | rfl | rfl | rfl | rfl | rfl | rfl | rfl | rfl | rfl | rfl | rfl | rfl | rfl | rfl | rfl | rfl | rfl | rfl | rfl | rfl | rfl | rfl | rfl | rfl | rfl | rfl | rfl | rfl | rfl | rfl | rfl | rfl | rfl | rfl | rfl
  · exact mt_a_0
  · exact mt_a_1
  · exact mt_a_2
  · exact mt_a_3
  · exact mt_a_4
  · exact mt_a_5
  · exact mt_a_6
  · exact mt_a_7
  · exact mt_a_8
  · exact mt_a_9
  · exact mt_a_10
  · exact mt_a_11
  · exact mt_a_12
  · exact mt_a_13
  · exact mt_a_14
  · exact mt_a_15
  · exact mt_a_16
  · exact mt_a_17
  · exact mt_a_18
  · exact mt_a_19
  · exact mt_a_20
  · exact mt_a_21
  · exact mt_a_22
  · exact mt_a_23
  · exact mt_a_24
  · exact mt_a_25
  · exact mt_a_26
  · exact mt_a_27
  · exact mt_a_28
  · exact mt_a_29
  · exact mt_a_30
  · exact mt_a_31
  · exact mt_a_32
  · exact mt_a_33
  · exact mt_a_34
  · exact mt_a_35
  · exact mt_a_36
  · exact mt_a_37
  · exact mt_a_38
  · exact mt_a_39
  · exact mt_a_40
  · exact mt_a_41
  · exact mt_a_42
  · exact mt_a_43
  · exact mt_a_44
  · exact mt_a_45
  · exact mt_a_46
  · exact mt_a_47
  · exact mt_a_48
  · exact mt_a_49
  · exact mt_a_50
  · exact mt_a_51
  · exact mt_a_52
  · exact mt_a_53
  · exact mt_a_54
  · exact mt_a_55
  · exact mt_a_56
  · exact mt_a_57
  · exact mt_a_58
  · exact mt_a_59
  · exact mt_a_60
  · exact mt_a_61
  · exact mt_a_62
  · exact mt_a_63
  · exact mt_a_64
  · exact mt_a_65
  · exact mt_a_66
  · exact mt_a_67
  · exact mt_a_68
  · exact mt_a_69
  · exact mt_a_70
  · exact mt_a_71
  · exact mt_a_72
  · exact mt_a_73
  · exact mt_a_74
  · exact mt_a_75
  · exact mt_a_76
  · exact mt_a_77
  · exact mt_a_78
  · exact mt_a_79
  · exact mt_a_80
  · exact mt_a_81
  · exact mt_a_82
  · exact mt_a_83
  · exact mt_a_84
  · exact mt_a_85
  · exact mt_a_86
  · exact mt_a_87
  · exact mt_a_88
  · exact mt_a_89
  · exact mt_a_90
  · exact mt_a_91
  · exact mt_a_92
  · exact mt_a_93
  · exact mt_a_94
  · exact mt_a_95
  · exact mt_a_96
  · exact mt_a_97
  · exact mt_a_98
  · exact mt_a_99
  · exact mt_a_100
  · exact mt_a_101
  · exact mt_a_102
  · exact mt_a_103
  · exact mt_a_104
  · exact mt_a_105
  · exact mt_a_106
  · exact mt_a_107
  · exact mt_a_108
  · exact mt_a_109
  · exact mt_a_110
  · exact mt_a_111
  · exact mt_a_112
end
section
theorem ap_all {f : AQ → Bool} {a b : List AQ} (h : a.all f = true) (k : b.all f = true) : (a ++ b).all f = true := by rw [List.all_append, h, k]; rfl
theorem mt_o_0 : ai_mok2 mt mm_0 = true := by decide +kernel
theorem mt_o_1 : ai_mok2 mt mm_1 = true := by decide +kernel
theorem mt_o_2 : ai_mok2 mt mm_2 = true := by decide +kernel
theorem mt_o_3 : ai_mok2 mt mm_3 = true := by decide +kernel
theorem mt_o_4 : ai_mok2 mt mm_4 = true := by decide +kernel
theorem mt_o_5 : ai_mok2 mt mm_5 = true := by decide +kernel
theorem mt_o_6 : ai_mok2 mt mm_6 = true := by decide +kernel
theorem mt_o_7 : ai_mok2 mt mm_7 = true := by decide +kernel
theorem mt_o_8 : ai_mok2 mt mm_8 = true := by decide +kernel
theorem mt_o_9 : ai_mok2 mt mm_9 = true := by decide +kernel
theorem mt_o_10 : ai_mok2 mt mm_10 = true := by decide +kernel
theorem mt_o_11 : ai_mok2 mt mm_11 = true := by decide +kernel
theorem mt_o_12 : ai_mok2 mt mm_12 = true := by decide +kernel
theorem mt_o_13 : ai_mok2 mt mm_13 = true := by decide +kernel
theorem mt_o_14 : ai_mok2 mt mm_14 = true := by decide +kernel
theorem mt_o_15 : ai_mok2 mt mm_15 = true := by decide +kernel
theorem mt_o_16 : ai_mok2 mt mm_16 = true := by decide +kernel
theorem mt_o_17 : ai_mok2 mt mm_17 = true := by decide +kernel
theorem mt_o_18 : ai_mok2 mt mm_18 = true := by decide +kernel
theorem mt_o_19 : ai_mok2 mt mm_19 = true := by decide +kernel
theorem mt_o_20 : ai_mok2 mt mm_20 = true := by decide +kernel
theorem mt_o_21 : ai_mok2 mt mm_21 = true := by decide +kernel
theorem mt_o_22 : ai_mok2 mt mm_22 = true := by decide +kernel
theorem mt_o_23 : ai_mok2 mt mm_23 = true := by decide +kernel
theorem mt_o_24 : ai_mok2 mt mm_24 = true := by decide +kernel
theorem mt_o_25 : ai_mok2 mt mm_25 = true := by decide +kernel
theorem mt_o_26 : ai_mok2 mt mm_26 = true := by decide +kernel
theorem mt_o_27 : ai_mok2 mt mm_27 = true := by decide +kernel
theorem mt_o_28 : ai_mok2 mt mm_28 = true := by decide +kernel
theorem mt_o_29 : ai_mok2 mt mm_29 = true := by decide +kernel
theorem mt_o_30 : ai_mok2 mt mm_30 = true := by decide +kernel
theorem mt_o_31 : ai_mok2 mt mm_31 = true := by decide +kernel
theorem mt_o_32 : ai_mok2 mt mm_32 = true := by decide +kernel
theorem mt_o_33 : ai_mok2 mt mm_33 = true := by decide +kernel
theorem mt_o_34 : ai_mok2 mt mm_34 = true := by decide +kernel
theorem mt_o_35 : ai_mok2 mt mm_35 = true := by decide +kernel
theorem mt_o_36 : ai_mok2 mt mm_36 = true := by decide +kernel
theorem mt_o_37 : ai_mok2 mt mm_37 = true := by decide +kernel
theorem mt_o_38 : ai_mok2 mt mm_38 = true := by decide +kernel
theorem mt_o_39 : ai_mok2 mt mm_39 = true := by decide +kernel
theorem mt_o_40 : ai_mok2 mt mm_40 = true := by decide +kernel
theorem mt_o_41 : ai_mok2 mt mm_41 = true := by decide +kernel
theorem mt_o_42 : ai_mok2 mt mm_42 = true := by decide +kernel
theorem mt_o_43 : ai_mok2 mt mm_43 = true := by decide +kernel
theorem mt_o_44 : ai_mok2 mt mm_44 = true := by decide +kernel
theorem mt_o_45 : ai_mok2 mt mm_45 = true := by decide +kernel
theorem mt_o_46 : ai_mok2 mt mm_46 = true := by decide +kernel
theorem mt_o_47 : ai_mok2 mt mm_47 = true := by decide +kernel
theorem mt_o_48 : ai_mok2 mt mm_48 = true := by decide +kernel
theorem mt_o_49 : ai_mok2 mt mm_49 = true := by decide +kernel
theorem mt_o_50 : ai_mok2 mt mm_50 = true := by decide +kernel
theorem mt_o_51 : ai_mok2 mt mm_51 = true := by decide +kernel
theorem mt_o_52 : ai_mok2 mt mm_52 = true := by decide +kernel
theorem mt_o_53 : ai_mok2 mt mm_53 = true := by decide +kernel
theorem mt_o_54 : ai_mok2 mt mm_54 = true := by decide +kernel
theorem mt_o_55 : ai_mok2 mt mm_55 = true := by decide +kernel
theorem mt_o_56 : ai_mok2 mt mm_56 = true := by decide +kernel
theorem mt_o_57 : ai_mok2 mt mm_57 = true := by decide +kernel
theorem mt_o_58 : ai_mok2 mt mm_58 = true := by decide +kernel
theorem mt_o_59_0 : mc_59_0.all (ai_row mt mm_59) = true := by decide +kernel
theorem mt_o_59_1 : mc_59_1.all (ai_row mt mm_59) = true := by decide +kernel
theorem mt_o_59 : ai_mok2 mt mm_59 = true := ap_all mt_o_59_0 (mt_o_59_1)
theorem mt_o_60 : ai_mok2 mt mm_60 = true := by decide +kernel
theorem mt_o_61 : ai_mok2 mt mm_61 = true := by decide +kernel
theorem mt_o_62 : ai_mok2 mt mm_62 = true := by decide +kernel
theorem mt_o_63 : ai_mok2 mt mm_63 = true := by decide +kernel
theorem mt_o_64 : ai_mok2 mt mm_64 = true := by decide +kernel
theorem mt_o_65 : ai_mok2 mt mm_65 = true := by decide +kernel
theorem mt_o_66 : ai_mok2 mt mm_66 = true := by decide +kernel
theorem mt_o_67 : ai_mok2 mt mm_67 = true := by decide +kernel
theorem mt_o_68 : ai_mok2 mt mm_68 = true := by decide +kernel
theorem mt_o_69 : ai_mok2 mt mm_69 = true := by decide +kernel
theorem mt_o_70 : ai_mok2 mt mm_70 = true := by decide +kernel
theorem mt_o_71_0 : mc_71_0.all (ai_row mt mm_71) = true := by decide +kernel
theorem mt_o_71_1 : mc_71_1.all (ai_row mt mm_71) = true := by decide +kernel
theorem mt_o_71 : ai_mok2 mt mm_71 = true := ap_all mt_o_71_0 (mt_o_71_1)
theorem mt_o_72 : ai_mok2 mt mm_72 = true := by decide +kernel
theorem mt_o_73 : ai_mok2 mt mm_73 = true := by decide +kernel
theorem mt_o_74 : ai_mok2 mt mm_74 = true := by decide +kernel
theorem mt_o_75_0 : mc_75_0.all (ai_row mt mm_75) = true := by decide +kernel
theorem mt_o_75_1 : mc_75_1.all (ai_row mt mm_75) = true := by decide +kernel
theorem mt_o_75_2 : mc_75_2.all (ai_row mt mm_75) = true := by decide +kernel
theorem mt_o_75 : ai_mok2 mt mm_75 = true := ap_all mt_o_75_0 (ap_all mt_o_75_1 (mt_o_75_2))
theorem mt_o_76 : ai_mok2 mt mm_76 = true := by decide +kernel
theorem mt_o_77 : ai_mok2 mt mm_77 = true := by decide +kernel
theorem mt_o_78 : ai_mok2 mt mm_78 = true := by decide +kernel
theorem mt_o_79_0 : mc_79_0.all (ai_row mt mm_79) = true := by decide +kernel
theorem mt_o_79_1 : mc_79_1.all (ai_row mt mm_79) = true := by decide +kernel
theorem mt_o_79_2 : mc_79_2.all (ai_row mt mm_79) = true := by decide +kernel
theorem mt_o_79 : ai_mok2 mt mm_79 = true := ap_all mt_o_79_0 (ap_all mt_o_79_1 (mt_o_79_2))
theorem mt_o_80 : ai_mok2 mt mm_80 = true := by decide +kernel
theorem mt_o_81 : ai_mok2 mt mm_81 = true := by decide +kernel
theorem mt_o_82 : ai_mok2 mt mm_82 = true := by decide +kernel
theorem mt_o_83 : ai_mok2 mt mm_83 = true := by decide +kernel
theorem mt_o_84_0 : mc_84_0.all (ai_row mt mm_84) = true := by decide +kernel
theorem mt_o_84_1 : mc_84_1.all (ai_row mt mm_84) = true := by decide +kernel
theorem mt_o_84 : ai_mok2 mt mm_84 = true := ap_all mt_o_84_0 (mt_o_84_1)
theorem mt_o_85 : ai_mok2 mt mm_85 = true := by decide +kernel
theorem mt_o_86 : ai_mok2 mt mm_86 = true := by decide +kernel
theorem mt_o_87 : ai_mok2 mt mm_87 = true := by decide +kernel
theorem mt_o_88_0 : mc_88_0.all (ai_row mt mm_88) = true := by decide +kernel
theorem mt_o_88_1 : mc_88_1.all (ai_row mt mm_88) = true := by decide +kernel
theorem mt_o_88 : ai_mok2 mt mm_88 = true := ap_all mt_o_88_0 (mt_o_88_1)
theorem mt_o_89 : ai_mok2 mt mm_89 = true := by decide +kernel
theorem mt_o_90 : ai_mok2 mt mm_90 = true := by decide +kernel
theorem mt_o_91_0 : mc_91_0.all (ai_row mt mm_91) = true := by decide +kernel
theorem mt_o_91_1 : mc_91_1.all (ai_row mt mm_91) = true := by decide +kernel
theorem mt_o_91 : ai_mok2 mt mm_91 = true := ap_all mt_o_91_0 (mt_o_91_1)
theorem mt_o_92 : ai_mok2 mt mm_92 = true := by decide +kernel
theorem mt_o_93_0 : mc_93_0.all (ai_row mt mm_93) = true := by decide +kernel
theorem mt_o_93_1 : mc_93_1.all (ai_row mt mm_93) = true := by decide +kernel
theorem mt_o_93 : ai_mok2 mt mm_93 = true := ap_all mt_o_93_0 (mt_o_93_1)
theorem mt_o_94_0 : mc_94_0.all (ai_row mt mm_94) = true := by decide +kernel
theorem mt_o_94_1 : mc_94_1.all (ai_row mt mm_94) = true := by decide +kernel
theorem mt_o_94 : ai_mok2 mt mm_94 = true := ap_all mt_o_94_0 (mt_o_94_1)
theorem mt_o_95 : ai_mok2 mt mm_95 = true := by decide +kernel
theorem mt_o_96 : ai_mok2 mt mm_96 = true := by decide +kernel
theorem mt_o_97 : ai_mok2 mt mm_97 = true := by decide +kernel
theorem mt_o_98 : ai_mok2 mt mm_98 = true := by decide +kernel
theorem mt_o_99 : ai_mok2 mt mm_99 = true := by decide +kernel
theorem mt_o_100_0 : mc_100_0.all (ai_row mt mm_100) = true := by decide +kernel
theorem mt_o_100_1 : mc_100_1.all (ai_row mt mm_100) = true := by decide +kernel
theorem mt_o_100_2 : mc_100_2.all (ai_row mt mm_100) = true := by decide +kernel
theorem mt_o_100_3 : mc_100_3.all (ai_row mt mm_100) = true := by decide +kernel
theorem mt_o_100 : ai_mok2 mt mm_100 = true := ap_all mt_o_100_0 (ap_all mt_o_100_1 (ap_all mt_o_100_2 (mt_o_100_3)))
theorem mt_o_101_0 : mc_101_0.all (ai_row mt mm_101) = true := by decide +kernel
theorem mt_o_101_1 : mc_101_1.all (ai_row mt mm_101) = true := by decide +kernel
theorem mt_o_101 : ai_mok2 mt mm_101 = true := ap_all mt_o_101_0 (mt_o_101_1)
theorem mt_o_102_0 : mc_102_0.all (ai_row mt mm_102) = true := by decide +kernel
theorem mt_o_102_1 : mc_102_1.all (ai_row mt mm_102) = true := by decide +kernel
theorem mt_o_102 : ai_mok2 mt mm_102 = true := ap_all mt_o_102_0 (mt_o_102_1)
theorem mt_o_103 : ai_mok2 mt mm_103 = true := by decide +kernel
theorem mt_o_104 : ai_mok2 mt mm_104 = true := by decide +kernel
theorem mt_o_105 : ai_mok2 mt mm_105 = true := by decide +kernel
theorem mt_o_106 : ai_mok2 mt mm_106 = true := by decide +kernel
theorem mt_o_107 : ai_mok2 mt mm_107 = true := by decide +kernel
theorem mt_o_108 : ai_mok2 mt mm_108 = true := by decide +kernel
theorem mt_o_109 : ai_mok2 mt mm_109 = true := by decide +kernel
theorem mt_o_110 : ai_mok2 mt mm_110 = true := by decide +kernel
theorem mt_o_111 : ai_mok2 mt mm_111 = true := by decide +kernel
theorem mt_o_112 : ai_mok2 mt mm_112 = true := by decide +kernel
theorem mt_o_113_0 : mc_113_0.all (ai_row mt mm_113) = true := by decide +kernel
theorem mt_o_113_1 : mc_113_1.all (ai_row mt mm_113) = true := by decide +kernel
theorem mt_o_113_2 : mc_113_2.all (ai_row mt mm_113) = true := by decide +kernel
theorem mt_o_113_3 : mc_113_3.all (ai_row mt mm_113) = true := by decide +kernel
theorem mt_o_113_4 : mc_113_4.all (ai_row mt mm_113) = true := by decide +kernel
theorem mt_o_113_5 : mc_113_5.all (ai_row mt mm_113) = true := by decide +kernel
theorem mt_o_113_6 : mc_113_6.all (ai_row mt mm_113) = true := by decide +kernel
theorem mt_o_113_7 : mc_113_7.all (ai_row mt mm_113) = true := by decide +kernel
theorem mt_o_113_8 : mc_113_8.all (ai_row mt mm_113) = true := by decide +kernel
theorem mt_o_113_9 : mc_113_9.all (ai_row mt mm_113) = true := by decide +kernel
theorem mt_o_113_10 : mc_113_10.all (ai_row mt mm_113) = true := by decide +kernel
theorem mt_o_113_11 : mc_113_11.all (ai_row mt mm_113) = true := by decide +kernel
theorem mt_o_113 : ai_mok2 mt mm_113 = true := ap_all mt_o_113_0 (ap_all mt_o_113_1 (ap_all mt_o_113_2 (ap_all mt_o_113_3 (ap_all mt_o_113_4 (ap_all mt_o_113_5 (ap_all mt_o_113_6 (ap_all mt_o_113_7 (ap_all mt_o_113_8 (ap_all mt_o_113_9 (ap_all mt_o_113_10 (mt_o_113_11)))))))))))
theorem mt_ok2 : ∀ M ∈ mt, ai_mok2 mt M = true := by
  intro M hM
  simp only [mt, List.mem_cons, List.not_mem_nil, or_false] at hM
  rcases hM with rfl | rfl | rfl | rfl | rfl | rfl | rfl | rfl | rfl | rfl | rfl | rfl | rfl | rfl | rfl | rfl | rfl | rfl | rfl | rfl | rfl | rfl | rfl | rfl | rfl | rfl | rfl | rfl | rfl | rfl | rfl | rfl | rfl | rfl | rfl | rfl | rfl | rfl | rfl | rfl | rfl | rfl | rfl | rfl | rfl | rfl | rfl | rfl | rfl | rfl | rfl | rfl | rfl | rfl | rfl | rfl | rfl | rfl | rfl | rfl | rfl | rfl | rfl | rfl | rfl | rfl | rfl | rfl | rfl | rfl | rfl | rfl | rfl | rfl | rfl | rfl | rfl | rfl | rfl | rfl | rfl | rfl | rfl | rfl | rfl | rfl | rfl | rfl | rfl | rfl | rfl | rfl | rfl | rfl | rfl | rfl | rfl | rfl | rfl | rfl | rfl | rfl | rfl | rfl | rfl | rfl | rfl | rfl | rfl | rfl | rfl | rfl | rfl
  · exact mt_o_0
  · exact mt_o_1
  · exact mt_o_2
  · exact mt_o_3
  · exact mt_o_4
  · exact mt_o_5
  · exact mt_o_6
  · exact mt_o_7
  · exact mt_o_8
  · exact mt_o_9
  · exact mt_o_10
  · exact mt_o_11
  · exact mt_o_12
  · exact mt_o_13
  · exact mt_o_14
  · exact mt_o_15
  · exact mt_o_16
  · exact mt_o_17
  · exact mt_o_18
  · exact mt_o_19
  · exact mt_o_20
  · exact mt_o_21
  · exact mt_o_22
  · exact mt_o_23
  · exact mt_o_24
  · exact mt_o_25
  · exact mt_o_26
  · exact mt_o_27
  · exact mt_o_28
  · exact mt_o_29
  · exact mt_o_30
  · exact mt_o_31
  · exact mt_o_32
  · exact mt_o_33
  · exact mt_o_34
  · exact mt_o_35
  · exact mt_o_36
  · exact mt_o_37
  · exact mt_o_38
  · exact mt_o_39
  · exact mt_o_40
  · exact mt_o_41
  · exact mt_o_42
  · exact mt_o_43
  · exact mt_o_44
  · exact mt_o_45
  · exact mt_o_46
  · exact mt_o_47
  · exact mt_o_48
  · exact mt_o_49
  · exact mt_o_50
  · exact mt_o_51
  · exact mt_o_52
  · exact mt_o_53
  · exact mt_o_54
  · exact mt_o_55
  · exact mt_o_56
  · exact mt_o_57
  · exact mt_o_58
  · exact mt_o_59
  · exact mt_o_60
  · exact mt_o_61
  · exact mt_o_62
  · exact mt_o_63
  · exact mt_o_64
  · exact mt_o_65
  · exact mt_o_66
  · exact mt_o_67
  · exact mt_o_68
  · exact mt_o_69
  · exact mt_o_70
  · exact mt_o_71
  · exact mt_o_72
  · exact mt_o_73
  · exact mt_o_74
  · exact mt_o_75
  · exact mt_o_76
  · exact mt_o_77
  · exact mt_o_78
  · exact mt_o_79
  · exact mt_o_80
  · exact mt_o_81
  · exact mt_o_82
  · exact mt_o_83
  · exact mt_o_84
  · exact mt_o_85
  · exact mt_o_86
  · exact mt_o_87
  · exact mt_o_88
  · exact mt_o_89
  · exact mt_o_90
  · exact mt_o_91
  · exact mt_o_92
  · exact mt_o_93
  · exact mt_o_94
  · exact mt_o_95
  · exact mt_o_96
  · exact mt_o_97
  · exact mt_o_98
  · exact mt_o_99
  · exact mt_o_100
  · exact mt_o_101
  · exact mt_o_102
  · exact mt_o_103
  · exact mt_o_104
  · exact mt_o_105
  · exact mt_o_106
  · exact mt_o_107
  · exact mt_o_108
  · exact mt_o_109
  · exact mt_o_110
  · exact mt_o_111
  · exact mt_o_112
end
section
def w_1 : List AC := [
  .inr (11, [.inr (.inr (.inr (.inl (some 1)))), .inr (.inr (.inr (.inl (some 3)))), .inr (.inr (.inr (.inl (some 5)))), .inr (.inr (.inr (.inl (some 7)))), .inr (.inr (.inr (.inl (some 129)))), .inr (.inr (.inr (.inl (some 145))))]),
  .inr (0, [.inr (.inr (.inr (.inl (some 2)))), .inl 0]),
  .inl (0, 320, fun _ => .inl 0),
  .inr (0, [.inr (.inr (.inr (.inl (some 4)))), .inl 0]),
  .inl (0, 400, fun _ => .inl 0),
  .inr (0, [.inr (.inr (.inr (.inl (some 6)))), .inl 0]),
  .inl (0, 60, fun _ => .inl 0),
  .inr (10, [.inr (.inr (.inr (.inl (some 8)))), .inl 1]),
  .inl (9, 40, fun j => .inr (.inr (.inr (.inl (some (9 + 3 * j)))))),
  .inr (5, [.inl 0, .inr (.inr (.inr (.inl (some 10)))), .inl 0, .inl 0, .inl 7, .inl 0, .inl 1, .inl 0]),
  .inr (0, [.inr (.inr (.inr (.inl (some 11)))), .inl 0]),
  .inl (0, 24, fun _ => .inl 0),
  .inr (5, [.inl 1, .inr (.inr (.inr (.inl (some 13)))), .inl 0, .inl 0, .inl 0, .inl 0, .inl 0, .inl 0]),
  .inr (0, [.inr (.inr (.inr (.inl (some 14)))), .inl 0]),
  .inl (0, 24, fun _ => .inl 0),
  .inr (5, [.inl 2, .inr (.inr (.inr (.inl (some 16)))), .inl 0, .inl 0, .inl 0, .inl 0, .inl 0, .inl 0]),
  .inr (0, [.inr (.inr (.inr (.inl (some 17)))), .inl 0]),
  .inl (0, 24, fun _ => .inl 0),
  .inr (5, [.inl 3, .inr (.inr (.inr (.inl (some 19)))), .inl 0, .inl 0, .inl 0, .inl 0, .inl 0, .inl 0]),
  .inr (0, [.inr (.inr (.inr (.inl (some 20)))), .inl 0]),
  .inl (0, 24, fun _ => .inl 0),
  .inr (5, [.inl 4, .inr (.inr (.inr (.inl (some 22)))), .inl 0, .inl 0, .inl 0, .inl 0, .inl 0, .inl 0]),
  .inr (0, [.inr (.inr (.inr (.inl (some 23)))), .inl 0]),
  .inl (0, 24, fun _ => .inl 0),
  .inr (5, [.inl 5, .inr (.inr (.inr (.inl (some 25)))), .inl 0, .inl 0, .inl 0, .inl 0, .inl 0, .inl 0]),
  .inr (0, [.inr (.inr (.inr (.inl (some 26)))), .inl 0]),
  .inl (0, 24, fun _ => .inl 0),
  .inr (5, [.inl 6, .inr (.inr (.inr (.inl (some 28)))), .inl 0, .inl 0, .inl 0, .inl 0, .inl 0, .inl 0]),
  .inr (0, [.inr (.inr (.inr (.inl (some 29)))), .inl 0]),
  .inl (0, 24, fun _ => .inl 0),
  .inr (5, [.inl 7, .inr (.inr (.inr (.inl (some 31)))), .inl 0, .inl 0, .inl 0, .inl 0, .inl 0, .inl 0]),
  .inr (0, [.inr (.inr (.inr (.inl (some 32)))), .inl 0]),
  .inl (0, 24, fun _ => .inl 0),
  .inr (5, [.inl 8, .inr (.inr (.inr (.inl (some 34)))), .inl 0, .inl 0, .inl 0, .inl 0, .inl 0, .inl 0]),
  .inr (0, [.inr (.inr (.inr (.inl (some 35)))), .inl 0]),
  .inl (0, 24, fun _ => .inl 0),
  .inr (5, [.inl 9, .inr (.inr (.inr (.inl (some 37)))), .inl 0, .inl 0, .inl 0, .inl 0, .inl 0, .inl 0]),
  .inr (0, [.inr (.inr (.inr (.inl (some 38)))), .inl 0]),
  .inl (0, 24, fun _ => .inl 0),
  .inr (5, [.inl 10, .inr (.inr (.inr (.inl (some 40)))), .inl 0, .inl 0, .inl 0, .inl 0, .inl 0, .inl 0]),
  .inr (0, [.inr (.inr (.inr (.inl (some 41)))), .inl 0]),
  .inl (0, 24, fun _ => .inl 0),
  .inr (5, [.inl 11, .inr (.inr (.inr (.inl (some 43)))), .inl 0, .inl 0, .inl 0, .inl 0, .inl 0, .inl 0]),
  .inr (0, [.inr (.inr (.inr (.inl (some 44)))), .inl 0]),
  .inl (0, 24, fun _ => .inl 0),
  .inr (5, [.inl 12, .inr (.inr (.inr (.inl (some 46)))), .inl 0, .inl 0, .inl 0, .inl 0, .inl 0, .inl 0]),
  .inr (0, [.inr (.inr (.inr (.inl (some 47)))), .inl 0]),
  .inl (0, 24, fun _ => .inl 0),
  .inr (5, [.inl 13, .inr (.inr (.inr (.inl (some 49)))), .inl 0, .inl 0, .inl 0, .inl 0, .inl 0, .inl 0]),
  .inr (0, [.inr (.inr (.inr (.inl (some 50)))), .inl 0]),
  .inl (0, 24, fun _ => .inl 0),
  .inr (5, [.inl 14, .inr (.inr (.inr (.inl (some 52)))), .inl 0, .inl 0, .inl 0, .inl 0, .inl 0, .inl 0]),
  .inr (0, [.inr (.inr (.inr (.inl (some 53)))), .inl 0]),
  .inl (0, 24, fun _ => .inl 0),
  .inr (5, [.inl 15, .inr (.inr (.inr (.inl (some 55)))), .inl 0, .inl 0, .inl 0, .inl 0, .inl 0, .inl 0]),
  .inr (0, [.inr (.inr (.inr (.inl (some 56)))), .inl 0]),
  .inl (0, 24, fun _ => .inl 0),
  .inr (5, [.inl 16, .inr (.inr (.inr (.inl (some 58)))), .inl 0, .inl 0, .inl 0, .inl 0, .inl 0, .inl 0]),
  .inr (0, [.inr (.inr (.inr (.inl (some 59)))), .inl 0]),
  .inl (0, 24, fun _ => .inl 0),
  .inr (5, [.inl 17, .inr (.inr (.inr (.inl (some 61)))), .inl 0, .inl 0, .inl 0, .inl 0, .inl 0, .inl 0]),
  .inr (0, [.inr (.inr (.inr (.inl (some 62)))), .inl 0]),
  .inl (0, 24, fun _ => .inl 0),
  .inr (5, [.inl 18, .inr (.inr (.inr (.inl (some 64)))), .inl 0, .inl 0, .inl 0, .inl 0, .inl 0, .inl 0]),
  .inr (0, [.inr (.inr (.inr (.inl (some 65)))), .inl 0]),
  .inl (0, 24, fun _ => .inl 0),
  .inr (5, [.inl 19, .inr (.inr (.inr (.inl (some 67)))), .inl 0, .inl 0, .inl 0, .inl 0, .inl 0, .inl 0]),
  .inr (0, [.inr (.inr (.inr (.inl (some 68)))), .inl 0]),
  .inl (0, 24, fun _ => .inl 0),
  .inr (5, [.inl 20, .inr (.inr (.inr (.inl (some 70)))), .inl 0, .inl 0, .inl 0, .inl 0, .inl 0, .inl 0]),
  .inr (0, [.inr (.inr (.inr (.inl (some 71)))), .inl 0]),
  .inl (0, 24, fun _ => .inl 0),
  .inr (5, [.inl 21, .inr (.inr (.inr (.inl (some 73)))), .inl 0, .inl 0, .inl 0, .inl 0, .inl 0, .inl 0]),
  .inr (0, [.inr (.inr (.inr (.inl (some 74)))), .inl 0]),
  .inl (0, 24, fun _ => .inl 0),
  .inr (5, [.inl 22, .inr (.inr (.inr (.inl (some 76)))), .inl 0, .inl 0, .inl 0, .inl 0, .inl 0, .inl 0]),
  .inr (0, [.inr (.inr (.inr (.inl (some 77)))), .inl 0]),
  .inl (0, 24, fun _ => .inl 0),
  .inr (5, [.inl 23, .inr (.inr (.inr (.inl (some 79)))), .inl 0, .inl 0, .inl 0, .inl 0, .inl 0, .inl 0]),
  .inr (0, [.inr (.inr (.inr (.inl (some 80)))), .inl 0]),
  .inl (0, 24, fun _ => .inl 0),
  .inr (5, [.inl 24, .inr (.inr (.inr (.inl (some 82)))), .inl 0, .inl 0, .inl 0, .inl 0, .inl 0, .inl 0]),
  .inr (0, [.inr (.inr (.inr (.inl (some 83)))), .inl 0]),
  .inl (0, 24, fun _ => .inl 0),
  .inr (5, [.inl 25, .inr (.inr (.inr (.inl (some 85)))), .inl 0, .inl 0, .inl 0, .inl 0, .inl 0, .inl 0]),
  .inr (0, [.inr (.inr (.inr (.inl (some 86)))), .inl 0]),
  .inl (0, 24, fun _ => .inl 0),
  .inr (5, [.inl 26, .inr (.inr (.inr (.inl (some 88)))), .inl 0, .inl 0, .inl 0, .inl 0, .inl 0, .inl 0]),
  .inr (0, [.inr (.inr (.inr (.inl (some 89)))), .inl 0]),
  .inl (0, 24, fun _ => .inl 0),
  .inr (5, [.inl 27, .inr (.inr (.inr (.inl (some 91)))), .inl 0, .inl 0, .inl 0, .inl 0, .inl 0, .inl 0]),
  .inr (0, [.inr (.inr (.inr (.inl (some 92)))), .inl 0]),
  .inl (0, 24, fun _ => .inl 0),
  .inr (5, [.inl 28, .inr (.inr (.inr (.inl (some 94)))), .inl 0, .inl 0, .inl 0, .inl 0, .inl 0, .inl 0]),
  .inr (0, [.inr (.inr (.inr (.inl (some 95)))), .inl 0]),
  .inl (0, 24, fun _ => .inl 0),
  .inr (5, [.inl 29, .inr (.inr (.inr (.inl (some 97)))), .inl 0, .inl 0, .inl 0, .inl 0, .inl 0, .inl 0]),
  .inr (0, [.inr (.inr (.inr (.inl (some 98)))), .inl 0]),
  .inl (0, 24, fun _ => .inl 0),
  .inr (5, [.inl 30, .inr (.inr (.inr (.inl (some 100)))), .inl 0, .inl 0, .inl 0, .inl 0, .inl 0, .inl 0]),
  .inr (0, [.inr (.inr (.inr (.inl (some 101)))), .inl 0]),
  .inl (0, 24, fun _ => .inl 0),
  .inr (5, [.inl 31, .inr (.inr (.inr (.inl (some 103)))), .inl 0, .inl 0, .inl 0, .inl 0, .inl 0, .inl 0]),
  .inr (0, [.inr (.inr (.inr (.inl (some 104)))), .inl 0]),
  .inl (0, 24, fun _ => .inl 0),
  .inr (5, [.inl 32, .inr (.inr (.inr (.inl (some 106)))), .inl 0, .inl 0, .inl 0, .inl 0, .inl 0, .inl 0]),
  .inr (0, [.inr (.inr (.inr (.inl (some 107)))), .inl 0]),
  .inl (0, 24, fun _ => .inl 0),
  .inr (5, [.inl 33, .inr (.inr (.inr (.inl (some 109)))), .inl 0, .inl 0, .inl 0, .inl 0, .inl 0, .inl 0]),
  .inr (0, [.inr (.inr (.inr (.inl (some 110)))), .inl 0]),
  .inl (0, 24, fun _ => .inl 0),
  .inr (5, [.inl 34, .inr (.inr (.inr (.inl (some 112)))), .inl 0, .inl 0, .inl 0, .inl 0, .inl 0, .inl 0]),
  .inr (0, [.inr (.inr (.inr (.inl (some 113)))), .inl 0]),
  .inl (0, 24, fun _ => .inl 0),
  .inr (5, [.inl 35, .inr (.inr (.inr (.inl (some 115)))), .inl 0, .inl 0, .inl 0, .inl 0, .inl 0, .inl 0]),
  .inr (0, [.inr (.inr (.inr (.inl (some 116)))), .inl 0]),
  .inl (0, 24, fun _ => .inl 0),
  .inr (5, [.inl 36, .inr (.inr (.inr (.inl (some 118)))), .inl 0, .inl 0, .inl 0, .inl 0, .inl 0, .inl 0]),
  .inr (0, [.inr (.inr (.inr (.inl (some 119)))), .inl 0]),
  .inl (0, 24, fun _ => .inl 0),
  .inr (5, [.inl 37, .inr (.inr (.inr (.inl (some 121)))), .inl 0, .inl 0, .inl 0, .inl 0, .inl 0, .inl 0]),
  .inr (0, [.inr (.inr (.inr (.inl (some 122)))), .inl 0]),
  .inl (0, 24, fun _ => .inl 0),
  .inr (5, [.inl 38, .inr (.inr (.inr (.inl (some 124)))), .inl 0, .inl 0, .inl 0, .inl 0, .inl 0, .inl 0]),
  .inr (0, [.inr (.inr (.inr (.inl (some 125)))), .inl 0]),
  .inl (0, 24, fun _ => .inl 0),
  .inr (5, [.inl 39, .inr (.inr (.inr (.inl (some 127)))), .inl 0, .inl 0, .inl 0, .inl 0, .inl 0, .inl 0]),
  .inr (0, [.inr (.inr (.inr (.inl (some 128)))), .inl 0]),
  .inl (0, 24, fun _ => .inl 0),
  .inr (9, [.inr (.inr (.inr (.inl (some 7)))), .inr (.inr (.inr (.inl (some 130)))), .inr (.inr (.inr (.inl (some 140)))), .inr (.inr (.inr (.inl (some 143)))), .inl 0, .inl 160]),
  .inr (4, [.inr (.inr (.inr (.inl (some 131))))]),
  .inl (7, 8, fun j => .inr (.inr (.inr (.inl (some (132 + 1 * j)))))),
  .inr (3, [.inl 0, .inl 0, .inl 0, .inl 0, .inl 0, .inr (.inr (.inl (some 0))), .inl 0]),
  .inr (3, [.inl 0, .inl 0, .inl 0, .inl 0, .inl 0, .inr (.inr (.inl (some 0))), .inl 0]),
  .inr (3, [.inl 0, .inl 0, .inl 0, .inl 0, .inl 0, .inr (.inr (.inl (some 0))), .inl 0]),
  .inr (3, [.inl 0, .inl 0, .inl 0, .inl 0, .inl 0, .inr (.inr (.inl (some 0))), .inl 0]),
  .inr (3, [.inl 0, .inl 0, .inl 0, .inl 0, .inl 0, .inr (.inr (.inl (some 0))), .inl 0]),
  .inr (3, [.inl 0, .inl 0, .inl 0, .inl 0, .inl 0, .inr (.inr (.inl (some 0))), .inl 0]),
  .inr (3, [.inl 0, .inl 0, .inl 0, .inl 0, .inl 0, .inr (.inr (.inl (some 0))), .inl 0]),
  .inr (3, [.inl 0, .inl 0, .inl 0, .inl 0, .inl 0, .inr (.inr (.inl (some 0))), .inl 0]),
  .inr (2, [.inr (.inr (.inr (.inl (some 141))))]),
  .inr (0, [.inr (.inr (.inr (.inl (some 142)))), .inl 0]),
  .inl (0, 160, fun _ => .inl 0),
  .inr (0, [.inr (.inr (.inr (.inl (some 144)))), .inl 0]),
  .inl (0, 160, fun _ => .inl 0),
  .inr (6, [.inr (.inr (.inr (.inl (some 7)))), .inr (.inr (.inr (.inl (some 146)))), .inr (.inr (.inr (.inl (some 147)))), .inr (.inr (.inr (.inl (some 192)))), .inr (.inr (.inr (.inl (some 196)))), .inr (.inr (.inr (.inl (some 200))))]),
  .inl (12, 4, fun j => .inr (.inr (.inr (.inl (some (148 + 11 * j)))))),
  .inl (1, 4, fun j => .inl (nI j)),
  .inr (8, [.inr (.inr (.inr (.inl (some 149)))), .inr (.inr (.inr (.inl (some 150)))), .inl 0]),
  .inl (1, 4, fun _ => .inl 0),
  .inl (5, 4, fun j => .inr (.inr (.inr (.inl (some (151 + 2 * j)))))),
  .inr (1, [.inr (.inr (.inr (.inl (some 152)))), .inl 0]),
  .inl (1, 4, fun _ => .inl 0),
  .inr (1, [.inr (.inr (.inr (.inl (some 154)))), .inl 0]),
  .inl (1, 4, fun _ => .inl 0),
  .inr (1, [.inr (.inr (.inr (.inl (some 156)))), .inl 0]),
  .inl (1, 4, fun _ => .inl 0),
  .inr (1, [.inr (.inr (.inr (.inl (some 158)))), .inl 0]),
  .inl (1, 4, fun _ => .inl 0),
  .inr (8, [.inr (.inr (.inr (.inl (some 160)))), .inr (.inr (.inr (.inl (some 161)))), .inl 0]),
  .inl (1, 4, fun _ => .inl 0),
  .inl (5, 4, fun j => .inr (.inr (.inr (.inl (some (162 + 2 * j)))))),
  .inr (1, [.inr (.inr (.inr (.inl (some 163)))), .inl 0]),
  .inl (1, 4, fun _ => .inl 0),
  .inr (1, [.inr (.inr (.inr (.inl (some 165)))), .inl 0]),
  .inl (1, 4, fun _ => .inl 0),
  .inr (1, [.inr (.inr (.inr (.inl (some 167)))), .inl 0]),
  .inl (1, 4, fun _ => .inl 0),
  .inr (1, [.inr (.inr (.inr (.inl (some 169)))), .inl 0]),
  .inl (1, 4, fun _ => .inl 0),
  .inr (8, [.inr (.inr (.inr (.inl (some 171)))), .inr (.inr (.inr (.inl (some 172)))), .inl 0]),
  .inl (1, 4, fun _ => .inl 0),
  .inl (5, 4, fun j => .inr (.inr (.inr (.inl (some (173 + 2 * j)))))),
  .inr (1, [.inr (.inr (.inr (.inl (some 174)))), .inl 0]),
  .inl (1, 4, fun _ => .inl 0),
  .inr (1, [.inr (.inr (.inr (.inl (some 176)))), .inl 0]),
  .inl (1, 4, fun _ => .inl 0),
  .inr (1, [.inr (.inr (.inr (.inl (some 178)))), .inl 0]),
  .inl (1, 4, fun _ => .inl 0),
  .inr (1, [.inr (.inr (.inr (.inl (some 180)))), .inl 0]),
  .inl (1, 4, fun _ => .inl 0),
  .inr (8, [.inr (.inr (.inr (.inl (some 182)))), .inr (.inr (.inr (.inl (some 183)))), .inl 0]),
  .inl (1, 4, fun _ => .inl 0),
  .inl (5, 4, fun j => .inr (.inr (.inr (.inl (some (184 + 2 * j)))))),
  .inr (1, [.inr (.inr (.inr (.inl (some 185)))), .inl 0]),
  .inl (1, 4, fun _ => .inl 0),
  .inr (1, [.inr (.inr (.inr (.inl (some 187)))), .inl 0]),
  .inl (1, 4, fun _ => .inl 0),
  .inr (1, [.inr (.inr (.inr (.inl (some 189)))), .inl 0]),
  .inl (1, 4, fun _ => .inl 0),
  .inr (1, [.inr (.inr (.inr (.inl (some 191)))), .inl 0]),
  .inl (1, 4, fun _ => .inl 0),
  .inr (7, [.inr (.inr (.inr (.inl (some 193)))), .inr (.inr (.inr (.inl (some 195)))), .inl 0, .inl 0, .inl 0]),
  .inr (1, [.inr (.inr (.inr (.inl (some 194)))), .inl 0]),
  .inl (1, 4, fun _ => .inl 0),
  .inl (1, 60, fun _ => .inl 0),
  .inr (7, [.inr (.inr (.inr (.inl (some 197)))), .inr (.inr (.inr (.inl (some 199)))), .inl 0, .inl 0, .inl 0]),
  .inr (1, [.inr (.inr (.inr (.inl (some 198)))), .inl 0]),
  .inl (1, 4, fun _ => .inl 0),
  .inl (1, 60, fun _ => .inl 0),
  .inr (1, [.inr (.inr (.inr (.inl (some 201)))), .inl 0]),
  .inl (1, 8, fun _ => .inl 0)]
def w_m : List AC := [
  .inr (12, [.inl 0, .inl 1, .inr (.inr (.inr (.inl (some 203)))), .inr (.inr (.inr (.inl (some 204)))), .inr (.inr (.inr (.inl (some 205)))), .inr (.inr (.inr (.inl (some 206)))), .inr (.inr (.inr (.inl (some 207)))), .inr (.inr (.inr (.inl (some 208)))), .inr (.inr (.inr (.inl (some 209)))), .inr (.inr (.inr (.inl (some 210)))), .inr (.inr (.inr (.inl (some 211)))), .inl 0, .inr (.inr (.inr (.inl (some 212)))), .inr (.inr (.inr (.inl (some 213)))), .inr (.inr (.inr (.inl (some 214)))), .inr (.inr (.inr (.inl (some 215)))), .inr (.inr (.inr (.inl (some 216)))), .inl 0, .inr (.inr (.inr (.inl (some 217)))), .inl 0, .inr (.inr (.inr (.inl (some 218)))), .inl 160, .inl 0, .inl 0, .inl 0, .inl 0, .inl 0, .inr (.inr (.inr (.inl (some 219)))), .inl 0, .inr (.inr (.inr (.inl (some 220)))), .inr (.inr (.inr (.inl (some 221)))), .inl 0, .inr (.inr (.inr (.inl (some 222)))), .inl 0, .inr (.inr (.inr (.inl (some 223)))), .inr (.inr (.inr (.inl (some 224)))), .inr (.inr (.inr (.inl (some 225)))), .inr (.inr (.inr (.inl (some 226)))), .inr (.inr (.inr (.inl (some 227)))), .inr (.inr (.inr (.inl (some 228))))]),
  .inl (1, 40, fun _ => .inl 0),
  .inl (1, 40, fun _ => .inl 0),
  .inl (1, 40, fun _ => .inl 0),
  .inl (1, 40, fun j => if j = 0 then .inl 7 else .inl 0),
  .inl (3, 40, fun j => if j = 0 then .inl 1 else .inl 0),
  .inl (3, 40, fun _ => .inl 0),
  .inl (1, 40, fun _ => .inl 0),
  .inl (1, 160, fun _ => .inl 0),
  .inl (1, 960, fun _ => .inl 0),
  .inl (1, 8, fun _ => .inl 0),
  .inl (1, 8, fun _ => .inl 0),
  .inl (1, 8, fun _ => .inl 0),
  .inl (2, 8, fun _ => .inr (.inr (.inl (some 0)))),
  .inl (1, 8, fun _ => .inl 0),
  .inl (1, 320, fun _ => .inl 0),
  .inl (1, 400, fun _ => .inl 0),
  .inl (1, 60, fun _ => .inl 0),
  .inl (1, 60, fun _ => .inl 0),
  .inl (1, 60, fun _ => .inl 0),
  .inl (1, 4, fun _ => .inl 0),
  .inl (1, 4, fun j => .inl (nI j)),
  .inl (1, 4, fun _ => .inl 0),
  .inl (1, 16, fun _ => .inl 0),
  .inl (1, 16, fun _ => .inl 0),
  .inl (1, 64, fun _ => .inl 0),
  .inl (1, 8, fun _ => .inl 0)]
end
section
/-! ===== contracts moved along equal worlds ===== -/
theorem vx_Met_mono {l : Launch} {y : MethodName} {ws : List Cond} {rm : Room} {Pc Pc' : Array Value → State → Prop} {Qc Qc' : Array Value → State → Outcome → State → Prop} {XC XC' : String → State → State → Prop} {mc ms : Nat} {free : Addr → Prop} (h : vx_Met l y ws rm Pc Qc XC mc ms free) (hP : ∀ a s, Pc' a s → Pc a s) (hQ : ∀ a s o t, Qc a s o t → Qc' a s o t) (hX : ∀ N s t, XC N s t → XC' N s t) : vx_Met l y ws rm Pc' Qc' XC' mc ms free := by
  intro p e ha hc hk s m args below hf happ hPc hK
  obtain ⟨n, o, h1, h2, h3, hq⟩ := h p e ha hc hk s m args below hf happ (hP _ _ hPc) hK
  refine ⟨n, o, h1, h2, h3, ?_⟩
  rcases hq with ⟨q1, q2⟩ | ⟨q, ho, E, ce, L, hx, hr⟩
  · exact Or.inl ⟨hQ _ _ _ _ q1, q2⟩
  · exact Or.inr ⟨q, ho, E, ce, L, hX _ _ _ hx, hr⟩
theorem ai_CT_eq {l : Launch} {D : va_G} {E : AE} {M : AM} {as : List AV} {σ σ2 τ : List AC} {d : Nat} {o : Option AV ⊕ Nat} {τ2 : List AC} {dc ds : Nat} (h : ai_CT l D E M as σ d (o, τ, dc, ds)) (h1 : ai_eqW σ2 σ = true) (h2 : ai_eqW τ τ2 = true) : ai_CT l D E M as σ2 d (o, τ2, dc, ds) := by
  intro ws sz av hav
  refine vx_Met_mono (h ws sz av hav) ?_ ?_ ?_
  · intro a s hp
    obtain ⟨p0, p1, p2, p3⟩ := hp
    exact ⟨p0, p1, ai_eqW_ok h1 p2, p3⟩
  · intro a s oc t hq
    obtain ⟨ov, v, ws', g1, g2, g3, g4, g5⟩ := hq
    exact ⟨ov, v, ws', g1, g2, g3, ai_eqW_ok h2 g4, g5⟩
  · intro N s t hx
    obtain ⟨n, ws', g1, g2, g4, g5⟩ := hx
    exact ⟨n, ws', g1, g2, ai_eqW_ok h2 g4, g5⟩
end
section
/-! ===== the law: its runs, by the script's numbers ===== -/
def l_P (n : Nat) : List AV := .inr (.inl (-2147483648, -1)) :: ((List.range n).map (fun j => .inl (nI j)) ++ [.inr (.inl ((n : Int), 2147483647))])
def l_S (o : Option Nat) : List AV := match o with
  | some n => l_P n
  | none => [ai_top]
theorem l_cov (n : Nat) (x : Int32) : ∃ a ∈ l_P n, ∀ (E : AE) (ws : va_W), ai_V E ws a (.int x) := by
  have hlo := Int32.le_toInt x
  have hhi := Int32.toInt_lt x
  by_cases h : x < 0
  · refine ⟨_, List.mem_cons_self, fun E ws => ⟨x, rfl, ?_, ?_⟩⟩
    · simp at hlo ⊢; omega
    · have := Int32.lt_iff_toInt_lt.mp h
      simp at this ⊢; omega
  · obtain ⟨j, hj, rfl⟩ := nI_of h
    by_cases hn : j < n
    · exact ⟨.inl (nI j), List.mem_cons_of_mem _ (List.mem_append_left _ (List.mem_map.mpr ⟨j, List.mem_range.mpr hn, rfl⟩)), fun E ws => rfl⟩
    · refine ⟨_, List.mem_cons_of_mem _ (List.mem_append_right _ (List.mem_singleton.mpr rfl)), fun E ws => ⟨nI j, rfl, ?_, ?_⟩⟩
      · rw [nI_toInt hj]; simp; omega
      · simp at hhi ⊢; omega
theorem l_covS (o : Option Nat) (x : Int32) : ∃ a ∈ l_S o, ∀ (E : AE) (ws : va_W), ai_V E ws a (.int x) := by
  match o with
  | some n => exact l_cov n x
  | none => exact ⟨ai_top, List.mem_singleton.mpr rfl, fun E ws => ai_top_ok x⟩
def l_scf (a1 a2 a3 : AV) : Nat → AV := fun j => if j = 0 then .inr (.inr (.inr (.inr 40))) else if j = 1 then a1 else if j = 2 then a2 else a3
def l_ok (r : Option AR) : Bool := match r with
  | some (.inl (some v), _, dc, ds) => ai_eqV v (.inl 1) && (decide (dc ≤ 600002) && decide (ds ≤ 7302232))
  | _ => false
def l_lo : ALo := [(0, .inr (.inr (.inr (.inr 5))))]
def l_go (ext : AXT) (op : Option Int32) (L : Nat) (f : Nat → AV) : Option AR := ai_run ext mt op 6000 (some (L, f)) 13 mm_113 0 l_lo [] []
def l_all (ext : AXT) (k : Nat) (o1 o2 o3 : Option Nat) : Bool := (l_S o1).all (fun a1 => (l_S o2).all (fun a2 => (l_S o3).all (fun a3 => l_ok (l_go ext (some (nI k)) 4 (l_scf a1 a2 a3)))))
/-! the two constructors, done once -/
def x_no : AXT := fun _ _ _ _ => none
def x_a0 : List AV := [.inr (.inr (.inr (.inl (some 0))))]
def x_w0 : List AC := [.inr (11, ai_fd 11 6)]
def x_a1 : List AV := [.inr (.inr (.inr (.inl (some 202))))]
def x_w1 : List AC := w_1 ++ [.inr (12, ai_fd 12 40)]
def x_is (w : List AC) (c s : Nat) (r : Option AR) : Bool := match r with
  | some (.inl none, w', dc, ds) => ai_eqW w' w && (decide (dc = c) && decide (ds = s))
  | _ => false
def x_lx (d : Nat) (M : AM) (as : List AV) (σ : List AC) : Option AR :=
  if m_ts M = m_ts mm_57 then (if d = 12 ∧ ai_eqL as x_a0 = true ∧ ai_eqW σ x_w0 = true then some (.inl none, w_1, 201, 2890) else none)
  else if m_ts M = m_ts mm_75 then (if d = 12 ∧ ai_eqL as x_a1 = true ∧ ai_eqW σ x_w1 = true then some (.inl none, w_1 ++ w_m, 26, 2456) else none)
  else none
set_option maxRecDepth 100000 in
theorem x_c57 : x_is w_1 201 2890 (ai_run x_no mt none 6000 none 12 mm_57 0 (ai_args 0 x_a0) [] x_w0) = true := by decide +kernel
set_option maxRecDepth 100000 in
theorem x_c75 : x_is (w_1 ++ w_m) 26 2456 (ai_run x_no mt none 6000 none 12 mm_75 0 (ai_args 0 x_a1) [] x_w1) = true := by decide +kernel
end
section
/-! THE CLAIM OUT OF ONE WALK OF THE LAW'S BODY. Your part is whole_start (and what it stands on); all else here is the same for every law, but numbers. -/
def R_law : String := "MountYardLaw"
def lw_P (b : Addr) (xs : List Int32) (args : Array Value) (s : State) : Prop := args = #[.ref b] ∧ s.IntsAt b xs ∧ xs.length ≤ 4 ∧ (Jvm.Cond.and given_1 narrow_1).before args s = true
def lw_Q (_ : Array Value) (s : State) (o : Outcome) (t : State) : Prop := o = .returned (some (.int 1)) ∧ Framed s o t [] 600002 7302232
def lw_Z (below : List Frame) (a : Array Value) (s : State) : State → Prop := fun t => ∃ o, t.status = .running ∧ Ended t below o ∧ lw_Q a s o t
/-- the law's own end, with 1 on the stack, nothing written that was there before, its room as the claim has it -/
theorem lw_ret {p : Program} {l : Launch} {e : Env} {s : State} {m : MethodId} {below : List Frame} {meth : Method} {c : Code} {b : Nat} (hx : p.tables.exec = Jvm.exec) (hb : c.code = code) (hr : meth.sig.returnType = ret) (hlocks : meth.locks = false) {pc : Nat} {H : Heap} {ls : Array Slot} (hdg : decode code pc = .ok (.ireturn, 1)) : W p l e room_1 s m #[Value.ref b] below meth c H [] 600002 7302232 (lw_Z below #[Value.ref b] s) (F0 m pc ls [.int 1]) := by
  intro T hT X
  obtain ⟨fs, hret, hrun, hended, hW, hframe⟩ := X.leave (v := some (.int 1)) (hlocks := hlocks) (fun h => by rw [hr] at h; cases h)
  have hmeth' : T.vm.method? m = some meth := X.method'
  refine ⟨T.setFrames fs, ?_, .returned (some (.int 1)), hrun, hended, rfl, ⟨_, rfl⟩, hW, hframe⟩
  jvm_step X.here [X.here.top, hx, hb, hdg, hmeth', hr, ret, narrow_b1]
  (try refine ⟨rfl, ?_⟩); (try refine ⟨rfl, ?_⟩)
  first | (intro acts; rw [hret _ acts rfl rfl rfl]) | rw [hret _ _ rfl rfl rfl]
  exact Steps.refl _
/-- what holds at the law's entry: the machine, the code, the tables' words (any of lw_tbl by 'hts w (by decide +kernel)'), the script of L ints xs at the cell b, what the Statement gives of the start (any of its parts by flat_of_before) -/
def lw_At (p : Program) (s : State) (m : MethodId) (meth : Method) (c : Code) (b L : Nat) (xs : Nat → Int32) : Prop :=
  p.tables.exec = Jvm.exec ∧ c.code = code ∧ meth.sig.returnType = ret ∧ c.maxLocals = 7 ∧ s.vm.findClass R_law = some m.cls ∧ (∀ w ∈ lw_tbl, w.before #[Value.ref b] s = true) ∧ va_X b L xs s s.heap ∧ b < s.heap.size ∧ meth.locks = false ∧ (Jvm.Cond.and given_1 narrow_1).before #[Value.ref b] s = true
end
section
/-! ===== from the law's entry ===== -/
theorem m_Mk : ∀ M ∈ mt, ai_Mk M := fun M hM => ai_Mk_of (mt_ok1 M hM)
theorem m_wk {M : AM} (hM : M ∈ mt) : ai_Wk mt M := ⟨mt_ok2 M hM, (m_Mk M hM).2.2.2.2.2.2.2.2.1⟩
theorem m_wkl : ai_Wk mt mm_113 := ⟨mt_o_113, rfl⟩
theorem m_in57 : mm_57 ∈ mt := List.mem_of_getElem? (i := 57) rfl
theorem m_in75 : mm_75 ∈ mt := List.mem_of_getElem? (i := 75) rfl
theorem m_is57 : ∀ M ∈ mt, m_ts M = m_ts mm_57 → M = mm_57 := by
  intro M hM
  simp only [mt, List.mem_cons, List.not_mem_nil, or_false] at hM
  rcases hM with rfl | rfl | rfl | rfl | rfl | rfl | rfl | rfl | rfl | rfl | rfl | rfl | rfl | rfl | rfl | rfl | rfl | rfl | rfl | rfl | rfl | rfl | rfl | rfl | rfl | rfl | rfl | rfl | rfl | rfl | rfl | rfl | rfl | rfl | rfl | rfl | rfl | rfl | rfl | rfl | rfl | rfl | rfl | rfl | rfl | rfl | rfl | rfl | rfl | rfl | rfl | rfl | rfl | rfl | rfl | rfl | rfl | rfl | rfl | rfl | rfl | rfl | rfl | rfl | rfl | rfl | rfl | rfl | rfl | rfl | rfl | rfl | rfl | rfl | rfl | rfl | rfl | rfl | rfl | rfl | rfl | rfl | rfl | rfl | rfl | rfl | rfl | rfl | rfl | rfl | rfl | rfl | rfl | rfl | rfl | rfl | rfl | rfl | rfl | rfl | rfl | rfl | rfl | rfl | rfl | rfl | rfl | rfl | rfl | rfl | rfl | rfl | rfl
  all_goals first | (intro _; rfl) | (intro h; exact absurd h (by decide))
theorem m_is75 : ∀ M ∈ mt, m_ts M = m_ts mm_75 → M = mm_75 := by
  intro M hM
  simp only [mt, List.mem_cons, List.not_mem_nil, or_false] at hM
  rcases hM with rfl | rfl | rfl | rfl | rfl | rfl | rfl | rfl | rfl | rfl | rfl | rfl | rfl | rfl | rfl | rfl | rfl | rfl | rfl | rfl | rfl | rfl | rfl | rfl | rfl | rfl | rfl | rfl | rfl | rfl | rfl | rfl | rfl | rfl | rfl | rfl | rfl | rfl | rfl | rfl | rfl | rfl | rfl | rfl | rfl | rfl | rfl | rfl | rfl | rfl | rfl | rfl | rfl | rfl | rfl | rfl | rfl | rfl | rfl | rfl | rfl | rfl | rfl | rfl | rfl | rfl | rfl | rfl | rfl | rfl | rfl | rfl | rfl | rfl | rfl | rfl | rfl | rfl | rfl | rfl | rfl | rfl | rfl | rfl | rfl | rfl | rfl | rfl | rfl | rfl | rfl | rfl | rfl | rfl | rfl | rfl | rfl | rfl | rfl | rfl | rfl | rfl | rfl | rfl | rfl | rfl | rfl | rfl | rfl | rfl | rfl | rfl | rfl
  all_goals first | (intro _; rfl) | (intro h; exact absurd h (by decide))
theorem x_is_ok {w : List AC} {c s : Nat} {r : Option AR} (h : x_is w c s r = true) : ∃ w', r = some (.inl none, w', c, s) ∧ ai_eqW w' w = true := by
  unfold x_is at h
  split at h
  · next w' dc ds =>
    simp only [Bool.and_eq_true, decide_eq_true_eq] at h
    obtain ⟨h1, rfl, rfl⟩ := h
    exact ⟨w', rfl, h1⟩
  · cases h
theorem x_lx_ok {l : Launch} {D : va_G} {E : AE} (htr : l.stackTraces = false) : ∀ (M : AM) (as : List AV) (σ : List AC) (d : Nat) (r : AR), M ∈ mt → x_lx d M as σ = some r → ai_CT l D E M as σ d r ∧ ∀ n, r.1 = .inr n → n < 5 := by
  intro M as σ d r hM h
  have base := ai_run_ok (l := l) (D := D) (E := E) (mt := mt) (ext := x_no) (op := none) htr (fun k hk => by cases hk) m_Mk mt_ok2 (fun M as σ d r _ h => by cases h)
  unfold x_lx at h
  split at h
  · next hts =>
    obtain rfl := m_is57 M hM hts
    split at h
    · next hc =>
      cases h
      obtain ⟨rfl, ha, hw⟩ := hc
      obtain rfl := ai_eqL_ok ha
      obtain ⟨w', e1, e2⟩ := x_is_ok x_c57
      exact ⟨ai_CT_eq (ai_ct htr (base 6000).1 (m_wk hM) (m_Mk _ hM) e1 (by decide)) hw e2, fun n hn => by cases hn⟩
    · cases h
  · split at h
    · next hts =>
      obtain rfl := m_is75 M hM hts
      split at h
      · next hc =>
        cases h
        obtain ⟨rfl, ha, hw⟩ := hc
        obtain rfl := ai_eqL_ok ha
        obtain ⟨w', e1, e2⟩ := x_is_ok x_c75
        exact ⟨ai_CT_eq (ai_ct htr (base 6000).1 (m_wk hM) (m_Mk _ hM) e1 (by decide)) hw e2, fun n hn => by cases hn⟩
      · cases h
    · cases h
theorem l_conv {p : Program} {l : Launch} {e : Env} {R : Room} {s : State} {m : MethodId} {args : Array Value} {below : List Frame} {meth : Method} {c : Code} {H : Heap} {locs : List Loc} {cells slots mc ms : Nat} {g : JFrame} {E : AE} {D : va_G} {σ : List AC} {ws0 : va_W} {A : Nat → Prop}
    (k : W p l e R s m args below meth c H locs cells slots (vx_MQ below (ai_Q E D (.inl (some (.inl 1))) σ ws0 A) (ai_X E D (.inl (some (.inl 1))) σ ws0 A) args s mc ms A) g) (hA : ∀ q, A q → s.heap.size ≤ q) (h1 : mc ≤ 600002) (h2 : ms ≤ 7302232) : W p l e R s m args below meth c H locs cells slots (lw_Z below args s) g := by
  intro T hT X
  obtain ⟨t, a1, o, b1, b2, hQ⟩ := k T hT X
  refine ⟨t, a1, o, b1, b2, ?_⟩
  rcases hQ with ⟨⟨ov, v, ws, ho, hv, hO, -⟩, L, hF, hL⟩ | ⟨q, -, En, ce, L, ⟨n, ws, ho, -⟩, -⟩
  · cases ho
    match v, hO with
    | none, hO => exact hO.elim
    | some x, hO =>
      have hO : x = .int 1 := hO
      subst hO
      exact ⟨hv, hF.1, hF.2.1, hF.2.2.weaken (fun x hx hlt => absurd (hA _ (hL x hx)) (Nat.not_le.mpr hlt)) h1 h2⟩
  · cases ho
theorem l_inst : vwCl.all (fun q => decide (Cond.instantiable q.1 q.2.2 ∈ lw_tbl)) = true := by decide +kernel
theorem l_nc : ∀ a, a < 5 → ∀ b, b < 5 → a ≠ b → Cond.not (.castable (ax_n a) (ax_n b)) ∈ flatC (Jvm.Cond.and given_1 narrow_1) := by decide +kernel
theorem l_sU : Cond.isRef (.static Bundle.tN "UNASSIGNED_STACK" Bundle.steD) ∈ flatC (Jvm.Cond.and given_1 narrow_1) := by decide +kernel
theorem l_sN : Cond.isRef (.static Bundle.tN "SUPPRESSED_SENTINEL" Bundle.listD) ∈ flatC (Jvm.Cond.and given_1 narrow_1) := by decide +kernel
theorem l_lU : Cond.laysStatic Bundle.tN "UNASSIGNED_STACK" Bundle.steD ∈ lw_tbl := by decide +kernel
theorem l_lN : Cond.laysStatic Bundle.tN "SUPPRESSED_SENTINEL" Bundle.listD ∈ lw_tbl := by decide +kernel
theorem l_iT : Cond.initialized Bundle.tN ∈ lw_tbl := by decide +kernel
theorem l_D {s : State} {args : Array Value} (hts : ∀ w ∈ lw_tbl, w.before args s = true) : ∃ D : va_G, va_K D vwCl [] s := by
  have h : ∀ k : Nat, ∃ x : ClassId × (Nat → Nat), ∀ q, vwCl[k]? = some q → u_Kn s q.1 q.2.1 q.2.2 x.1 x.2 := by
    intro k
    cases hk : vwCl[k]? with
    | none => exact ⟨(0, fun _ => 0), fun q hq => by cases hq⟩
    | some r =>
      obtain ⟨cC, iS, hK⟩ := u_known (C := r.1) (T := r.2.1) (N := r.2.2) (n := r.2.2) hts (ai_F_all k r hk).2.2 (hts _ (of_decide_eq_true (List.all_eq_true.mp l_inst r (List.mem_of_getElem? hk))))
      exact ⟨(cC, iS), fun q hq => by cases hq; exact hK⟩
  exact ⟨(fun k => (Classical.choose (h k)).1, fun k => (Classical.choose (h k)).2), (fun k q hq => Classical.choose_spec (h k) q hq), (fun k q hq => by cases hq)⟩
set_option maxHeartbeats 1000000 in
/-- a run of the law's that answers 1 -/
theorem l_start {p : Program} {e : Env} {s : State} {m : MethodId} {below : List Frame} {meth : Method} {c : Code} {l : Launch} (htr : l.stackTraces = false) {b L : Nat} {xs : Nat → Int32} (C0 : lw_At p s m meth c b L xs) (htab : c.exceptionTable.toList = []) {E : AE} (hE : E.1 = b) {ext : AXT} {op : Option Int32} (hop : ∀ k, op = some k → E.2.1 &&& 15 = k)
    (hext : ∀ (D : va_G) (M : AM) (as : List AV) (σ : List AC) (d : Nat) (r : AR), M ∈ mt → ext d M as σ = some r → ai_CT l D E M as σ d r ∧ ∀ n, r.1 = .inr n → n < 5)
    {f : Nat → AV} (hf : ∀ (j : Nat) (ws : va_W), j < L → ai_V E ws (f j) (.int (xs j))) (h : l_ok (l_go ext op L f) = true) :
    W p l e room_1 s m #[Value.ref b] below meth c s.heap [] 0 0 (lw_Z below #[Value.ref b] s) (entryFrame m ([Value.ref b] : List Value).toArray 7) := by
  obtain ⟨hx, hb, hr, hml, hown, hts, hX, hbl, hlocks, hgv⟩ := C0
  have hs := flat_of_before _ hgv
  obtain ⟨D, hK⟩ := l_D hts
  unfold l_ok at h
  split at h
  · next v σ' dc ds hrun =>
    simp only [Bool.and_eq_true, decide_eq_true_eq] at h
    obtain ⟨h1, h2, h3⟩ := h
    have h1 : v = .inl 1 := of_decide_eq_true h1
    subst h1
    have hA : ∀ q : Nat, s.heap.size ≤ q → (fun q : Nat => s.heap.size ≤ q) q := fun _ h => h
    have hbA : ¬ (fun q : Nat => s.heap.size ≤ q) b := Nat.not_le.mpr hbl
    have hnA : ∀ a : Nat, a < s.heap.size → ¬ (fun q : Nat => s.heap.size ≤ q) a := fun a h => Nat.not_le.mpr h
    have hG : ai_G D s := ⟨hK, fun C hC => va_AO.of (hts _ hC), fun w hw hk => va_Nw.of (ax_kw_on hk) (hts w hw), fun a b ha hb hn => va_Nc.of (hs _ (l_nc a ha b hb hn))⟩
    have hZ : ai_Z (fun q : Nat => s.heap.size ≤ q) s s.heap := ⟨vx_Zqof (hts _ l_lU) (hts _ l_iT) (hs _ l_sU) hnA, vx_Zqof (hts _ l_lN) (hts _ l_iT) (hs _ l_sN) hnA⟩
    have S := (ai_run_ok (l := l) (D := D) (E := E) (mt := mt) (ext := ext) (op := op) htr hop m_Mk mt_ok2 (hext D) 6000).1
    rw [lg_entry_eq]
    refine l_conv (S (some (L, f)) 13 mm_113 0 l_lo [] [] (.inl (some (.inl 1)), σ', dc, ds) m_wkl hrun p e room_1 s m _ below meth c [] (fun q : Nat => s.heap.size ≤ q) [] s.heap [] _ (lv_args 0 [.ref b]) [] 0 0 600002 7302232 ?_ ?_ hA hZ ai_Ext.rf ⟨rfl, (fun i e q h => by cases h)⟩ (fun k q h => by cases h) ⟨(fun i j p q h => by cases h), (fun k q h => by cases h)⟩ va_S.rf (lv_entry [.ref b] (Nat.le_of_ble_eq_true rfl)) ⟨⟨rfl, (ai_VX (by decide)).mpr (by rw [← hE]; rfl)⟩, trivial⟩ trivial (by decide) (by decide) (by dsimp only; omega) (by dsimp only; omega) (by decide) (by decide)) (fun q h => h) (Nat.le_refl _) (Nat.le_refl _)
    · exact ⟨hx, hb, hml, hown, hr, hlocks, (fun hk => by cases hk), htab, fun w hw _ => hts w hw, hG, htr⟩
    · intro q hq
      cases hq
      exact ⟨xs, by rw [hE]; exact hX, by rw [hE]; exact hbl, by rw [hE]; exact hbA, fun j ws hj => hf j ws hj⟩
  · cases h
end
section
set_option maxRecDepth 100000 in
theorem l_n0 : l_ok (l_go x_lx none 0 (fun _ => ai_top)) = true := by decide +kernel
set_option maxRecDepth 100000 in
theorem l_n1 : l_ok (l_go x_lx none 1 (fun _ => ai_top)) = true := by decide +kernel
set_option maxRecDepth 100000 in
theorem l_n2 : l_ok (l_go x_lx none 2 (fun _ => ai_top)) = true := by decide +kernel
set_option maxRecDepth 100000 in
theorem l_n3 : l_ok (l_go x_lx none 3 (fun _ => ai_top)) = true := by decide +kernel
set_option maxRecDepth 100000 in
theorem l_0 : l_all x_lx 0 none none (some 9) = true := by decide +kernel
set_option maxRecDepth 100000 in
theorem l_1 : l_all x_lx 1 none none none = true := by decide +kernel
set_option maxRecDepth 100000 in
theorem l_2 : l_all x_lx 2 (some 1) none none = true := by decide +kernel
set_option maxRecDepth 100000 in
theorem l_3 : l_all x_lx 3 (some 1) none none = true := by decide +kernel
set_option maxRecDepth 100000 in
theorem l_4 : l_all x_lx 4 (some 1) none none = true := by decide +kernel
set_option maxRecDepth 100000 in
theorem l_5 : l_all x_lx 5 none none none = true := by decide +kernel
set_option maxRecDepth 100000 in
theorem l_6 : l_all x_lx 6 (some 1) (some 5) none = true := by decide +kernel
set_option maxRecDepth 100000 in
theorem l_7 : l_all x_lx 7 (some 1) (some 1) none = true := by decide +kernel
set_option maxRecDepth 100000 in
theorem l_8 : l_all x_lx 8 none none none = true := by decide +kernel
set_option maxRecDepth 100000 in
theorem l_10 : l_all x_lx 10 none none none = true := by decide +kernel
set_option maxRecDepth 100000 in
theorem l_11 : l_all x_lx 11 (some 4) none none = true := by decide +kernel
end
section
theorem al_c {f : AV → Bool} {a : AV} {l : List AV} (h : f a = true) (k : l.all f = true) : (a :: l).all f = true := by rw [List.all_cons, h, k]; rfl
set_option maxRecDepth 100000 in
theorem l_12_0 : (l_S (some 1)).all (fun a2 => (l_S none).all (fun a3 => l_ok (l_go x_lx (some (nI 12)) 4 (l_scf (.inr (.inl (-2147483648, -1))) a2 a3)))) = true := by decide +kernel
set_option maxRecDepth 100000 in
theorem l_12_1 : (l_S (some 1)).all (fun a2 => (l_S none).all (fun a3 => l_ok (l_go x_lx (some (nI 12)) 4 (l_scf (.inl (nI 0)) a2 a3)))) = true := by decide +kernel
set_option maxRecDepth 100000 in
theorem l_12_2 : (l_S (some 1)).all (fun a2 => (l_S none).all (fun a3 => l_ok (l_go x_lx (some (nI 12)) 4 (l_scf (.inl (nI 1)) a2 a3)))) = true := by decide +kernel
set_option maxRecDepth 100000 in
theorem l_12_3 : (l_S (some 1)).all (fun a2 => (l_S none).all (fun a3 => l_ok (l_go x_lx (some (nI 12)) 4 (l_scf (.inl (nI 2)) a2 a3)))) = true := by decide +kernel
set_option maxRecDepth 100000 in
theorem l_12_4 : (l_S (some 1)).all (fun a2 => (l_S none).all (fun a3 => l_ok (l_go x_lx (some (nI 12)) 4 (l_scf (.inl (nI 3)) a2 a3)))) = true := by decide +kernel
set_option maxRecDepth 100000 in
theorem l_12_5 : (l_S (some 1)).all (fun a2 => (l_S none).all (fun a3 => l_ok (l_go x_lx (some (nI 12)) 4 (l_scf (.inr (.inl (((4 : Nat) : Int), 2147483647))) a2 a3)))) = true := by decide +kernel
theorem l_12 : l_all x_lx 12 (some 4) (some 1) none = true := al_c l_12_0 (al_c l_12_1 (al_c l_12_2 (al_c l_12_3 (al_c l_12_4 (al_c l_12_5 (rfl))))))
set_option maxRecDepth 100000 in
theorem l_14_0 : (l_S none).all (fun a2 => (l_S none).all (fun a3 => l_ok (l_go x_lx (some (nI 14)) 4 (l_scf (.inr (.inl (-2147483648, -1))) a2 a3)))) = true := by decide +kernel
set_option maxRecDepth 100000 in
theorem l_14_1 : (l_S none).all (fun a2 => (l_S none).all (fun a3 => l_ok (l_go x_lx (some (nI 14)) 4 (l_scf (.inl (nI 0)) a2 a3)))) = true := by decide +kernel
set_option maxRecDepth 100000 in
theorem l_14_2 : (l_S none).all (fun a2 => (l_S none).all (fun a3 => l_ok (l_go x_lx (some (nI 14)) 4 (l_scf (.inl (nI 1)) a2 a3)))) = true := by decide +kernel
set_option maxRecDepth 100000 in
theorem l_14_3 : (l_S none).all (fun a2 => (l_S none).all (fun a3 => l_ok (l_go x_lx (some (nI 14)) 4 (l_scf (.inl (nI 2)) a2 a3)))) = true := by decide +kernel
set_option maxRecDepth 100000 in
theorem l_14_4 : (l_S none).all (fun a2 => (l_S none).all (fun a3 => l_ok (l_go x_lx (some (nI 14)) 4 (l_scf (.inl (nI 3)) a2 a3)))) = true := by decide +kernel
set_option maxRecDepth 100000 in
theorem l_14_5 : (l_S none).all (fun a2 => (l_S none).all (fun a3 => l_ok (l_go x_lx (some (nI 14)) 4 (l_scf (.inr (.inl (((4 : Nat) : Int), 2147483647))) a2 a3)))) = true := by decide +kernel
theorem l_14 : l_all x_lx 14 (some 4) none none = true := al_c l_14_0 (al_c l_14_1 (al_c l_14_2 (al_c l_14_3 (al_c l_14_4 (al_c l_14_5 (rfl))))))
end
section
set_option maxRecDepth 100000 in
theorem l_13_0 : (l_S (some 3)).all (fun a2 => (l_S none).all (fun a3 => l_ok (l_go x_lx (some (nI 13)) 4 (l_scf (.inr (.inl (-2147483648, -1))) a2 a3)))) = true := by decide +kernel
set_option maxRecDepth 100000 in
theorem l_13_1 : (l_S (some 3)).all (fun a2 => (l_S none).all (fun a3 => l_ok (l_go x_lx (some (nI 13)) 4 (l_scf (.inl (nI 0)) a2 a3)))) = true := by decide +kernel
set_option maxRecDepth 100000 in
theorem l_13_2 : (l_S (some 3)).all (fun a2 => (l_S none).all (fun a3 => l_ok (l_go x_lx (some (nI 13)) 4 (l_scf (.inl (nI 1)) a2 a3)))) = true := by decide +kernel
set_option maxRecDepth 100000 in
theorem l_13_3 : (l_S (some 3)).all (fun a2 => (l_S none).all (fun a3 => l_ok (l_go x_lx (some (nI 13)) 4 (l_scf (.inl (nI 2)) a2 a3)))) = true := by decide +kernel
set_option maxRecDepth 100000 in
theorem l_13_4 : (l_S (some 3)).all (fun a2 => (l_S none).all (fun a3 => l_ok (l_go x_lx (some (nI 13)) 4 (l_scf (.inl (nI 3)) a2 a3)))) = true := by decide +kernel
set_option maxRecDepth 100000 in
theorem l_13_5 : (l_S (some 3)).all (fun a2 => (l_S none).all (fun a3 => l_ok (l_go x_lx (some (nI 13)) 4 (l_scf (.inr (.inl (((4 : Nat) : Int), 2147483647))) a2 a3)))) = true := by decide +kernel
theorem l_13 : l_all x_lx 13 (some 4) (some 3) none = true := al_c l_13_0 (al_c l_13_1 (al_c l_13_2 (al_c l_13_3 (al_c l_13_4 (al_c l_13_5 (rfl))))))
end
section
set_option maxRecDepth 100000 in
theorem l_15_0_0 : (l_S (some 1)).all (fun a3 => l_ok (l_go x_lx (some (nI 15)) 4 (l_scf (.inr (.inl (-2147483648, -1))) (.inr (.inl (-2147483648, -1))) a3))) = true := by decide +kernel
set_option maxRecDepth 100000 in
theorem l_15_0_1 : (l_S (some 1)).all (fun a3 => l_ok (l_go x_lx (some (nI 15)) 4 (l_scf (.inr (.inl (-2147483648, -1))) (.inl (nI 0)) a3))) = true := by decide +kernel
set_option maxRecDepth 100000 in
theorem l_15_0_2 : (l_S (some 1)).all (fun a3 => l_ok (l_go x_lx (some (nI 15)) 4 (l_scf (.inr (.inl (-2147483648, -1))) (.inl (nI 1)) a3))) = true := by decide +kernel
set_option maxRecDepth 100000 in
theorem l_15_0_3 : (l_S (some 1)).all (fun a3 => l_ok (l_go x_lx (some (nI 15)) 4 (l_scf (.inr (.inl (-2147483648, -1))) (.inl (nI 2)) a3))) = true := by decide +kernel
set_option maxRecDepth 100000 in
theorem l_15_0_4 : (l_S (some 1)).all (fun a3 => l_ok (l_go x_lx (some (nI 15)) 4 (l_scf (.inr (.inl (-2147483648, -1))) (.inl (nI 3)) a3))) = true := by decide +kernel
set_option maxRecDepth 100000 in
theorem l_15_0_5 : (l_S (some 1)).all (fun a3 => l_ok (l_go x_lx (some (nI 15)) 4 (l_scf (.inr (.inl (-2147483648, -1))) (.inr (.inl (((4 : Nat) : Int), 2147483647))) a3))) = true := by decide +kernel
theorem l_15_0 : (l_S (some 4)).all (fun a2 => (l_S (some 1)).all (fun a3 => l_ok (l_go x_lx (some (nI 15)) 4 (l_scf (.inr (.inl (-2147483648, -1))) a2 a3)))) = true := al_c l_15_0_0 (al_c l_15_0_1 (al_c l_15_0_2 (al_c l_15_0_3 (al_c l_15_0_4 (al_c l_15_0_5 (rfl))))))
set_option maxRecDepth 100000 in
theorem l_15_1_0 : (l_S (some 1)).all (fun a3 => l_ok (l_go x_lx (some (nI 15)) 4 (l_scf (.inl (nI 0)) (.inr (.inl (-2147483648, -1))) a3))) = true := by decide +kernel
set_option maxRecDepth 100000 in
theorem l_15_1_1 : (l_S (some 1)).all (fun a3 => l_ok (l_go x_lx (some (nI 15)) 4 (l_scf (.inl (nI 0)) (.inl (nI 0)) a3))) = true := by decide +kernel
set_option maxRecDepth 100000 in
theorem l_15_1_2 : (l_S (some 1)).all (fun a3 => l_ok (l_go x_lx (some (nI 15)) 4 (l_scf (.inl (nI 0)) (.inl (nI 1)) a3))) = true := by decide +kernel
set_option maxRecDepth 100000 in
theorem l_15_1_3 : (l_S (some 1)).all (fun a3 => l_ok (l_go x_lx (some (nI 15)) 4 (l_scf (.inl (nI 0)) (.inl (nI 2)) a3))) = true := by decide +kernel
set_option maxRecDepth 100000 in
theorem l_15_1_4 : (l_S (some 1)).all (fun a3 => l_ok (l_go x_lx (some (nI 15)) 4 (l_scf (.inl (nI 0)) (.inl (nI 3)) a3))) = true := by decide +kernel
set_option maxRecDepth 100000 in
theorem l_15_1_5 : (l_S (some 1)).all (fun a3 => l_ok (l_go x_lx (some (nI 15)) 4 (l_scf (.inl (nI 0)) (.inr (.inl (((4 : Nat) : Int), 2147483647))) a3))) = true := by decide +kernel
theorem l_15_1 : (l_S (some 4)).all (fun a2 => (l_S (some 1)).all (fun a3 => l_ok (l_go x_lx (some (nI 15)) 4 (l_scf (.inl (nI 0)) a2 a3)))) = true := al_c l_15_1_0 (al_c l_15_1_1 (al_c l_15_1_2 (al_c l_15_1_3 (al_c l_15_1_4 (al_c l_15_1_5 (rfl))))))
set_option maxRecDepth 100000 in
theorem l_15_2_0 : (l_S (some 1)).all (fun a3 => l_ok (l_go x_lx (some (nI 15)) 4 (l_scf (.inl (nI 1)) (.inr (.inl (-2147483648, -1))) a3))) = true := by decide +kernel
set_option maxRecDepth 100000 in
theorem l_15_2_1 : (l_S (some 1)).all (fun a3 => l_ok (l_go x_lx (some (nI 15)) 4 (l_scf (.inl (nI 1)) (.inl (nI 0)) a3))) = true := by decide +kernel
set_option maxRecDepth 100000 in
theorem l_15_2_2 : (l_S (some 1)).all (fun a3 => l_ok (l_go x_lx (some (nI 15)) 4 (l_scf (.inl (nI 1)) (.inl (nI 1)) a3))) = true := by decide +kernel
set_option maxRecDepth 100000 in
theorem l_15_2_3 : (l_S (some 1)).all (fun a3 => l_ok (l_go x_lx (some (nI 15)) 4 (l_scf (.inl (nI 1)) (.inl (nI 2)) a3))) = true := by decide +kernel
set_option maxRecDepth 100000 in
theorem l_15_2_4 : (l_S (some 1)).all (fun a3 => l_ok (l_go x_lx (some (nI 15)) 4 (l_scf (.inl (nI 1)) (.inl (nI 3)) a3))) = true := by decide +kernel
set_option maxRecDepth 100000 in
theorem l_15_2_5 : (l_S (some 1)).all (fun a3 => l_ok (l_go x_lx (some (nI 15)) 4 (l_scf (.inl (nI 1)) (.inr (.inl (((4 : Nat) : Int), 2147483647))) a3))) = true := by decide +kernel
theorem l_15_2 : (l_S (some 4)).all (fun a2 => (l_S (some 1)).all (fun a3 => l_ok (l_go x_lx (some (nI 15)) 4 (l_scf (.inl (nI 1)) a2 a3)))) = true := al_c l_15_2_0 (al_c l_15_2_1 (al_c l_15_2_2 (al_c l_15_2_3 (al_c l_15_2_4 (al_c l_15_2_5 (rfl))))))
set_option maxRecDepth 100000 in
theorem l_15_3_0 : (l_S (some 1)).all (fun a3 => l_ok (l_go x_lx (some (nI 15)) 4 (l_scf (.inl (nI 2)) (.inr (.inl (-2147483648, -1))) a3))) = true := by decide +kernel
set_option maxRecDepth 100000 in
theorem l_15_3_1 : (l_S (some 1)).all (fun a3 => l_ok (l_go x_lx (some (nI 15)) 4 (l_scf (.inl (nI 2)) (.inl (nI 0)) a3))) = true := by decide +kernel
set_option maxRecDepth 100000 in
theorem l_15_3_2 : (l_S (some 1)).all (fun a3 => l_ok (l_go x_lx (some (nI 15)) 4 (l_scf (.inl (nI 2)) (.inl (nI 1)) a3))) = true := by decide +kernel
set_option maxRecDepth 100000 in
theorem l_15_3_3 : (l_S (some 1)).all (fun a3 => l_ok (l_go x_lx (some (nI 15)) 4 (l_scf (.inl (nI 2)) (.inl (nI 2)) a3))) = true := by decide +kernel
set_option maxRecDepth 100000 in
theorem l_15_3_4 : (l_S (some 1)).all (fun a3 => l_ok (l_go x_lx (some (nI 15)) 4 (l_scf (.inl (nI 2)) (.inl (nI 3)) a3))) = true := by decide +kernel
set_option maxRecDepth 100000 in
theorem l_15_3_5 : (l_S (some 1)).all (fun a3 => l_ok (l_go x_lx (some (nI 15)) 4 (l_scf (.inl (nI 2)) (.inr (.inl (((4 : Nat) : Int), 2147483647))) a3))) = true := by decide +kernel
theorem l_15_3 : (l_S (some 4)).all (fun a2 => (l_S (some 1)).all (fun a3 => l_ok (l_go x_lx (some (nI 15)) 4 (l_scf (.inl (nI 2)) a2 a3)))) = true := al_c l_15_3_0 (al_c l_15_3_1 (al_c l_15_3_2 (al_c l_15_3_3 (al_c l_15_3_4 (al_c l_15_3_5 (rfl))))))
set_option maxRecDepth 100000 in
theorem l_15_4_0 : (l_S (some 1)).all (fun a3 => l_ok (l_go x_lx (some (nI 15)) 4 (l_scf (.inl (nI 3)) (.inr (.inl (-2147483648, -1))) a3))) = true := by decide +kernel
set_option maxRecDepth 100000 in
theorem l_15_4_1 : (l_S (some 1)).all (fun a3 => l_ok (l_go x_lx (some (nI 15)) 4 (l_scf (.inl (nI 3)) (.inl (nI 0)) a3))) = true := by decide +kernel
set_option maxRecDepth 100000 in
theorem l_15_4_2 : (l_S (some 1)).all (fun a3 => l_ok (l_go x_lx (some (nI 15)) 4 (l_scf (.inl (nI 3)) (.inl (nI 1)) a3))) = true := by decide +kernel
set_option maxRecDepth 100000 in
theorem l_15_4_3 : (l_S (some 1)).all (fun a3 => l_ok (l_go x_lx (some (nI 15)) 4 (l_scf (.inl (nI 3)) (.inl (nI 2)) a3))) = true := by decide +kernel
set_option maxRecDepth 100000 in
theorem l_15_4_4 : (l_S (some 1)).all (fun a3 => l_ok (l_go x_lx (some (nI 15)) 4 (l_scf (.inl (nI 3)) (.inl (nI 3)) a3))) = true := by decide +kernel
set_option maxRecDepth 100000 in
theorem l_15_4_5 : (l_S (some 1)).all (fun a3 => l_ok (l_go x_lx (some (nI 15)) 4 (l_scf (.inl (nI 3)) (.inr (.inl (((4 : Nat) : Int), 2147483647))) a3))) = true := by decide +kernel
theorem l_15_4 : (l_S (some 4)).all (fun a2 => (l_S (some 1)).all (fun a3 => l_ok (l_go x_lx (some (nI 15)) 4 (l_scf (.inl (nI 3)) a2 a3)))) = true := al_c l_15_4_0 (al_c l_15_4_1 (al_c l_15_4_2 (al_c l_15_4_3 (al_c l_15_4_4 (al_c l_15_4_5 (rfl))))))
set_option maxRecDepth 100000 in
theorem l_15_5_0 : (l_S (some 1)).all (fun a3 => l_ok (l_go x_lx (some (nI 15)) 4 (l_scf (.inr (.inl (((4 : Nat) : Int), 2147483647))) (.inr (.inl (-2147483648, -1))) a3))) = true := by decide +kernel
set_option maxRecDepth 100000 in
theorem l_15_5_1 : (l_S (some 1)).all (fun a3 => l_ok (l_go x_lx (some (nI 15)) 4 (l_scf (.inr (.inl (((4 : Nat) : Int), 2147483647))) (.inl (nI 0)) a3))) = true := by decide +kernel
set_option maxRecDepth 100000 in
theorem l_15_5_2 : (l_S (some 1)).all (fun a3 => l_ok (l_go x_lx (some (nI 15)) 4 (l_scf (.inr (.inl (((4 : Nat) : Int), 2147483647))) (.inl (nI 1)) a3))) = true := by decide +kernel
set_option maxRecDepth 100000 in
theorem l_15_5_3 : (l_S (some 1)).all (fun a3 => l_ok (l_go x_lx (some (nI 15)) 4 (l_scf (.inr (.inl (((4 : Nat) : Int), 2147483647))) (.inl (nI 2)) a3))) = true := by decide +kernel
set_option maxRecDepth 100000 in
theorem l_15_5_4 : (l_S (some 1)).all (fun a3 => l_ok (l_go x_lx (some (nI 15)) 4 (l_scf (.inr (.inl (((4 : Nat) : Int), 2147483647))) (.inl (nI 3)) a3))) = true := by decide +kernel
set_option maxRecDepth 100000 in
theorem l_15_5_5 : (l_S (some 1)).all (fun a3 => l_ok (l_go x_lx (some (nI 15)) 4 (l_scf (.inr (.inl (((4 : Nat) : Int), 2147483647))) (.inr (.inl (((4 : Nat) : Int), 2147483647))) a3))) = true := by decide +kernel
theorem l_15_5 : (l_S (some 4)).all (fun a2 => (l_S (some 1)).all (fun a3 => l_ok (l_go x_lx (some (nI 15)) 4 (l_scf (.inr (.inl (((4 : Nat) : Int), 2147483647))) a2 a3)))) = true := al_c l_15_5_0 (al_c l_15_5_1 (al_c l_15_5_2 (al_c l_15_5_3 (al_c l_15_5_4 (al_c l_15_5_5 (rfl))))))
theorem l_15 : l_all x_lx 15 (some 4) (some 4) (some 1) = true := al_c l_15_0 (al_c l_15_1 (al_c l_15_2 (al_c l_15_3 (al_c l_15_4 (al_c l_15_5 (rfl))))))
end
section
/-! ===== the signs of a word, and the method that looks at them ===== -/
def t_c (w : Int64) (k : Nat) : Int32 := ((w >>> ((nI (8 * k)).toInt64 &&& 63)) &&& 255).toInt32
def t_G (x : Int32) : Prop := (97 ≤ x ∧ x ≤ 122) ∨ x = 46 ∨ x = 47 ∨ x = 32
theorem t_255 (n i : Nat) (h : ¬ i < 8) : (255#n).getLsbD i = false := by
  rw [BitVec.getLsbD_ofNat]
  have : Nat.testBit 255 i = false := Nat.testBit_lt_two_pow (Nat.lt_of_lt_of_le (show 255 < 2 ^ 8 by decide) (Nat.pow_le_pow_right (by decide) (by omega)))
  rw [this, Bool.and_false]
theorem t_255' (n i : Nat) (h : i < 8) (hn : 8 ≤ n) : (255#n).getLsbD i = true := by
  rw [BitVec.getLsbD_ofNat]
  have : Nat.testBit 255 i = true := by
    match i, h with
    | 0, _ => rfl
    | 1, _ => rfl
    | 2, _ => rfl
    | 3, _ => rfl
    | 4, _ => rfl
    | 5, _ => rfl
    | 6, _ => rfl
    | 7, _ => rfl
  rw [this, Bool.and_true, decide_eq_true_eq]
  omega
theorem t_bit (w : BitVec 64) (s : Nat) (hs : s ≤ 56) : ((w >>> s).signExtend 32) &&& 255#32 = ((w.sshiftRight s) &&& 255#64).signExtend 32 := by
  apply BitVec.eq_of_getLsbD_eq
  intro i hi
  have hi64 : i < 64 := by omega
  rw [BitVec.getLsbD_and, BitVec.getLsbD_signExtend, BitVec.getLsbD_signExtend, if_pos hi64, if_pos hi64, BitVec.getLsbD_and]
  by_cases h8 : i < 8
  · have hsi : s + i < 64 := by omega
    rw [t_255' 32 i h8 (by decide), t_255' 64 i h8 (by decide), BitVec.getLsbD_ushiftRight, BitVec.getLsbD_sshiftRight, if_pos hsi]
    simp only [Bool.and_true, show decide (64 ≤ i) = false from decide_eq_false (by omega), Bool.not_false, Bool.true_and]
  · rw [t_255 32 i h8, t_255 64 i h8]
    simp only [Bool.and_false]
theorem t_eqk (w : Int64) (k : Nat) (hk : k < 8) (a : UInt64) (b : Int64) (ha : (a.toBitVec % 64).toNat = 8 * k) (hb : (b.toBitVec.smod 64).toNat = 8 * k) : ((w.toUInt64 >>> a).toInt64).toInt32 &&& 255 = ((w >>> b) &&& 255).toInt32 := by
  apply Int32.toBitVec_inj.mp
  have e1 : (w.toUInt64 >>> a).toInt64.toBitVec = w.toBitVec >>> (8 * k) := by
    show (w.toUInt64 >>> a).toBitVec = _
    rw [UInt64.toBitVec_shiftRight, BitVec.ushiftRight_eq', ha]
    rfl
  have e2 : (w >>> b).toBitVec = w.toBitVec.sshiftRight (8 * k) := by
    rw [Int64.toBitVec_shiftRight, BitVec.sshiftRight_eq', hb]
  rw [Int32.toBitVec_and, Int64.toBitVec_toInt32, Int64.toBitVec_toInt32, Int64.toBitVec_and, e1, e2]
  exact t_bit _ _ (by omega)
theorem t_eq (w : Int64) : ∀ k, k < 8 → ((w.toUInt64 >>> ((nI (8 * k)).toInt64.toUInt64 &&& Int64.toUInt64 63)).toInt64).toInt32 &&& 255 = t_c w k
  | 0, h => t_eqk w 0 h _ _ (by decide) (by decide)
  | 1, h => t_eqk w 1 h _ _ (by decide) (by decide)
  | 2, h => t_eqk w 2 h _ _ (by decide) (by decide)
  | 3, h => t_eqk w 3 h _ _ (by decide) (by decide)
  | 4, h => t_eqk w 4 h _ _ (by decide) (by decide)
  | 5, h => t_eqk w 5 h _ _ (by decide) (by decide)
  | 6, h => t_eqk w 6 h _ _ (by decide) (by decide)
  | 7, h => t_eqk w 7 h _ _ (by decide) (by decide)
end
section
theorem dt_0 : decode (m_cc mm_74) 0 = .ok (.iconst 0, 1) := by decide +kernel
theorem dt_1 : decode (m_cc mm_74) 1 = .ok (.istore_n 3, 1) := by decide +kernel
theorem dt_2 : decode (m_cc mm_74) 2 = .ok (.iload_n 3, 1) := by decide +kernel
theorem dt_3 : decode (m_cc mm_74) 3 = .ok (.iload_n 2, 1) := by decide +kernel
theorem dt_4 : decode (m_cc mm_74) 4 = .ok (.if_icmp .ge 77, 3) := by decide +kernel
theorem dt_7 : decode (m_cc mm_74) 7 = .ok (.iload_n 3, 1) := by decide +kernel
theorem dt_8 : decode (m_cc mm_74) 8 = .ok (.bipush 8, 2) := by decide +kernel
theorem dt_10 : decode (m_cc mm_74) 10 = .ok (.if_icmp .ge 71, 3) := by decide +kernel
theorem dt_13 : decode (m_cc mm_74) 13 = .ok (.lload_n 0, 1) := by decide +kernel
theorem dt_14 : decode (m_cc mm_74) 14 = .ok (.bipush 8, 2) := by decide +kernel
theorem dt_16 : decode (m_cc mm_74) 16 = .ok (.iload_n 3, 1) := by decide +kernel
theorem dt_17 : decode (m_cc mm_74) 17 = .ok (.imul, 1) := by decide +kernel
theorem dt_18 : decode (m_cc mm_74) 18 = .ok (.lushr, 1) := by decide +kernel
theorem dt_19 : decode (m_cc mm_74) 19 = .ok (.l2i, 1) := by decide +kernel
theorem dt_20 : decode (m_cc mm_74) 20 = .ok (.sipush 255, 3) := by decide +kernel
theorem dt_23 : decode (m_cc mm_74) 23 = .ok (.iand, 1) := by decide +kernel
theorem dt_24 : decode (m_cc mm_74) 24 = .ok (.istore 4, 2) := by decide +kernel
theorem dt_26 : decode (m_cc mm_74) 26 = .ok (.iload 4, 2) := by decide +kernel
theorem dt_28 : decode (m_cc mm_74) 28 = .ok (.bipush 97, 2) := by decide +kernel
theorem dt_30 : decode (m_cc mm_74) 30 = .ok (.if_icmp .lt 14, 3) := by decide +kernel
theorem dt_33 : decode (m_cc mm_74) 33 = .ok (.iload 4, 2) := by decide +kernel
theorem dt_35 : decode (m_cc mm_74) 35 = .ok (.bipush 122, 2) := by decide +kernel
theorem dt_37 : decode (m_cc mm_74) 37 = .ok (.if_icmp .gt 7, 3) := by decide +kernel
theorem dt_40 : decode (m_cc mm_74) 40 = .ok (.iconst 1, 1) := by decide +kernel
theorem dt_41 : decode (m_cc mm_74) 41 = .ok (.goto 4, 3) := by decide +kernel
theorem dt_44 : decode (m_cc mm_74) 44 = .ok (.iconst 0, 1) := by decide +kernel
theorem dt_45 : decode (m_cc mm_74) 45 = .ok (.istore 5, 2) := by decide +kernel
theorem dt_47 : decode (m_cc mm_74) 47 = .ok (.iload 5, 2) := by decide +kernel
theorem dt_49 : decode (m_cc mm_74) 49 = .ok (.ifCond .ne 26, 3) := by decide +kernel
theorem dt_52 : decode (m_cc mm_74) 52 = .ok (.iload 4, 2) := by decide +kernel
theorem dt_54 : decode (m_cc mm_74) 54 = .ok (.bipush 46, 2) := by decide +kernel
theorem dt_56 : decode (m_cc mm_74) 56 = .ok (.if_icmp .eq 19, 3) := by decide +kernel
theorem dt_59 : decode (m_cc mm_74) 59 = .ok (.iload 4, 2) := by decide +kernel
theorem dt_61 : decode (m_cc mm_74) 61 = .ok (.bipush 47, 2) := by decide +kernel
theorem dt_63 : decode (m_cc mm_74) 63 = .ok (.if_icmp .eq 12, 3) := by decide +kernel
theorem dt_66 : decode (m_cc mm_74) 66 = .ok (.iload 4, 2) := by decide +kernel
theorem dt_68 : decode (m_cc mm_74) 68 = .ok (.bipush 32, 2) := by decide +kernel
theorem dt_70 : decode (m_cc mm_74) 70 = .ok (.if_icmp .eq 5, 3) := by decide +kernel
theorem dt_73 : decode (m_cc mm_74) 73 = .ok (.iconst 0, 1) := by decide +kernel
theorem dt_74 : decode (m_cc mm_74) 74 = .ok (.ireturn, 1) := by decide +kernel
theorem dt_75 : decode (m_cc mm_74) 75 = .ok (.iinc 3 1, 3) := by decide +kernel
theorem dt_78 : decode (m_cc mm_74) 78 = .ok (.goto (-76), 3) := by decide +kernel
theorem dt_81 : decode (m_cc mm_74) 81 = .ok (.iconst 1, 1) := by decide +kernel
theorem dt_82 : decode (m_cc mm_74) 82 = .ok (.ireturn, 1) := by decide +kernel
section TLP
variable {p : Program} {l : Launch} {e : Env} {R : Room} {s : State} {m : MethodId} {args : Array Value} {below : List Frame} {meth : Method} {c : Code} {H : Heap} {locs : List Loc} {cells slots : Nat} {Q : State → Prop}
set_option maxHeartbeats 2000000 in
theorem t_loop (hx : p.tables.exec = Jvm.exec) (hb : c.code = m_cc mm_74) {w : Int64} {n jb : Nat} (hn : n ≤ 8) (hjb : jb ≤ n) (hg : ∀ k, k < jb → t_G (t_c w k)) (hbad : jb < n → ¬ t_G (t_c w jb))
    (kt : jb = n → ∀ ls : Array Slot, W p l e R s m args below meth c H locs cells slots Q (F0 m 81 ls [])) (kf : jb < n → ∀ ls : Array Slot, W p l e R s m args below meth c H locs cells slots Q (F0 m 73 ls [])) :
    ∀ (k i : Nat), i + k = n → i ≤ jb → ∀ ls : Array Slot, lv_has ls 6 [(3, .int (nI i)), (0, .long w), (2, .int (nI n))] → W p l e R s m args below meth c H locs cells slots Q (F0 m 2 ls [])
  | 0, i, hi, hij, ls, hl => by
    have e : i = n := by omega
    refine lv_iload_n hx hb dt_2 rfl (lv_at hl 0 rfl) ?_
    refine lv_iload_n hx hb dt_3 rfl (lv_at hl 2 rfl) ?_
    exact lv_icmp_ge (tgt := 81) hx hb dt_4 (by decide) (fun _ => kt (by omega) ls) (fun z => absurd (by rw [e]; exact Int32.le_refl _) z)
  | k + 1, i, hi, hij, ls, hl => by
    have ih := t_loop hx hb hn hjb hg hbad kt kf k
    have hin : i < n := by omega
    refine lv_iload_n hx hb dt_2 rfl (lv_at hl 0 rfl) ?_
    refine lv_iload_n hx hb dt_3 rfl (lv_at hl 2 rfl) ?_
    refine lv_icmp_ge (tgt := 81) hx hb dt_4 (by decide) (fun z => absurd z (nI_ge hin (by omega))) (fun _ => ?_)
    refine lv_iload_n hx hb dt_7 rfl (lv_at hl 0 rfl) ?_
    refine lv_bipush (v := 8) hx hb dt_8 (by decide) ?_
    refine lv_icmp_ge (tgt := 81) hx hb dt_10 (by decide) (fun z => absurd z (nI_ge (a := i) (b := 8) (by omega) (by decide))) (fun _ => ?_)
    refine lv_lload_n hx hb dt_13 rfl (lv_at hl 1 rfl) ?_
    refine lv_bipush (v := 8) hx hb dt_14 (by decide) ?_
    refine lv_iload_n hx hb dt_16 rfl (lv_at hl 0 rfl) ?_
    refine lv_imul hx hb dt_17 ?_
    refine lv_lushr hx hb dt_18 rfl ?_
    refine lv_l2i hx hb dt_19 rfl ?_
    refine lv_sipush (v := 255) hx hb dt_20 (by decide) ?_
    refine lv_iand hx hb dt_23 ?_
    refine lv_topi (fun y hy => ?_)
    have hy : y = t_c w i := by
      rw [hy, ← t_eq w i (by omega), show (8 : Int32) * nI i = nI (8 * i) from pk_mul 8 i]
    refine lv_istore (lv' := [(4, .int y), (3, .int (nI i)), (0, .long w), (2, .int (nI n))]) hx hb dt_24 hl (by decide) rfl (fun ls hl => ?_)
    have at75 : ∀ (ls : Array Slot) (b : Int32), lv_has ls 6 [(5, .int b), (4, .int y), (3, .int (nI i)), (0, .long w), (2, .int (nI n))] → t_G y → W p l e R s m args below meth c H locs cells slots Q (F0 m 75 ls []) := by
      intro ls b hl hG
      have hlt : i < jb := by
        rcases Nat.lt_or_ge i jb with g | g
        · exact g
        · have : i = jb := by omega
          subst this
          rw [hy] at hG
          exact absurd hG (hbad hin)
      refine lv_iinc (v := nI (i + 1)) (k := 2) (lv' := [(3, .int (nI (i + 1))), (5, .int b), (4, .int y), (0, .long w), (2, .int (nI n))]) hx hb dt_75 hl rfl (nI_1 i) (by decide) rfl (fun ls hl => ?_)
      refine lv_goto (tgt := 2) hx hb dt_78 (by decide) ?_
      exact ih (i + 1) (by omega) (by omega) ls (lv_sub hl [0, 3, 4] rfl)
    have at44 : ∀ ls : Array Slot, lv_has ls 6 [(4, .int y), (3, .int (nI i)), (0, .long w), (2, .int (nI n))] → ¬ (97 ≤ y ∧ y ≤ 122) → W p l e R s m args below meth c H locs cells slots Q (F0 m 44 ls []) := by
      intro ls hl hnl
      refine lv_iconst (v := 0) hx hb dt_44 (by decide) ?_
      refine lv_istore (lv' := [(5, .int 0), (4, .int y), (3, .int (nI i)), (0, .long w), (2, .int (nI n))]) hx hb dt_45 hl (by decide) rfl (fun ls hl => ?_)
      refine lv_iload hx hb dt_47 (lv_at hl 0 rfl) ?_
      refine lv_if_ne (tgt := 75) hx hb dt_49 (by decide) (fun z => absurd rfl z) (fun _ => ?_)
      refine lv_iload hx hb dt_52 (lv_at hl 1 rfl) ?_
      refine lv_bipush (v := 46) hx hb dt_54 (by decide) ?_
      refine lv_icmp_eq (tgt := 75) hx hb dt_56 (by decide) (fun z => at75 ls 0 hl (Or.inr (Or.inl z))) (fun z1 => ?_)
      refine lv_iload hx hb dt_59 (lv_at hl 1 rfl) ?_
      refine lv_bipush (v := 47) hx hb dt_61 (by decide) ?_
      refine lv_icmp_eq (tgt := 75) hx hb dt_63 (by decide) (fun z => at75 ls 0 hl (Or.inr (Or.inr (Or.inl z)))) (fun z2 => ?_)
      refine lv_iload hx hb dt_66 (lv_at hl 1 rfl) ?_
      refine lv_bipush (v := 32) hx hb dt_68 (by decide) ?_
      refine lv_icmp_eq (tgt := 75) hx hb dt_70 (by decide) (fun z => at75 ls 0 hl (Or.inr (Or.inr (Or.inr z)))) (fun z3 => ?_)
      refine kf ?_ ls
      rcases Nat.lt_or_ge i jb with g | g
      · have hG := hg i g
        rw [← hy] at hG
        rcases hG with hG | hG | hG | hG
        · exact absurd hG hnl
        · exact absurd hG z1
        · exact absurd hG z2
        · exact absurd hG z3
      · omega
    refine lv_iload hx hb dt_26 (lv_at hl 0 rfl) ?_
    refine lv_bipush (v := 97) hx hb dt_28 (by decide) ?_
    refine lv_icmp_lt (tgt := 44) hx hb dt_30 (by decide) (fun z => at44 ls hl (fun q => absurd q.1 (Int32.not_le.mpr z))) (fun z1 => ?_)
    refine lv_iload hx hb dt_33 (lv_at hl 0 rfl) ?_
    refine lv_bipush (v := 122) hx hb dt_35 (by decide) ?_
    refine lv_icmp_gt (tgt := 44) hx hb dt_37 (by decide) (fun z => at44 ls hl (fun q => absurd q.2 (Int32.not_le.mpr z))) (fun z2 => ?_)
    refine lv_iconst (v := 1) hx hb dt_40 (by decide) ?_
    refine lv_goto (tgt := 45) hx hb dt_41 (by decide) ?_
    refine lv_istore (lv' := [(5, .int 1), (4, .int y), (3, .int (nI i)), (0, .long w), (2, .int (nI n))]) hx hb dt_45 hl (by decide) rfl (fun ls hl => ?_)
    refine lv_iload hx hb dt_47 (lv_at hl 0 rfl) ?_
    exact lv_if_ne (tgt := 75) hx hb dt_49 (by decide) (fun _ => at75 ls 1 hl (Or.inl ⟨Int32.not_lt.mp z1, Int32.not_lt.mp z2⟩)) (fun z => absurd z (by decide))
end TLP
set_option maxHeartbeats 2000000 in
/-- areTextSigns, where the first bad sign is known -/
theorem t_ats {l : Launch} {D : va_G} {E : AE} {n jb : Nat} (hn : n ≤ 8) (hjb : jb ≤ n) (hg : ∀ k, k < jb → t_G (t_c (ai_w0 E) k)) (hbad : jb < n → ¬ t_G (t_c (ai_w0 E) jb)) (σ : List AC) (d : Nat) :
    ai_CT l D E mm_74 [.inr (.inr (.inr (.inr 1))), .inl (nI n)] σ d (.inl (some (.inl (if jb < n then 0 else 1))), σ, 0, 0) := by
  intro ws sz av hav
  match av, hav with
  | [], hav => exact hav.elim
  | [_], ⟨_, hav⟩ => exact hav.elim
  | _ :: _ :: _ :: _, ⟨_, _, hav⟩ => exact hav.elim
  | [v1, v2], ⟨h1, h2, _⟩ =>
    have h1 : v1 = .long (ai_w0 E) := (ai_VX (by decide)).mp h1
    have h2 : v2 = .int (nI n) := h2
    subst h1; subst h2
    generalize hres : (if jb < n then (0 : Int32) else 1) = res
    refine vx_ofW (cc := m_cc mm_74) (maxL := 6) (ret := some .boolean) (ws' := m_G) (by decide +kernel) rfl ?_
    intro p e s m args below meth c s₁ B hml hempty hP
    obtain ⟨rfl, hsz, hW, hPP, hD, hG, hZ⟩ := hP
    subst hsz
    have hx := B.exec
    have hb := B.bytes
    have hr := B.returns
    have hlocks := B.notSynchronized
    have fin : ∀ (q : Int32) (pc : Nat) (ls : Array Slot), q = res → narrow .boolean (.int q) = .int q → decode (m_cc mm_74) pc = .ok (.ireturn, 1) → W p l e (headSpec (m_ws mm_74) (ai_rm d 0 0)).room s m [Value.long (ai_w0 E), Value.int (nI n)].toArray below meth c s.heap [] 0 0 (vx_MQ below (ai_Q E D (.inl (some (.inl res))) σ ws (va_A ws s.heap.size)) (ai_X E D (.inl (some (.inl res))) σ ws (va_A ws s.heap.size)) [Value.long (ai_w0 E), Value.int (nI n)].toArray s 0 0 (va_A ws s.heap.size)) (F0 m pc ls [.int q]) := by
      intro q pc ls hq hnar hd
      subst hq
      exact vx_ret (W.zret hx hb hr hnar (fun t ht hw => ⟨some (.inl q), some (.int q), ws, rfl, rfl, rfl, ai_end hW ai_Ext.rf hPP hD.self va_S.rf ht hw.alike⟩) (fun q h => by cases h) hd hlocks)
    rw [lg_entry_eq]
    have hl := lv_entry [.long (ai_w0 E), .int (nI n)] (n := 6) (Nat.le_of_ble_eq_true rfl)
    generalize (lg_sl [.long (ai_w0 E), .int (nI n)] ++ List.replicate (6 - (lg_sl [.long (ai_w0 E), .int (nI n)]).length) Slot.unset).toArray = ls at hl ⊢
    have hl : lv_has ls 6 [(0, .long (ai_w0 E)), (2, .int (nI n))] := hl
    refine lv_iconst (v := 0) hx hb dt_0 (by decide) ?_
    refine lv_istore_n (lv' := [(3, .int 0), (0, .long (ai_w0 E)), (2, .int (nI n))]) hx hb dt_1 rfl hl (by decide) rfl (fun ls hl => ?_)
    refine t_loop hx hb hn hjb hg hbad (fun he ls => ?_) (fun hlt ls => ?_) n 0 (by omega) (by omega) ls hl
    · refine lv_iconst (v := 1) hx hb dt_81 (by decide) ?_
      exact fin 1 82 ls (by rw [← hres, if_neg (by omega)]) (by decide) dt_82
    · refine lv_iconst (v := 0) hx hb dt_73 (by decide) ?_
      exact fin 0 74 ls (by rw [← hres, if_pos hlt]) (by decide) dt_74
end
section
/-! ===== isCharacter, and what is known of 'type' beforehand ===== -/
set_option maxRecDepth 100000 in
set_option maxHeartbeats 4000000 in
theorem t_i1 (d : Nat) (σ : List AC) : ai_run x_no mt none 40 none d mm_87 0 (ai_args 0 [.inr (.inl (97, 122))]) [] σ = some (.inl (some (.inl 1)), σ, 0, 0) := rfl
set_option maxRecDepth 100000 in
set_option maxHeartbeats 4000000 in
theorem t_i2 (d : Nat) (σ : List AC) : ai_run x_no mt none 40 none d mm_87 0 (ai_args 0 [.inl 46]) [] σ = some (.inl (some (.inl 1)), σ, 0, 0) := rfl
set_option maxRecDepth 100000 in
set_option maxHeartbeats 4000000 in
theorem t_i3 (d : Nat) (σ : List AC) : ai_run x_no mt none 40 none d mm_87 0 (ai_args 0 [.inl 47]) [] σ = some (.inl (some (.inl 1)), σ, 0, 0) := rfl
set_option maxRecDepth 100000 in
set_option maxHeartbeats 4000000 in
theorem t_i4 (d : Nat) (σ : List AC) : ai_run x_no mt none 40 none d mm_87 0 (ai_args 0 [.inl 32]) [] σ = some (.inl (some (.inl 1)), σ, 0, 0) := rfl
set_option maxRecDepth 100000 in
set_option maxHeartbeats 4000000 in
theorem t_i5 (d : Nat) (σ : List AC) : ai_run x_no mt none 40 none d mm_87 0 (ai_args 0 [.inr (.inl (-2147483648, 31))]) [] σ = some (.inl (some (.inl 0)), σ, 0, 0) := rfl
set_option maxRecDepth 100000 in
set_option maxHeartbeats 4000000 in
theorem t_i6 (d : Nat) (σ : List AC) : ai_run x_no mt none 40 none d mm_87 0 (ai_args 0 [.inr (.inl (33, 45))]) [] σ = some (.inl (some (.inl 0)), σ, 0, 0) := rfl
set_option maxRecDepth 100000 in
set_option maxHeartbeats 4000000 in
theorem t_i7 (d : Nat) (σ : List AC) : ai_run x_no mt none 40 none d mm_87 0 (ai_args 0 [.inr (.inl (48, 96))]) [] σ = some (.inl (some (.inl 0)), σ, 0, 0) := rfl
set_option maxRecDepth 100000 in
set_option maxHeartbeats 4000000 in
theorem t_i8 (d : Nat) (σ : List AC) : ai_run x_no mt none 40 none d mm_87 0 (ai_args 0 [.inr (.inl (123, 2147483647))]) [] σ = some (.inl (some (.inl 0)), σ, 0, 0) := rfl
theorem m_in74 : mm_74 ∈ mt := List.mem_of_getElem? (i := 74) rfl
theorem m_in87 : mm_87 ∈ mt := List.mem_of_getElem? (i := 87) rfl
theorem m_is74 : ∀ M ∈ mt, m_ts M = m_ts mm_74 → M = mm_74 := by
  intro M hM
  simp only [mt, List.mem_cons, List.not_mem_nil, or_false] at hM
  rcases hM with rfl | rfl | rfl | rfl | rfl | rfl | rfl | rfl | rfl | rfl | rfl | rfl | rfl | rfl | rfl | rfl | rfl | rfl | rfl | rfl | rfl | rfl | rfl | rfl | rfl | rfl | rfl | rfl | rfl | rfl | rfl | rfl | rfl | rfl | rfl | rfl | rfl | rfl | rfl | rfl | rfl | rfl | rfl | rfl | rfl | rfl | rfl | rfl | rfl | rfl | rfl | rfl | rfl | rfl | rfl | rfl | rfl | rfl | rfl | rfl | rfl | rfl | rfl | rfl | rfl | rfl | rfl | rfl | rfl | rfl | rfl | rfl | rfl | rfl | rfl | rfl | rfl | rfl | rfl | rfl | rfl | rfl | rfl | rfl | rfl | rfl | rfl | rfl | rfl | rfl | rfl | rfl | rfl | rfl | rfl | rfl | rfl | rfl | rfl | rfl | rfl | rfl | rfl | rfl | rfl | rfl | rfl | rfl | rfl | rfl | rfl | rfl | rfl
  all_goals first | (intro _; rfl) | (intro h; exact absurd h (by decide))
theorem m_is87 : ∀ M ∈ mt, m_ts M = m_ts mm_87 → M = mm_87 := by
  intro M hM
  simp only [mt, List.mem_cons, List.not_mem_nil, or_false] at hM
  rcases hM with rfl | rfl | rfl | rfl | rfl | rfl | rfl | rfl | rfl | rfl | rfl | rfl | rfl | rfl | rfl | rfl | rfl | rfl | rfl | rfl | rfl | rfl | rfl | rfl | rfl | rfl | rfl | rfl | rfl | rfl | rfl | rfl | rfl | rfl | rfl | rfl | rfl | rfl | rfl | rfl | rfl | rfl | rfl | rfl | rfl | rfl | rfl | rfl | rfl | rfl | rfl | rfl | rfl | rfl | rfl | rfl | rfl | rfl | rfl | rfl | rfl | rfl | rfl | rfl | rfl | rfl | rfl | rfl | rfl | rfl | rfl | rfl | rfl | rfl | rfl | rfl | rfl | rfl | rfl | rfl | rfl | rfl | rfl | rfl | rfl | rfl | rfl | rfl | rfl | rfl | rfl | rfl | rfl | rfl | rfl | rfl | rfl | rfl | rfl | rfl | rfl | rfl | rfl | rfl | rfl | rfl | rfl | rfl | rfl | rfl | rfl | rfl | rfl
  all_goals first | (intro _; rfl) | (intro h; exact absurd h (by decide))
theorem t_one {l : Launch} {D : va_G} {E : AE} (htr : l.stackTraces = false) {k : Nat} (hk : 30 ≤ k ∧ k < 38) {a : AV} {r : Int32} (hrun : ∀ (d : Nat) (σ : List AC), ai_run x_no mt none 40 none d mm_87 0 (ai_args 0 [a]) [] σ = some (.inl (some (.inl r)), σ, 0, 0)) (hw : ([a].map ai_wd).sum ≤ m_L mm_87) (hv : ∀ ws : va_W, ai_V E ws a (.int (ai_xi E k))) (σ : List AC) (d : Nat) :
    ai_CT l D E mm_87 [.inr (.inr (.inr (.inr k)))] σ d (.inl (some (.inl r)), σ, 0, 0) := by
  have base := ai_run_ok (l := l) (D := D) (E := E) (mt := mt) (ext := x_no) (op := none) htr (fun k hk => by cases hk) m_Mk mt_ok2 (fun M as σ d r _ h => by cases h)
  have ct := ai_ct htr (base 40).1 (m_wk m_in87) (m_Mk _ m_in87) (hrun d σ) hw
  intro ws sz av hav
  match av, hav with
  | [], hav => exact hav.elim
  | _ :: _ :: _, ⟨_, hav⟩ => exact hav.elim
  | [v], ⟨h1, _⟩ =>
    have h1 : v = ai_xv E k := (ai_VX (by omega)).mp h1
    have h2 : ai_xv E k = .int (ai_xi E k) := by rw [ai_xv, if_neg (by omega), if_neg (by omega)]
    rw [h2] at h1
    subst h1
    exact ct ws sz _ ⟨hv ws, trivial⟩
theorem t_lit {x : Int32} {c : Int} {y : Int32} (h : x.toInt = c) (hy : y.toInt = c) : x = y := Int32.toInt_inj.mp (h.trans hy.symm)
theorem t_isc1 {l : Launch} {D : va_G} {E : AE} (htr : l.stackTraces = false) {k : Nat} (hk : 30 ≤ k ∧ k < 38) (hG : t_G (ai_xi E k)) (σ : List AC) (d : Nat) : ai_CT l D E mm_87 [.inr (.inr (.inr (.inr k)))] σ d (.inl (some (.inl 1)), σ, 0, 0) := by
  rcases hG with ⟨h1, h2⟩ | h | h | h
  · have h1 := Int32.le_iff_toInt_le.mp h1
    have h2 := Int32.le_iff_toInt_le.mp h2
    exact t_one htr hk t_i1 (by decide) (fun ws => ⟨_, rfl, h1, h2⟩) σ d
  · exact t_one htr hk t_i2 (by decide) (fun ws => by rw [h]; rfl) σ d
  · exact t_one htr hk t_i3 (by decide) (fun ws => by rw [h]; rfl) σ d
  · exact t_one htr hk t_i4 (by decide) (fun ws => by rw [h]; rfl) σ d
theorem t_isc0 {l : Launch} {D : va_G} {E : AE} (htr : l.stackTraces = false) {k : Nat} (hk : 30 ≤ k ∧ k < 38) (hG : ¬ t_G (ai_xi E k)) (σ : List AC) (d : Nat) : ai_CT l D E mm_87 [.inr (.inr (.inr (.inr k)))] σ d (.inl (some (.inl 0)), σ, 0, 0) := by
  generalize hx : ai_xi E k = x at hG
  have lo := Int32.le_toInt x
  have hi := Int32.toInt_lt x
  have n1 : ¬ (97 ≤ x.toInt ∧ x.toInt ≤ 122) := fun q => hG (Or.inl ⟨Int32.le_iff_toInt_le.mpr q.1, Int32.le_iff_toInt_le.mpr q.2⟩)
  have n2 : ¬ x.toInt = 46 := fun q => hG (Or.inr (Or.inl (t_lit q (by decide))))
  have n3 : ¬ x.toInt = 47 := fun q => hG (Or.inr (Or.inr (Or.inl (t_lit q (by decide)))))
  have n4 : ¬ x.toInt = 32 := fun q => hG (Or.inr (Or.inr (Or.inr (t_lit q (by decide)))))
  have lo : -2147483648 ≤ x.toInt := by simpa using lo
  have hi : x.toInt < 2147483648 := by simpa using hi
  by_cases c1 : x.toInt ≤ 31
  · exact t_one htr hk t_i5 (by decide) (fun ws => ⟨x, by rw [hx], lo, c1⟩) σ d
  · by_cases c2 : x.toInt ≤ 45
    · exact t_one htr hk t_i6 (by decide) (fun ws => ⟨x, by rw [hx], (by show (33 : Int) ≤ _; omega), c2⟩) σ d
    · by_cases c3 : x.toInt ≤ 96
      · exact t_one htr hk t_i7 (by decide) (fun ws => ⟨x, by rw [hx], (by show (48 : Int) ≤ _; omega), c3⟩) σ d
      · exact t_one htr hk t_i8 (by decide) (fun ws => ⟨x, by rw [hx], (by show (123 : Int) ≤ _; omega), (by show _ ≤ (2147483647 : Int); omega)⟩) σ d
def x_t74 (n jb : Nat) (as : List AV) (σ : List AC) : Option AR := if ai_eqL as [.inr (.inr (.inr (.inr 1))), .inl (nI n)] = true then some (.inl (some (.inl (if jb < n then 0 else 1))), σ, 0, 0) else none
def x_t87 (n jb : Nat) (as : List AV) (σ : List AC) : Option AR := match as with
  | [.inr (.inr (.inr (.inr k)))] => if 30 ≤ k ∧ k < 38 then (if k - 30 < jb then some (.inl (some (.inl 1)), σ, 0, 0) else if k - 30 = jb ∧ jb < n then some (.inl (some (.inl 0)), σ, 0, 0) else none) else none
  | _ => none
def x_ty (n jb : Nat) (d : Nat) (M : AM) (as : List AV) (σ : List AC) : Option AR :=
  ai_or (x_lx d M as σ) (if m_ts M = m_ts mm_74 then x_t74 n jb as σ else if m_ts M = m_ts mm_87 then x_t87 n jb as σ else none)
theorem t_xi {E : AE} {k : Nat} (hk : 30 ≤ k ∧ k < 38) : ai_xi E k = t_c (ai_w0 E) (k - 30) := by
  unfold ai_xi
  rw [if_neg (by omega), if_neg (by omega), if_neg (by omega)]
  rfl
theorem x_ty_ok {l : Launch} {D : va_G} {E : AE} (htr : l.stackTraces = false) {n jb : Nat} (hn : n ≤ 8) (hjb : jb ≤ n) (hg : ∀ k, k < jb → t_G (t_c (ai_w0 E) k)) (hbad : jb < n → ¬ t_G (t_c (ai_w0 E) jb)) : ∀ (M : AM) (as : List AV) (σ : List AC) (d : Nat) (r : AR), M ∈ mt → x_ty n jb d M as σ = some r → ai_CT l D E M as σ d r ∧ ∀ n, r.1 = .inr n → n < 5 := by
  intro M as σ d r hM h
  have h0 := ai_or_ok (show ai_or (x_lx d M as σ) (if m_ts M = m_ts mm_74 then x_t74 n jb as σ else if m_ts M = m_ts mm_87 then x_t87 n jb as σ else none) = some r from h)
  clear h
  rcases h0 with h | h
  · exact x_lx_ok htr M as σ d r hM h
  split at h
  · next hts =>
    obtain rfl := m_is74 M hM hts
    unfold x_t74 at h
    split at h
    · next he =>
      cases h
      obtain rfl := ai_eqL_ok he
      exact ⟨t_ats hn hjb hg hbad σ d, fun n hn => by cases hn⟩
    · cases h
  · split at h
    · next hts =>
      obtain rfl := m_is87 M hM hts
      unfold x_t87 at h
      split at h
      · next k =>
        split at h
        · next hk =>
          split at h
          · next hlt =>
            cases h
            exact ⟨t_isc1 htr hk (by rw [t_xi hk]; exact hg _ hlt) σ d, fun n hn => by cases hn⟩
          · split at h
            · next he =>
              cases h
              exact ⟨t_isc0 htr hk (by rw [t_xi hk, he.1]; exact hbad he.2) σ d, fun n hn => by cases hn⟩
            · cases h
        · cases h
      · cases h
    · cases h
def l_ty (n : Nat) : Bool := (List.range (n + 1)).all (fun jb => l_ok (l_go (x_ty n jb) (some 9) 4 (l_scf (.inr (.inr (.inr (.inr 41)))) (.inr (.inr (.inr (.inr 42)))) (.inl (nI n)))))
theorem t_first (P : Nat → Prop) : ∀ n : Nat, ∃ j, j ≤ n ∧ (∀ k, k < j → P k) ∧ (j < n → ¬ P j)
  | 0 => ⟨0, Nat.le_refl _, (fun k h => absurd h (Nat.not_lt_zero k)), (fun h => absurd h (Nat.lt_irrefl 0))⟩
  | n + 1 => by
    obtain ⟨j, h1, h2, h3⟩ := t_first P n
    rcases Nat.lt_or_ge j n with g | g
    · exact ⟨j, by omega, h2, fun _ => h3 g⟩
    · have e : j = n := by omega
      subst e
      by_cases hp : P j
      · refine ⟨j + 1, Nat.le_refl _, fun k hk => ?_, fun h => absurd h (Nat.lt_irrefl _)⟩
        rcases Nat.lt_or_ge k j with q | q
        · exact h2 k q
        · rw [show k = j by omega]; exact hp
      · exact ⟨j, by omega, h2, fun _ => hp⟩
end
section
set_option maxRecDepth 100000 in
theorem l_9a : ([.inr (.inl (-2147483648, -1)), .inl 0, .inr (.inl (9, 2147483647))] : List AV).all (fun a => l_ok (l_go x_lx (some 9) 4 (l_scf ai_top ai_top a))) = true := by decide +kernel
set_option maxRecDepth 100000 in
theorem l_9_1 : l_ty 1 = true := by decide +kernel
set_option maxRecDepth 100000 in
theorem l_9_2 : l_ty 2 = true := by decide +kernel
set_option maxRecDepth 100000 in
theorem l_9_3 : l_ty 3 = true := by decide +kernel
set_option maxRecDepth 100000 in
theorem l_9_4 : l_ty 4 = true := by decide +kernel
set_option maxRecDepth 100000 in
theorem l_9_5 : l_ty 5 = true := by decide +kernel
set_option maxRecDepth 100000 in
theorem l_9_6 : l_ty 6 = true := by decide +kernel
set_option maxRecDepth 100000 in
theorem l_9_7 : l_ty 7 = true := by decide +kernel
set_option maxRecDepth 100000 in
theorem l_9_8 : l_ty 8 = true := by decide +kernel
end
section
/-! ===== the law, for every script of at most four ints ===== -/
section WST
variable {p : Program} {e : Env} {s : State} {m : MethodId} {below : List Frame} {meth : Method} {c : Code} {l : Launch} {b : Nat} {xs : Nat → Int32}
theorem w_f {a1 a2 a3 : AV} (h1 : ∀ (E : AE) (ws : va_W), ai_V E ws a1 (.int (xs 1))) (h2 : ∀ (E : AE) (ws : va_W), ai_V E ws a2 (.int (xs 2))) (h3 : ∀ (E : AE) (ws : va_W), ai_V E ws a3 (.int (xs 3))) : ∀ (j : Nat) (ws : va_W), j < 4 → ai_V (b, xs 0, xs 1, xs 2) ws (l_scf a1 a2 a3 j) (.int (xs j))
  | 0, _, _ => (ai_VX (by decide)).mpr rfl
  | 1, _, _ => h1 _ _
  | 2, _, _ => h2 _ _
  | 3, _, _ => h3 _ _
  | n + 4, _, h => absurd h (by omega)
theorem w_all (htr : l.stackTraces = false) (htb : c.exceptionTable.toList = []) (C0 : lw_At p s m meth c b 4 xs) {k : Nat} {o1 o2 o3 : Option Nat} (hop : xs 0 &&& 15 = nI k) (h : l_all x_lx k o1 o2 o3 = true) :
    W p l e room_1 s m #[Value.ref b] below meth c s.heap [] 0 0 (lw_Z below #[Value.ref b] s) (entryFrame m ([Value.ref b] : List Value).toArray 7) := by
  obtain ⟨a1, m1, h1⟩ := l_covS o1 (xs 1)
  obtain ⟨a2, m2, h2⟩ := l_covS o2 (xs 2)
  obtain ⟨a3, m3, h3⟩ := l_covS o3 (xs 3)
  have hr := List.all_eq_true.mp (List.all_eq_true.mp (List.all_eq_true.mp h a1 m1) a2 m2) a3 m3
  exact l_start htr C0 htb (E := (b, xs 0, xs 1, xs 2)) rfl (op := some (nI k)) (fun q hq => by cases hq; exact hop) (fun D => x_lx_ok htr) (w_f h1 h2 h3) hr
theorem w_ty (htr : l.stackTraces = false) (htb : c.exceptionTable.toList = []) (C0 : lw_At p s m meth c b 4 xs) (hop : xs 0 &&& 15 = 9) {n : Nat} (hn : n ≤ 8) (h3 : xs 3 = nI n) (h : l_ty n = true) :
    W p l e room_1 s m #[Value.ref b] below meth c s.heap [] 0 0 (lw_Z below #[Value.ref b] s) (entryFrame m ([Value.ref b] : List Value).toArray 7) := by
  obtain ⟨j, j1, j2, j3⟩ := t_first (fun k => t_G (t_c (ai_w0 (b, xs 0, xs 1, xs 2)) k)) n
  have hr := List.all_eq_true.mp h j (List.mem_range.mpr (by omega))
  refine l_start htr C0 htb (E := (b, xs 0, xs 1, xs 2)) rfl (op := some 9) (fun q hq => by cases hq; exact hop) (fun D => x_ty_ok htr hn j1 j2 j3) ?_ hr
  intro i ws hi
  match i, hi with
  | 0, _ => exact (ai_VX (by decide)).mpr rfl
  | 1, _ => exact (ai_VX (by decide)).mpr rfl
  | 2, _ => exact (ai_VX (by decide)).mpr rfl
  | 3, _ => exact congrArg Value.int h3
  | q + 4, h => exact absurd h (by omega)
theorem w_ta (htr : l.stackTraces = false) (htb : c.exceptionTable.toList = []) (C0 : lw_At p s m meth c b 4 xs) (hop : xs 0 &&& 15 = 9) {a : AV} (hm : a ∈ ([.inr (.inl (-2147483648, -1)), .inl 0, .inr (.inl (9, 2147483647))] : List AV)) (h3 : ∀ (E : AE) (ws : va_W), ai_V E ws a (.int (xs 3))) :
    W p l e room_1 s m #[Value.ref b] below meth c s.heap [] 0 0 (lw_Z below #[Value.ref b] s) (entryFrame m ([Value.ref b] : List Value).toArray 7) :=
  l_start htr C0 htb (E := (b, xs 0, xs 1, xs 2)) rfl (op := some 9) (fun q hq => by cases hq; exact hop) (fun D => x_lx_ok htr) (w_f (fun E ws => ai_top_ok _) (fun E ws => ai_top_ok _) h3) (List.all_eq_true.mp l_9a a hm)
theorem w_9 (htr : l.stackTraces = false) (htb : c.exceptionTable.toList = []) (C0 : lw_At p s m meth c b 4 xs) (hop : xs 0 &&& 15 = 9) :
    W p l e room_1 s m #[Value.ref b] below meth c s.heap [] 0 0 (lw_Z below #[Value.ref b] s) (entryFrame m ([Value.ref b] : List Value).toArray 7) := by
  have hlo := Int32.le_toInt (xs 3)
  have hhi := Int32.toInt_lt (xs 3)
  by_cases h : xs 3 < 0
  · refine w_ta htr htb C0 hop List.mem_cons_self (fun E ws => ⟨xs 3, rfl, ?_, ?_⟩)
    · simp at hlo ⊢; omega
    · have := Int32.lt_iff_toInt_lt.mp h
      simp at this ⊢; omega
  · obtain ⟨j, hj, hx⟩ := nI_of h
    match j, hj, hx with
    | 0, _, hx => exact w_ta htr htb C0 hop (List.mem_cons_of_mem _ List.mem_cons_self) (fun E ws => by rw [hx]; rfl)
    | 1, _, hx => exact w_ty htr htb C0 hop (by decide) hx l_9_1
    | 2, _, hx => exact w_ty htr htb C0 hop (by decide) hx l_9_2
    | 3, _, hx => exact w_ty htr htb C0 hop (by decide) hx l_9_3
    | 4, _, hx => exact w_ty htr htb C0 hop (by decide) hx l_9_4
    | 5, _, hx => exact w_ty htr htb C0 hop (by decide) hx l_9_5
    | 6, _, hx => exact w_ty htr htb C0 hop (by decide) hx l_9_6
    | 7, _, hx => exact w_ty htr htb C0 hop (by decide) hx l_9_7
    | 8, _, hx => exact w_ty htr htb C0 hop (by decide) hx l_9_8
    | q + 9, hj, hx =>
      refine w_ta htr htb C0 hop (List.mem_cons_of_mem _ (List.mem_cons_of_mem _ List.mem_cons_self)) (fun E ws => ⟨xs 3, rfl, ?_, ?_⟩)
      · rw [hx, nI_toInt hj]; simp; omega
      · simp at hhi ⊢; omega
end WST
/-- YOUR PART: from the entry, for every script of at most 4 ints, the law comes to its end with true -/
theorem whole_start {p : Program} {e : Env} {s : State} {m : MethodId} {below : List Frame} {meth : Method} {c : Code} (l : Launch) (htr : l.stackTraces = false) (htb : c.exceptionTable.toList = []) {b L : Nat} {xs : Nat → Int32} (hL : L ≤ 4) (C0 : lw_At p s m meth c b L xs) : W p l e room_1 s m #[Value.ref b] below meth c s.heap [] 0 0 (lw_Z below #[Value.ref b] s) (entryFrame m ([Value.ref b] : List Value).toArray 7) := by
  match L, hL, C0 with
  | 0, _, C0 => exact l_start htr C0 htb (E := (b, 0, 0, 0)) rfl (op := none) (fun q hq => by cases hq) (fun D => x_lx_ok htr) (fun j ws _ => ai_top_ok _) l_n0
  | 1, _, C0 => exact l_start htr C0 htb (E := (b, 0, 0, 0)) rfl (op := none) (fun q hq => by cases hq) (fun D => x_lx_ok htr) (fun j ws _ => ai_top_ok _) l_n1
  | 2, _, C0 => exact l_start htr C0 htb (E := (b, 0, 0, 0)) rfl (op := none) (fun q hq => by cases hq) (fun D => x_lx_ok htr) (fun j ws _ => ai_top_ok _) l_n2
  | 3, _, C0 => exact l_start htr C0 htb (E := (b, 0, 0, 0)) rfl (op := none) (fun q hq => by cases hq) (fun D => x_lx_ok htr) (fun j ws _ => ai_top_ok _) l_n3
  | 4, _, C0 =>
    obtain ⟨k, hk, hop⟩ := pk_andE (xs 0) (m := 15) 4 (by decide)
    match k, hk, hop with
    | 0, _, hop => exact w_all htr htb C0 hop l_0
    | 1, _, hop => exact w_all htr htb C0 hop l_1
    | 2, _, hop => exact w_all htr htb C0 hop l_2
    | 3, _, hop => exact w_all htr htb C0 hop l_3
    | 4, _, hop => exact w_all htr htb C0 hop l_4
    | 5, _, hop => exact w_all htr htb C0 hop l_5
    | 6, _, hop => exact w_all htr htb C0 hop l_6
    | 7, _, hop => exact w_all htr htb C0 hop l_7
    | 8, _, hop => exact w_all htr htb C0 hop l_8
    | 9, _, hop => exact w_9 htr htb C0 (hop.trans (by decide))
    | 10, _, hop => exact w_all htr htb C0 hop l_10
    | 11, _, hop => exact w_all htr htb C0 hop l_11
    | 12, _, hop => exact w_all htr htb C0 hop l_12
    | 13, _, hop => exact w_all htr htb C0 hop l_13
    | 14, _, hop => exact w_all htr htb C0 hop l_14
    | 15, _, hop => exact w_all htr htb C0 hop l_15
    | q + 16, hk, _ => exact absurd hk (by omega)
  | q + 5, hL, _ => exact absurd hL (by omega)
end
section
set_option maxHeartbeats 4000000 in
theorem lw_walk (l : Launch) (htr : l.stackTraces = false) (b : Addr) (xs : List Int32) : MetFree l x (headSpec (Jvm.Cond.code x code maxLocals ret :: tables_1) room_1) (lw_P b xs) (fun _ _ _ _ _ => True) lw_Q := by
  refine MetFree.of_bodyS (code := code) (maxLocals := maxLocals) (ret := ret) (by decide) ?_ ?_
  · intro args s m h hn
    obtain ⟨meth, c, h1, h2, h3, h4, h5, h6, -, -⟩ := Cond.code_spec hn (atoms_spec (ws := Jvm.Cond.code x code maxLocals ret :: tables_1) h _ List.mem_cons_self)
    exact ⟨meth, c, h1, h2, h3, h4, h5, h6⟩
  · intro p e s m args below meth c s₁ B hml0 hP _
    obtain ⟨rfl, hx, hbd, hgv⟩ := hP
    obtain ⟨scr, harrAt, hlist, hof, hsmall⟩ := hx
    obtain ⟨hcb, hkn, -, -⟩ := State.arrayAt?_spec harrAt
    have hown : s.vm.findClass R_law = some m.cls := findClass_of_methodNamed B.named
    have hts0 : ∀ c ∈ (Jvm.Cond.code x code maxLocals ret :: tables_1), c.before #[Value.ref b] s = true := atoms_spec (ws := Jvm.Cond.code x code maxLocals ret :: tables_1) B.pre
    have hts : ∀ w ∈ lw_tbl, w.before #[Value.ref b] s = true := k2_hts_sels lw_privs (fun w hw => hts0 w (List.mem_cons_of_mem _ hw)) lw_privs_ok
    have hml : c.maxLocals = 7 := B.maxLocals_eq (hts0 _ List.mem_cons_self)
    have htb : c.exceptionTable.toList = [] := by
      obtain ⟨meth9, c9, h1, h2, -, -, -, -, h7, -⟩ := Cond.code_spec B.named (hts0 _ List.mem_cons_self)
      cases Option.some.inj (h1.symm.trans B.method)
      cases Option.some.inj (h2.symm.trans (Stand.of_body B).code)
      rw [Array.isEmpty_iff.mp h7]
    have X₀ : Stand p l e room_1 s m #[Value.ref b] below meth c s₁ [] 0 0 := Stand.of_body B
    have hh0 : s₁.heap = s.heap := by rw [B.state]; rfl
    have hsz : scr.slots.size = xs.length := by rw [← Array.length_toList, hlist, List.length_map]
    have hval : ∀ j : Nat, j < xs.length → scr.slots[j]? = some (.int (xs.getD j 0)) := fun j hj => by
      rw [← Array.getElem?_toList, hlist]
      simp [hj]
    have hbl : b < s.heap.size := (Array.getElem?_eq_some_iff.mp hcb).1
    have hX : va_X b xs.length (fun j => xs.getD j 0) s s.heap := ⟨scr, hcb, hof, hkn, hsz, hval⟩
    have K : W p l e room_1 s m #[Value.ref b] below meth c s₁.heap [] 0 0 (lw_Z below #[Value.ref b] s) (entryFrame m ([Value.ref b] : List Value).toArray 7) := by
      rw [hh0]
      exact whole_start l htr htb hbd ⟨B.exec, B.bytes, B.returns, hml, hown, hts, hX, hbl, B.notSynchronized, hgv⟩
    obtain ⟨t, a1, o, b1, b2, b3⟩ := K s₁ rfl X₀
    exact ⟨t, o, a1, b1, b2, b3⟩
theorem lw_pre_spec {args : Array Value} {s : State} (h : (Jvm.Cond.and given_1 narrow_1).before args s = true) (hr : rest_1_c.before args s = true) : ∃ (b : Addr) (xs : List Int32), lw_P b xs args s := by
  have hs := flat_of_before _ h
  have hq := flat_of_before _ hr
  have hc : (Cond.count 1).before args s = true := hs _ (by decide +kernel)
  have harr : (Cond.arrayOf (.arg 0) .int).before args s = true := hs _ (by decide +kernel)
  have hle : (Cond.le (.length (.arg 0)) (.int 4)).before args s = true := hs _ (by decide +kernel)
  have hlen : (Cond.isInt (.length (.arg 0))).before args s = true := hq _ (by decide +kernel)
  have hall : (Cond.all (.arg 0) (.isInt (.elem (.arg 0) (.index 0)))).before args s = true := hq _ (by decide +kernel)
  obtain ⟨b, xs, hb, hx⟩ := State.ints_of_pre rfl harr hlen hall
  have hsm : xs.length < 2 ^ 31 := hx.choose_spec.2.2.2
  have hev : (Term.length (.arg 0)).eval args s none [] s = some (.int xs.length.toInt32) := hx.length_eval hb
  have hv := Cond.le_ints hev (show (Term.int 4).eval args s none [] s = some (.int 4) from rfl)
  have hd : xs.length.toInt32 ≤ 4 := by
    simpa [Cond.before, Cond.holds, hv] using hle
  have hN : xs.length ≤ 4 := (Int32.ofNat_le_ofNat hsm (by decide)).mp (show Int32.ofNat xs.length ≤ Int32.ofNat 4 from hd)
  exact ⟨b, xs, Cond.one_arg hc (show args[0]? = some (.ref b) from hb), hx, hN, h⟩
theorem lw_comes (l : Launch) (htr : l.stackTraces = false) : Comes l x (Jvm.Cond.code x code maxLocals ret :: tables_1) room_1 (fun tb e args s => Calls_1 tb e args s ∧ rest_1 tb e args s ∧ Pre_1 tb e args s)
    (fun _ _ args s o t => lw_Q args s o t) := by
  intro p e ha hc hk s m args below hf hfit hheap happ hpre
  obtain ⟨b, xs, hP⟩ := lw_pre_spec hpre.2.2 hpre.2.1
  obtain ⟨k, o, h1, h2, h3, hQ⟩ := lw_walk l htr b xs p e ha hc hk s m args below hf ((Spec.applies_iff_loose hf).mp happ).1 hP trivial
  exact ⟨k, o, h1, h2, h3, hQ⟩
theorem lw_frame {s t : State} {o : Outcome} {args : Array Value} (h : Framed s o t [] 600002 7302232) :
    Framed s o t (fieldLocs frame_1_writes args s ++ arrayLocs frame_1_arrays args s ++ staticLocs frame_1_statics s) 600002 7302232 := h
theorem lw_limb (L : Cond) (hL : ∀ (args : Array Value) (s t : State), L.after args s (.returned (some (.int 1))) t = true) :
    ArmFor flags0 classFile x code maxLocals ret World_1 tables_1 room_1 Calls_1 rest_1 Pre_1
      (fun tb e a s o t => postC L tb e a s o t ∧ Framed s o t (fieldLocs frame_1_writes a s ++ arrayLocs frame_1_arrays a s ++ staticLocs frame_1_statics s) 600002 7302232) := by
  intro l hfl _ _ p e ha hc hk s m args below hf hfit hheap happ hpre
  have htr : l.stackTraces = false := by unfold Launch.stackTraces; rw [hfl]; decide +kernel
  obtain ⟨k, o, h1, h2, h3, rfl, hF⟩ := lw_comes l htr p e ha hc hk s m args below hf hfit hheap happ hpre
  exact ⟨k, _, h1, h2, h3, hL args s _, lw_frame hF⟩
theorem i_vc : Claimed_1_1 ∧ Claimed_1_2 := ⟨lw_limb limb_1_1 (fun args s t => by simp [limb_1_1, Cond.after, Cond.holds, Cond.value]), lw_limb limb_1_2 (fun args s t => Cond.after_iff.mpr (by
  first | (rw [show limb_1_2 = Cond.eq .result (.int 1) from rfl, Cond.eq_ints (x := 1) (y := 1) rfl rfl]; simp; done) | (simp [limb_1_2, Cond.value, Term.eval]; done)))⟩
end
