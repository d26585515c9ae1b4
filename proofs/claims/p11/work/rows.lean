section
-- ===== PART A: goes FIRST, ahead of the names: the tables' words, and 'selects' of the private methods out of them =====
/-- a private method of a class that the tables say can be made, by its rows of tables_1 -/
def lw_okq (q : MethodName × Nat) : Prop := (q.1.cls ≠ "java/lang/invoke/MethodHandle" ∧ q.1.cls ≠ "java/lang/invoke/VarHandle") ∧ Cond.instantiable q.1.cls q.2 ∈ tables_1 ∧ Cond.privateMethod q.1 ∈ tables_1 ∧ Cond.instanceMethod q.1 ∈ tables_1
theorem lw_p0 : lw_okq (⟨"MountYard$Processes", "isUsedByOthers", "(II)Z"⟩, 6) := ⟨⟨by decide +kernel, by decide +kernel⟩, List.mem_of_getElem? (i := 203) (by decide +kernel), List.mem_of_getElem? (i := 381) (by decide +kernel), List.mem_of_getElem? (i := 382) (by decide +kernel)⟩
theorem lw_p1 : lw_okq (⟨"MountYard$Processes", "table", "(I)LMountYard$Table;"⟩, 6) := ⟨⟨by decide +kernel, by decide +kernel⟩, List.mem_of_getElem? (i := 203) (by decide +kernel), List.mem_of_getElem? (i := 385) (by decide +kernel), List.mem_of_getElem? (i := 386) (by decide +kernel)⟩
theorem lw_p2 : lw_okq (⟨"java/lang/Throwable", "fillInStackTrace", "(I)Ljava/lang/Throwable;"⟩, 6) := ⟨⟨by decide +kernel, by decide +kernel⟩, List.mem_of_getElem? (i := 470) (by decide +kernel), List.mem_of_getElem? (i := 468) (by decide +kernel), List.mem_of_getElem? (i := 469) (by decide +kernel)⟩
theorem lw_p3 : lw_okq (⟨"MountYard$Frame", "endsBehindStrings", "(III)Z"⟩, 1) := ⟨⟨by decide +kernel, by decide +kernel⟩, List.mem_of_getElem? (i := 170) (by decide +kernel), List.mem_of_getElem? (i := 594) (by decide +kernel), List.mem_of_getElem? (i := 595) (by decide +kernel)⟩
theorem lw_p4 : lw_okq (⟨"MountYard$Frame", "stringBytes", "(I)I"⟩, 1) := ⟨⟨by decide +kernel, by decide +kernel⟩, List.mem_of_getElem? (i := 170) (by decide +kernel), List.mem_of_getElem? (i := 607) (by decide +kernel), List.mem_of_getElem? (i := 608) (by decide +kernel)⟩
theorem lw_p5 : lw_okq (⟨"MountYard$Talk", "begin", "()C"⟩, 6) := ⟨⟨by decide +kernel, by decide +kernel⟩, List.mem_of_getElem? (i := 118) (by decide +kernel), List.mem_of_getElem? (i := 616) (by decide +kernel), List.mem_of_getElem? (i := 617) (by decide +kernel)⟩
theorem lw_p6 : lw_okq (⟨"MountYard$Talk", "attach", "()C"⟩, 6) := ⟨⟨by decide +kernel, by decide +kernel⟩, List.mem_of_getElem? (i := 118) (by decide +kernel), List.mem_of_getElem? (i := 690) (by decide +kernel), List.mem_of_getElem? (i := 691) (by decide +kernel)⟩
theorem lw_p7 : lw_okq (⟨"MountYard$Talk", "walk", "(LMountYard$Handle;)C"⟩, 6) := ⟨⟨by decide +kernel, by decide +kernel⟩, List.mem_of_getElem? (i := 118) (by decide +kernel), List.mem_of_getElem? (i := 730) (by decide +kernel), List.mem_of_getElem? (i := 731) (by decide +kernel)⟩
theorem lw_p8 : lw_okq (⟨"MountYard$Talk", "walkSteps", "(LMountYard$Handle;I)C"⟩, 6) := ⟨⟨by decide +kernel, by decide +kernel⟩, List.mem_of_getElem? (i := 118) (by decide +kernel), List.mem_of_getElem? (i := 738) (by decide +kernel), List.mem_of_getElem? (i := 739) (by decide +kernel)⟩
theorem lw_p9 : lw_okq (⟨"MountYard$Talk", "stepFault", "(II)C"⟩, 6) := ⟨⟨by decide +kernel, by decide +kernel⟩, List.mem_of_getElem? (i := 118) (by decide +kernel), List.mem_of_getElem? (i := 750) (by decide +kernel), List.mem_of_getElem? (i := 751) (by decide +kernel)⟩
theorem lw_p10 : lw_okq (⟨"MountYard$Talk", "stepFrom", "(II)I"⟩, 6) := ⟨⟨by decide +kernel, by decide +kernel⟩, List.mem_of_getElem? (i := 118) (by decide +kernel), List.mem_of_getElem? (i := 766) (by decide +kernel), List.mem_of_getElem? (i := 767) (by decide +kernel)⟩
theorem lw_p11 : lw_okq (⟨"MountYard$Talk", "open", "(LMountYard$Handle;)C"⟩, 6) := ⟨⟨by decide +kernel, by decide +kernel⟩, List.mem_of_getElem? (i := 118) (by decide +kernel), List.mem_of_getElem? (i := 776) (by decide +kernel), List.mem_of_getElem? (i := 777) (by decide +kernel)⟩
theorem lw_p12 : lw_okq (⟨"MountYard$Talk", "putOpened", "(LMountYard$Node;)V"⟩, 6) := ⟨⟨by decide +kernel, by decide +kernel⟩, List.mem_of_getElem? (i := 118) (by decide +kernel), List.mem_of_getElem? (i := 799) (by decide +kernel), List.mem_of_getElem? (i := 800) (by decide +kernel)⟩
theorem lw_p13 : lw_okq (⟨"MountYard$Talk", "create", "(LMountYard$Handle;)C"⟩, 6) := ⟨⟨by decide +kernel, by decide +kernel⟩, List.mem_of_getElem? (i := 118) (by decide +kernel), List.mem_of_getElem? (i := 803) (by decide +kernel), List.mem_of_getElem? (i := 804) (by decide +kernel)⟩
theorem lw_p14 : lw_okq (⟨"MountYard$Talk", "createFault", "(LMountYard$Handle;IZ)C"⟩, 6) := ⟨⟨by decide +kernel, by decide +kernel⟩, List.mem_of_getElem? (i := 118) (by decide +kernel), List.mem_of_getElem? (i := 808) (by decide +kernel), List.mem_of_getElem? (i := 809) (by decide +kernel)⟩
theorem lw_p15 : lw_okq (⟨"MountYard$Talk", "read", "(LMountYard$Handle;)C"⟩, 6) := ⟨⟨by decide +kernel, by decide +kernel⟩, List.mem_of_getElem? (i := 118) (by decide +kernel), List.mem_of_getElem? (i := 825) (by decide +kernel), List.mem_of_getElem? (i := 826) (by decide +kernel)⟩
def lw_privs_1 : List (MethodName × Nat) := [(⟨"MountYard$Processes", "isUsedByOthers", "(II)Z"⟩, 6), (⟨"MountYard$Processes", "table", "(I)LMountYard$Table;"⟩, 6), (⟨"java/lang/Throwable", "fillInStackTrace", "(I)Ljava/lang/Throwable;"⟩, 6), (⟨"MountYard$Frame", "endsBehindStrings", "(III)Z"⟩, 1), (⟨"MountYard$Frame", "stringBytes", "(I)I"⟩, 1), (⟨"MountYard$Talk", "begin", "()C"⟩, 6), (⟨"MountYard$Talk", "attach", "()C"⟩, 6), (⟨"MountYard$Talk", "walk", "(LMountYard$Handle;)C"⟩, 6), (⟨"MountYard$Talk", "walkSteps", "(LMountYard$Handle;I)C"⟩, 6), (⟨"MountYard$Talk", "stepFault", "(II)C"⟩, 6), (⟨"MountYard$Talk", "stepFrom", "(II)I"⟩, 6), (⟨"MountYard$Talk", "open", "(LMountYard$Handle;)C"⟩, 6), (⟨"MountYard$Talk", "putOpened", "(LMountYard$Node;)V"⟩, 6), (⟨"MountYard$Talk", "create", "(LMountYard$Handle;)C"⟩, 6), (⟨"MountYard$Talk", "createFault", "(LMountYard$Handle;IZ)C"⟩, 6), (⟨"MountYard$Talk", "read", "(LMountYard$Handle;)C"⟩, 6)]
theorem lw_r1 : ∀ q ∈ lw_privs_1, lw_okq q := List.forall_mem_cons.mpr ⟨lw_p0, List.forall_mem_cons.mpr ⟨lw_p1, List.forall_mem_cons.mpr ⟨lw_p2, List.forall_mem_cons.mpr ⟨lw_p3, List.forall_mem_cons.mpr ⟨lw_p4, List.forall_mem_cons.mpr ⟨lw_p5, List.forall_mem_cons.mpr ⟨lw_p6, List.forall_mem_cons.mpr ⟨lw_p7, List.forall_mem_cons.mpr ⟨lw_p8, List.forall_mem_cons.mpr ⟨lw_p9, List.forall_mem_cons.mpr ⟨lw_p10, List.forall_mem_cons.mpr ⟨lw_p11, List.forall_mem_cons.mpr ⟨lw_p12, List.forall_mem_cons.mpr ⟨lw_p13, List.forall_mem_cons.mpr ⟨lw_p14, List.forall_mem_cons.mpr ⟨lw_p15, fun _ h => absurd h List.not_mem_nil⟩⟩⟩⟩⟩⟩⟩⟩⟩⟩⟩⟩⟩⟩⟩⟩
theorem lw_p16 : lw_okq (⟨"MountYard$Talk", "readDirectory", "(LMountYard$Handle;JI)C"⟩, 6) := ⟨⟨by decide +kernel, by decide +kernel⟩, List.mem_of_getElem? (i := 118) (by decide +kernel), List.mem_of_getElem? (i := 829) (by decide +kernel), List.mem_of_getElem? (i := 830) (by decide +kernel)⟩
theorem lw_p17 : lw_okq (⟨"MountYard$Talk", "readPlain", "(LMountYard$Node;JI)C"⟩, 6) := ⟨⟨by decide +kernel, by decide +kernel⟩, List.mem_of_getElem? (i := 118) (by decide +kernel), List.mem_of_getElem? (i := 852) (by decide +kernel), List.mem_of_getElem? (i := 853) (by decide +kernel)⟩
theorem lw_p18 : lw_okq (⟨"MountYard$Talk", "write", "(LMountYard$Handle;)C"⟩, 6) := ⟨⟨by decide +kernel, by decide +kernel⟩, List.mem_of_getElem? (i := 118) (by decide +kernel), List.mem_of_getElem? (i := 864) (by decide +kernel), List.mem_of_getElem? (i := 865) (by decide +kernel)⟩
theorem lw_p19 : lw_okq (⟨"MountYard$Talk", "remove", "(LMountYard$Handle;)C"⟩, 6) := ⟨⟨by decide +kernel, by decide +kernel⟩, List.mem_of_getElem? (i := 118) (by decide +kernel), List.mem_of_getElem? (i := 878) (by decide +kernel), List.mem_of_getElem? (i := 879) (by decide +kernel)⟩
theorem lw_p20 : lw_okq (⟨"MountYard$Talk", "stat", "(LMountYard$Handle;)C"⟩, 6) := ⟨⟨by decide +kernel, by decide +kernel⟩, List.mem_of_getElem? (i := 118) (by decide +kernel), List.mem_of_getElem? (i := 890) (by decide +kernel), List.mem_of_getElem? (i := 891) (by decide +kernel)⟩
theorem lw_p21 : lw_okq (⟨"MountYard$Route", "takePiece", "(LMountYard$ByteRow;II)V"⟩, 5) := ⟨⟨by decide +kernel, by decide +kernel⟩, List.mem_of_getElem? (i := 241) (by decide +kernel), List.mem_of_getElem? (i := 968) (by decide +kernel), List.mem_of_getElem? (i := 969) (by decide +kernel)⟩
theorem lw_p22 : lw_okq (⟨"MountYard$Route", "arriveAt", "(ILMountYard$Tree;LMountYard$Table;)V"⟩, 5) := ⟨⟨by decide +kernel, by decide +kernel⟩, List.mem_of_getElem? (i := 241) (by decide +kernel), List.mem_of_getElem? (i := 980) (by decide +kernel), List.mem_of_getElem? (i := 981) (by decide +kernel)⟩
theorem lw_p23 : lw_okq (⟨"MountYard$Route", "childInList", "(ILMountYard$Tree;)I"⟩, 5) := ⟨⟨by decide +kernel, by decide +kernel⟩, List.mem_of_getElem? (i := 241) (by decide +kernel), List.mem_of_getElem? (i := 999) (by decide +kernel), List.mem_of_getElem? (i := 1000) (by decide +kernel)⟩
theorem lw_p24 : lw_okq (⟨"MountYardModel", "fail", "(I)I"⟩, 40) := ⟨⟨by decide +kernel, by decide +kernel⟩, List.mem_of_getElem? (i := 1107) (by decide +kernel), List.mem_of_getElem? (i := 1245) (by decide +kernel), List.mem_of_getElem? (i := 1246) (by decide +kernel)⟩
theorem lw_p25 : lw_okq (⟨"MountYardModel", "get", "(II)J"⟩, 40) := ⟨⟨by decide +kernel, by decide +kernel⟩, List.mem_of_getElem? (i := 1107) (by decide +kernel), List.mem_of_getElem? (i := 1249) (by decide +kernel), List.mem_of_getElem? (i := 1250) (by decide +kernel)⟩
theorem lw_p26 : lw_okq (⟨"MountYardModel", "answer", "()I"⟩, 40) := ⟨⟨by decide +kernel, by decide +kernel⟩, List.mem_of_getElem? (i := 1107) (by decide +kernel), List.mem_of_getElem? (i := 1254) (by decide +kernel), List.mem_of_getElem? (i := 1255) (by decide +kernel)⟩
theorem lw_p27 : lw_okq (⟨"MountYardModel", "isBody", "()Z"⟩, 40) := ⟨⟨by decide +kernel, by decide +kernel⟩, List.mem_of_getElem? (i := 1107) (by decide +kernel), List.mem_of_getElem? (i := 1258) (by decide +kernel), List.mem_of_getElem? (i := 1259) (by decide +kernel)⟩
theorem lw_p28 : lw_okq (⟨"MountYardModel", "behind", "(I)I"⟩, 40) := ⟨⟨by decide +kernel, by decide +kernel⟩, List.mem_of_getElem? (i := 1107) (by decide +kernel), List.mem_of_getElem? (i := 1262) (by decide +kernel), List.mem_of_getElem? (i := 1263) (by decide +kernel)⟩
theorem lw_p29 : lw_okq (⟨"MountYardModel", "behindStrings", "(II)I"⟩, 40) := ⟨⟨by decide +kernel, by decide +kernel⟩, List.mem_of_getElem? (i := 1107) (by decide +kernel), List.mem_of_getElem? (i := 1267) (by decide +kernel), List.mem_of_getElem? (i := 1268) (by decide +kernel)⟩
theorem lw_p30 : lw_okq (⟨"MountYardModel", "begin", "()I"⟩, 40) := ⟨⟨by decide +kernel, by decide +kernel⟩, List.mem_of_getElem? (i := 1107) (by decide +kernel), List.mem_of_getElem? (i := 1272) (by decide +kernel), List.mem_of_getElem? (i := 1273) (by decide +kernel)⟩
theorem lw_p31 : lw_okq (⟨"MountYardModel", "reply", "(I)V"⟩, 40) := ⟨⟨by decide +kernel, by decide +kernel⟩, List.mem_of_getElem? (i := 1107) (by decide +kernel), List.mem_of_getElem? (i := 1279) (by decide +kernel), List.mem_of_getElem? (i := 1280) (by decide +kernel)⟩
def lw_privs_2 : List (MethodName × Nat) := [(⟨"MountYard$Talk", "readDirectory", "(LMountYard$Handle;JI)C"⟩, 6), (⟨"MountYard$Talk", "readPlain", "(LMountYard$Node;JI)C"⟩, 6), (⟨"MountYard$Talk", "write", "(LMountYard$Handle;)C"⟩, 6), (⟨"MountYard$Talk", "remove", "(LMountYard$Handle;)C"⟩, 6), (⟨"MountYard$Talk", "stat", "(LMountYard$Handle;)C"⟩, 6), (⟨"MountYard$Route", "takePiece", "(LMountYard$ByteRow;II)V"⟩, 5), (⟨"MountYard$Route", "arriveAt", "(ILMountYard$Tree;LMountYard$Table;)V"⟩, 5), (⟨"MountYard$Route", "childInList", "(ILMountYard$Tree;)I"⟩, 5), (⟨"MountYardModel", "fail", "(I)I"⟩, 40), (⟨"MountYardModel", "get", "(II)J"⟩, 40), (⟨"MountYardModel", "answer", "()I"⟩, 40), (⟨"MountYardModel", "isBody", "()Z"⟩, 40), (⟨"MountYardModel", "behind", "(I)I"⟩, 40), (⟨"MountYardModel", "behindStrings", "(II)I"⟩, 40), (⟨"MountYardModel", "begin", "()I"⟩, 40), (⟨"MountYardModel", "reply", "(I)V"⟩, 40)]
theorem lw_r2 : ∀ q ∈ lw_privs_2, lw_okq q := List.forall_mem_cons.mpr ⟨lw_p16, List.forall_mem_cons.mpr ⟨lw_p17, List.forall_mem_cons.mpr ⟨lw_p18, List.forall_mem_cons.mpr ⟨lw_p19, List.forall_mem_cons.mpr ⟨lw_p20, List.forall_mem_cons.mpr ⟨lw_p21, List.forall_mem_cons.mpr ⟨lw_p22, List.forall_mem_cons.mpr ⟨lw_p23, List.forall_mem_cons.mpr ⟨lw_p24, List.forall_mem_cons.mpr ⟨lw_p25, List.forall_mem_cons.mpr ⟨lw_p26, List.forall_mem_cons.mpr ⟨lw_p27, List.forall_mem_cons.mpr ⟨lw_p28, List.forall_mem_cons.mpr ⟨lw_p29, List.forall_mem_cons.mpr ⟨lw_p30, List.forall_mem_cons.mpr ⟨lw_p31, fun _ h => absurd h List.not_mem_nil⟩⟩⟩⟩⟩⟩⟩⟩⟩⟩⟩⟩⟩⟩⟩⟩
theorem lw_p32 : lw_okq (⟨"MountYardModel", "put", "(JI)V"⟩, 40) := ⟨⟨by decide +kernel, by decide +kernel⟩, List.mem_of_getElem? (i := 1107) (by decide +kernel), List.mem_of_getElem? (i := 1283) (by decide +kernel), List.mem_of_getElem? (i := 1284) (by decide +kernel)⟩
theorem lw_p33 : lw_okq (⟨"MountYardModel", "attach", "()I"⟩, 40) := ⟨⟨by decide +kernel, by decide +kernel⟩, List.mem_of_getElem? (i := 1107) (by decide +kernel), List.mem_of_getElem? (i := 1289) (by decide +kernel), List.mem_of_getElem? (i := 1290) (by decide +kernel)⟩
theorem lw_p34 : lw_okq (⟨"MountYardModel", "handleAt", "(I)I"⟩, 40) := ⟨⟨by decide +kernel, by decide +kernel⟩, List.mem_of_getElem? (i := 1107) (by decide +kernel), List.mem_of_getElem? (i := 1294) (by decide +kernel), List.mem_of_getElem? (i := 1295) (by decide +kernel)⟩
theorem lw_p35 : lw_okq (⟨"MountYardModel", "newHandle", "(II)V"⟩, 40) := ⟨⟨by decide +kernel, by decide +kernel⟩, List.mem_of_getElem? (i := 1107) (by decide +kernel), List.mem_of_getElem? (i := 1298) (by decide +kernel), List.mem_of_getElem? (i := 1299) (by decide +kernel)⟩
theorem lw_p36 : lw_okq (⟨"MountYardModel", "stand", "(II)V"⟩, 40) := ⟨⟨by decide +kernel, by decide +kernel⟩, List.mem_of_getElem? (i := 1107) (by decide +kernel), List.mem_of_getElem? (i := 1302) (by decide +kernel), List.mem_of_getElem? (i := 1303) (by decide +kernel)⟩
theorem lw_p37 : lw_okq (⟨"MountYardModel", "putQid", "(I)V"⟩, 40) := ⟨⟨by decide +kernel, by decide +kernel⟩, List.mem_of_getElem? (i := 1107) (by decide +kernel), List.mem_of_getElem? (i := 1306) (by decide +kernel), List.mem_of_getElem? (i := 1307) (by decide +kernel)⟩
theorem lw_p38 : lw_okq (⟨"MountYardModel", "flush", "()I"⟩, 40) := ⟨⟨by decide +kernel, by decide +kernel⟩, List.mem_of_getElem? (i := 1107) (by decide +kernel), List.mem_of_getElem? (i := 1311) (by decide +kernel), List.mem_of_getElem? (i := 1312) (by decide +kernel)⟩
theorem lw_p39 : lw_okq (⟨"MountYardModel", "walk", "()I"⟩, 40) := ⟨⟨by decide +kernel, by decide +kernel⟩, List.mem_of_getElem? (i := 1107) (by decide +kernel), List.mem_of_getElem? (i := 1315) (by decide +kernel), List.mem_of_getElem? (i := 1316) (by decide +kernel)⟩
theorem lw_p40 : lw_okq (⟨"MountYardModel", "wrongStep", "(II)I"⟩, 40) := ⟨⟨by decide +kernel, by decide +kernel⟩, List.mem_of_getElem? (i := 1107) (by decide +kernel), List.mem_of_getElem? (i := 1319) (by decide +kernel), List.mem_of_getElem? (i := 1320) (by decide +kernel)⟩
theorem lw_p41 : lw_okq (⟨"MountYardModel", "isUp", "(I)Z"⟩, 40) := ⟨⟨by decide +kernel, by decide +kernel⟩, List.mem_of_getElem? (i := 1107) (by decide +kernel), List.mem_of_getElem? (i := 1323) (by decide +kernel), List.mem_of_getElem? (i := 1324) (by decide +kernel)⟩
theorem lw_p42 : lw_okq (⟨"MountYardModel", "childOf", "(IZII)I"⟩, 40) := ⟨⟨by decide +kernel, by decide +kernel⟩, List.mem_of_getElem? (i := 1107) (by decide +kernel), List.mem_of_getElem? (i := 1328) (by decide +kernel), List.mem_of_getElem? (i := 1329) (by decide +kernel)⟩
theorem lw_p43 : lw_okq (⟨"MountYardModel", "isChild", "(II)Z"⟩, 40) := ⟨⟨by decide +kernel, by decide +kernel⟩, List.mem_of_getElem? (i := 1107) (by decide +kernel), List.mem_of_getElem? (i := 1332) (by decide +kernel), List.mem_of_getElem? (i := 1333) (by decide +kernel)⟩
theorem lw_p44 : lw_okq (⟨"MountYardModel", "isNamed", "(IZII)Z"⟩, 40) := ⟨⟨by decide +kernel, by decide +kernel⟩, List.mem_of_getElem? (i := 1107) (by decide +kernel), List.mem_of_getElem? (i := 1336) (by decide +kernel), List.mem_of_getElem? (i := 1337) (by decide +kernel)⟩
theorem lw_p45 : lw_okq (⟨"MountYardModel", "stepFrom", "(II)I"⟩, 40) := ⟨⟨by decide +kernel, by decide +kernel⟩, List.mem_of_getElem? (i := 1107) (by decide +kernel), List.mem_of_getElem? (i := 1340) (by decide +kernel), List.mem_of_getElem? (i := 1341) (by decide +kernel)⟩
theorem lw_p46 : lw_okq (⟨"MountYardModel", "open", "()I"⟩, 40) := ⟨⟨by decide +kernel, by decide +kernel⟩, List.mem_of_getElem? (i := 1107) (by decide +kernel), List.mem_of_getElem? (i := 1344) (by decide +kernel), List.mem_of_getElem? (i := 1345) (by decide +kernel)⟩
theorem lw_p47 : lw_okq (⟨"MountYardModel", "putOpened", "(I)V"⟩, 40) := ⟨⟨by decide +kernel, by decide +kernel⟩, List.mem_of_getElem? (i := 1107) (by decide +kernel), List.mem_of_getElem? (i := 1354) (by decide +kernel), List.mem_of_getElem? (i := 1355) (by decide +kernel)⟩
def lw_privs_3 : List (MethodName × Nat) := [(⟨"MountYardModel", "put", "(JI)V"⟩, 40), (⟨"MountYardModel", "attach", "()I"⟩, 40), (⟨"MountYardModel", "handleAt", "(I)I"⟩, 40), (⟨"MountYardModel", "newHandle", "(II)V"⟩, 40), (⟨"MountYardModel", "stand", "(II)V"⟩, 40), (⟨"MountYardModel", "putQid", "(I)V"⟩, 40), (⟨"MountYardModel", "flush", "()I"⟩, 40), (⟨"MountYardModel", "walk", "()I"⟩, 40), (⟨"MountYardModel", "wrongStep", "(II)I"⟩, 40), (⟨"MountYardModel", "isUp", "(I)Z"⟩, 40), (⟨"MountYardModel", "childOf", "(IZII)I"⟩, 40), (⟨"MountYardModel", "isChild", "(II)Z"⟩, 40), (⟨"MountYardModel", "isNamed", "(IZII)Z"⟩, 40), (⟨"MountYardModel", "stepFrom", "(II)I"⟩, 40), (⟨"MountYardModel", "open", "()I"⟩, 40), (⟨"MountYardModel", "putOpened", "(I)V"⟩, 40)]
theorem lw_r3 : ∀ q ∈ lw_privs_3, lw_okq q := List.forall_mem_cons.mpr ⟨lw_p32, List.forall_mem_cons.mpr ⟨lw_p33, List.forall_mem_cons.mpr ⟨lw_p34, List.forall_mem_cons.mpr ⟨lw_p35, List.forall_mem_cons.mpr ⟨lw_p36, List.forall_mem_cons.mpr ⟨lw_p37, List.forall_mem_cons.mpr ⟨lw_p38, List.forall_mem_cons.mpr ⟨lw_p39, List.forall_mem_cons.mpr ⟨lw_p40, List.forall_mem_cons.mpr ⟨lw_p41, List.forall_mem_cons.mpr ⟨lw_p42, List.forall_mem_cons.mpr ⟨lw_p43, List.forall_mem_cons.mpr ⟨lw_p44, List.forall_mem_cons.mpr ⟨lw_p45, List.forall_mem_cons.mpr ⟨lw_p46, List.forall_mem_cons.mpr ⟨lw_p47, fun _ h => absurd h List.not_mem_nil⟩⟩⟩⟩⟩⟩⟩⟩⟩⟩⟩⟩⟩⟩⟩⟩
theorem lw_p48 : lw_okq (⟨"MountYardModel", "create", "()I"⟩, 40) := ⟨⟨by decide +kernel, by decide +kernel⟩, List.mem_of_getElem? (i := 1107) (by decide +kernel), List.mem_of_getElem? (i := 1358) (by decide +kernel), List.mem_of_getElem? (i := 1359) (by decide +kernel)⟩
theorem lw_p49 : lw_okq (⟨"MountYardModel", "isName", "(II)Z"⟩, 40) := ⟨⟨by decide +kernel, by decide +kernel⟩, List.mem_of_getElem? (i := 1107) (by decide +kernel), List.mem_of_getElem? (i := 1362) (by decide +kernel), List.mem_of_getElem? (i := 1363) (by decide +kernel)⟩
theorem lw_p50 : lw_okq (⟨"MountYardModel", "read", "()I"⟩, 40) := ⟨⟨by decide +kernel, by decide +kernel⟩, List.mem_of_getElem? (i := 1107) (by decide +kernel), List.mem_of_getElem? (i := 1366) (by decide +kernel), List.mem_of_getElem? (i := 1367) (by decide +kernel)⟩
theorem lw_p51 : lw_okq (⟨"MountYardModel", "putStats", "(II)V"⟩, 40) := ⟨⟨by decide +kernel, by decide +kernel⟩, List.mem_of_getElem? (i := 1107) (by decide +kernel), List.mem_of_getElem? (i := 1370) (by decide +kernel), List.mem_of_getElem? (i := 1371) (by decide +kernel)⟩
theorem lw_p52 : lw_okq (⟨"MountYardModel", "putStat", "(I)V"⟩, 40) := ⟨⟨by decide +kernel, by decide +kernel⟩, List.mem_of_getElem? (i := 1107) (by decide +kernel), List.mem_of_getElem? (i := 1374) (by decide +kernel), List.mem_of_getElem? (i := 1375) (by decide +kernel)⟩
theorem lw_p53 : lw_okq (⟨"MountYardModel", "write", "()I"⟩, 40) := ⟨⟨by decide +kernel, by decide +kernel⟩, List.mem_of_getElem? (i := 1107) (by decide +kernel), List.mem_of_getElem? (i := 1380) (by decide +kernel), List.mem_of_getElem? (i := 1381) (by decide +kernel)⟩
theorem lw_p54 : lw_okq (⟨"MountYardModel", "close", "()I"⟩, 40) := ⟨⟨by decide +kernel, by decide +kernel⟩, List.mem_of_getElem? (i := 1107) (by decide +kernel), List.mem_of_getElem? (i := 1385) (by decide +kernel), List.mem_of_getElem? (i := 1386) (by decide +kernel)⟩
theorem lw_p55 : lw_okq (⟨"MountYardModel", "forget", "(I)V"⟩, 40) := ⟨⟨by decide +kernel, by decide +kernel⟩, List.mem_of_getElem? (i := 1107) (by decide +kernel), List.mem_of_getElem? (i := 1389) (by decide +kernel), List.mem_of_getElem? (i := 1390) (by decide +kernel)⟩
theorem lw_p56 : lw_okq (⟨"MountYardModel", "remove", "()I"⟩, 40) := ⟨⟨by decide +kernel, by decide +kernel⟩, List.mem_of_getElem? (i := 1107) (by decide +kernel), List.mem_of_getElem? (i := 1393) (by decide +kernel), List.mem_of_getElem? (i := 1394) (by decide +kernel)⟩
theorem lw_p57 : lw_okq (⟨"MountYardModel", "hasChildren", "(I)Z"⟩, 40) := ⟨⟨by decide +kernel, by decide +kernel⟩, List.mem_of_getElem? (i := 1107) (by decide +kernel), List.mem_of_getElem? (i := 1397) (by decide +kernel), List.mem_of_getElem? (i := 1398) (by decide +kernel)⟩
theorem lw_p58 : lw_okq (⟨"MountYardModel", "stat", "()I"⟩, 40) := ⟨⟨by decide +kernel, by decide +kernel⟩, List.mem_of_getElem? (i := 1107) (by decide +kernel), List.mem_of_getElem? (i := 1401) (by decide +kernel), List.mem_of_getElem? (i := 1402) (by decide +kernel)⟩
theorem lw_p59 : lw_okq (⟨"MountYardModel", "finish", "()V"⟩, 40) := ⟨⟨by decide +kernel, by decide +kernel⟩, List.mem_of_getElem? (i := 1107) (by decide +kernel), List.mem_of_getElem? (i := 1405) (by decide +kernel), List.mem_of_getElem? (i := 1406) (by decide +kernel)⟩
theorem lw_p60 : lw_okq (⟨"MountYardModel", "leave", "(I)V"⟩, 40) := ⟨⟨by decide +kernel, by decide +kernel⟩, List.mem_of_getElem? (i := 1107) (by decide +kernel), List.mem_of_getElem? (i := 1409) (by decide +kernel), List.mem_of_getElem? (i := 1410) (by decide +kernel)⟩
theorem lw_p61 : lw_okq (⟨"MountYardModel", "find", "(IZ)Z"⟩, 40) := ⟨⟨by decide +kernel, by decide +kernel⟩, List.mem_of_getElem? (i := 1107) (by decide +kernel), List.mem_of_getElem? (i := 1459) (by decide +kernel), List.mem_of_getElem? (i := 1460) (by decide +kernel)⟩
theorem lw_p62 : lw_okq (⟨"MountYardModel", "space", "()I"⟩, 40) := ⟨⟨by decide +kernel, by decide +kernel⟩, List.mem_of_getElem? (i := 1107) (by decide +kernel), List.mem_of_getElem? (i := 1463) (by decide +kernel), List.mem_of_getElem? (i := 1464) (by decide +kernel)⟩
theorem lw_p63 : lw_okq (⟨"MountYardModel", "cut", "(II)V"⟩, 40) := ⟨⟨by decide +kernel, by decide +kernel⟩, List.mem_of_getElem? (i := 1107) (by decide +kernel), List.mem_of_getElem? (i := 1467) (by decide +kernel), List.mem_of_getElem? (i := 1468) (by decide +kernel)⟩
def lw_privs_4 : List (MethodName × Nat) := [(⟨"MountYardModel", "create", "()I"⟩, 40), (⟨"MountYardModel", "isName", "(II)Z"⟩, 40), (⟨"MountYardModel", "read", "()I"⟩, 40), (⟨"MountYardModel", "putStats", "(II)V"⟩, 40), (⟨"MountYardModel", "putStat", "(I)V"⟩, 40), (⟨"MountYardModel", "write", "()I"⟩, 40), (⟨"MountYardModel", "close", "()I"⟩, 40), (⟨"MountYardModel", "forget", "(I)V"⟩, 40), (⟨"MountYardModel", "remove", "()I"⟩, 40), (⟨"MountYardModel", "hasChildren", "(I)Z"⟩, 40), (⟨"MountYardModel", "stat", "()I"⟩, 40), (⟨"MountYardModel", "finish", "()V"⟩, 40), (⟨"MountYardModel", "leave", "(I)V"⟩, 40), (⟨"MountYardModel", "find", "(IZ)Z"⟩, 40), (⟨"MountYardModel", "space", "()I"⟩, 40), (⟨"MountYardModel", "cut", "(II)V"⟩, 40)]
theorem lw_r4 : ∀ q ∈ lw_privs_4, lw_okq q := List.forall_mem_cons.mpr ⟨lw_p48, List.forall_mem_cons.mpr ⟨lw_p49, List.forall_mem_cons.mpr ⟨lw_p50, List.forall_mem_cons.mpr ⟨lw_p51, List.forall_mem_cons.mpr ⟨lw_p52, List.forall_mem_cons.mpr ⟨lw_p53, List.forall_mem_cons.mpr ⟨lw_p54, List.forall_mem_cons.mpr ⟨lw_p55, List.forall_mem_cons.mpr ⟨lw_p56, List.forall_mem_cons.mpr ⟨lw_p57, List.forall_mem_cons.mpr ⟨lw_p58, List.forall_mem_cons.mpr ⟨lw_p59, List.forall_mem_cons.mpr ⟨lw_p60, List.forall_mem_cons.mpr ⟨lw_p61, List.forall_mem_cons.mpr ⟨lw_p62, List.forall_mem_cons.mpr ⟨lw_p63, fun _ h => absurd h List.not_mem_nil⟩⟩⟩⟩⟩⟩⟩⟩⟩⟩⟩⟩⟩⟩⟩⟩
theorem lw_p64 : lw_okq (⟨"MountYardModel", "unite", "(II)V"⟩, 40) := ⟨⟨by decide +kernel, by decide +kernel⟩, List.mem_of_getElem? (i := 1107) (by decide +kernel), List.mem_of_getElem? (i := 1471) (by decide +kernel), List.mem_of_getElem? (i := 1472) (by decide +kernel)⟩
theorem lw_p65 : lw_okq (⟨"MountYardModel", "keyOf", "(II)I"⟩, 40) := ⟨⟨by decide +kernel, by decide +kernel⟩, List.mem_of_getElem? (i := 1107) (by decide +kernel), List.mem_of_getElem? (i := 1475) (by decide +kernel), List.mem_of_getElem? (i := 1476) (by decide +kernel)⟩
theorem lw_p66 : lw_okq (⟨"MountYardModel", "keep", "(I)V"⟩, 40) := ⟨⟨by decide +kernel, by decide +kernel⟩, List.mem_of_getElem? (i := 1107) (by decide +kernel), List.mem_of_getElem? (i := 1487) (by decide +kernel), List.mem_of_getElem? (i := 1488) (by decide +kernel)⟩
theorem lw_p67 : lw_okq (⟨"MountYardModel", "areAll", "(ZII)Z"⟩, 40) := ⟨⟨by decide +kernel, by decide +kernel⟩, List.mem_of_getElem? (i := 1107) (by decide +kernel), List.mem_of_getElem? (i := 1491) (by decide +kernel), List.mem_of_getElem? (i := 1492) (by decide +kernel)⟩
theorem lw_p68 : lw_okq (⟨"MountYardModel", "copyKey", "(IIII)V"⟩, 40) := ⟨⟨by decide +kernel, by decide +kernel⟩, List.mem_of_getElem? (i := 1107) (by decide +kernel), List.mem_of_getElem? (i := 1499) (by decide +kernel), List.mem_of_getElem? (i := 1500) (by decide +kernel)⟩
theorem lw_p69 : lw_okq (⟨"MountYardModel", "isUsed", "(II)Z"⟩, 40) := ⟨⟨by decide +kernel, by decide +kernel⟩, List.mem_of_getElem? (i := 1107) (by decide +kernel), List.mem_of_getElem? (i := 1507) (by decide +kernel), List.mem_of_getElem? (i := 1508) (by decide +kernel)⟩
def lw_privs_5 : List (MethodName × Nat) := [(⟨"MountYardModel", "unite", "(II)V"⟩, 40), (⟨"MountYardModel", "keyOf", "(II)I"⟩, 40), (⟨"MountYardModel", "keep", "(I)V"⟩, 40), (⟨"MountYardModel", "areAll", "(ZII)Z"⟩, 40), (⟨"MountYardModel", "copyKey", "(IIII)V"⟩, 40), (⟨"MountYardModel", "isUsed", "(II)Z"⟩, 40)]
theorem lw_r5 : ∀ q ∈ lw_privs_5, lw_okq q := List.forall_mem_cons.mpr ⟨lw_p64, List.forall_mem_cons.mpr ⟨lw_p65, List.forall_mem_cons.mpr ⟨lw_p66, List.forall_mem_cons.mpr ⟨lw_p67, List.forall_mem_cons.mpr ⟨lw_p68, List.forall_mem_cons.mpr ⟨lw_p69, fun _ h => absurd h List.not_mem_nil⟩⟩⟩⟩⟩⟩
def lw_privs : List (MethodName × Nat) := lw_privs_1 ++ (lw_privs_2 ++ (lw_privs_3 ++ (lw_privs_4 ++ (lw_privs_5))))
def lw_tbl : List Cond := k2_sels lw_privs ++ tables_1
theorem lw_privs_ok : ∀ q ∈ lw_privs, lw_okq q := by
  show ∀ q ∈ lw_privs_1 ++ (lw_privs_2 ++ (lw_privs_3 ++ (lw_privs_4 ++ (lw_privs_5)))), lw_okq q
  exact List.forall_mem_append.mpr ⟨lw_r1, List.forall_mem_append.mpr ⟨lw_r2, List.forall_mem_append.mpr ⟨lw_r3, List.forall_mem_append.mpr ⟨lw_r4, lw_r5⟩⟩⟩⟩
end
section
/-! ===== catching through rows that are passed: after proofs of the library (Shelf42/NT86, NT97), which rounds don't have ===== -/
section ACC
def ac_to (e : Env) (s : State) (f : JFrame) (a : Addr) (h : Handler) (vm' : Vm) : Prop :=
  ∀ (Q : Handler → Pre) (E : CtlPost) (d : Bool) (acts : List Action), wp (findHandler f a) Q E e d acts s ↔ Q h d acts (s.setVm vm')
def ac_passed (pl : Platform) (s₀ : State) (d : ClassId) (pc : Nat) (thrown : ClassId) (y : ExceptionTableEntry) : Prop :=
  covers y pc = false ∨ (y.catchType ≠ 0 ∧ ∃ c, s₀.vm.ClassLinks pl d y.catchType c ∧ s₀.vm.assignable thrown c = false)
theorem ac_link {Q : Handler → Pre} {E : CtlPost} {e : Env} {d : Bool} {acts : List Action} {s : State} {f : JFrame} {a : Addr} {x : ExceptionTableEntry} {t : List ExceptionTableEntry} {c : ClassId} {cell : Cell} (hx : covers x f.pc = true) (h0 : x.catchType ≠ 0)
    (hl : s.vm.ClassLinks e.platform f.method.cls x.catchType c) (hcell : s.heap[a]? = some cell) (hobj : ∀ k, cell.vm ≠ .statics k)
    (hk : ∃ k, s.vm.classes[cell.cls]? = some k) (hc : ∃ k, s.vm.classes[c]? = some k) (hfit : s.vm.assignable cell.cls c = true) :
    wp (findHandler.go f a (x :: t)) Q E e d acts s ↔ Q (.found x.handlerPc) d acts (s.setVm (s.vm.noted f.method.cls x.catchType (.cls c))) := by
  simp only [covers] at hx
  obtain ⟨ha, ht⟩ := (resolveClass_links e.toSetting hl).op (op := VmOp.resolveClass f.method.cls x.catchType) rfl
  have hal : s.vm.Alike (s.vm.noted f.method.cls x.catchType (.cls c)) := (Vm.Alike.refl s.vm).noted _ _ _
  obtain ⟨k1, hk1⟩ := hk
  obtain ⟨k2, hk2⟩ := hc
  obtain ⟨k1', hk1', -⟩ := hal.2.2 _ _ hk1
  obtain ⟨k2', hk2', -⟩ := hal.2.2 _ _ hk2
  have hfit' : (s.vm.noted f.method.cls x.catchType (.cls c)).assignable cell.cls c = true := by rw [hal.assignable]; exact hfit
  simp [findHandler.go, hx, h0, ha, ht, hcell, hobj, hk1', hk2', hfit', VmOp.dirties, VmOp.acts]
theorem ac_linkNo {Q : Handler → Pre} {E : CtlPost} {e : Env} {d : Bool} {acts : List Action} {s : State} {f : JFrame} {a : Addr} {x : ExceptionTableEntry} {t : List ExceptionTableEntry} {c : ClassId} {cell : Cell} (hx : covers x f.pc = true) (h0 : x.catchType ≠ 0)
    (hl : s.vm.ClassLinks e.platform f.method.cls x.catchType c) (hcell : s.heap[a]? = some cell) (hobj : ∀ k, cell.vm ≠ .statics k)
    (hk : ∃ k, s.vm.classes[cell.cls]? = some k) (hc : ∃ k, s.vm.classes[c]? = some k) (hno : s.vm.assignable cell.cls c = false) :
    wp (findHandler.go f a (x :: t)) Q E e d acts s ↔ wp (findHandler.go f a t) Q E e d acts (s.setVm (s.vm.noted f.method.cls x.catchType (.cls c))) := by
  simp only [covers] at hx
  obtain ⟨ha, ht⟩ := (resolveClass_links e.toSetting hl).op (op := VmOp.resolveClass f.method.cls x.catchType) rfl
  have hal : s.vm.Alike (s.vm.noted f.method.cls x.catchType (.cls c)) := (Vm.Alike.refl s.vm).noted _ _ _
  obtain ⟨k1, hk1⟩ := hk
  obtain ⟨k2, hk2⟩ := hc
  obtain ⟨k1', hk1', -⟩ := hal.2.2 _ _ hk1
  obtain ⟨k2', hk2', -⟩ := hal.2.2 _ _ hk2
  have hno' : (s.vm.noted f.method.cls x.catchType (.cls c)).assignable cell.cls c = false := by rw [hal.assignable]; exact hno
  simp [findHandler.go, hx, h0, ha, ht, hcell, hobj, hk1', hk2', hno', VmOp.dirties, VmOp.acts]
theorem ac_go {e : Env} {s₀ : State} {f : JFrame} {a : Addr} {cell : Cell} (hobj : ∀ k, cell.vm ≠ .statics k) (hk0 : ∃ k, s₀.vm.classes[cell.cls]? = some k)
    (x : ExceptionTableEntry) (rest : List ExceptionTableEntry) (hx : covers x f.pc = true) (h0 : x.catchType ≠ 0) {c : ClassId} (hl : s₀.vm.ClassLinks e.platform f.method.cls x.catchType c) (hfit : s₀.vm.assignable cell.cls c = true) :
    ∀ (pre : List ExceptionTableEntry) (S : State), s₀.WarmedH S.vm → S.heap[a]? = some cell → (∀ y ∈ pre, ac_passed e.platform s₀ f.method.cls f.pc cell.cls y) →
      ∃ vm', s₀.WarmedH vm' ∧ ∀ (Q : Handler → Pre) (E : CtlPost) (d : Bool) (acts : List Action), wp (findHandler.go f a (pre ++ x :: rest)) Q E e d acts S ↔ Q (.found x.handlerPc) d acts (S.setVm vm') := by
  obtain ⟨k0, hk0⟩ := hk0
  intro pre
  induction pre with
  | nil =>
    intro S hW hcell _
    obtain ⟨k0', hk0', -⟩ := hW.alike.2.2 _ _ hk0
    obtain ⟨dk, _, _, kt, hd, _, _, _, _, hkt, _, hopen⟩ := hl.here
    obtain ⟨kt', hkt', -⟩ := hW.alike.2.2 _ _ hkt
    exact ⟨_, hW.noted hd hopen (State.rightAt_cls hl), fun Q E d acts => by
      rw [List.nil_append]
      exact ac_link hx h0 (hW.classLinks hl) hcell hobj ⟨k0', hk0'⟩ ⟨kt', hkt'⟩ (by rw [hW.alike.assignable]; exact hfit)⟩
  | cons y ys ih =>
    intro S hW hcell hpass
    obtain ⟨k0', hk0', -⟩ := hW.alike.2.2 _ _ hk0
    have hrest : ∀ z ∈ ys, ac_passed e.platform s₀ f.method.cls f.pc cell.cls z := fun z hz => hpass z (List.mem_cons_of_mem _ hz)
    by_cases hcov : covers y f.pc = true
    · rcases hpass y List.mem_cons_self with h | ⟨hy0, cy, hly, hno⟩
      · rw [h] at hcov; cases hcov
      · obtain ⟨dk, _, _, kt, hd, _, _, _, _, hkt, _, hopen⟩ := hly.here
        obtain ⟨kt', hkt', -⟩ := hW.alike.2.2 _ _ hkt
        obtain ⟨vm', hW', hq⟩ := ih (S.setVm (S.vm.noted f.method.cls y.catchType (.cls cy))) (hW.noted hd hopen (State.rightAt_cls hly)) hcell hrest
        exact ⟨vm', hW', fun Q E d acts => by
          rw [List.cons_append, ac_linkNo hcov hy0 (hW.classLinks hly) hcell hobj ⟨k0', hk0'⟩ ⟨kt', hkt'⟩ (by rw [hW.alike.assignable]; exact hno)]
          exact hq Q E d acts⟩
    · obtain ⟨vm', hW', hq⟩ := ih S hW hcell hrest
      exact ⟨vm', hW', fun Q E d acts => by
        rw [List.cons_append, Jvm.W.findHandler_go_skip (by simpa using hcov)]
        exact hq Q E d acts⟩
theorem ac_step1 {e : Env} {s : State} {a : Addr} {f : JFrame} {r : List Frame} {pc : Nat} {vm' : Vm} (hfind : ac_to e s f a (.found pc) vm') :
    (stepThrowing e s a (.java f :: r)).Is ((s.setVm vm').setFrames (.java { f with pc := pc, stack := [.ref a] } :: r)) [] := by
  simp only [stepThrowing, searchFrame, vmDo]
  generalize hr : Sem.go _ e false [] s = res
  obtain ⟨as, rfl, ha⟩ := Sem.eq_ok_of hr (a := Handler.found pc) (s' := s.setVm vm') (acts' := []) (by simp [hfind _ _ _ _])
  exact ⟨rfl, ha⟩
theorem ac_sfs (u : State) (vm' : Vm) (F G : List Frame) : ((u.setFrames F).setVm vm').setFrames G = (u.setVm vm').setFrames G := by
  have h1 : (u.setFrames F).setVm vm' = (u.setVm vm').setFrames F := rfl
  rw [h1, State.setFrames_setFrames]
theorem ac_steps {tb : Tables} {e : Env} {s target : State} {g : JFrame} {c : Code} {below : List Frame} {a : Addr} (h : At s g.method c below) {pc : Nat} {vm' : Vm}
    (hfind : ac_to e ((s.setTop g).pushFrame (.throwing a)) g a (.found pc) vm') (hrest : Steps tb e below ((s.setVm vm').setTop { g with pc := pc, stack := [.ref a] }) target) :
    Steps tb e below ((s.setTop g).pushFrame (.throwing a)) target := by
  obtain ⟨hgo, hw⟩ := h.throwing a
  refine Steps.head hgo hw ?_
  rw [stepThread_throwing (frames_entered h.top _), (ac_step1 (s := (s.setTop g).pushFrame (.throwing a)) hfind).1]
  obtain ⟨g₀, hg⟩ := Option.isSome_iff_exists.mp h.top
  obtain ⟨r, hr⟩ := State.topJava?_eq_some.mp hg
  have hr' : (s.setVm vm').frames = .java g₀ :: r := hr
  rw [State.setTop_of_frames _ hr'] at hrest
  rw [hr, List.tail_cons, State.pushFrame, ac_sfs, State.setTop_of_frames _ hr, ac_sfs]
  exact hrest
/-- caught here, behind rows that are passed -/
theorem ac_caught {p : Program} {l : Launch} {e : Env} {R : Room} {s : State} {m₀ : MethodId} {args : Array Value} {below : List Frame} {meth : Method} {c : Code} {T : State} {locs : List Loc} {cells slots : Nat}
    (X : Stand p l e R s m₀ args below meth c T locs cells slots) (a : Addr) {g : JFrame} (hg : g.method = m₀) {cell : Cell} (hcell : T.heap[a]? = some cell) (hobj : cell.vm.isStatics = false)
    (hk0 : ∃ k, s.vm.classes[cell.cls]? = some k)
    (pre : List ExceptionTableEntry) (x : ExceptionTableEntry) (rest : List ExceptionTableEntry) (hsplit : c.exceptionTable.toList = pre ++ x :: rest)
    (hpass : ∀ y ∈ pre, ac_passed e.platform s m₀.cls g.pc cell.cls y) (hx : covers x g.pc = true) (h0 : x.catchType ≠ 0) {cX : ClassId} (hl : s.vm.ClassLinks e.platform m₀.cls x.catchType cX) (hfit : s.vm.assignable cell.cls cX = true) :
    ∃ vm', Stand p l e R s m₀ args below meth c (T.setVm vm') locs cells slots ∧
      ∀ target, Steps p.tables e below ((T.setVm vm').setTop { g with pc := x.handlerPc, stack := [.ref a] }) target → Steps p.tables e below ((T.setTop g).pushFrame (.throwing a)) target := by
  subst hg
  obtain ⟨vm', hW', hq⟩ := ac_go (e := e) (s₀ := s) (f := g) (a := a) (cell := cell) (VmData.ne_statics_of hobj) hk0 x rest hx h0 hl hfit pre ((T.setTop g).pushFrame (.throwing a)) X.warmed hcell hpass
  refine ⟨vm', X.noted hW', fun target hrest => ?_⟩
  exact ac_steps X.here (fun Q E d acts => by rw [Jvm.W.findHandler_eq (s := (T.setTop g).pushFrame (.throwing a)) (meth := meth) (code := c) X.method' X.code, hsplit]; exact hq Q E d acts) hrest
end ACC
/-! ===== BEGIN words of one list among another's, by their places ===== -/
theorem goodIn_r {big : List Cond} (ws : List Cond) (ps : List Nat) (hp : ws = ps.filterMap (fun i => big[i]?)) (h : ws.all goodWord = true) : GoodIn big ws := by
  intro w hw
  have h1 := List.all_eq_true.mp h w hw
  rw [hp] at hw
  obtain ⟨i, -, hi⟩ := List.mem_filterMap.mp hw
  have hm : w ∈ big := by first | exact List.mem_of_getElem? hi | exact List.getElem?_mem hi
  exact ⟨hm, good_of_word h1⟩
theorem goodIn_app {big a b : List Cond} (ha : GoodIn big a) (hb : GoodIn big b) : GoodIn big (a ++ b) := fun w h => (List.mem_append.mp h).elim (ha w) (hb w)
theorem goodIn_ca {big a b : List Cond} {c : Cond} (ha : GoodIn big (c :: a)) (hb : GoodIn big b) : GoodIn big (c :: (a ++ b)) := fun w h => (List.mem_cons.mp h).elim (fun e => ha w (List.mem_cons.mpr (Or.inl e))) (fun h => (List.mem_append.mp h).elim (fun h => ha w (List.mem_cons.mpr (Or.inr h))) (hb w))
theorem goodIn_sub {big ws : List Cond} (hm : ∀ w ∈ ws, w ∈ big) (h : ws.all goodWord = true) : GoodIn big ws := fun w hw => ⟨hm w hw, good_of_word (List.all_eq_true.mp h w hw)⟩
/-! ===== END ===== -/

/-! ===== BEGIN exceptions that leave a method, and their catching by the caller (launches without stack traces) ===== -/
section VXA
/-! The laws vx_back, vx_callV, vx_callS, vx_callSW, vx_throw0, vx_throwS follow proofs of the library, with one case more: JvmDerived/Free/Laws.lean (Back.of_free), Shelf42/LK1.lean (callV, callS), Shelf/KitTraced.lean (throwNew0V, throwNewS). -/
/-- where a method has thrown q: the class by its name, the cell, what was written, the world -/
def vx_T (XC : String → State → State → Prop) (st : State) (q : Addr) (t : State) (mc ms : Nat) (free : Addr → Prop) : Prop :=
  ∃ (E : String) (ce : Cell) (L : List Loc), XC E st t ∧ t.heap[q]? = some ce ∧ ce.vm = .none ∧ st.vm.findClass E = some ce.cls ∧ st.WarmedH t.vm ∧ st.sameButNew ({ t with vm := st.vm } : State) L mc ms ∧ ∀ z ∈ L, free z.base
def vx_Q (Qc : Array Value → State → Outcome → State → Prop) (XC : String → State → State → Prop) (mc ms : Nat) (free : Addr → Prop) : Array Value → State → Outcome → State → Prop := fun a st o t =>
  (Qc a st o t ∧ ∃ L, FrameEnd st o t L mc ms ∧ ∀ q ∈ L, free q.base) ∨ ∃ q, o = .threw q ∧ vx_T XC st q t mc ms free
/-- a callee that returns or throws -/
def vx_Met (l : Launch) (y : MethodName) (ws : List Cond) (rm : Room) (Pc : Array Value → State → Prop) (Qc : Array Value → State → Outcome → State → Prop) (XC : String → State → State → Prop) (mc ms : Nat) (free : Addr → Prop) : Prop :=
  MetFree l y (headSpec ws rm) Pc (fun _ _ _ _ _ => True) (vx_Q Qc XC mc ms free)
def vx_Post (XC : String → State → State → Prop) (mc ms : Nat) (free : Addr → Prop) : Pt → Array Value → Addr → Pt → Prop := fun A a q B =>
  ∃ (g : JFrame) (mk : MethodId) (t : State) (L : List Loc) (E : String) (ce : Cell), B.U.heap = t.heap ∧ B.U.vm = t.vm ∧ XC E (A.U.calling g mk a) t ∧ t.heap[q]? = some ce ∧ ce.vm = .none ∧ A.U.vm.findClass E = some ce.cls ∧ B.locs = A.locs ++ L ∧ (∀ z ∈ L, free z.base) ∧ B.cells = A.cells + mc ∧ B.slots = A.slots + ms
def vx_Back (l : Launch) (R : Room) (p : Program) (e : Env) (below : List Frame) (s : State) (sargs : Array Value) (y : MethodName) (len W9 : Nat)
    (Pre : Pt → Array Value → Prop) (Post : Pt → Array Value → Option Value → Pt → Prop) (PostX : Pt → Array Value → Addr → Pt → Prop) : Prop :=
  ∀ (m : MethodId) (meth : Method) (c : Code) (A : Pt) (g : JFrame) (ig : Instr) (mk : MethodId) (a : Array Value),
    Stand p l e R s m sargs below meth c A.U A.locs A.cells A.slots → g.method = m → g.locals.size = c.maxLocals → decode c.code g.pc = .ok (ig, len) →
    2 * g.monitorRoom + (g.stack.map fun v => v.category).sum ≤ W9 → A.U.methodNamed? y = some mk → Pre A a →
    (∃ (v : Option Value) (B : Pt), Stand p l e R s m sargs below meth c B.U B.locs B.cells B.slots ∧ Post A a v B ∧
      Steps p.tables e below (doInvoke e (A.U.setTop g) [] mk a).1 (B.U.setTop { g with pc := g.pc + len, stack := v.toList ++ g.stack })) ∨
    (∃ (q : Addr) (B : Pt), Stand p l e R s m sargs below meth c B.U B.locs B.cells B.slots ∧ PostX A a q B ∧
      Steps p.tables e below (doInvoke e (A.U.setTop g) [] mk a).1 ((B.U.setTop g).pushFrame (.throwing q)))
section Payer
variable {l : Launch} {R : Room} {p : Program} {e : Env} {below : List Frame} {s : State} {sargs : Array Value} {y : MethodName} {len W9 : Nat}
theorem vx_back {ws : List Cond} {rm : Room} {Pc : Array Value → State → Prop} {Qc : Array Value → State → Outcome → State → Prop} {XC : String → State → State → Prop} {mc ms : Nat} {free : Addr → Prop} {bytes : ByteArray} {maxL : Nat} {ret : Option FieldType}
    (hM : vx_Met l y ws rm Pc Qc XC mc ms free) (hblind : FrameBlind Pc) (hrc : rm.cells = mc) (hrs : rm.slots = ms)
    (hframes : rm.frames + 1 ≤ R.frames) (hlocals : W9 + (maxL + 11) + rm.locals ≤ R.locals)
    (hws : ∀ w ∈ ws, ∀ a' U, s.WarmedH U.vm → w.before a' U = true) (hcode : Cond.code y bytes maxL ret ∈ ws) (hinit : ∀ a' U, s.WarmedH U.vm → (Cond.initialized y.cls).before a' U = true) :
    vx_Back l R p e below s sargs y len W9 (PreOf R mc ms Pc) (PostOf Qc mc ms free) (vx_Post XC mc ms free) := by
  intro m meth c A g ig mk a X hg hsize hdg hW hn hp
  have h1 : (headSpec ws rm).pre.before a A.U = true := atoms_intro fun w hw => hws w hw _ _ X.warmed
  have h2 : (Cond.code y bytes maxL ret).before a A.U = true := hws _ hcode _ _ X.warmed
  have h3 : (Cond.initialized y.cls).before a A.U = true := hinit _ _ X.warmed
  have h4 : A.cells + (headSpec ws rm).room.cells ≤ R.cells := by rw [show (headSpec ws rm).room.cells = mc from hrc]; exact hp.1
  have h5 : A.slots + (headSpec ws rm).room.slots ≤ R.slots := by rw [show (headSpec ws rm).room.slots = ms from hrs]; exact hp.2.1
  have hPc : Pc a (A.U.calling g mk a) := hblind _ _ _ _ hp.2.2
  obtain ⟨U, Ls, c0, s0⟩ := A
  dsimp only [Pt.U, Pt.locs, Pt.cells, Pt.slots] at h1 h2 h3 h4 h5 X hn hPc ⊢
  obtain ⟨methY, cY, hmY, hcY, -, hlY, -, -, -, -⟩ := Cond.code_spec hn h2
  obtain ⟨kY, hkY, -⟩ := className_of_methodNamed hn
  have hinitY : kY.init = .initialized := Cond.initialized_spec (findClass_of_methodNamed hn) hkY h3
  have h : At U g.method c below := by rw [hg]; exact X.here
  have hlocals9 : W9 + (maxL + 11) + (headSpec ws rm).room.locals ≤ R.locals := hlocals
  have happ : (headSpec ws rm).appliesLoose y e.platform (U.calling g mk a) = true :=
    Spec.appliesLoose_calling (g := g) h hdg hn hkY hinitY
      (X.room_calling (g := g) (R' := (headSpec ws rm).room) hsize hmY hcY hframes (by rw [hlY]; omega) h4 h5) h1
  obtain ⟨mid, hmid⟩ := h.above
  have hfr : (U.setTop g).frames = (.java g :: mid) ++ below := by rw [State.frames_setTop' g h.top, hmid]; rfl
  obtain ⟨o, s₂, hsteps, -, hend, hq⟩ := Steps.callFree hM p X.admits X.cas X.clock (acts := []) hfr happ hPc trivial
  have hq' : vx_Q Qc XC mc ms free a (U.calling g mk a) o s₂ := hq
  rw [State.frames_setTop' g h.top] at hend
  obtain ⟨g₀, hg0⟩ := Option.isSome_iff_exists.mp h.top
  obtain ⟨r, hr⟩ := State.topJava?_eq_some.mp hg0
  have hr' : (({ U with heap := s₂.heap, slotsUsed := s₂.slotsUsed } : State).setVm s₂.vm).frames = .java g₀ :: r := hr
  rcases hq' with ⟨hqc, L, hfe, hL⟩ | ⟨q, rfl, E, ce, L, hx, hce, hcv, hcl, hW₂, hsm, hL⟩
  · obtain ⟨⟨v, rfl⟩, hW₂, e2, q2, q3, q4, q5, q6⟩ := id hfe
    have e3 : s₂ = ({ (U.calling g mk a).setFrames s₂.frames with heap := s₂.heap, slotsUsed := s₂.slotsUsed } : State).setVm s₂.vm := by
      have : s₂ = ({ s₂ with vm := (U.calling g mk a).vm } : State).setVm s₂.vm := rfl
      rw [e2] at this
      exact this
    obtain ⟨c₂, i₂, len₂, hc₂, hd₂, hf₂⟩ := hend
    have hW' : U.WarmedH s₂.vm := hW₂
    have hcc : c₂ = c := by
      have h1 : s₂.code? g.method = U.code? g.method := by
        rw [State.code?_eq, State.code?_eq, hW'.alike.method?]
      exact Option.some.inj (hc₂.symm.trans (h1.trans h.code))
    subst hcc
    have hlen : len₂ = len := by rw [hdg] at hd₂; cases hd₂; rfl
    subst hlen
    have hs₂ : s₂ = (({ U with heap := s₂.heap, slotsUsed := s₂.slotsUsed } : State).setVm s₂.vm).setTop { g with pc := g.pc + len₂, stack := v.toList ++ g.stack } := by
      refine e3.trans ?_
      rw [hf₂, State.calling_eq h.top, State.setFrames_setFrames, State.setTop_of_frames _ hr', hr]
      rfl
    have hsame : U.sameButNew ({ U with heap := s₂.heap, slotsUsed := s₂.slotsUsed } : State) L mc ms := by
      refine ⟨?_, q2, q3, q4, q5, q6⟩
      obtain ⟨t, ht, -⟩ := State.frames_cons hr
      show ({ U with heap := s₂.heap, slotsUsed := s₂.slotsUsed } : State) = { U.setFrames U.frames with heap := s₂.heap, slotsUsed := s₂.slotsUsed }
      rw [State.setFrames_self ht]
    subst hg
    refine Or.inl ⟨v, ⟨(({ U with heap := s₂.heap, slotsUsed := s₂.slotsUsed } : State).setVm s₂.vm), Ls ++ L, c0 + mc, s0 + ms⟩,
      ⟨X.admits, X.cas, X.clock, X.frames, X.room, X.hears, X.method, X.code, (X.here.setHeapUsed s₂.heap s₂.slotsUsed).setVm hW'.alike, X.tail, State.WarmedH.trans X.warmed hW', X.limits, X.bytes, X.same.trans (hsame.setVm s.vm)⟩,
      ⟨g, mk, s₂, L, rfl, rfl, hqc, rfl, hL, rfl, rfl⟩, ?_⟩
    show Steps p.tables e below _ ((({ U with heap := s₂.heap, slotsUsed := s₂.slotsUsed } : State).setVm s₂.vm).setTop { g with pc := g.pc + len₂, stack := v.toList ++ g.stack })
    rw [← hs₂]
    exact hsteps
  · obtain ⟨e2, q2, q3, q4, q5, q6⟩ := id hsm
    have e3 : s₂ = ({ (U.calling g mk a).setFrames s₂.frames with heap := s₂.heap, slotsUsed := s₂.slotsUsed } : State).setVm s₂.vm := by
      have : s₂ = ({ s₂ with vm := (U.calling g mk a).vm } : State).setVm s₂.vm := rfl
      rw [e2] at this
      exact this
    have hf₂ : s₂.frames = .throwing q :: .java g :: U.frames.tail := hend
    have hW' : U.WarmedH s₂.vm := hW₂
    have hs₂ : s₂ = ((({ U with heap := s₂.heap, slotsUsed := s₂.slotsUsed } : State).setVm s₂.vm).setTop g).pushFrame (.throwing q) := by
      refine e3.trans ?_
      rw [hf₂, State.calling_eq h.top, State.setFrames_setFrames, State.pushFrame, State.frames_setTop _ hr', State.setTop_of_frames _ hr', State.setFrames_setFrames, hr]
      rfl
    have hsame : U.sameButNew ({ U with heap := s₂.heap, slotsUsed := s₂.slotsUsed } : State) L mc ms := by
      refine ⟨?_, q2, q3, q4, q5, q6⟩
      obtain ⟨t, ht, -⟩ := State.frames_cons hr
      show ({ U with heap := s₂.heap, slotsUsed := s₂.slotsUsed } : State) = { U.setFrames U.frames with heap := s₂.heap, slotsUsed := s₂.slotsUsed }
      rw [State.setFrames_self ht]
    subst hg
    refine Or.inr ⟨q, ⟨(({ U with heap := s₂.heap, slotsUsed := s₂.slotsUsed } : State).setVm s₂.vm), Ls ++ L, c0 + mc, s0 + ms⟩,
      ⟨X.admits, X.cas, X.clock, X.frames, X.room, X.hears, X.method, X.code, (X.here.setHeapUsed s₂.heap s₂.slotsUsed).setVm hW'.alike, X.tail, State.WarmedH.trans X.warmed hW', X.limits, X.bytes, X.same.trans (hsame.setVm s.vm)⟩,
      ⟨g, mk, s₂, L, E, ce, rfl, rfl, hx, hce, hcv, hcl, rfl, hL, rfl, rfl⟩, ?_⟩
    show Steps p.tables e below _ (((({ U with heap := s₂.heap, slotsUsed := s₂.slotsUsed } : State).setVm s₂.vm).setTop g).pushFrame (.throwing q))
    rw [← hs₂]
    exact hsteps
end Payer
section Calls
variable {p : Program} {l : Launch} {e : Env} {R : Room} {s : State} {m : MethodId} {args : Array Value} {below : List Frame} {meth : Method} {c : Code} {T : State} {locs : List Loc} {cells slots : Nat}
theorem vx_callV (X : Stand p l e R s m args below meth c T locs cells slots) (hexec : p.tables.exec = Jvm.exec) {own C : String} {index : Nat} {y : MethodName} {bytes : ByteArray} {maxL : Nat} {ret : Option FieldType}
    (hown : s.vm.findClass own = some m.cls) (hlink : (Cond.methodLink own index y).before args s = true) (hinst : (Cond.instanceMethod y).before args s = true) (hsel : (Cond.selects C y y).before args s = true)
    (hcode : (Cond.code y bytes maxL ret).before args s = true) (hy : y.cls ≠ "java/lang/invoke/MethodHandle" ∧ y.cls ≠ "java/lang/invoke/VarHandle")
    {W9 : Nat} {Pre : Pt → Array Value → Prop} {Post : Pt → Array Value → Option Value → Pt → Prop} {PostX : Pt → Array Value → Addr → Pt → Prop} (hK : vx_Back l R p e below s args y 3 W9 Pre Post PostX)
    {b : Addr} {cellB : Cell} (hcell : T.heap[b]? = some cellB) (hobj : cellB.vm.isStatics = false) (hcls : s.vm.findClass C = some cellB.cls)
    {g : JFrame} (hg : g.method = m) (hsize : g.locals.size = c.maxLocals) {argsL rest : List Value} (hlen : ∀ sig, parseMethodDescriptor y.desc = some sig → argsL.length = sig.parameters.length)
    (hstack : g.stack = argsL.reverse ++ .ref b :: rest) (hW : 2 * g.monitorRoom + (rest.map fun v => v.category).sum ≤ W9) (hdg : decode c.code g.pc = .ok (.invokevirtual index, 3))
    (hpre : ∀ vm₁, s.WarmedH vm₁ → Pre ⟨T.setVm vm₁, locs, cells, slots⟩ (Value.ref b :: argsL).toArray) :
    (∃ (v : Option Value) (vm₁ : Vm) (B : Pt), s.WarmedH vm₁ ∧ Stand p l e R s m args below meth c B.U B.locs B.cells B.slots ∧ Post ⟨T.setVm vm₁, locs, cells, slots⟩ (Value.ref b :: argsL).toArray v B ∧
      ∀ target, Steps p.tables e below (B.U.setTop { g with pc := g.pc + 3, stack := v.toList ++ rest }) target → Steps p.tables e below (T.setTop g) target) ∨
    (∃ (q : Addr) (vm₁ : Vm) (B : Pt), s.WarmedH vm₁ ∧ Stand p l e R s m args below meth c B.U B.locs B.cells B.slots ∧ PostX ⟨T.setVm vm₁, locs, cells, slots⟩ (Value.ref b :: argsL).toArray q B ∧
      Steps p.tables e below (T.setTop g) ((B.U.setTop { g with stack := rest }).pushFrame (.throwing q))) := by
  obtain ⟨mk, methM, hnamed, hmethM, hstM, habM⟩ := Cond.instanceMethod_spec hinst
  obtain ⟨methM', cM, hmethM', -, -, -, -, -, -, hsigM⟩ := Cond.code_spec hnamed hcode
  cases hmethM.symm.trans hmethM'
  obtain ⟨c2, r2, m2, q1, q2, q3, q4, kP, hkP, hkPi⟩ := Cond.selects_spec hsel
  cases hcls.symm.trans q1
  cases (State.methodFound?_of_named hnamed hy).symm.trans q2
  cases hnamed.symm.trans q3
  have hselP : selectMethod e.platform s.vm cellB.cls mk = .method mk := by rw [Launch.admits_selectMethod X.admits]; exact q4
  obtain ⟨vm₁, X₁, hstep₁⟩ := X.invokevirtual hexec hown hlink hnamed hmethM hstM hkP hkPi hy (a := b) (cell := cellB) hcell
    (fun z h => by rw [h] at hobj; cases hobj) hselP hmethM habM hkP hkPi (g := g) hg (argsL := argsL) (rest := rest) (hlen _ hsigM) hstack hdg
  rcases hK m meth c ⟨T.setVm vm₁, locs, cells, slots⟩ { g with stack := rest } (.invokevirtual index) mk (Value.ref b :: argsL).toArray X₁ hg hsize hdg hW (X₁.named hnamed) (hpre vm₁ X₁.warmed) with ⟨v, B, X', hpost, hsteps⟩ | ⟨q, B, X', hpost, hsteps⟩
  · exact Or.inl ⟨v, vm₁, B, X₁.warmed, X', hpost, fun target h => hstep₁ _ fun acts => by rw [doInvoke_state]; exact hsteps.trans h⟩
  · exact Or.inr ⟨q, vm₁, B, X₁.warmed, X', hpost, hstep₁ _ fun acts => by rw [doInvoke_state]; exact hsteps⟩
theorem vx_callS (X : Stand p l e R s m args below meth c T locs cells slots) (hexec : p.tables.exec = Jvm.exec) {own : String} {index : Nat} {y : MethodName} {bytes : ByteArray} {maxL : Nat} {ret : Option FieldType}
    (hown : s.vm.findClass own = some m.cls) (hlink : (Cond.methodLink own index y).before args s = true) (hstat : (Cond.static y).before args s = true) (hinit : (Cond.initialized y.cls).before args s = true)
    (hcode : (Cond.code y bytes maxL ret).before args s = true) (hy : y.cls ≠ "java/lang/invoke/MethodHandle" ∧ y.cls ≠ "java/lang/invoke/VarHandle")
    {W9 : Nat} {Pre : Pt → Array Value → Prop} {Post : Pt → Array Value → Option Value → Pt → Prop} {PostX : Pt → Array Value → Addr → Pt → Prop} (hK : vx_Back l R p e below s args y 3 W9 Pre Post PostX)
    {g : JFrame} (hg : g.method = m) (hsize : g.locals.size = c.maxLocals) {argsL rest : List Value} (hlen : ∀ sig, parseMethodDescriptor y.desc = some sig → argsL.length = sig.parameters.length)
    (hstack : g.stack = argsL.reverse ++ rest) (hW : 2 * g.monitorRoom + (rest.map fun v => v.category).sum ≤ W9) (hdg : decode c.code g.pc = .ok (.invokestatic index, 3))
    (hpre : ∀ vm₁, s.WarmedH vm₁ → Pre ⟨T.setVm vm₁, locs, cells, slots⟩ argsL.toArray) :
    (∃ (v : Option Value) (vm₁ : Vm) (B : Pt), s.WarmedH vm₁ ∧ Stand p l e R s m args below meth c B.U B.locs B.cells B.slots ∧ Post ⟨T.setVm vm₁, locs, cells, slots⟩ argsL.toArray v B ∧
      ∀ target, Steps p.tables e below (B.U.setTop { g with pc := g.pc + 3, stack := v.toList ++ rest }) target → Steps p.tables e below (T.setTop g) target) ∨
    (∃ (q : Addr) (vm₁ : Vm) (B : Pt), s.WarmedH vm₁ ∧ Stand p l e R s m args below meth c B.U B.locs B.cells B.slots ∧ PostX ⟨T.setVm vm₁, locs, cells, slots⟩ argsL.toArray q B ∧
      Steps p.tables e below (T.setTop g) ((B.U.setTop { g with stack := rest }).pushFrame (.throwing q))) := by
  obtain ⟨mk, hnamed⟩ := Cond.code_named hcode
  obtain ⟨methM, cM, hmethM, -, -, -, -, -, -, hsigM⟩ := Cond.code_spec hnamed hcode
  have hstatic : methM.isStatic = true := Cond.static_spec hnamed hmethM hstat
  obtain ⟨kP, hkP, -⟩ := className_of_methodNamed hnamed
  have hinitP : kP.init = .initialized := Cond.initialized_spec (findClass_of_methodNamed hnamed) hkP hinit
  obtain ⟨vm₁, X₁, hstep₁⟩ := X.invokestatic hexec hown hlink hnamed hmethM hstatic hkP hinitP hy (g := g) hg (argsL := argsL) (rest := rest) (hlen _ hsigM) hstack hdg
  rcases hK m meth c ⟨T.setVm vm₁, locs, cells, slots⟩ { g with stack := rest } (.invokestatic index) mk argsL.toArray X₁ hg hsize hdg hW (X₁.named hnamed) (hpre vm₁ X₁.warmed) with ⟨v, B, X', hpost, hsteps⟩ | ⟨q, B, X', hpost, hsteps⟩
  · exact Or.inl ⟨v, vm₁, B, X₁.warmed, X', hpost, fun target h => hstep₁ _ fun acts => by rw [doInvoke_state]; exact hsteps.trans h⟩
  · exact Or.inr ⟨q, vm₁, B, X₁.warmed, X', hpost, hstep₁ _ fun acts => by rw [doInvoke_state]; exact hsteps⟩
end Calls
theorem vx_cls {s : State} {T : State} {vm₁ : Vm} {E : String} {k : ClassId} (hW : s.WarmedH vm₁) (h : (T.setVm vm₁).vm.findClass E = some k) : s.vm.findClass E = some k := by
  have h1 : vm₁.findClass E = some k := h
  rw [hW.alike.findClass] at h1
  exact h1
/-- the method's frame g, with q thrown over it -/
def vx_W (p : Program) (l : Launch) (e : Env) (R : Room) (s : State) (m : MethodId) (args : Array Value) (below : List Frame) (meth : Method) (c : Code) (H : Heap) (locs : List Loc) (cells slots : Nat) (Q : State → Prop) (g : JFrame) (q : Addr) : Prop :=
  ∀ T : State, T.heap = H → Stand p l e R s m args below meth c T locs cells slots → ∃ t, Steps p.tables e below ((T.setTop g).pushFrame (.throwing q)) t ∧ Q t
def vx_Run (p : Program) (l : Launch) (e : Env) (R : Room) (s : State) (m : MethodId) (args : Array Value) (below : List Frame) (meth : Method) (c : Code) (H : Heap) (locs : List Loc) (cells slots mc ms : Nat) (g : JFrame) (rest : List Value) (Qa : State → Outcome → State → Prop) (XC : String → State → State → Prop) (free : Addr → Prop) : Prop :=
  ∀ T : State, T.heap = H → Stand p l e R s m args below meth c T locs cells slots →
    (∃ (v : Option Value) (st₀ t T' : State) (L : List Loc), st₀.heap = H ∧ Stand p l e R s m args below meth c T' (locs ++ L) (cells + mc) (slots + ms) ∧ (∀ q ∈ L, free q.base) ∧ T'.heap = t.heap ∧ T'.vm = t.vm ∧ Qa st₀ (.returned v) t ∧
      Goes p e below T g T' { g with pc := g.pc + 3, stack := v.toList ++ rest }) ∨
    (∃ (q : Addr) (st₀ t T' : State) (L : List Loc) (E : String) (ce : Cell), st₀.heap = H ∧ Stand p l e R s m args below meth c T' (locs ++ L) (cells + mc) (slots + ms) ∧ (∀ z ∈ L, free z.base) ∧ T'.heap = t.heap ∧ T'.vm = t.vm ∧ XC E st₀ t ∧ t.heap[q]? = some ce ∧ ce.vm = .none ∧ s.vm.findClass E = some ce.cls ∧
      Steps p.tables e below (T.setTop g) ((T'.setTop { g with stack := rest }).pushFrame (.throwing q)))
def vx_X {S : Type} (px : S → Prop) (B : String → S → State → Prop) (A : Nat → Prop) : String → State → State → Prop := fun E st t => ∃ u : S, px u ∧ B E u t ∧ va_F A st t
section Runs
variable {p : Program} {l : Launch} {e : Env} {R : Room} {s : State} {m : MethodId} {args : Array Value} {below : List Frame} {meth : Method} {c : Code} {H : Heap} {locs : List Loc} {cells slots : Nat}
variable {y : MethodName} {bytes cc : ByteArray} {maxL nL mc ms n index : Nat} {ret : Option FieldType} {ws : List Cond} {rm : Room} {Pc : Array Value → State → Prop} {Qc : Array Value → State → Outcome → State → Prop} {XC : String → State → State → Prop} {free : Addr → Prop} {Ts : List Cond} {own C : String} {b : Addr} {As rest : List Value} {g : JFrame}
theorem vx_callBack (cb : CallB R s args own index y bytes maxL ret ws rm mc ms n) (hM : vx_Met l y ws rm Pc Qc XC mc ms free) (hbl : FrameBlind Pc) : vx_Back l R p e below s args y 3 8 (PreOf R mc ms Pc) (PostOf Qc mc ms free) (vx_Post XC mc ms free) := by
  obtain ⟨hrc, hrs, hfr, hlo, hws, hcw, -, hini, -⟩ := cb
  exact vx_back (bytes := bytes) (maxL := maxL) (ret := ret) hM hbl hrc hrs hfr hlo hws hcw (fun a' U hW => word_at hW (Or.inl (by first | rfl | simp [Cond.onTables, Cond.keeps, Cond.steady])) hini)
theorem vx_runV (S : CallFix p m c cc nL s args Ts own) (hM : vx_Met l y ws rm Pc Qc XC mc ms free) (cw : CallW R s args own C index y bytes maxL ret ws rm mc ms n) (hp : PreV s H C b Pc As)
    (hg : g.method = m) (hn : As.length = n) (hsize : g.locals.size = nL) (hstack : g.stack = As.reverse ++ .ref b :: rest) (hW : 2 * g.monitorRoom + (rest.map fun v => v.category).sum ≤ 8) (hdg : decode cc g.pc = .ok (.invokevirtual index, 3)) (hf : cells + mc ≤ R.cells ∧ slots + ms ≤ R.slots) :
    vx_Run p l e R s m args below meth c H locs cells slots mc ms g rest (Qc (Value.ref b :: As).toArray) XC free := by
  have hK : vx_Back l R p e below s args y 3 8 (PreOf R mc ms Pc) (PostOf Qc mc ms free) (vx_Post XC mc ms free) := vx_callBack cw.1 hM hp.1
  obtain ⟨⟨-, -, -, -, -, -, hcode, -, hy, hlen, hl⟩, hin, hse⟩ := cw
  obtain ⟨hx, hb, hml, ho, -⟩ := S
  obtain ⟨-, ⟨cellB, hcB, hoB, hclB⟩, hPc⟩ := hp
  intro T hT X
  rcases vx_callV X hx (C := C) (bytes := bytes) (maxL := maxL) (ret := ret) ho hl hin hse hcode hy hK (by rw [hT]; exact hcB) hoB hclB hg (hsize.trans hml.symm) (argsL := As) (rest := rest) (fun sig h => hn.trans (hlen sig h)) hstack hW (by rw [hb]; exact hdg)
    (fun vm₁ hW₁ => ⟨hf.1, hf.2, hPc (T.setVm vm₁) hT hW₁⟩) with ⟨v, vm₁, ⟨U', l2, c2, s2⟩, hW₁, X', ⟨g', mk, t, L, e1, e2, hq, h1, hL, h2, h3⟩, st⟩ | ⟨q, vm₁, ⟨U', l2, c2, s2⟩, hW₁, X', ⟨g', mk, t, L, E, ce, e1, e2, hq, hce, hcv, hcl, h1, hL, h2, h3⟩, st⟩
  · dsimp only [Pt.U, Pt.locs, Pt.cells, Pt.slots] at X' e1 e2 h1 h2 h3 st
    subst h1; subst h2; subst h3
    exact Or.inl ⟨v, (T.setVm vm₁).calling g' mk (Value.ref b :: As).toArray, t, U', L, hT, X', hL, e1, e2, hq, st⟩
  · dsimp only [Pt.U, Pt.locs, Pt.cells, Pt.slots] at X' e1 e2 h1 h2 h3 st hcl
    subst h1; subst h2; subst h3
    exact Or.inr ⟨q, (T.setVm vm₁).calling g' mk (Value.ref b :: As).toArray, t, U', L, E, ce, hT, X', hL, e1, e2, hq, hce, hcv, vx_cls hW₁ hcl, st⟩
theorem vx_runS (S : CallFix p m c cc nL s args Ts own) (hM : vx_Met l y ws rm Pc Qc XC mc ms free) (cw : CallB R s args own index y bytes maxL ret ws rm mc ms n ∧ (Cond.static y).before args s = true) (hp : PreS s H Pc As)
    (hg : g.method = m) (hn : As.length = n) (hsize : g.locals.size = nL) (hstack : g.stack = As.reverse ++ rest) (hW : 2 * g.monitorRoom + (rest.map fun v => v.category).sum ≤ 8) (hdg : decode cc g.pc = .ok (.invokestatic index, 3)) (hf : cells + mc ≤ R.cells ∧ slots + ms ≤ R.slots) :
    vx_Run p l e R s m args below meth c H locs cells slots mc ms g rest (Qc As.toArray) XC free := by
  have hK : vx_Back l R p e below s args y 3 8 (PreOf R mc ms Pc) (PostOf Qc mc ms free) (vx_Post XC mc ms free) := vx_callBack cw.1 hM hp.1
  obtain ⟨⟨-, -, -, -, -, -, hcode, hini, hy, hlen, hl⟩, hstt⟩ := cw
  obtain ⟨hx, hb, hml, ho, -⟩ := S
  intro T hT X
  rcases vx_callS X hx (bytes := bytes) (maxL := maxL) (ret := ret) ho hl hstt hini hcode hy hK hg (hsize.trans hml.symm) (argsL := As) (rest := rest) (fun sig h => hn.trans (hlen sig h)) hstack hW (by rw [hb]; exact hdg)
    (fun vm₁ hW₁ => ⟨hf.1, hf.2, hp.2 (T.setVm vm₁) hT hW₁⟩) with ⟨v, vm₁, ⟨U', l2, c2, s2⟩, hW₁, X', ⟨g', mk, t, L, e1, e2, hq, h1, hL, h2, h3⟩, st⟩ | ⟨q, vm₁, ⟨U', l2, c2, s2⟩, hW₁, X', ⟨g', mk, t, L, E, ce, e1, e2, hq, hce, hcv, hcl, h1, hL, h2, h3⟩, st⟩
  · dsimp only [Pt.U, Pt.locs, Pt.cells, Pt.slots] at X' e1 e2 h1 h2 h3 st
    subst h1; subst h2; subst h3
    exact Or.inl ⟨v, (T.setVm vm₁).calling g' mk As.toArray, t, U', L, hT, X', hL, e1, e2, hq, st⟩
  · dsimp only [Pt.U, Pt.locs, Pt.cells, Pt.slots] at X' e1 e2 h1 h2 h3 st hcl
    subst h1; subst h2; subst h3
    exact Or.inr ⟨q, (T.setVm vm₁).calling g' mk As.toArray, t, U', L, E, ce, hT, X', hL, e1, e2, hq, hce, hcv, vx_cls hW₁ hcl, st⟩
end Runs
section Rows
variable {p : Program} {l : Launch} {e : Env} {R : Room} {s : State} {m : MethodId} {args : Array Value} {below : List Frame} {meth : Method} {c : Code} {H : Heap} {locs : List Loc} {cells slots : Nat} {Q : State → Prop}
variable {mc ms : Nat} {free : Addr → Prop} {A0 A1 : Nat → Prop} {H0 : Heap} {a : Array Value} {pc : Nat} {ls : Array Slot} {st0 rest : List Value}
theorem vx_keep {st₀ t T' : State} {L : List Loc} (h0 : st₀.heap = H) (e1 : T'.heap = t.heap) (hS : va_S A0 H0 H locs) (hA : ∀ q, q < H.size → A1 q → A0 q) (hf : ∀ q, free q → A0 q) (hL : ∀ q ∈ L, free q.base) (hF : va_F A1 st₀ t) :
    H.size ≤ T'.heap.size ∧ (∀ q : Nat, q < H.size → ¬ A1 q → T'.heap[q]? = H[q]?) ∧ va_S A0 H0 T'.heap (locs ++ L) := by
  obtain ⟨hz, hk⟩ := hF
  rw [h0] at hz hk
  exact ⟨by rw [e1]; exact hz, fun q h1 h2 => by rw [e1]; exact hk q h1 h2,
    ⟨Nat.le_trans hS.1 (by rw [e1]; exact hz), fun q h1 h2 => by rw [e1, hk q (Nat.lt_of_lt_of_le h1 hS.1) (fun z => h2 (hA q (Nat.lt_of_lt_of_le h1 hS.1) z))]; exact hS.2.1 q h1 h2, fun q hq => by
      rcases List.mem_append.mp hq with h | h
      · exact hS.2.2 q h
      · exact hf _ (hL q h)⟩⟩
theorem vx_calli {S SX : Type} {post : Int32 → S → Prop} {px : SX → Prop} {B : S → State → Prop} {BX : String → SX → State → Prop} {AX : Nat → Prop} (hr : vx_Run p l e R s m args below meth c H locs cells slots mc ms (F0 m pc ls st0) rest (va_Qi post B A1 a) (vx_X px BX AX) free) (hS : va_S A0 H0 H locs) (hA : ∀ q, q < H.size → A1 q → A0 q) (hf : ∀ q, free q → A0 q) (hAX : ∀ q, q < H.size → AX q → A0 q)
    (kx : ∀ (E : String) (ce : Cell) (q9 : Addr) (u : SX) (t : State) (H1 : Heap) (locs1 : List Loc), t.heap = H1 → s.vm.Alike t.vm → px u → BX E u t → H.size ≤ H1.size → (∀ q : Nat, q < H.size → ¬ AX q → H1[q]? = H[q]?) → va_S A0 H0 H1 locs1 → H1[q9]? = some ce → ce.vm = .none → s.vm.findClass E = some ce.cls → vx_W p l e R s m args below meth c H1 locs1 (cells + mc) (slots + ms) Q (F0 m pc ls rest) q9)
    (kk : ∀ (r : Int32) (u : S) (t : State) (H1 : Heap) (locs1 : List Loc), t.heap = H1 → s.vm.Alike t.vm → post r u → B u t → H.size ≤ H1.size → (∀ q : Nat, q < H.size → ¬ A1 q → H1[q]? = H[q]?) → va_S A0 H0 H1 locs1 → W p l e R s m args below meth c H1 locs1 (cells + mc) (slots + ms) Q (F0 m (pc + 3) ls (.int r :: rest))) : W p l e R s m args below meth c H locs cells slots Q (F0 m pc ls st0) := by
  intro T hT X
  rcases hr T hT X with ⟨v, st₀, t, T', L, h0, X', hL, e1, e2, ⟨⟨r, u, hv, hp, hb⟩, hF⟩, st⟩ | ⟨q, st₀, t, T', L, E, ce, h0, X', hL, e1, e2, ⟨u, hp, hb, hF⟩, hce, hcv, hcl, st⟩
  · cases hv
    obtain ⟨k1, k2, k3⟩ := vx_keep h0 e1 hS hA hf hL hF
    obtain ⟨t2, a1, b1⟩ := kk r u t T'.heap (locs ++ L) e1.symm (by rw [← e2]; exact X'.warmed.alike) hp hb k1 k2 k3 T' rfl X'
    exact ⟨t2, st t2 a1, b1⟩
  · obtain ⟨k1, k2, k3⟩ := vx_keep h0 e1 hS hAX hf hL hF
    obtain ⟨t2, a1, b1⟩ := kx E ce q u t T'.heap (locs ++ L) e1.symm (by rw [← e2]; exact X'.warmed.alike) hp hb k1 k2 k3 (by rw [e1]; exact hce) hcv hcl T' rfl X'
    exact ⟨t2, st.trans a1, b1⟩
theorem vx_calll {S SX : Type} {post : Int64 → S → Prop} {px : SX → Prop} {B : S → State → Prop} {BX : String → SX → State → Prop} {AX : Nat → Prop} (hr : vx_Run p l e R s m args below meth c H locs cells slots mc ms (F0 m pc ls st0) rest (va_Ql post B A1 a) (vx_X px BX AX) free) (hS : va_S A0 H0 H locs) (hA : ∀ q, q < H.size → A1 q → A0 q) (hf : ∀ q, free q → A0 q) (hAX : ∀ q, q < H.size → AX q → A0 q)
    (kx : ∀ (E : String) (ce : Cell) (q9 : Addr) (u : SX) (t : State) (H1 : Heap) (locs1 : List Loc), t.heap = H1 → s.vm.Alike t.vm → px u → BX E u t → H.size ≤ H1.size → (∀ q : Nat, q < H.size → ¬ AX q → H1[q]? = H[q]?) → va_S A0 H0 H1 locs1 → H1[q9]? = some ce → ce.vm = .none → s.vm.findClass E = some ce.cls → vx_W p l e R s m args below meth c H1 locs1 (cells + mc) (slots + ms) Q (F0 m pc ls rest) q9)
    (kk : ∀ (r : Int64) (u : S) (t : State) (H1 : Heap) (locs1 : List Loc), t.heap = H1 → s.vm.Alike t.vm → post r u → B u t → H.size ≤ H1.size → (∀ q : Nat, q < H.size → ¬ A1 q → H1[q]? = H[q]?) → va_S A0 H0 H1 locs1 → W p l e R s m args below meth c H1 locs1 (cells + mc) (slots + ms) Q (F0 m (pc + 3) ls (.long r :: rest))) : W p l e R s m args below meth c H locs cells slots Q (F0 m pc ls st0) := by
  intro T hT X
  rcases hr T hT X with ⟨v, st₀, t, T', L, h0, X', hL, e1, e2, ⟨⟨r, u, hv, hp, hb⟩, hF⟩, st⟩ | ⟨q, st₀, t, T', L, E, ce, h0, X', hL, e1, e2, ⟨u, hp, hb, hF⟩, hce, hcv, hcl, st⟩
  · cases hv
    obtain ⟨k1, k2, k3⟩ := vx_keep h0 e1 hS hA hf hL hF
    obtain ⟨t2, a1, b1⟩ := kk r u t T'.heap (locs ++ L) e1.symm (by rw [← e2]; exact X'.warmed.alike) hp hb k1 k2 k3 T' rfl X'
    exact ⟨t2, st t2 a1, b1⟩
  · obtain ⟨k1, k2, k3⟩ := vx_keep h0 e1 hS hAX hf hL hF
    obtain ⟨t2, a1, b1⟩ := kx E ce q u t T'.heap (locs ++ L) e1.symm (by rw [← e2]; exact X'.warmed.alike) hp hb k1 k2 k3 (by rw [e1]; exact hce) hcv hcl T' rfl X'
    exact ⟨t2, st.trans a1, b1⟩
theorem vx_callf {S SX : Type} {post : UInt32 → S → Prop} {px : SX → Prop} {B : S → State → Prop} {BX : String → SX → State → Prop} {AX : Nat → Prop} (hr : vx_Run p l e R s m args below meth c H locs cells slots mc ms (F0 m pc ls st0) rest (va_Qf post B A1 a) (vx_X px BX AX) free) (hS : va_S A0 H0 H locs) (hA : ∀ q, q < H.size → A1 q → A0 q) (hf : ∀ q, free q → A0 q) (hAX : ∀ q, q < H.size → AX q → A0 q)
    (kx : ∀ (E : String) (ce : Cell) (q9 : Addr) (u : SX) (t : State) (H1 : Heap) (locs1 : List Loc), t.heap = H1 → s.vm.Alike t.vm → px u → BX E u t → H.size ≤ H1.size → (∀ q : Nat, q < H.size → ¬ AX q → H1[q]? = H[q]?) → va_S A0 H0 H1 locs1 → H1[q9]? = some ce → ce.vm = .none → s.vm.findClass E = some ce.cls → vx_W p l e R s m args below meth c H1 locs1 (cells + mc) (slots + ms) Q (F0 m pc ls rest) q9)
    (kk : ∀ (r : UInt32) (u : S) (t : State) (H1 : Heap) (locs1 : List Loc), t.heap = H1 → s.vm.Alike t.vm → post r u → B u t → H.size ≤ H1.size → (∀ q : Nat, q < H.size → ¬ A1 q → H1[q]? = H[q]?) → va_S A0 H0 H1 locs1 → W p l e R s m args below meth c H1 locs1 (cells + mc) (slots + ms) Q (F0 m (pc + 3) ls (.float r :: rest))) : W p l e R s m args below meth c H locs cells slots Q (F0 m pc ls st0) := by
  intro T hT X
  rcases hr T hT X with ⟨v, st₀, t, T', L, h0, X', hL, e1, e2, ⟨⟨r, u, hv, hp, hb⟩, hF⟩, st⟩ | ⟨q, st₀, t, T', L, E, ce, h0, X', hL, e1, e2, ⟨u, hp, hb, hF⟩, hce, hcv, hcl, st⟩
  · cases hv
    obtain ⟨k1, k2, k3⟩ := vx_keep h0 e1 hS hA hf hL hF
    obtain ⟨t2, a1, b1⟩ := kk r u t T'.heap (locs ++ L) e1.symm (by rw [← e2]; exact X'.warmed.alike) hp hb k1 k2 k3 T' rfl X'
    exact ⟨t2, st t2 a1, b1⟩
  · obtain ⟨k1, k2, k3⟩ := vx_keep h0 e1 hS hAX hf hL hF
    obtain ⟨t2, a1, b1⟩ := kx E ce q u t T'.heap (locs ++ L) e1.symm (by rw [← e2]; exact X'.warmed.alike) hp hb k1 k2 k3 (by rw [e1]; exact hce) hcv hcl T' rfl X'
    exact ⟨t2, st.trans a1, b1⟩
theorem vx_calld {S SX : Type} {post : UInt64 → S → Prop} {px : SX → Prop} {B : S → State → Prop} {BX : String → SX → State → Prop} {AX : Nat → Prop} (hr : vx_Run p l e R s m args below meth c H locs cells slots mc ms (F0 m pc ls st0) rest (va_Qd post B A1 a) (vx_X px BX AX) free) (hS : va_S A0 H0 H locs) (hA : ∀ q, q < H.size → A1 q → A0 q) (hf : ∀ q, free q → A0 q) (hAX : ∀ q, q < H.size → AX q → A0 q)
    (kx : ∀ (E : String) (ce : Cell) (q9 : Addr) (u : SX) (t : State) (H1 : Heap) (locs1 : List Loc), t.heap = H1 → s.vm.Alike t.vm → px u → BX E u t → H.size ≤ H1.size → (∀ q : Nat, q < H.size → ¬ AX q → H1[q]? = H[q]?) → va_S A0 H0 H1 locs1 → H1[q9]? = some ce → ce.vm = .none → s.vm.findClass E = some ce.cls → vx_W p l e R s m args below meth c H1 locs1 (cells + mc) (slots + ms) Q (F0 m pc ls rest) q9)
    (kk : ∀ (r : UInt64) (u : S) (t : State) (H1 : Heap) (locs1 : List Loc), t.heap = H1 → s.vm.Alike t.vm → post r u → B u t → H.size ≤ H1.size → (∀ q : Nat, q < H.size → ¬ A1 q → H1[q]? = H[q]?) → va_S A0 H0 H1 locs1 → W p l e R s m args below meth c H1 locs1 (cells + mc) (slots + ms) Q (F0 m (pc + 3) ls (.double r :: rest))) : W p l e R s m args below meth c H locs cells slots Q (F0 m pc ls st0) := by
  intro T hT X
  rcases hr T hT X with ⟨v, st₀, t, T', L, h0, X', hL, e1, e2, ⟨⟨r, u, hv, hp, hb⟩, hF⟩, st⟩ | ⟨q, st₀, t, T', L, E, ce, h0, X', hL, e1, e2, ⟨u, hp, hb, hF⟩, hce, hcv, hcl, st⟩
  · cases hv
    obtain ⟨k1, k2, k3⟩ := vx_keep h0 e1 hS hA hf hL hF
    obtain ⟨t2, a1, b1⟩ := kk r u t T'.heap (locs ++ L) e1.symm (by rw [← e2]; exact X'.warmed.alike) hp hb k1 k2 k3 T' rfl X'
    exact ⟨t2, st t2 a1, b1⟩
  · obtain ⟨k1, k2, k3⟩ := vx_keep h0 e1 hS hAX hf hL hF
    obtain ⟨t2, a1, b1⟩ := kx E ce q u t T'.heap (locs ++ L) e1.symm (by rw [← e2]; exact X'.warmed.alike) hp hb k1 k2 k3 (by rw [e1]; exact hce) hcv hcl T' rfl X'
    exact ⟨t2, st.trans a1, b1⟩
theorem vx_callv {S SX : Type} {post : S → Prop} {px : SX → Prop} {B : S → State → Prop} {BX : String → SX → State → Prop} {AX : Nat → Prop} (hr : vx_Run p l e R s m args below meth c H locs cells slots mc ms (F0 m pc ls st0) rest (va_Qv post B A1 a) (vx_X px BX AX) free) (hS : va_S A0 H0 H locs) (hA : ∀ q, q < H.size → A1 q → A0 q) (hf : ∀ q, free q → A0 q) (hAX : ∀ q, q < H.size → AX q → A0 q)
    (kx : ∀ (E : String) (ce : Cell) (q9 : Addr) (u : SX) (t : State) (H1 : Heap) (locs1 : List Loc), t.heap = H1 → s.vm.Alike t.vm → px u → BX E u t → H.size ≤ H1.size → (∀ q : Nat, q < H.size → ¬ AX q → H1[q]? = H[q]?) → va_S A0 H0 H1 locs1 → H1[q9]? = some ce → ce.vm = .none → s.vm.findClass E = some ce.cls → vx_W p l e R s m args below meth c H1 locs1 (cells + mc) (slots + ms) Q (F0 m pc ls rest) q9)
    (kk : ∀ (u : S) (t : State) (H1 : Heap) (locs1 : List Loc), t.heap = H1 → s.vm.Alike t.vm → post u → B u t → H.size ≤ H1.size → (∀ q : Nat, q < H.size → ¬ A1 q → H1[q]? = H[q]?) → va_S A0 H0 H1 locs1 → W p l e R s m args below meth c H1 locs1 (cells + mc) (slots + ms) Q (F0 m (pc + 3) ls (rest))) : W p l e R s m args below meth c H locs cells slots Q (F0 m pc ls st0) := by
  intro T hT X
  rcases hr T hT X with ⟨v, st₀, t, T', L, h0, X', hL, e1, e2, ⟨⟨u, hv, hp, hb⟩, hF⟩, st⟩ | ⟨q, st₀, t, T', L, E, ce, h0, X', hL, e1, e2, ⟨u, hp, hb, hF⟩, hce, hcv, hcl, st⟩
  · cases hv
    obtain ⟨k1, k2, k3⟩ := vx_keep h0 e1 hS hA hf hL hF
    obtain ⟨t2, a1, b1⟩ := kk u t T'.heap (locs ++ L) e1.symm (by rw [← e2]; exact X'.warmed.alike) hp hb k1 k2 k3 T' rfl X'
    exact ⟨t2, st t2 a1, b1⟩
  · obtain ⟨k1, k2, k3⟩ := vx_keep h0 e1 hS hAX hf hL hF
    obtain ⟨t2, a1, b1⟩ := kx E ce q u t T'.heap (locs ++ L) e1.symm (by rw [← e2]; exact X'.warmed.alike) hp hb k1 k2 k3 (by rw [e1]; exact hce) hcv hcl T' rfl X'
    exact ⟨t2, st.trans a1, b1⟩
/-- caught by the row x of this method's table; the rows ahead don't take it -/
theorem vx_catch {own name : String} {E : String} {ce : Cell} {q : Addr} (hown : s.vm.findClass own = some m.cls) (pre : List ExceptionTableEntry) (x : ExceptionTableEntry) (suf : List ExceptionTableEntry) (hsplit : c.exceptionTable.toList = pre ++ x :: suf)
    (hpass : ∀ z ∈ pre, covers z pc = false ∨ (z.catchType ≠ 0 ∧ ∃ nm : String, (Cond.classLink own z.catchType nm).before args s = true ∧ va_Nc E nm s)) (hx : covers x pc = true) (h0 : x.catchType ≠ 0)
    (hlink : (Cond.classLink own x.catchType name).before args s = true) (hcast : (Cond.castable E name).before args s = true) (hcell : H[q]? = some ce) (hv : ce.vm = .none) (hcl : s.vm.findClass E = some ce.cls)
    (kk : W p l e R s m args below meth c H locs cells slots Q (F0 m x.handlerPc ls [.ref q])) : vx_W p l e R s m args below meth c H locs cells slots Q (F0 m pc ls rest) q := by
  intro T hT X
  have hpl : e.platform.magicAccessors = ({} : Platform).magicAccessors := by rw [X.admits.platform]
  obtain ⟨c3, c4, hc3, hc4, hasg⟩ := Cond.castable_spec hcast
  cases Option.some.inj (hc3.symm.trans hcl)
  obtain ⟨c5, hc5, hcl5⟩ := Cond.classLink_spec hown hlink e.platform hpl
  cases Option.some.inj (hc4.symm.trans hc5)
  obtain ⟨vm', X', st⟩ := ac_caught X q (g := F0 m pc ls rest) rfl (by rw [hT]; exact hcell) (by rw [hv]; rfl) (by obtain ⟨k9, h9, -⟩ := Vm.findClass_spec hcl; exact ⟨k9, h9⟩) pre x suf hsplit
    (fun z hz => by
      rcases hpass z hz with h | ⟨hz0, nm, hl1, hn1⟩
      · exact Or.inl h
      · obtain ⟨c6, hc6, hcl6⟩ := Cond.classLink_spec hown hl1 e.platform hpl
        obtain ⟨a8, b8, h1, h2, h3⟩ := hn1
        cases Option.some.inj (h1.symm.trans hcl)
        cases Option.some.inj (h2.symm.trans hc6)
        exact Or.inr ⟨hz0, _, hcl6, h3⟩) hx h0 hcl5 hasg
  obtain ⟨t, a1, b1⟩ := kk (T.setVm vm') hT X'
  exact ⟨t, st _ a1, b1⟩
end Rows
section Ends
variable {p : Program} {l : Launch} {e : Env} {R : Room} {s : State} {m : MethodId} {args : Array Value} {below : List Frame} {meth : Method} {c : Code} {H : Heap} {locs : List Loc} {cells slots : Nat} {Q : State → Prop}
variable {mc ms : Nat} {free : Addr → Prop} {A0 A1 : Nat → Prop} {H0 : Heap} {a : Array Value} {ls : Array Slot} {st0 rest : List Value}
variable {Qc : Array Value → State → Outcome → State → Prop} {XC : String → State → State → Prop}
/-- what a body that may throw owes at its end -/
def vx_MQ (below : List Frame) (Qc : Array Value → State → Outcome → State → Prop) (XC : String → State → State → Prop) (a : Array Value) (s : State) (mc ms : Nat) (free : Addr → Prop) : State → Prop := fun t =>
  ∃ o, t.status = .running ∧ Ended t below o ∧ vx_Q Qc XC mc ms free a s o t
theorem vx_ret {g : JFrame} {mc ms : Nat} (k : W p l e R s m args below meth c H locs cells slots (MQ below Qc args s mc ms free) g) : W p l e R s m args below meth c H locs cells slots (vx_MQ below Qc XC args s mc ms free) g := by
  intro T hT X
  obtain ⟨t, a1, o, b1, b2, b3, b4⟩ := k T hT X
  exact ⟨t, a1, o, b1, b2, Or.inl ⟨b3, b4⟩⟩
/-- not caught here: it goes on to the caller -/
theorem vx_widen {g : JFrame} {q : Addr} {k n : Nat} (h1 : cells ≤ k) (h2 : slots ≤ n) (kk : vx_W p l e R s m args below meth c H locs k n Q g q) : vx_W p l e R s m args below meth c H locs cells slots Q g q := fun T hT X => kk T hT (stand_widen X h1 h2)
theorem vx_out {pc : Nat} {E : String} {ce : Cell} {q : Addr} {mc ms : Nat} (hout : ∀ x ∈ c.exceptionTable.toList, covers x pc = false) (hlocks : meth.locks = false) (hcell : H[q]? = some ce) (hv : ce.vm = .none) (hcl : s.vm.findClass E = some ce.cls)
    (hx : ∀ t : State, t.heap = H → s.vm.Alike t.vm → XC E s t) (hf : ∀ z ∈ locs, free z.base) (hc : cells ≤ mc) (hs : slots ≤ ms) :
    vx_W p l e R s m args below meth c H locs cells slots (vx_MQ below Qc XC args s mc ms free) (F0 m pc ls rest) q := by
  intro T hT X
  obtain ⟨st1, hrun, hend, hW, hsm⟩ := X.leaveThrown q (g := F0 m pc ls rest) rfl rfl rfl hout hlocks
  have hcell9 : (T.setFrames (.throwing q :: below)).heap[q]? = some ce := by
    show T.heap[q]? = some ce
    rw [hT]; exact hcell
  exact ⟨_, st1, .threw q, hrun, hend, Or.inr ⟨q, rfl, E, ce, locs, hx _ hT hW.alike, hcell9, hv, hcl, hW, hsm.mono hc hs, hf⟩⟩
theorem vx_frame {U : State} {k n : Nat} (h : s.sameButNew ({ U with vm := s.vm } : State) locs k n) : s.heap.size ≤ U.heap.size ∧ ∀ q : Nat, q < s.heap.size → (∀ z ∈ locs, z.base ≠ q) → U.heap[q]? = s.heap[q]? := by
  obtain ⟨-, h2, -, -, -, h6⟩ := h
  refine ⟨h2, fun q hq hz => ?_⟩
  obtain ⟨c9, e1, e2, e3, e4⟩ := h6 q _ (Array.getElem?_eq_getElem hq)
  have hs : c9.slots = (s.heap[q]).slots := Array.ext_getElem? fun i => e4 i fun hm => hz _ hm rfl
  have h9 : c9 = s.heap[q] := by
    rw [hs] at e2
    exact e2
  have e5 : U.heap[q]? = some c9 := e1
  rw [e5, h9, Array.getElem?_eq_getElem hq]
/-- the words of a throw but the four that speak of the heap -/
def vx_no (w : Cond) : Bool := decide (w ≠ .isRef (.static Bundle.tN "UNASSIGNED_STACK" Bundle.steD)) && decide (w ≠ .isRef (.static Bundle.tN "SUPPRESSED_SENTINEL" Bundle.listD)) && decide (w ≠ .laysStatic Bundle.tN "UNASSIGNED_STACK" Bundle.steD) && decide (w ≠ .laysStatic Bundle.tN "SUPPRESSED_SENTINEL" Bundle.listD)
def vx_at0 (own : String) (ic : Nat) (X : String) (names : List String) : List Cond := (Bundle.ownAtoms0 own ic X names).filter vx_no
/-- a word that the tables alone decide, or a good one -/
def vx_ot (w : Cond) : Bool := w.onTables || goodWord w
theorem vx_ot_at {args a' : Array Value} {s U : State} {w : Cond} (hW : s.WarmedH U.vm) (hvm : s.vm = U.vm) (hg : vx_ot w = true) (h : w.before args s = true) : w.before a' U = true := by
  simp only [vx_ot, Bool.or_eq_true] at hg
  rcases hg with hg | hg
  · exact va_tabs hg hvm h
  · exact word_at hW (good_of_word hg) h
/-- a list's words: the good ones out of the method's own list, the others by premises of their own -/
theorem vx_hat {args : Array Value} {s : State} {L B : List Cond} (h1 : ∀ w ∈ L.filter goodWord, w.before args s = true) (h2 : ∀ w ∈ L.filter (fun w => !goodWord w), w ∈ B) (h3 : ∀ w ∈ B, w.before args s = true) : ∀ w ∈ L, w.before args s = true := by
  intro w hw
  by_cases g : goodWord w = true
  · exact h1 w (List.mem_filter.mpr ⟨hw, g⟩)
  · refine h3 w (h2 w (List.mem_filter.mpr ⟨hw, ?_⟩))
    show (!goodWord w) = true
    cases hgw : goodWord w
    · rfl
    · exact absurd hgw g
theorem vx_c {args : Array Value} {s : State} {w : Cond} {B : List Cond} (h : w.before args s = true) (t : ∀ w ∈ B, w.before args s = true) : ∀ w' ∈ w :: B, w'.before args s = true := fun w' h' => (List.mem_cons.mp h').elim (fun e => by rw [e]; exact h) (t w')
theorem vx_n {args : Array Value} {s : State} : ∀ w ∈ ([] : List Cond), w.before args s = true := fun _ h => nomatch h
theorem vx_own {args : Array Value} {s : State} {L : List Cond} (h1 : ∀ w ∈ L.filter vx_no, w.before args s = true)
    (hU : (Cond.isRef (.static Bundle.tN "UNASSIGNED_STACK" Bundle.steD)).before args s = true) (hN : (Cond.isRef (.static Bundle.tN "SUPPRESSED_SENTINEL" Bundle.listD)).before args s = true)
    (lU : (Cond.laysStatic Bundle.tN "UNASSIGNED_STACK" Bundle.steD).before args s = true) (lN : (Cond.laysStatic Bundle.tN "SUPPRESSED_SENTINEL" Bundle.listD).before args s = true) : ∀ w ∈ L, w.before args s = true := by
  intro w hw
  by_cases e1 : w = .isRef (.static Bundle.tN "UNASSIGNED_STACK" Bundle.steD)
  · rw [e1]; exact hU
  · by_cases e2 : w = .isRef (.static Bundle.tN "SUPPRESSED_SENTINEL" Bundle.listD)
    · rw [e2]; exact hN
    · by_cases e3 : w = .laysStatic Bundle.tN "UNASSIGNED_STACK" Bundle.steD
      · rw [e3]; exact lU
      · by_cases e4 : w = .laysStatic Bundle.tN "SUPPRESSED_SENTINEL" Bundle.listD
        · rw [e4]; exact lN
        · exact h1 w (List.mem_filter.mpr ⟨hw, by unfold vx_no; rw [decide_eq_true e1, decide_eq_true e2, decide_eq_true e3, decide_eq_true e4]; rfl⟩)
/-- where a static field lies, its class's statics cell in H -/
def vx_L (C n d : String) (A : Nat → Prop) (U : State) (H : Heap) : Prop := ∃ (c : ClassId) (k : Class) (i : Nat) (f : Field) (a : Nat) (cell : Cell), U.vm.findClass C = some c ∧ U.fieldFound? C n d = some (c, k, i, f) ∧ f.isStatic = true ∧ k.statics = some a ∧ H[a]? = some cell ∧ cell.vm.isStatics = true ∧ cell.cls = c ∧ f.slot < cell.slots.size ∧ k.staticTypes[f.slot]? = some f.type ∧ ¬ A a
theorem vx_L.moved {C n d : String} {A : Nat → Prop} {u U : State} {H : Heap} (hvm : u.vm.Alike U.vm) (h : vx_L C n d A u H) : vx_L C n d A U H := by
  obtain ⟨c, k, i, f, a, cell, h1, h2, h3, h4, h5, h6, h7, h8, h9, h10⟩ := h
  obtain ⟨k', hi', he⟩ := State.fieldFound?_setVm hvm h2
  exact ⟨c, k', i, f, a, cell, by rw [hvm.findClass]; exact h1, hi', h3, by rw [he]; exact h4, h5, h6, h7, h8, by rw [he]; exact h9, h10⟩
theorem vx_L.kept {C n d : String} {A : Nat → Prop} {U : State} {H H1 : Heap} (h : vx_L C n d A U H) (hq : ∀ a : Nat, a < H.size → ¬ A a → H1[a]? = H[a]?) : vx_L C n d A U H1 := by
  obtain ⟨c, k, i, f, a, cell, h1, h2, h3, h4, h5, h6, h7, h8, h9, h10⟩ := h
  exact ⟨c, k, i, f, a, cell, h1, h2, h3, h4, by rw [hq a (Array.getElem?_eq_some_iff.mp h5).1 h10]; exact h5, h6, h7, h8, h9, h10⟩
theorem vx_L.narrow {C n d : String} {A B : Nat → Prop} {U : State} {H : Heap} (h : vx_L C n d A U H) (hAB : ∀ q, B q → A q) : vx_L C n d B U H := by
  obtain ⟨c, k, i, f, a, cell, h1, h2, h3, h4, h5, h6, h7, h8, h9, h10⟩ := h
  exact ⟨c, k, i, f, a, cell, h1, h2, h3, h4, h5, h6, h7, h8, h9, fun z => h10 (hAB _ z)⟩
theorem vx_L.word {C n d : String} {A : Nat → Prop} {s : State} {args : Array Value} (h : vx_L C n d A s s.heap) : (Cond.laysStatic C n d).before args s = true := by
  obtain ⟨c, k, i, f, a, cell, h1, h2, h3, h4, h5, h6, h7, h8, h9, -⟩ := h
  show (Cond.laysStatic C n d).holds args s none s [] = true
  exact Cond.laysStatic_of h1 h2 h3 h4 h5 h6 h7 h8 h9
/-- .. and what it holds: null or some reference -/
def vx_Zq (C n d : String) (A : Nat → Prop) (U : State) (H : Heap) : Prop := va_Zq C n d A U H ∧ vx_L C n d A U H
theorem vx_Zq.moved {C n d : String} {A : Nat → Prop} {u U : State} {H : Heap} (hvm : u.vm.Alike U.vm) (h : vx_Zq C n d A u H) : vx_Zq C n d A U H := ⟨va_Zq.moved hvm h.1, vx_L.moved hvm h.2⟩
theorem vx_Zq.kept {C n d : String} {A : Nat → Prop} {U : State} {H H1 : Heap} (h : vx_Zq C n d A U H) (hq : ∀ a : Nat, a < H.size → ¬ A a → H1[a]? = H[a]?) : vx_Zq C n d A U H1 := ⟨va_Zq.kept h.1 hq, vx_L.kept h.2 hq⟩
theorem vx_Zq.narrow {C n d : String} {A B : Nat → Prop} {U : State} {H : Heap} (h : vx_Zq C n d A U H) (hAB : ∀ q, B q → A q) : vx_Zq C n d B U H := ⟨va_Zq.narrow h.1 hAB, vx_L.narrow h.2 hAB⟩
theorem vx_Zqof {args : Array Value} {s : State} {C n d : String} {A : Nat → Prop} (hl : (Cond.laysStatic C n d).before args s = true) (hini : (Cond.initialized C).before args s = true) (h : (Cond.isRef (.static C n d)).before args s = true) (hA : ∀ a : Nat, a < s.heap.size → ¬ A a) : vx_Zq C n d A s s.heap := by
  refine ⟨va_Zqof hl hini h hA, ?_⟩
  obtain ⟨c, k, i, f, a, cell, h1, h2, h3, h4, h5, h6, h7, h8, h9⟩ := Cond.laysStatic_spec hl
  exact ⟨c, k, i, f, a, cell, h1, h2, h3, h4, h5, h6, h7, h8, h9, hA a (Array.getElem?_eq_some_iff.mp h5).1⟩
theorem vx_isRef {C n d : String} {v : Value} {A : Nat → Prop} {s : State} {args : Array Value} (h : va_Z C n d v A s s.heap) (hv : v.isRef = true) : (Cond.isRef (.static C n d)).before args s = true := by
  obtain ⟨cf, kf, fi, f, a, cell, h1, h2, h3, h4, h5, h6, h7, -⟩ := h
  have he : (Term.static C n d).eval args s none [] s = some v := by
    simp [Term.eval, State.fieldNamed?, h1, h2, h4, h5, h6, h7]
  simp only [Cond.before, Cond.holds, Cond.value, he]
  cases v <;> simp_all [Value.isRef]
theorem vx_isRefq {C n d : String} {A : Nat → Prop} {s : State} {args : Array Value} (h : va_Zq C n d A s s.heap) : (Cond.isRef (.static C n d)).before args s = true := by
  rcases h with h | ⟨t, h⟩
  · exact vx_isRef h rfl
  · exact vx_isRef h rfl
/-- the same frame, seen from here: as if the method were called anew in this heap -/
theorem vx_rebase {T : State} (X : Stand p l e R s m args below meth c T locs cells slots) {R' : Room} (hf : R'.frames ≤ R.frames) (hl : R'.locals ≤ R.locals) (hc : cells + R'.cells ≤ R.cells) (hs : slots + R'.slots ≤ R.slots) :
    Stand p l e R' ((T.setVm s.vm).setFrames (.invoking m args :: below)) m args below meth c T [] 0 0 := by
  have htop : (T.setVm s.vm).topJava?.isSome := X.here.top
  have hF : ((T.setVm s.vm).setFrames (.invoking m args :: below)).frames = .invoking m args :: below := State.frames_setFrames _ (State.cur_lt_of_top htop)
  obtain ⟨g₀, hg0⟩ := Option.isSome_iff_exists.mp htop
  obtain ⟨r, hr⟩ := State.topJava?_eq_some.mp hg0
  have hl9 : e.platform.stackLimits (T.setVm s.vm).me = e.platform.stackLimits s.me := X.limits
  have hb9 : (T.setVm s.vm).me.stackBytes = s.me.stackBytes := X.bytes
  refine ⟨X.admits, X.cas, X.clock, hF, ?_, X.hears, X.method, X.code, X.here, X.tail, X.warmed, ?_, ?_, ?_⟩
  · have h := X.room
    have hU : ((T.setVm s.vm).setFrames (.invoking m args :: below)).localsInUse = s.localsInUse := by
      rw [State.localsInUse_invoking hF (meth := meth) (c := c) X.method X.code, State.localsInUse_invoking X.frames X.method X.code]
    simp only [State.hasRoom, Bool.and_eq_true, decide_eq_true_eq] at h ⊢
    obtain ⟨⟨⟨⟨h1, h2, h3, h4, h5, h6⟩, h7⟩, h8⟩, h9⟩ := h
    rw [X.frames, List.length_cons] at h2 h3
    have q1 := X.heapSize
    have q2 := X.used
    simp only [hF, hU, List.length_cons, State.stackLimits_setFrames, State.stackBytes_setFrames, hl9, hb9]
    refine ⟨⟨⟨⟨by omega, by omega, by omega, by omega, by omega, h6⟩, ?_⟩, ?_⟩, X.book⟩
    · show T.heap.size + R'.cells ≤ e.platform.maxCells
      omega
    · show T.slotsUsed + R'.slots ≤ e.platform.maxSlots
      omega
  · rw [State.stackLimits_setFrames]; rfl
  · rw [State.stackBytes_setFrames]; rfl
  · refine ⟨?_, Nat.le_refl _, Nat.le_refl _, ?_, ?_, fun a c9 h9 => ⟨c9, h9, rfl, rfl, fun _ _ => rfl⟩⟩
    · obtain ⟨t, ht, -⟩ := State.frames_cons hr
      show T.setVm s.vm = { ((T.setVm s.vm).setFrames (.invoking m args :: below)).setFrames (T.setVm s.vm).frames with heap := T.heap, slotsUsed := T.slotsUsed }
      rw [State.setFrames_setFrames, State.setFrames_self ht]
      rfl
    · show T.slotsUsed = T.slotsUsed + ((T.heap.toList.drop T.heap.size).map (·.slots.size)).sum
      rw [List.drop_eq_nil_of_le (Nat.le_of_eq Array.length_toList)]
      rfl
    · show ((T.heap.toList.drop T.heap.size).map (·.slots.size)).sum ≤ 0
      rw [List.drop_eq_nil_of_le (Nat.le_of_eq Array.length_toList)]
      exact Nat.le_refl _
/-- 'throw new E()': new; dup; invokespecial; athrow -/
theorem vx_throw0 {cc : ByteArray} {pc : Nat} (hexec : p.tables.exec = Jvm.exec) (hb : c.code = cc) (hl : l.stackTraces = false) {own cls : String} {names : List String} {ik ic mc ms : Nat} {A : Nat → Prop}
    (hown : s.vm.findClass own = some m.cls) (hcls : Bundle.fit cls = true) (hnames : ∀ n ∈ names, Bundle.fit n = true)
    (hk : (Cond.classLink own ik cls).before args s = true) (hini : (Cond.initialized cls).before args s = true) (hat : ∀ w ∈ vx_at0 own ic cls names, w.before args s = true)
    (hgood : ∀ w ∈ Cond.classLink own ik cls :: Cond.initialized cls :: vx_at0 own ic cls names, vx_ot w = true)
    (hU : vx_Zq Bundle.tN "UNASSIGNED_STACK" Bundle.steD A s s.heap) (hN : vx_Zq Bundle.tN "SUPPRESSED_SENTINEL" Bundle.listD A s s.heap) (hS : va_S A s.heap H locs) (hsize : ls.size = c.maxLocals)
    (d0 : decode cc pc = .ok (.new ik, 3)) (d3 : decode cc (pc + 3) = .ok (.dup, 1)) (d4 : decode cc (pc + 4) = .ok (.invokespecial ic, 3)) (d7 : decode cc (pc + 7) = .ok (.athrow, 1))
    (hout : ∀ x ∈ c.exceptionTable.toList, covers x (pc + 7) = false)
    (hRframes : names.length + 3 < R.frames) (hRlocals : (rest.map fun v => v.category).sum + (13 * (names.length + 1) + 42) ≤ R.locals) (hRcells : cells + 1 ≤ R.cells) (hRslots : slots + 6 ≤ R.slots) (hlocks : meth.locks = false)
    (hx : ∀ t : State, s.vm.Alike t.vm → H.size ≤ t.heap.size → (∀ q : Nat, q < H.size → t.heap[q]? = H[q]?) → XC cls s t)
    (hf : ∀ z ∈ locs, free z.base) (hc : cells + 1 ≤ mc) (hs : slots + 6 ≤ ms) :
    W p l e R s m args below meth c H locs cells slots (vx_MQ below Qc XC args s mc ms free) (F0 m pc ls rest) := by
  intro T hT X
  have htr : e.platform.stackTraces = false := (show e.platform.stackTraces = l.stackTraces by rw [X.admits.platform]).trans hl
  have Y := vx_rebase X (R' := { frames := R.frames, locals := R.locals, cells := 1, slots := 6 }) (Nat.le_refl _) (Nat.le_refl _) hRcells hRslots
  obtain ⟨s', hA⟩ : ∃ z, z = (T.setVm s.vm).setFrames (.invoking m args :: below) := ⟨_, rfl⟩
  rw [← hA] at Y
  have hvm : s'.vm = s.vm := by rw [hA]; rfl
  have hhp : s'.heap = H := by rw [hA]; exact hT
  have hW0 : s.WarmedH s'.vm := by rw [hvm]; exact State.WarmedH.refl s
  have hat' : ∀ w ∈ vx_at0 own ic cls names, w.before args s' = true := fun w hw => vx_ot_at hW0 hvm.symm (hgood w (List.mem_cons_of_mem _ (List.mem_cons_of_mem _ hw))) (hat w hw)
  have hk' : (Cond.classLink own ik cls).before args s' = true := vx_ot_at hW0 hvm.symm (hgood _ List.mem_cons_self) hk
  have hini' : (Cond.initialized cls).before args s' = true := vx_ot_at hW0 hvm.symm (hgood _ (List.mem_cons_of_mem _ List.mem_cons_self)) hini
  have hU' : vx_Zq Bundle.tN "UNASSIGNED_STACK" Bundle.steD A s' s'.heap := by rw [hhp]; exact vx_Zq.moved hW0.alike (hU.kept hS.2.1)
  have hN' : vx_Zq Bundle.tN "SUPPRESSED_SENTINEL" Bundle.listD A s' s'.heap := by rw [hhp]; exact vx_Zq.moved hW0.alike (hN.kept hS.2.1)
  have h : ∀ w ∈ Bundle.ownAtoms0 own ic cls names, w.before args s' = true := vx_own hat' (vx_isRefq hU'.1) (vx_isRefq hN'.1) hU'.2.word hN'.2.word
  have hown' : s'.vm.findClass own = some m.cls := by rw [hvm]; exact hown
  have hins : (Cond.instantiable cls 6).before args s' = true := h _ (by simp [Bundle.ownAtoms0])
  obtain ⟨vm₁, cX, kX, hfX, hkX, -, -, X₁, st1⟩ := Y.newCold hexec (own := own) (C := cls) (index := ik) (n := 6) hown' hk' hins hini'
    (g := F0 m pc ls rest) rfl (by rw [hb]; exact d0) (Nat.le_refl _) (Nat.le_refl _)
  generalize hT1 : (T.setVm vm₁).pushCell { cls := cX, slots := kX.instanceTypes.map defaultValue, vm := .none } = T1 at X₁ st1
  have hcat : (Value.ref T.heap.size).category = 1 := rfl
  have hcellA : T1.heap[T.heap.size]? = some (freshCell cX kX) := by rw [← hT1]; exact State.heap_pushCell_size _ _
  have d3' : decode c.code (pc + 3) = .ok (.dup, 1) := by rw [hb]; exact d3
  obtain ⟨U, hsteps, hrun, hend, hW, hsame, ce, hce, hO⟩ := X₁.ctorThrow0 hexec htr (own := own) (cls := cls) (names := names) (ic := ic) hown' hcls hnames h (fun x hx => nomatch hx) hfX hkX hcellA (by rw [hhp, hT]; exact Nat.le_refl _)
    (g := { method := m, pc := pc + 4, locals := ls, stack := .ref T.heap.size :: .ref T.heap.size :: rest, locked := none }) rfl hsize rfl rfl (rest := rest) rfl
    (by rw [hb]; exact d4) (by rw [hb]; exact d7) hout hRframes (by simp only [List.map_cons, List.sum_cons, hcat]; omega) hlocks
  obtain ⟨f1, f2⟩ := vx_frame hsame
  rw [hhp] at f1 f2
  have hWs : s.WarmedH U.vm := State.WarmedH.trans hW0 hW
  have hcl : s.vm.findClass cls = some ce.cls := by
    have h9 := hO.cls
    rw [hvm] at h9
    exact h9
  have hall : s.sameButNew ({ U with vm := s.vm } : State) locs mc ms := by
    subst hA
    obtain ⟨e1, e2⟩ := hsame
    rw [State.setFrames_setFrames] at e1
    have h2 : (T.setVm s.vm).sameButNew ({ U with vm := s.vm } : State) [] (0 + 1) (0 + 6) := ⟨e1, e2⟩
    have h3 := X.same.trans h2
    rw [List.append_nil] at h3
    exact h3.mono hc hs
  refine ⟨U, ?_, .threw T.heap.size, hrun, hend, Or.inr ⟨T.heap.size, rfl, cls, ce, locs, hx U hWs.alike f1 (fun q hq => f2 q hq (fun z hz => nomatch hz)), hce, hO.vm, hcl, hWs, hall, hf⟩⟩
  refine st1 _ ?_
  show Steps p.tables e below (T1.setTop { method := m, pc := pc + 3, locals := ls, stack := .ref T.heap.size :: rest, locked := none }) _
  jvm_step X₁.here [X₁.here.top, hexec, d3', Value.category]
  exact hsteps
end Ends
section Bodies
variable {l : Launch}
theorem vx_ofW {y : MethodName} {ws ws' : List Cond} {rm : Room} {Pc : Array Value → State → Prop} {Qc : Array Value → State → Outcome → State → Prop} {XC : String → State → State → Prop} {mc ms : Nat} {free : Addr → Prop} {cc : ByteArray} {maxL : Nat} {ret : Option FieldType}
    (hy : plainName y.cls = true) (hw : ws = Cond.code y cc maxL ret :: ws')
    (body : ∀ p e s m args below meth c s₁, BodyLoose p l y (headSpec ws rm) cc maxL ret e s m args below meth c s₁ → c.maxLocals = maxL → (∀ x ∈ c.exceptionTable.toList, False) → Pc args s →
      W p l e (headSpec ws rm).room s m args below meth c s.heap [] 0 0 (vx_MQ below Qc XC args s mc ms free) (entryFrame m args maxL)) : vx_Met l y ws rm Pc Qc XC mc ms free := by
  refine MetFree.of_bodyS (code := cc) (maxLocals := maxL) (ret := ret) hy ?_ ?_
  · intro args s m h hn
    obtain ⟨meth, c, h1, h2, h3, h4, h5, h6, -, -⟩ := Cond.code_spec hn (atoms_spec (ws := ws) h _ (by rw [hw]; exact List.mem_cons_self))
    exact ⟨meth, c, h1, h2, h3, h4, h5, h6⟩
  · intro p e s m args below meth c s₁ B hml hP _
    have hh0 : s₁.heap = s.heap := by rw [B.state]; rfl
    have ht : ∀ x ∈ c.exceptionTable.toList, False := by
      obtain ⟨meth9, c9, h1, h2, -, -, -, -, h7, -⟩ := Cond.code_spec B.named (atoms_spec (ws := ws) B.pre _ (by rw [hw]; exact List.mem_cons_self))
      cases Option.some.inj (h1.symm.trans B.method)
      cases Option.some.inj (h2.symm.trans (Stand.of_body B).code)
      intro x hx
      rw [Array.isEmpty_iff.mp h7] at hx
      cases hx
    obtain ⟨t, a1, o, b1, b2, b3⟩ := body p e s m args below meth c s₁ B hml ht hP s₁ hh0 (Stand.of_body B)
    exact ⟨t, o, a1, b1, b2, b3⟩
/-- the table of a body with handlers -/
theorem vx_table {p : Program} {x y : MethodName} {S : Spec} {cc bytes : ByteArray} {maxL maxL' : Nat} {ret ret' : Option FieldType} {e : Env} {s s₁ : State} {m : MethodId} {args : Array Value} {below : List Frame} {meth : Method} {c : Code} {hh : List (Nat × Nat × Nat × Nat)}
    (B : BodyLoose p l y S cc maxL ret e s m args below meth c s₁) (h : (Cond.codeWith y bytes maxL' ret' hh).before args s = true) : c.exceptionTable.toList = tableOf hh := by
  obtain ⟨m9, meth9, c9, hn9, h1, h2, -, -, h6, -⟩ := Cond.codeWith_spec h
  cases Option.some.inj (hn9.symm.trans B.named)
  cases Option.some.inj (h1.symm.trans B.method)
  cases Option.some.inj (h2.symm.trans (Stand.of_body B).code)
  rw [← h6, table_eq]
end Bodies
end VXA
/-! ===== END ===== -/
/-! ===== BEGIN a static call of a method with an exception table ===== -/
section VXS
variable {p : Program} {l : Launch} {e : Env} {R : Room} {s : State} {m : MethodId} {args : Array Value} {below : List Frame} {meth : Method} {c : Code} {T : State} {H : Heap} {locs : List Loc} {cells slots : Nat}
abbrev vx_CSW (R : Room) (s : State) (args : Array Value) (own : String) (index : Nat) (y : MethodName) (bytes : ByteArray) (maxL : Nat) (ret : Option FieldType) (hh : List (Nat × Nat × Nat × Nat)) (ws : List Cond) (rm : Room) (mc ms n : Nat) : Prop :=
  (rm.cells = mc ∧ rm.slots = ms ∧ rm.frames + 1 ≤ R.frames ∧ 8 + (maxL + 11) + rm.locals ≤ R.locals ∧ (∀ w ∈ ws, ∀ (a' : Array Value) (U : State), s.WarmedH U.vm → w.before a' U = true) ∧ Cond.codeWith y bytes maxL ret hh ∈ ws) ∧
  (Cond.codeWith y bytes maxL ret hh).before args s = true ∧ (Cond.initialized y.cls).before args s = true ∧ (y.cls ≠ "java/lang/invoke/MethodHandle" ∧ y.cls ≠ "java/lang/invoke/VarHandle") ∧
  (∀ sig, parseMethodDescriptor y.desc = some sig → n = sig.parameters.length) ∧ (Cond.methodLink own index y).before args s = true ∧ (Cond.static y).before args s = true
theorem vx_cwSW {own : String} {index maxL mc ms : Nat} {y : MethodName} {bytes : ByteArray} {ret : Option FieldType} {hh : List (Nat × Nat × Nat × Nat)} {Ts ws ws' : List Cond} {rm : Room} (n : Nat) (ht : ∀ w ∈ Ts, w.before args s = true) (hT : GoodIn Ts (va_wsS own index y ws)) (hw : ws = Cond.codeWith y bytes maxL ret hh :: ws') (hrc : rm.cells = mc) (hrs : rm.slots = ms)
    (hd : y.cls ≠ "java/lang/invoke/MethodHandle" ∧ y.cls ≠ "java/lang/invoke/VarHandle" ∧ (parseMethodDescriptor y.desc).map (fun d => d.parameters.length) = some n) (hR : rm.frames + 1 ≤ R.frames ∧ 8 + (maxL + 11) + rm.locals ≤ R.locals) :
    vx_CSW R s args own index y bytes maxL ret hh ws rm mc ms n := by
  have ok : ∀ w ∈ va_wsS own index y ws, w.before args s = true := fun w h => ht w (hT w h).1
  have hG : GoodIn Ts ws := fun w h => hT w (by unfold va_wsS; exact List.mem_append_right _ h)
  have hc : Cond.codeWith y bytes maxL ret hh ∈ ws := by rw [hw]; exact List.mem_cons_self
  refine ⟨⟨hrc, hrs, hR.1, hR.2, pay_in ht hG, hc⟩, ht _ (hG _ hc).1, ok _ (by simp [va_wsS]), ⟨hd.1, hd.2.1⟩, fun sig h => ?_, ok _ (by simp [va_wsS]), ok _ (by simp [va_wsS])⟩
  have h2 := hd.2.2
  rw [h] at h2
  exact (Option.some.inj h2).symm
theorem vx_callSW (X : Stand p l e R s m args below meth c T locs cells slots) (hexec : p.tables.exec = Jvm.exec) {own : String} {index : Nat} {y : MethodName} {bytes : ByteArray} {maxL : Nat} {ret : Option FieldType} {hh : List (Nat × Nat × Nat × Nat)}
    (hown : s.vm.findClass own = some m.cls) (hlink : (Cond.methodLink own index y).before args s = true) (hstat : (Cond.static y).before args s = true) (hinit : (Cond.initialized y.cls).before args s = true)
    (hcode : (Cond.codeWith y bytes maxL ret hh).before args s = true) (hy : y.cls ≠ "java/lang/invoke/MethodHandle" ∧ y.cls ≠ "java/lang/invoke/VarHandle")
    {W9 : Nat} {Pre : Pt → Array Value → Prop} {Post : Pt → Array Value → Option Value → Pt → Prop} (hK : Back l R p e below s args y 3 W9 Pre Post)
    {g : JFrame} (hg : g.method = m) (hsize : g.locals.size = c.maxLocals) {argsL rest : List Value} (hlen : ∀ sig, parseMethodDescriptor y.desc = some sig → argsL.length = sig.parameters.length)
    (hstack : g.stack = argsL.reverse ++ rest) (hW : 2 * g.monitorRoom + (rest.map fun v => v.category).sum ≤ W9) (hdg : decode c.code g.pc = .ok (.invokestatic index, 3))
    (hpre : ∀ vm₁, s.WarmedH vm₁ → Pre ⟨T.setVm vm₁, locs, cells, slots⟩ argsL.toArray) :
    ∃ (v : Option Value) (vm₁ : Vm) (B : Pt), s.WarmedH vm₁ ∧ Stand p l e R s m args below meth c B.U B.locs B.cells B.slots ∧ Post ⟨T.setVm vm₁, locs, cells, slots⟩ argsL.toArray v B ∧
      ∀ target, Steps p.tables e below (B.U.setTop { g with pc := g.pc + 3, stack := v.toList ++ rest }) target → Steps p.tables e below (T.setTop g) target := by
  obtain ⟨mk, methM, cM, hnamed, hmethM, -, -, -, -, -, -, hsigM⟩ := Cond.codeWith_spec hcode
  have hstatic : methM.isStatic = true := Cond.static_spec hnamed hmethM hstat
  obtain ⟨kP, hkP, -⟩ := className_of_methodNamed hnamed
  have hinitP : kP.init = .initialized := Cond.initialized_spec (findClass_of_methodNamed hnamed) hkP hinit
  obtain ⟨vm₁, X₁, hstep₁⟩ := X.invokestatic hexec hown hlink hnamed hmethM hstatic hkP hinitP hy (g := g) hg (argsL := argsL) (rest := rest) (hlen _ hsigM) hstack hdg
  obtain ⟨v, B, X', hpost, hsteps⟩ := hK m meth c ⟨T.setVm vm₁, locs, cells, slots⟩ { g with stack := rest } (.invokestatic index) mk argsL.toArray X₁ hg hsize hdg hW (X₁.named hnamed) (hpre vm₁ X₁.warmed)
  exact ⟨v, vm₁, B, X₁.warmed, X', hpost, fun target h => hstep₁ _ fun acts => by rw [doInvoke_state]; exact hsteps.trans h⟩
theorem vx_runSW {y : MethodName} {bytes cc : ByteArray} {maxL nL mc ms n index : Nat} {ret : Option FieldType} {hh : List (Nat × Nat × Nat × Nat)} {ws : List Cond} {rm : Room} {Pc : Array Value → State → Prop} {Qc : Array Value → State → Outcome → State → Prop} {free : Addr → Prop} {Ts : List Cond} {own : String} {As rest : List Value} {g : JFrame}
    (S : CallFix p m c cc nL s args Ts own) (hM : Met l y ws rm Pc Qc mc ms free) (cw : vx_CSW R s args own index y bytes maxL ret hh ws rm mc ms n) (hp : PreS s H Pc As)
    (hg : g.method = m) (hn : As.length = n) (hsize : g.locals.size = nL) (hstack : g.stack = As.reverse ++ rest) (hW : 2 * g.monitorRoom + (rest.map fun v => v.category).sum ≤ 8) (hdg : decode cc g.pc = .ok (.invokestatic index, 3)) (hf : cells + mc ≤ R.cells ∧ slots + ms ≤ R.slots) :
    va_Run p l e R s m args below meth c H locs cells slots mc ms g rest (Qc As.toArray) (free) := by
  obtain ⟨⟨hrc, hrs, hfr, hlo, hws, hcw⟩, hcode, hini, hy, hlen, hl, hstt⟩ := cw
  have hK : Back l R p e below s args y 3 8 (PreOf R mc ms Pc) (PostOf Qc mc ms free) := va_backW (hh := hh) (bytes := bytes) (maxL := maxL) (ret := ret) hM hp.1 hrc hrs hfr hlo hws hcw (fun a' U hW => word_at hW (Or.inl (by first | rfl | simp [Cond.onTables, Cond.keeps, Cond.steady])) hini)
  obtain ⟨hx, hb, hml, ho, -⟩ := S
  intro T hT X
  obtain ⟨v, vm₁, ⟨U', l2, c2, s2⟩, hW₁, X', ⟨g', mk, t, L, e1, e2, hq, h1, hL, h2, h3⟩, st⟩ := vx_callSW X hx (hh := hh) (bytes := bytes) (maxL := maxL) (ret := ret) ho hl hstt hini hcode hy hK hg (hsize.trans hml.symm) (argsL := As) (rest := rest) (fun sig h => hn.trans (hlen sig h)) hstack hW (by rw [hb]; exact hdg)
    (fun vm₁ hW₁ => ⟨hf.1, hf.2, hp.2 (T.setVm vm₁) hT hW₁⟩)
  dsimp only [Pt.U, Pt.locs, Pt.cells, Pt.slots] at X' e1 e2 h1 h2 h3 st
  subst h1; subst h2; subst h3
  exact ⟨v, (T.setVm vm₁).calling g' mk As.toArray, t, U', L, hT, X', hL, e1, e2, hq, st⟩
/-- a thing of a world lies in the heap -/
theorem vx_lt {D : va_G} {cl : List vw_C} {ws : va_W} {H1 : Heap} (h : va_P D cl ws H1) {k : Nat} {q : Nat × va_E} (hk : ws[k]? = some q) : q.1 < H1.size := (h k q hk).lt
end VXS
/-! ===== END ===== -/
/-! ===== BEGIN methods with a table of their own: called by a name, returning or throwing ===== -/
section VXH
/-! vx_backW, vx_callVX, vx_callSX, vx_callVW, vx_runVW, vx_runVX, vx_runSX, vx_ofWH follow the same proofs as their sisters above (Free/Laws.lean, Shelf42/LK1.lean); vx_outP calls Shelf42/NT130.lean (outThrough). -/
section
variable {l : Launch} {R : Room} {p : Program} {e : Env} {below : List Frame} {s : State} {sargs : Array Value} {y : MethodName} {len W9 : Nat}
theorem vx_backW {ws : List Cond} {rm : Room} {Pc : Array Value → State → Prop} {Qc : Array Value → State → Outcome → State → Prop} {XC : String → State → State → Prop} {mc ms : Nat} {free : Addr → Prop} {bytes : ByteArray} {maxL : Nat} {ret : Option FieldType} {hh : List (Nat × Nat × Nat × Nat)}
    (hM : vx_Met l y ws rm Pc Qc XC mc ms free) (hblind : FrameBlind Pc) (hrc : rm.cells = mc) (hrs : rm.slots = ms)
    (hframes : rm.frames + 1 ≤ R.frames) (hlocals : W9 + (maxL + 11) + rm.locals ≤ R.locals)
    (hws : ∀ w ∈ ws, ∀ a' U, s.WarmedH U.vm → w.before a' U = true) (hcode : Cond.codeWith y bytes maxL ret hh ∈ ws) (hinit : ∀ a' U, s.WarmedH U.vm → (Cond.initialized y.cls).before a' U = true) :
    vx_Back l R p e below s sargs y len W9 (PreOf R mc ms Pc) (PostOf Qc mc ms free) (vx_Post XC mc ms free) := by
  intro m meth c A g ig mk a X hg hsize hdg hW hn hp
  have h1 : (headSpec ws rm).pre.before a A.U = true := atoms_intro fun w hw => hws w hw _ _ X.warmed
  have h2 : (Cond.codeWith y bytes maxL ret hh).before a A.U = true := hws _ hcode _ _ X.warmed
  have h3 : (Cond.initialized y.cls).before a A.U = true := hinit _ _ X.warmed
  have h4 : A.cells + (headSpec ws rm).room.cells ≤ R.cells := by rw [show (headSpec ws rm).room.cells = mc from hrc]; exact hp.1
  have h5 : A.slots + (headSpec ws rm).room.slots ≤ R.slots := by rw [show (headSpec ws rm).room.slots = ms from hrs]; exact hp.2.1
  have hPc : Pc a (A.U.calling g mk a) := hblind _ _ _ _ hp.2.2
  obtain ⟨U, Ls, c0, s0⟩ := A
  dsimp only [Pt.U, Pt.locs, Pt.cells, Pt.slots] at h1 h2 h3 h4 h5 X hn hPc ⊢
  obtain ⟨m9, methY, cY, hn9, hmY, hcY, -, hlY, -⟩ := Cond.codeWith_spec h2
  cases Option.some.inj (hn9.symm.trans hn)
  obtain ⟨kY, hkY, -⟩ := className_of_methodNamed hn
  have hinitY : kY.init = .initialized := Cond.initialized_spec (findClass_of_methodNamed hn) hkY h3
  have h : At U g.method c below := by rw [hg]; exact X.here
  have hlocals9 : W9 + (maxL + 11) + (headSpec ws rm).room.locals ≤ R.locals := hlocals
  have happ : (headSpec ws rm).appliesLoose y e.platform (U.calling g mk a) = true :=
    Spec.appliesLoose_calling (g := g) h hdg hn hkY hinitY
      (X.room_calling (g := g) (R' := (headSpec ws rm).room) hsize hmY hcY hframes (by rw [hlY]; omega) h4 h5) h1
  obtain ⟨mid, hmid⟩ := h.above
  have hfr : (U.setTop g).frames = (.java g :: mid) ++ below := by rw [State.frames_setTop' g h.top, hmid]; rfl
  obtain ⟨o, s₂, hsteps, -, hend, hq⟩ := Steps.callFree hM p X.admits X.cas X.clock (acts := []) hfr happ hPc trivial
  have hq' : vx_Q Qc XC mc ms free a (U.calling g mk a) o s₂ := hq
  rw [State.frames_setTop' g h.top] at hend
  obtain ⟨g₀, hg0⟩ := Option.isSome_iff_exists.mp h.top
  obtain ⟨r, hr⟩ := State.topJava?_eq_some.mp hg0
  have hr' : (({ U with heap := s₂.heap, slotsUsed := s₂.slotsUsed } : State).setVm s₂.vm).frames = .java g₀ :: r := hr
  rcases hq' with ⟨hqc, L, hfe, hL⟩ | ⟨q, rfl, E, ce, L, hx, hce, hcv, hcl, hW₂, hsm, hL⟩
  · obtain ⟨⟨v, rfl⟩, hW₂, e2, q2, q3, q4, q5, q6⟩ := id hfe
    have e3 : s₂ = ({ (U.calling g mk a).setFrames s₂.frames with heap := s₂.heap, slotsUsed := s₂.slotsUsed } : State).setVm s₂.vm := by
      have : s₂ = ({ s₂ with vm := (U.calling g mk a).vm } : State).setVm s₂.vm := rfl
      rw [e2] at this
      exact this
    obtain ⟨c₂, i₂, len₂, hc₂, hd₂, hf₂⟩ := hend
    have hW' : U.WarmedH s₂.vm := hW₂
    have hcc : c₂ = c := by
      have h1 : s₂.code? g.method = U.code? g.method := by
        rw [State.code?_eq, State.code?_eq, hW'.alike.method?]
      exact Option.some.inj (hc₂.symm.trans (h1.trans h.code))
    subst hcc
    have hlen : len₂ = len := by rw [hdg] at hd₂; cases hd₂; rfl
    subst hlen
    have hs₂ : s₂ = (({ U with heap := s₂.heap, slotsUsed := s₂.slotsUsed } : State).setVm s₂.vm).setTop { g with pc := g.pc + len₂, stack := v.toList ++ g.stack } := by
      refine e3.trans ?_
      rw [hf₂, State.calling_eq h.top, State.setFrames_setFrames, State.setTop_of_frames _ hr', hr]
      rfl
    have hsame : U.sameButNew ({ U with heap := s₂.heap, slotsUsed := s₂.slotsUsed } : State) L mc ms := by
      refine ⟨?_, q2, q3, q4, q5, q6⟩
      obtain ⟨t, ht, -⟩ := State.frames_cons hr
      show ({ U with heap := s₂.heap, slotsUsed := s₂.slotsUsed } : State) = { U.setFrames U.frames with heap := s₂.heap, slotsUsed := s₂.slotsUsed }
      rw [State.setFrames_self ht]
    subst hg
    refine Or.inl ⟨v, ⟨(({ U with heap := s₂.heap, slotsUsed := s₂.slotsUsed } : State).setVm s₂.vm), Ls ++ L, c0 + mc, s0 + ms⟩,
      ⟨X.admits, X.cas, X.clock, X.frames, X.room, X.hears, X.method, X.code, (X.here.setHeapUsed s₂.heap s₂.slotsUsed).setVm hW'.alike, X.tail, State.WarmedH.trans X.warmed hW', X.limits, X.bytes, X.same.trans (hsame.setVm s.vm)⟩,
      ⟨g, mk, s₂, L, rfl, rfl, hqc, rfl, hL, rfl, rfl⟩, ?_⟩
    show Steps p.tables e below _ ((({ U with heap := s₂.heap, slotsUsed := s₂.slotsUsed } : State).setVm s₂.vm).setTop { g with pc := g.pc + len₂, stack := v.toList ++ g.stack })
    rw [← hs₂]
    exact hsteps
  · obtain ⟨e2, q2, q3, q4, q5, q6⟩ := id hsm
    have e3 : s₂ = ({ (U.calling g mk a).setFrames s₂.frames with heap := s₂.heap, slotsUsed := s₂.slotsUsed } : State).setVm s₂.vm := by
      have : s₂ = ({ s₂ with vm := (U.calling g mk a).vm } : State).setVm s₂.vm := rfl
      rw [e2] at this
      exact this
    have hf₂ : s₂.frames = .throwing q :: .java g :: U.frames.tail := hend
    have hW' : U.WarmedH s₂.vm := hW₂
    have hs₂ : s₂ = ((({ U with heap := s₂.heap, slotsUsed := s₂.slotsUsed } : State).setVm s₂.vm).setTop g).pushFrame (.throwing q) := by
      refine e3.trans ?_
      rw [hf₂, State.calling_eq h.top, State.setFrames_setFrames, State.pushFrame, State.frames_setTop _ hr', State.setTop_of_frames _ hr', State.setFrames_setFrames, hr]
      rfl
    have hsame : U.sameButNew ({ U with heap := s₂.heap, slotsUsed := s₂.slotsUsed } : State) L mc ms := by
      refine ⟨?_, q2, q3, q4, q5, q6⟩
      obtain ⟨t, ht, -⟩ := State.frames_cons hr
      show ({ U with heap := s₂.heap, slotsUsed := s₂.slotsUsed } : State) = { U.setFrames U.frames with heap := s₂.heap, slotsUsed := s₂.slotsUsed }
      rw [State.setFrames_self ht]
    subst hg
    refine Or.inr ⟨q, ⟨(({ U with heap := s₂.heap, slotsUsed := s₂.slotsUsed } : State).setVm s₂.vm), Ls ++ L, c0 + mc, s0 + ms⟩,
      ⟨X.admits, X.cas, X.clock, X.frames, X.room, X.hears, X.method, X.code, (X.here.setHeapUsed s₂.heap s₂.slotsUsed).setVm hW'.alike, X.tail, State.WarmedH.trans X.warmed hW', X.limits, X.bytes, X.same.trans (hsame.setVm s.vm)⟩,
      ⟨g, mk, s₂, L, E, ce, rfl, rfl, hx, hce, hcv, hcl, rfl, hL, rfl, rfl⟩, ?_⟩
    show Steps p.tables e below _ (((({ U with heap := s₂.heap, slotsUsed := s₂.slotsUsed } : State).setVm s₂.vm).setTop g).pushFrame (.throwing q))
    rw [← hs₂]
    exact hsteps
end
variable {p : Program} {l : Launch} {e : Env} {R : Room} {s : State} {m : MethodId} {args : Array Value} {below : List Frame} {meth : Method} {c : Code} {T : State} {H : Heap} {locs : List Loc} {cells slots : Nat}
theorem vx_callVX (X : Stand p l e R s m args below meth c T locs cells slots) (hexec : p.tables.exec = Jvm.exec) {own C : String} {index : Nat} {y : MethodName} {bytes : ByteArray} {maxL : Nat} {ret : Option FieldType} {hh : List (Nat × Nat × Nat × Nat)}
    (hown : s.vm.findClass own = some m.cls) (hlink : (Cond.methodLink own index y).before args s = true) (hinst : (Cond.instanceMethod y).before args s = true) (hsel : (Cond.selects C y y).before args s = true)
    (hcode : (Cond.codeWith y bytes maxL ret hh).before args s = true) (hy : y.cls ≠ "java/lang/invoke/MethodHandle" ∧ y.cls ≠ "java/lang/invoke/VarHandle")
    {W9 : Nat} {Pre : Pt → Array Value → Prop} {Post : Pt → Array Value → Option Value → Pt → Prop} {PostX : Pt → Array Value → Addr → Pt → Prop} (hK : vx_Back l R p e below s args y 3 W9 Pre Post PostX)
    {b : Addr} {cellB : Cell} (hcell : T.heap[b]? = some cellB) (hobj : cellB.vm.isStatics = false) (hcls : s.vm.findClass C = some cellB.cls)
    {g : JFrame} (hg : g.method = m) (hsize : g.locals.size = c.maxLocals) {argsL rest : List Value} (hlen : ∀ sig, parseMethodDescriptor y.desc = some sig → argsL.length = sig.parameters.length)
    (hstack : g.stack = argsL.reverse ++ .ref b :: rest) (hW : 2 * g.monitorRoom + (rest.map fun v => v.category).sum ≤ W9) (hdg : decode c.code g.pc = .ok (.invokevirtual index, 3))
    (hpre : ∀ vm₁, s.WarmedH vm₁ → Pre ⟨T.setVm vm₁, locs, cells, slots⟩ (Value.ref b :: argsL).toArray) :
    (∃ (v : Option Value) (vm₁ : Vm) (B : Pt), s.WarmedH vm₁ ∧ Stand p l e R s m args below meth c B.U B.locs B.cells B.slots ∧ Post ⟨T.setVm vm₁, locs, cells, slots⟩ (Value.ref b :: argsL).toArray v B ∧
      ∀ target, Steps p.tables e below (B.U.setTop { g with pc := g.pc + 3, stack := v.toList ++ rest }) target → Steps p.tables e below (T.setTop g) target) ∨
    (∃ (q : Addr) (vm₁ : Vm) (B : Pt), s.WarmedH vm₁ ∧ Stand p l e R s m args below meth c B.U B.locs B.cells B.slots ∧ PostX ⟨T.setVm vm₁, locs, cells, slots⟩ (Value.ref b :: argsL).toArray q B ∧
      Steps p.tables e below (T.setTop g) ((B.U.setTop { g with stack := rest }).pushFrame (.throwing q))) := by
  obtain ⟨mk, methM, hnamed, hmethM, hstM, habM⟩ := Cond.instanceMethod_spec hinst
  obtain ⟨m8, methM', cM, hn8, hmethM', -, -, -, -, -, -, hsigM⟩ := Cond.codeWith_spec hcode
  cases Option.some.inj (hn8.symm.trans hnamed)
  cases hmethM.symm.trans hmethM'
  obtain ⟨c2, r2, m2, q1, q2, q3, q4, kP, hkP, hkPi⟩ := Cond.selects_spec hsel
  cases hcls.symm.trans q1
  cases (State.methodFound?_of_named hnamed hy).symm.trans q2
  cases hnamed.symm.trans q3
  have hselP : selectMethod e.platform s.vm cellB.cls mk = .method mk := by rw [Launch.admits_selectMethod X.admits]; exact q4
  obtain ⟨vm₁, X₁, hstep₁⟩ := X.invokevirtual hexec hown hlink hnamed hmethM hstM hkP hkPi hy (a := b) (cell := cellB) hcell
    (fun z h => by rw [h] at hobj; cases hobj) hselP hmethM habM hkP hkPi (g := g) hg (argsL := argsL) (rest := rest) (hlen _ hsigM) hstack hdg
  rcases hK m meth c ⟨T.setVm vm₁, locs, cells, slots⟩ { g with stack := rest } (.invokevirtual index) mk (Value.ref b :: argsL).toArray X₁ hg hsize hdg hW (X₁.named hnamed) (hpre vm₁ X₁.warmed) with ⟨v, B, X', hpost, hsteps⟩ | ⟨q, B, X', hpost, hsteps⟩
  · exact Or.inl ⟨v, vm₁, B, X₁.warmed, X', hpost, fun target h => hstep₁ _ fun acts => by rw [doInvoke_state]; exact hsteps.trans h⟩
  · exact Or.inr ⟨q, vm₁, B, X₁.warmed, X', hpost, hstep₁ _ fun acts => by rw [doInvoke_state]; exact hsteps⟩
theorem vx_callSX (X : Stand p l e R s m args below meth c T locs cells slots) (hexec : p.tables.exec = Jvm.exec) {own : String} {index : Nat} {y : MethodName} {bytes : ByteArray} {maxL : Nat} {ret : Option FieldType} {hh : List (Nat × Nat × Nat × Nat)}
    (hown : s.vm.findClass own = some m.cls) (hlink : (Cond.methodLink own index y).before args s = true) (hstat : (Cond.static y).before args s = true) (hinit : (Cond.initialized y.cls).before args s = true)
    (hcode : (Cond.codeWith y bytes maxL ret hh).before args s = true) (hy : y.cls ≠ "java/lang/invoke/MethodHandle" ∧ y.cls ≠ "java/lang/invoke/VarHandle")
    {W9 : Nat} {Pre : Pt → Array Value → Prop} {Post : Pt → Array Value → Option Value → Pt → Prop} {PostX : Pt → Array Value → Addr → Pt → Prop} (hK : vx_Back l R p e below s args y 3 W9 Pre Post PostX)
    {g : JFrame} (hg : g.method = m) (hsize : g.locals.size = c.maxLocals) {argsL rest : List Value} (hlen : ∀ sig, parseMethodDescriptor y.desc = some sig → argsL.length = sig.parameters.length)
    (hstack : g.stack = argsL.reverse ++ rest) (hW : 2 * g.monitorRoom + (rest.map fun v => v.category).sum ≤ W9) (hdg : decode c.code g.pc = .ok (.invokestatic index, 3))
    (hpre : ∀ vm₁, s.WarmedH vm₁ → Pre ⟨T.setVm vm₁, locs, cells, slots⟩ argsL.toArray) :
    (∃ (v : Option Value) (vm₁ : Vm) (B : Pt), s.WarmedH vm₁ ∧ Stand p l e R s m args below meth c B.U B.locs B.cells B.slots ∧ Post ⟨T.setVm vm₁, locs, cells, slots⟩ argsL.toArray v B ∧
      ∀ target, Steps p.tables e below (B.U.setTop { g with pc := g.pc + 3, stack := v.toList ++ rest }) target → Steps p.tables e below (T.setTop g) target) ∨
    (∃ (q : Addr) (vm₁ : Vm) (B : Pt), s.WarmedH vm₁ ∧ Stand p l e R s m args below meth c B.U B.locs B.cells B.slots ∧ PostX ⟨T.setVm vm₁, locs, cells, slots⟩ argsL.toArray q B ∧
      Steps p.tables e below (T.setTop g) ((B.U.setTop { g with stack := rest }).pushFrame (.throwing q))) := by
  obtain ⟨mk, methM, cM, hnamed, hmethM, -, -, -, -, -, -, hsigM⟩ := Cond.codeWith_spec hcode
  have hstatic : methM.isStatic = true := Cond.static_spec hnamed hmethM hstat
  obtain ⟨kP, hkP, -⟩ := className_of_methodNamed hnamed
  have hinitP : kP.init = .initialized := Cond.initialized_spec (findClass_of_methodNamed hnamed) hkP hinit
  obtain ⟨vm₁, X₁, hstep₁⟩ := X.invokestatic hexec hown hlink hnamed hmethM hstatic hkP hinitP hy (g := g) hg (argsL := argsL) (rest := rest) (hlen _ hsigM) hstack hdg
  rcases hK m meth c ⟨T.setVm vm₁, locs, cells, slots⟩ { g with stack := rest } (.invokestatic index) mk argsL.toArray X₁ hg hsize hdg hW (X₁.named hnamed) (hpre vm₁ X₁.warmed) with ⟨v, B, X', hpost, hsteps⟩ | ⟨q, B, X', hpost, hsteps⟩
  · exact Or.inl ⟨v, vm₁, B, X₁.warmed, X', hpost, fun target h => hstep₁ _ fun acts => by rw [doInvoke_state]; exact hsteps.trans h⟩
  · exact Or.inr ⟨q, vm₁, B, X₁.warmed, X', hpost, hstep₁ _ fun acts => by rw [doInvoke_state]; exact hsteps⟩
theorem vx_callVW (X : Stand p l e R s m args below meth c T locs cells slots) (hexec : p.tables.exec = Jvm.exec) {own C : String} {index : Nat} {y : MethodName} {bytes : ByteArray} {maxL : Nat} {ret : Option FieldType} {hh : List (Nat × Nat × Nat × Nat)}
    (hown : s.vm.findClass own = some m.cls) (hlink : (Cond.methodLink own index y).before args s = true) (hinst : (Cond.instanceMethod y).before args s = true) (hsel : (Cond.selects C y y).before args s = true)
    (hcode : (Cond.codeWith y bytes maxL ret hh).before args s = true) (hy : y.cls ≠ "java/lang/invoke/MethodHandle" ∧ y.cls ≠ "java/lang/invoke/VarHandle")
    {W9 : Nat} {Pre : Pt → Array Value → Prop} {Post : Pt → Array Value → Option Value → Pt → Prop} (hK : Back l R p e below s args y 3 W9 Pre Post)
    {b : Addr} {cellB : Cell} (hcell : T.heap[b]? = some cellB) (hobj : cellB.vm.isStatics = false) (hcls : s.vm.findClass C = some cellB.cls)
    {g : JFrame} (hg : g.method = m) (hsize : g.locals.size = c.maxLocals) {argsL rest : List Value} (hlen : ∀ sig, parseMethodDescriptor y.desc = some sig → argsL.length = sig.parameters.length)
    (hstack : g.stack = argsL.reverse ++ .ref b :: rest) (hW : 2 * g.monitorRoom + (rest.map fun v => v.category).sum ≤ W9) (hdg : decode c.code g.pc = .ok (.invokevirtual index, 3))
    (hpre : ∀ vm₁, s.WarmedH vm₁ → Pre ⟨T.setVm vm₁, locs, cells, slots⟩ (Value.ref b :: argsL).toArray) :
    ∃ (v : Option Value) (vm₁ : Vm) (B : Pt), s.WarmedH vm₁ ∧ Stand p l e R s m args below meth c B.U B.locs B.cells B.slots ∧ Post ⟨T.setVm vm₁, locs, cells, slots⟩ (Value.ref b :: argsL).toArray v B ∧
      ∀ target, Steps p.tables e below (B.U.setTop { g with pc := g.pc + 3, stack := v.toList ++ rest }) target → Steps p.tables e below (T.setTop g) target := by
  obtain ⟨mk, methM, hnamed, hmethM, hstM, habM⟩ := Cond.instanceMethod_spec hinst
  obtain ⟨m8, methM', cM, hn8, hmethM', -, -, -, -, -, -, hsigM⟩ := Cond.codeWith_spec hcode
  cases Option.some.inj (hn8.symm.trans hnamed)
  cases hmethM.symm.trans hmethM'
  obtain ⟨c2, r2, m2, q1, q2, q3, q4, kP, hkP, hkPi⟩ := Cond.selects_spec hsel
  cases hcls.symm.trans q1
  cases (State.methodFound?_of_named hnamed hy).symm.trans q2
  cases hnamed.symm.trans q3
  have hselP : selectMethod e.platform s.vm cellB.cls mk = .method mk := by rw [Launch.admits_selectMethod X.admits]; exact q4
  obtain ⟨vm₁, X₁, hstep₁⟩ := X.invokevirtual hexec hown hlink hnamed hmethM hstM hkP hkPi hy (a := b) (cell := cellB) hcell
    (fun z h => by rw [h] at hobj; cases hobj) hselP hmethM habM hkP hkPi (g := g) hg (argsL := argsL) (rest := rest) (hlen _ hsigM) hstack hdg
  obtain ⟨v, B, X', hpost, hsteps⟩ := hK m meth c ⟨T.setVm vm₁, locs, cells, slots⟩ { g with stack := rest } (.invokevirtual index) mk (Value.ref b :: argsL).toArray X₁ hg hsize hdg hW (X₁.named hnamed) (hpre vm₁ X₁.warmed)
  exact ⟨v, vm₁, B, X₁.warmed, X', hpost, fun target h => hstep₁ _ fun acts => by rw [doInvoke_state]; exact hsteps.trans h⟩
abbrev vx_CVW (R : Room) (s : State) (args : Array Value) (own C : String) (index : Nat) (y : MethodName) (bytes : ByteArray) (maxL : Nat) (ret : Option FieldType) (hh : List (Nat × Nat × Nat × Nat)) (ws : List Cond) (rm : Room) (mc ms n : Nat) : Prop :=
  (rm.cells = mc ∧ rm.slots = ms ∧ rm.frames + 1 ≤ R.frames ∧ 8 + (maxL + 11) + rm.locals ≤ R.locals ∧ (∀ w ∈ ws, ∀ (a' : Array Value) (U : State), s.WarmedH U.vm → w.before a' U = true) ∧ Cond.codeWith y bytes maxL ret hh ∈ ws) ∧
  (Cond.codeWith y bytes maxL ret hh).before args s = true ∧ (Cond.initialized y.cls).before args s = true ∧ (y.cls ≠ "java/lang/invoke/MethodHandle" ∧ y.cls ≠ "java/lang/invoke/VarHandle") ∧
  (∀ sig, parseMethodDescriptor y.desc = some sig → n = sig.parameters.length) ∧ (Cond.methodLink own index y).before args s = true ∧ (Cond.instanceMethod y).before args s = true ∧ (Cond.selects C y y).before args s = true
theorem vx_cwVW {own C : String} {index maxL mc ms : Nat} {y : MethodName} {bytes : ByteArray} {ret : Option FieldType} {hh : List (Nat × Nat × Nat × Nat)} {Ts ws ws' : List Cond} {rm : Room} (n : Nat) (ht : ∀ w ∈ Ts, w.before args s = true) (hT : GoodIn Ts (wsV own index C y ws)) (hw : ws = Cond.codeWith y bytes maxL ret hh :: ws') (hrc : rm.cells = mc) (hrs : rm.slots = ms)
    (hd : y.cls = C ∧ y.cls ≠ "java/lang/invoke/MethodHandle" ∧ y.cls ≠ "java/lang/invoke/VarHandle" ∧ (parseMethodDescriptor y.desc).map (fun d => d.parameters.length) = some n) (hR : rm.frames + 1 ≤ R.frames ∧ 8 + (maxL + 11) + rm.locals ≤ R.locals) :
    vx_CVW R s args own C index y bytes maxL ret hh ws rm mc ms n := by
  obtain ⟨hC, hd⟩ := hd
  subst hC
  have ok : ∀ w ∈ wsV own index y.cls y ws, w.before args s = true := fun w h => ht w (hT w h).1
  have hG : GoodIn Ts ws := fun w h => hT w (by unfold wsV; exact List.mem_append_right _ h)
  have hc : Cond.codeWith y bytes maxL ret hh ∈ ws := by rw [hw]; exact List.mem_cons_self
  refine ⟨⟨hrc, hrs, hR.1, hR.2, pay_in ht hG, hc⟩, ht _ (hG _ hc).1, ok _ (by simp [wsV]), ⟨hd.1, hd.2.1⟩, fun sig h => ?_, ok _ (by simp [wsV]), ok _ (by simp [wsV]), ok _ (by simp [wsV])⟩
  have h2 := hd.2.2
  rw [h] at h2
  exact (Option.some.inj h2).symm
theorem vx_runVW {y : MethodName} {bytes cc : ByteArray} {maxL nL mc ms n index : Nat} {ret : Option FieldType} {hh : List (Nat × Nat × Nat × Nat)} {ws : List Cond} {rm : Room} {Pc : Array Value → State → Prop} {Qc : Array Value → State → Outcome → State → Prop} {free : Addr → Prop} {Ts : List Cond} {own C : String} {b : Addr} {As rest : List Value} {g : JFrame}
    (S : CallFix p m c cc nL s args Ts own) (hM : Met l y ws rm Pc Qc mc ms free) (cw : vx_CVW R s args own C index y bytes maxL ret hh ws rm mc ms n) (hp : PreV s H C b Pc As)
    (hg : g.method = m) (hn : As.length = n) (hsize : g.locals.size = nL) (hstack : g.stack = As.reverse ++ .ref b :: rest) (hW : 2 * g.monitorRoom + (rest.map fun v => v.category).sum ≤ 8) (hdg : decode cc g.pc = .ok (.invokevirtual index, 3)) (hf : cells + mc ≤ R.cells ∧ slots + ms ≤ R.slots) :
    va_Run p l e R s m args below meth c H locs cells slots mc ms g rest (Qc (Value.ref b :: As).toArray) free := by
  obtain ⟨⟨hrc, hrs, hfr, hlo, hws, hcw⟩, hcode, hini, hy, hlen, hl, hin, hse⟩ := cw
  have hK : Back l R p e below s args y 3 8 (PreOf R mc ms Pc) (PostOf Qc mc ms free) := va_backW (hh := hh) (bytes := bytes) (maxL := maxL) (ret := ret) hM hp.1 hrc hrs hfr hlo hws hcw (fun a' U hW => word_at hW (Or.inl (by first | rfl | simp [Cond.onTables, Cond.keeps, Cond.steady])) hini)
  obtain ⟨hx, hb, hml, ho, -⟩ := S
  obtain ⟨-, ⟨cellB, hcB, hoB, hclB⟩, hPc⟩ := hp
  intro T hT X
  obtain ⟨v, vm₁, ⟨U', l2, c2, s2⟩, hW₁, X', ⟨g', mk, t, L, e1, e2, hq, h1, hL, h2, h3⟩, st⟩ := vx_callVW X hx (C := C) (hh := hh) (bytes := bytes) (maxL := maxL) (ret := ret) ho hl hin hse hcode hy hK (by rw [hT]; exact hcB) hoB hclB hg (hsize.trans hml.symm) (argsL := As) (rest := rest) (fun sig h => hn.trans (hlen sig h)) hstack hW (by rw [hb]; exact hdg)
    (fun vm₁ hW₁ => ⟨hf.1, hf.2, hPc (T.setVm vm₁) hT hW₁⟩)
  dsimp only [Pt.U, Pt.locs, Pt.cells, Pt.slots] at X' e1 e2 h1 h2 h3 st
  subst h1; subst h2; subst h3
  exact ⟨v, (T.setVm vm₁).calling g' mk (Value.ref b :: As).toArray, t, U', L, hT, X', hL, e1, e2, hq, st⟩
section
variable {y : MethodName} {bytes cc : ByteArray} {maxL nL mc ms n index : Nat} {ret : Option FieldType} {ws : List Cond} {rm : Room} {Pc : Array Value → State → Prop} {Qc : Array Value → State → Outcome → State → Prop} {XC : String → State → State → Prop} {free : Addr → Prop} {Ts : List Cond} {own C : String} {b : Addr} {As rest : List Value} {g : JFrame}
theorem vx_runVX {hh : List (Nat × Nat × Nat × Nat)} (S : CallFix p m c cc nL s args Ts own) (hM : vx_Met l y ws rm Pc Qc XC mc ms free) (cw : vx_CVW R s args own C index y bytes maxL ret hh ws rm mc ms n) (hp : PreV s H C b Pc As)
    (hg : g.method = m) (hn : As.length = n) (hsize : g.locals.size = nL) (hstack : g.stack = As.reverse ++ .ref b :: rest) (hW : 2 * g.monitorRoom + (rest.map fun v => v.category).sum ≤ 8) (hdg : decode cc g.pc = .ok (.invokevirtual index, 3)) (hf : cells + mc ≤ R.cells ∧ slots + ms ≤ R.slots) :
    vx_Run p l e R s m args below meth c H locs cells slots mc ms g rest (Qc (Value.ref b :: As).toArray) XC free := by
  obtain ⟨⟨hrc, hrs, hfr, hlo, hws, hcw⟩, hcode, hini, hy, hlen, hl, hin, hse⟩ := cw
  have hK : vx_Back l R p e below s args y 3 8 (PreOf R mc ms Pc) (PostOf Qc mc ms free) (vx_Post XC mc ms free) := vx_backW (hh := hh) (bytes := bytes) (maxL := maxL) (ret := ret) hM hp.1 hrc hrs hfr hlo hws hcw (fun a' U hW => word_at hW (Or.inl (by first | rfl | simp [Cond.onTables, Cond.keeps, Cond.steady])) hini)
  obtain ⟨hx, hb, hml, ho, -⟩ := S
  obtain ⟨-, ⟨cellB, hcB, hoB, hclB⟩, hPc⟩ := hp
  intro T hT X
  rcases vx_callVX X hx (C := C) (hh := hh) (bytes := bytes) (maxL := maxL) (ret := ret) ho hl hin hse hcode hy hK (by rw [hT]; exact hcB) hoB hclB hg (hsize.trans hml.symm) (argsL := As) (rest := rest) (fun sig h => hn.trans (hlen sig h)) hstack hW (by rw [hb]; exact hdg)
    (fun vm₁ hW₁ => ⟨hf.1, hf.2, hPc (T.setVm vm₁) hT hW₁⟩) with ⟨v, vm₁, ⟨U', l2, c2, s2⟩, hW₁, X', ⟨g', mk, t, L, e1, e2, hq, h1, hL, h2, h3⟩, st⟩ | ⟨q, vm₁, ⟨U', l2, c2, s2⟩, hW₁, X', ⟨g', mk, t, L, E, ce, e1, e2, hq, hce, hcv, hcl, h1, hL, h2, h3⟩, st⟩
  · dsimp only [Pt.U, Pt.locs, Pt.cells, Pt.slots] at X' e1 e2 h1 h2 h3 st
    subst h1; subst h2; subst h3
    exact Or.inl ⟨v, (T.setVm vm₁).calling g' mk (Value.ref b :: As).toArray, t, U', L, hT, X', hL, e1, e2, hq, st⟩
  · dsimp only [Pt.U, Pt.locs, Pt.cells, Pt.slots] at X' e1 e2 h1 h2 h3 st hcl
    subst h1; subst h2; subst h3
    exact Or.inr ⟨q, (T.setVm vm₁).calling g' mk (Value.ref b :: As).toArray, t, U', L, E, ce, hT, X', hL, e1, e2, hq, hce, hcv, vx_cls hW₁ hcl, st⟩
theorem vx_runSX {hh : List (Nat × Nat × Nat × Nat)} (S : CallFix p m c cc nL s args Ts own) (hM : vx_Met l y ws rm Pc Qc XC mc ms free) (cw : vx_CSW R s args own index y bytes maxL ret hh ws rm mc ms n) (hp : PreS s H Pc As)
    (hg : g.method = m) (hn : As.length = n) (hsize : g.locals.size = nL) (hstack : g.stack = As.reverse ++ rest) (hW : 2 * g.monitorRoom + (rest.map fun v => v.category).sum ≤ 8) (hdg : decode cc g.pc = .ok (.invokestatic index, 3)) (hf : cells + mc ≤ R.cells ∧ slots + ms ≤ R.slots) :
    vx_Run p l e R s m args below meth c H locs cells slots mc ms g rest (Qc As.toArray) XC free := by
  obtain ⟨⟨hrc, hrs, hfr, hlo, hws, hcw⟩, hcode, hini, hy, hlen, hl, hstt⟩ := cw
  have hK : vx_Back l R p e below s args y 3 8 (PreOf R mc ms Pc) (PostOf Qc mc ms free) (vx_Post XC mc ms free) := vx_backW (hh := hh) (bytes := bytes) (maxL := maxL) (ret := ret) hM hp.1 hrc hrs hfr hlo hws hcw (fun a' U hW => word_at hW (Or.inl (by first | rfl | simp [Cond.onTables, Cond.keeps, Cond.steady])) hini)
  obtain ⟨hx, hb, hml, ho, -⟩ := S
  intro T hT X
  rcases vx_callSX X hx (hh := hh) (bytes := bytes) (maxL := maxL) (ret := ret) ho hl hstt hini hcode hy hK hg (hsize.trans hml.symm) (argsL := As) (rest := rest) (fun sig h => hn.trans (hlen sig h)) hstack hW (by rw [hb]; exact hdg)
    (fun vm₁ hW₁ => ⟨hf.1, hf.2, hp.2 (T.setVm vm₁) hT hW₁⟩) with ⟨v, vm₁, ⟨U', l2, c2, s2⟩, hW₁, X', ⟨g', mk, t, L, e1, e2, hq, h1, hL, h2, h3⟩, st⟩ | ⟨q, vm₁, ⟨U', l2, c2, s2⟩, hW₁, X', ⟨g', mk, t, L, E, ce, e1, e2, hq, hce, hcv, hcl, h1, hL, h2, h3⟩, st⟩
  · dsimp only [Pt.U, Pt.locs, Pt.cells, Pt.slots] at X' e1 e2 h1 h2 h3 st
    subst h1; subst h2; subst h3
    exact Or.inl ⟨v, (T.setVm vm₁).calling g' mk As.toArray, t, U', L, hT, X', hL, e1, e2, hq, st⟩
  · dsimp only [Pt.U, Pt.locs, Pt.cells, Pt.slots] at X' e1 e2 h1 h2 h3 st hcl
    subst h1; subst h2; subst h3
    exact Or.inr ⟨q, (T.setVm vm₁).calling g' mk As.toArray, t, U', L, E, ce, hT, X', hL, e1, e2, hq, hce, hcv, vx_cls hW₁ hcl, st⟩
end
end VXH
theorem vx_ofWH {l : Launch} {y : MethodName} {ws ws' : List Cond} {rm : Room} {Pc : Array Value → State → Prop} {Qc : Array Value → State → Outcome → State → Prop} {XC : String → State → State → Prop} {mc ms : Nat} {free : Addr → Prop} {cc : ByteArray} {maxL : Nat} {ret : Option FieldType} {hh : List (Nat × Nat × Nat × Nat)}
    (hy : plainName y.cls = true) (hw : ws = Cond.codeWith y cc maxL ret hh :: ws')
    (body : ∀ p e s m args below meth c s₁, BodyLoose p l y (headSpec ws rm) cc maxL ret e s m args below meth c s₁ → c.maxLocals = maxL → Pc args s →
      W p l e (headSpec ws rm).room s m args below meth c s.heap [] 0 0 (vx_MQ below Qc XC args s mc ms free) (entryFrame m args maxL)) : vx_Met l y ws rm Pc Qc XC mc ms free := by
  refine MetFree.of_bodyS (code := cc) (maxLocals := maxL) (ret := ret) hy ?_ ?_
  · intro args s m h hn
    obtain ⟨m9, meth, c, hn9, h1, h2, h3, h4, -, h5, h6, -⟩ := Cond.codeWith_spec (atoms_spec (ws := ws) h _ (by rw [hw]; exact List.mem_cons_self))
    cases hn.symm.trans hn9
    exact ⟨meth, c, h1, h2, h3, h4, h5, h6⟩
  · intro p e s m args below meth c s₁ B hml hP _
    have hh0 : s₁.heap = s.heap := by rw [B.state]; rfl
    obtain ⟨t, a1, o, b1, b2, b3⟩ := body p e s m args below meth c s₁ B hml hP s₁ hh0 (Stand.of_body B)
    exact ⟨t, o, a1, b1, b2, b3⟩
/-! ===== END ===== -/
end
section
def RX0 : String := "MountYard$ByteRow"
def TX0 : u_T := fun k => match k with
  | 0 => ("MountYard$ByteRow", "bytes", "[B", true)
  | _ => ("MountYard$ByteRow", "count", "I", false)
def tyX0 : Nat → FieldType := fun k => match k with
  | 0 => .array .byte
  | _ => .int
abbrev wsX00 : List Cond := u_ws RX0 TX0 2
theorem nmX0 : ∀ a, a < 2 → ∀ b, b < 2 → a ≠ b → (TX0 a).2.1 ≠ (TX0 b).2.1 := by decide +kernel
theorem tyX0_ok : ∀ k, k < 2 → parseFieldDescriptor (TX0 k).2.2.1 = some (tyX0 k) := by decide +kernel
def RX1 : String := "MountYard$FileList"
def TX1 : u_T := fun k => match k with
  | 0 => ("MountYard$FileList", "numbers", "[I", true)
  | _ => ("MountYard$FileList", "count", "I", false)
def tyX1 : Nat → FieldType := fun k => match k with
  | 0 => .array .int
  | _ => .int
abbrev wsX10 : List Cond := u_ws RX1 TX1 2
theorem nmX1 : ∀ a, a < 2 → ∀ b, b < 2 → a ≠ b → (TX1 a).2.1 ≠ (TX1 b).2.1 := by decide +kernel
theorem tyX1_ok : ∀ k, k < 2 → parseFieldDescriptor (TX1 k).2.2.1 = some (tyX1 k) := by decide +kernel
def RX2 : String := "MountYard$Frame"
def TX2 : u_T := fun k => match k with
  | _ => ("MountYard$Frame", "row", "LMountYard$ByteRow;", true)
def tyX2 : Nat → FieldType := fun k => match k with
  | _ => .object "MountYard$ByteRow"
abbrev wsX20 : List Cond := u_ws RX2 TX2 1
theorem nmX2 : ∀ a, a < 1 → ∀ b, b < 1 → a ≠ b → (TX2 a).2.1 ≠ (TX2 b).2.1 := by decide +kernel
theorem tyX2_ok : ∀ k, k < 1 → parseFieldDescriptor (TX2 k).2.2.1 = some (tyX2 k) := by decide +kernel
def RX3 : String := "MountYard$Handle"
def TX3 : u_T := fun k => match k with
  | 0 => ("MountYard$Handle", "used", "Z", false)
  | 1 => ("MountYard$Handle", "number", "I", false)
  | 2 => ("MountYard$Handle", "file", "I", false)
  | 3 => ("MountYard$Handle", "reading", "Z", false)
  | 4 => ("MountYard$Handle", "writing", "Z", false)
  | 5 => ("MountYard$Handle", "told", "J", false)
  | _ => ("MountYard$Handle", "lastTold", "I", false)
def tyX3 : Nat → FieldType := fun k => match k with
  | 0 => .boolean
  | 1 => .int
  | 2 => .int
  | 3 => .boolean
  | 4 => .boolean
  | 5 => .long
  | _ => .int
abbrev wsX30 : List Cond := u_ws RX3 TX3 7
theorem nmX3 : ∀ a, a < 7 → ∀ b, b < 7 → a ≠ b → (TX3 a).2.1 ≠ (TX3 b).2.1 := by decide +kernel
theorem tyX3_ok : ∀ k, k < 7 → parseFieldDescriptor (TX3 k).2.2.1 = some (tyX3 k) := by decide +kernel
def RX4 : String := "MountYard$HandleSet"
def TX4 : u_T := fun k => match k with
  | _ => ("MountYard$HandleSet", "slots", "[LMountYard$Handle;", true)
def tyX4 : Nat → FieldType := fun k => match k with
  | _ => .array (.object "MountYard$Handle")
abbrev wsX40 : List Cond := u_ws RX4 TX4 1
theorem nmX4 : ∀ a, a < 1 → ∀ b, b < 1 → a ≠ b → (TX4 a).2.1 ≠ (TX4 b).2.1 := by decide +kernel
theorem tyX4_ok : ∀ k, k < 1 → parseFieldDescriptor (TX4 k).2.2.1 = some (tyX4 k) := by decide +kernel
def RX5 : String := "MountYard$Node"
def TX5 : u_T := fun k => match k with
  | 0 => ("MountYard$Node", "number", "I", true)
  | 1 => ("MountYard$Node", "content", "LMountYard$ByteRow;", true)
  | 2 => ("MountYard$Node", "parent", "I", false)
  | 3 => ("MountYard$Node", "name", "I", false)
  | 4 => ("MountYard$Node", "rights", "I", false)
  | 5 => ("MountYard$Node", "version", "I", false)
  | 6 => ("MountYard$Node", "directory", "Z", false)
  | _ => ("MountYard$Node", "gone", "Z", false)
def tyX5 : Nat → FieldType := fun k => match k with
  | 0 => .int
  | 1 => .object "MountYard$ByteRow"
  | 2 => .int
  | 3 => .int
  | 4 => .int
  | 5 => .int
  | 6 => .boolean
  | _ => .boolean
abbrev wsX50 : List Cond := u_ws RX5 TX5 8
theorem nmX5 : ∀ a, a < 8 → ∀ b, b < 8 → a ≠ b → (TX5 a).2.1 ≠ (TX5 b).2.1 := by decide +kernel
theorem tyX5_ok : ∀ k, k < 8 → parseFieldDescriptor (TX5 k).2.2.1 = some (tyX5 k) := by decide +kernel
def RX6 : String := "MountYard$Processes"
def TX6 : u_T := fun k => match k with
  | 0 => ("MountYard$Processes", "tree", "LMountYard$Tree;", true)
  | 1 => ("MountYard$Processes", "tables", "[LMountYard$Table;", true)
  | 2 => ("MountYard$Processes", "tableOf", "[I", true)
  | 3 => ("MountYard$Processes", "wayA", "LMountYard$Route;", true)
  | 4 => ("MountYard$Processes", "wayB", "LMountYard$Route;", true)
  | _ => ("MountYard$Processes", "scratch", "LMountYard$FileList;", true)
def tyX6 : Nat → FieldType := fun k => match k with
  | 0 => .object "MountYard$Tree"
  | 1 => .array (.object "MountYard$Table")
  | 2 => .array .int
  | 3 => .object "MountYard$Route"
  | 4 => .object "MountYard$Route"
  | _ => .object "MountYard$FileList"
abbrev wsX60 : List Cond := u_ws RX6 TX6 6
theorem nmX6 : ∀ a, a < 6 → ∀ b, b < 6 → a ≠ b → (TX6 a).2.1 ≠ (TX6 b).2.1 := by decide +kernel
theorem tyX6_ok : ∀ k, k < 6 → parseFieldDescriptor (TX6 k).2.2.1 = some (tyX6 k) := by decide +kernel
def RX7 : String := "MountYard$Route"
def TX7 : u_T := fun k => match k with
  | 0 => ("MountYard$Route", "list", "LMountYard$FileList;", true)
  | 1 => ("MountYard$Route", "words", "[I", true)
  | 2 => ("MountYard$Route", "pieces", "I", false)
  | 3 => ("MountYard$Route", "last", "I", false)
  | _ => ("MountYard$Route", "found", "Z", false)
def tyX7 : Nat → FieldType := fun k => match k with
  | 0 => .object "MountYard$FileList"
  | 1 => .array .int
  | 2 => .int
  | 3 => .int
  | _ => .boolean
abbrev wsX70 : List Cond := u_ws RX7 TX7 5
theorem nmX7 : ∀ a, a < 5 → ∀ b, b < 5 → a ≠ b → (TX7 a).2.1 ≠ (TX7 b).2.1 := by decide +kernel
theorem tyX7_ok : ∀ k, k < 5 → parseFieldDescriptor (TX7 k).2.2.1 = some (tyX7 k) := by decide +kernel
def RX8 : String := "MountYard$Table"
def TX8 : u_T := fun k => match k with
  | 0 => ("MountYard$Table", "keys", "[I", true)
  | 1 => ("MountYard$Table", "lists", "[LMountYard$FileList;", true)
  | _ => ("MountYard$Table", "keyCount", "I", false)
def tyX8 : Nat → FieldType := fun k => match k with
  | 0 => .array .int
  | 1 => .array (.object "MountYard$FileList")
  | _ => .int
abbrev wsX80 : List Cond := u_ws RX8 TX8 3
theorem nmX8 : ∀ a, a < 3 → ∀ b, b < 3 → a ≠ b → (TX8 a).2.1 ≠ (TX8 b).2.1 := by decide +kernel
theorem tyX8_ok : ∀ k, k < 3 → parseFieldDescriptor (TX8 k).2.2.1 = some (tyX8 k) := by decide +kernel
def RX9 : String := "MountYard$Talk"
def TX9 : u_T := fun k => match k with
  | 0 => ("MountYard$Talk", "tree", "LMountYard$Tree;", true)
  | 1 => ("MountYard$Talk", "held", "LMountYard$HandleSet;", true)
  | 2 => ("MountYard$Talk", "request", "LMountYard$Frame;", true)
  | 3 => ("MountYard$Talk", "body", "LMountYard$ByteRow;", true)
  | 4 => ("MountYard$Talk", "begun", "Z", false)
  | _ => ("MountYard$Talk", "limit", "I", false)
def tyX9 : Nat → FieldType := fun k => match k with
  | 0 => .object "MountYard$Tree"
  | 1 => .object "MountYard$HandleSet"
  | 2 => .object "MountYard$Frame"
  | 3 => .object "MountYard$ByteRow"
  | 4 => .boolean
  | _ => .int
abbrev wsX90 : List Cond := u_ws RX9 TX9 6
theorem nmX9 : ∀ a, a < 6 → ∀ b, b < 6 → a ≠ b → (TX9 a).2.1 ≠ (TX9 b).2.1 := by decide +kernel
theorem tyX9_ok : ∀ k, k < 6 → parseFieldDescriptor (TX9 k).2.2.1 = some (tyX9 k) := by decide +kernel
def RX10 : String := "MountYard$Tree"
def TX10 : u_T := fun k => match k with
  | 0 => ("MountYard$Tree", "nodes", "[LMountYard$Node;", true)
  | _ => ("MountYard$Tree", "made", "I", false)
def tyX10 : Nat → FieldType := fun k => match k with
  | 0 => .array (.object "MountYard$Node")
  | _ => .int
abbrev wsX100 : List Cond := u_ws RX10 TX10 2
theorem nmX10 : ∀ a, a < 2 → ∀ b, b < 2 → a ≠ b → (TX10 a).2.1 ≠ (TX10 b).2.1 := by decide +kernel
theorem tyX10_ok : ∀ k, k < 2 → parseFieldDescriptor (TX10 k).2.2.1 = some (tyX10 k) := by decide +kernel
def RX11 : String := "MountYard"
def TX11 : u_T := fun k => match k with
  | 0 => ("MountYard", "incoming", "LMountYard$ByteRow;", true)
  | 1 => ("MountYard", "outgoing", "LMountYard$ByteRow;", true)
  | 2 => ("MountYard", "text", "LMountYard$ByteRow;", true)
  | 3 => ("MountYard", "tree", "LMountYard$Tree;", true)
  | 4 => ("MountYard", "talk", "LMountYard$Talk;", true)
  | _ => ("MountYard", "processes", "LMountYard$Processes;", true)
def tyX11 : Nat → FieldType := fun k => match k with
  | 0 => .object "MountYard$ByteRow"
  | 1 => .object "MountYard$ByteRow"
  | 2 => .object "MountYard$ByteRow"
  | 3 => .object "MountYard$Tree"
  | 4 => .object "MountYard$Talk"
  | _ => .object "MountYard$Processes"
abbrev wsX110 : List Cond := u_ws RX11 TX11 6
theorem nmX11 : ∀ a, a < 6 → ∀ b, b < 6 → a ≠ b → (TX11 a).2.1 ≠ (TX11 b).2.1 := by decide +kernel
theorem tyX11_ok : ∀ k, k < 6 → parseFieldDescriptor (TX11 k).2.2.1 = some (tyX11 k) := by decide +kernel
def RX12 : String := "MountYardModel"
def TX12 : u_T := fun k => match k with
  | 0 => ("MountYardModel", "thrown", "I", false)
  | 1 => ("MountYardModel", "count", "I", false)
  | 2 => ("MountYardModel", "parent", "[I", true)
  | 3 => ("MountYardModel", "version", "[I", true)
  | 4 => ("MountYardModel", "length", "[I", true)
  | 5 => ("MountYardModel", "allowed", "[I", true)
  | 6 => ("MountYardModel", "directory", "[Z", true)
  | 7 => ("MountYardModel", "gone", "[Z", true)
  | 8 => ("MountYardModel", "nameLength", "[I", true)
  | 9 => ("MountYardModel", "name", "[I", true)
  | 10 => ("MountYardModel", "content", "[I", true)
  | 11 => ("MountYardModel", "held", "I", false)
  | 12 => ("MountYardModel", "number", "[I", true)
  | 13 => ("MountYardModel", "file", "[I", true)
  | 14 => ("MountYardModel", "way", "[I", true)
  | 15 => ("MountYardModel", "told", "[J", true)
  | 16 => ("MountYardModel", "lastTold", "[I", true)
  | 17 => ("MountYardModel", "ins", "I", false)
  | 18 => ("MountYardModel", "in", "[I", true)
  | 19 => ("MountYardModel", "outs", "I", false)
  | 20 => ("MountYardModel", "out", "[I", true)
  | 21 => ("MountYardModel", "most", "I", false)
  | 22 => ("MountYardModel", "begun", "Z", false)
  | 23 => ("MountYardModel", "end", "I", false)
  | 24 => ("MountYardModel", "type", "I", false)
  | 25 => ("MountYardModel", "start", "I", false)
  | 26 => ("MountYardModel", "typed", "I", false)
  | 27 => ("MountYardModel", "text", "[I", true)
  | 28 => ("MountYardModel", "pieces", "I", false)
  | 29 => ("MountYardModel", "from", "[I", true)
  | 30 => ("MountYardModel", "to", "[I", true)
  | 31 => ("MountYardModel", "listed", "I", false)
  | 32 => ("MountYardModel", "list", "[I", true)
  | 33 => ("MountYardModel", "last", "I", false)
  | 34 => ("MountYardModel", "tableOf", "[I", true)
  | 35 => ("MountYardModel", "keys", "[I", true)
  | 36 => ("MountYardModel", "key", "[I", true)
  | 37 => ("MountYardModel", "lengths", "[I", true)
  | 38 => ("MountYardModel", "lists", "[I", true)
  | _ => ("MountYardModel", "bound", "[I", true)
def tyX12 : Nat → FieldType := fun k => match k with
  | 0 => .int
  | 1 => .int
  | 2 => .array .int
  | 3 => .array .int
  | 4 => .array .int
  | 5 => .array .int
  | 6 => .array .boolean
  | 7 => .array .boolean
  | 8 => .array .int
  | 9 => .array .int
  | 10 => .array .int
  | 11 => .int
  | 12 => .array .int
  | 13 => .array .int
  | 14 => .array .int
  | 15 => .array .long
  | 16 => .array .int
  | 17 => .int
  | 18 => .array .int
  | 19 => .int
  | 20 => .array .int
  | 21 => .int
  | 22 => .boolean
  | 23 => .int
  | 24 => .int
  | 25 => .int
  | 26 => .int
  | 27 => .array .int
  | 28 => .int
  | 29 => .array .int
  | 30 => .array .int
  | 31 => .int
  | 32 => .array .int
  | 33 => .int
  | 34 => .array .int
  | 35 => .array .int
  | 36 => .array .int
  | 37 => .array .int
  | 38 => .array .int
  | _ => .array .int
abbrev wsX120 : List Cond := u_ws RX12 TX12 40
theorem nmX12 : ∀ a, a < 40 → ∀ b, b < 40 → a ≠ b → (TX12 a).2.1 ≠ (TX12 b).2.1 := by decide +kernel
theorem tyX12_ok : ∀ k, k < 40 → parseFieldDescriptor (TX12 k).2.2.1 = some (tyX12 k) := by decide +kernel
def RL : String := "MountYardLaw"
abbrev vwCl : List vw_C := [(RX0, TX0, 2), (RX1, TX1, 2), (RX2, TX2, 1), (RX3, TX3, 7), (RX4, TX4, 1), (RX5, TX5, 8), (RX6, TX6, 6), (RX7, TX7, 5), (RX8, TX8, 3), (RX9, TX9, 6), (RX10, TX10, 2), (RX11, TX11, 6), (RX12, TX12, 40)]
end
section
/-! ===== the abstract machine: values, locals, stacks; what stands for what; the instructions that move a frame alone ===== -/
/-- an int that is known, an int between two, a long (known or not), a reference (null, or the world's cell of that number), a named thing -/
abbrev AV : Type := Int32 ⊕ (Int × Int) ⊕ Option Int64 ⊕ Option Nat ⊕ Nat
/-- an array (the number of its kind, its length, its places) or an object (the number of its class, its fields) -/
abbrev AC : Type := (Nat × Nat × (Nat → AV)) ⊕ (Nat × List AV)
abbrev AE : Type := Nat × Int32 × Int32 × Int32 × (Nat → Int32)
def e_b (E : AE) : Nat := E.1
def e_0 (E : AE) : Int32 := E.2.1
def e_1 (E : AE) : Int32 := E.2.2.1
def e_2 (E : AE) : Int32 := E.2.2.2.1
def e_v (E : AE) : Nat → Int32 := E.2.2.2.2
/-- a named unknown and a small offset, coded from 1000 on: 1024 codes a name, 512 the offset 0 -/
def ai_sv (E : AE) (n : Nat) : Int32 := e_v E ((n - 1000) / 1024) + Int32.ofInt (((n - 1000) % 1024 : Nat) - 512)
abbrev ALo : Type := List (Nat × AV)
def ai_ad (ws : va_W) (i : Nat) : Option Nat := (ws[i]?).map Prod.fst
def ai_w0 (E : AE) : Int64 := ((e_1 E).toInt64 <<< ((32 : Int32).toInt64 &&& 63)) ||| ((e_2 E).toInt64 &&& 4294967295)
def ai_sh (E : AE) (k : Nat) : Int64 := ai_w0 E >>> ((nI (8 * k)).toInt64 &&& 63)
def ai_xl (E : AE) (n : Nat) : Int64 := if n = 1 then ai_w0 E else if n = 2 then (e_1 E).toInt64 else if n = 3 then (e_1 E).toInt64 <<< ((32 : Int32).toInt64 &&& 63) else if n = 4 then (e_2 E).toInt64 else if n = 6 then (e_2 E).toInt64 &&& 4294967295 else if n < 20 then ai_sh E (n - 10) else ai_sh E (n - 20) &&& 255
def ai_xi (E : AE) (n : Nat) : Int32 := if 1000 ≤ n then ai_sv E n else if n = 40 then (e_0 E) else if n = 41 then (e_1 E) else if n = 42 then (e_2 E) else (ai_sh E (n - 30) &&& 255).toInt32
def ai_xv (E : AE) (n : Nat) : Value := if n = 5 then .ref (e_b E) else if n < 30 then .long (ai_xl E n) else .int (ai_xi E n)
def ai_V (E : AE) (ws : va_W) : AV → Value → Prop
  | .inl c, v => v = .int c
  | .inr (.inl q), v => ∃ x : Int32, v = .int x ∧ q.1 ≤ x.toInt ∧ x.toInt ≤ q.2
  | .inr (.inr (.inl none)), v => ∃ x : Int64, v = .long x
  | .inr (.inr (.inl (some c))), v => v = .long c
  | .inr (.inr (.inr (.inl none))), v => v = .null
  | .inr (.inr (.inr (.inl (some i)))), v => ∃ a, v = .ref a ∧ ai_ad ws i = some a
  | .inr (.inr (.inr (.inr n))), v => if n = 0 then ∃ a, v = .ref a else v = ai_xv E n
def ai_cat : AV → Nat
  | .inl _ => 1
  | .inr (.inl _) => 1
  | .inr (.inr (.inl _)) => 2
  | .inr (.inr (.inr (.inl _))) => 3
  | .inr (.inr (.inr (.inr n))) => if n = 0 then 3 else if n = 5 then 3 else if n < 30 then 2 else 1
def ai_wd (a : AV) : Nat := if ai_cat a = 2 then 2 else 1
def ai_S (E : AE) (ws : va_W) : List AV → List Value → Prop
  | [], [] => True
  | a :: as, v :: vs => ai_V E ws a v ∧ ai_S E ws as vs
  | _, _ => False
def ai_L (E : AE) (ws : va_W) : ALo → List (Nat × Value) → Prop
  | [], [] => True
  | a :: as, v :: vs => (a.1 = v.1 ∧ ai_V E ws a.2 v.2) ∧ ai_L E ws as vs
  | _, _ => False
def ai_Ext (ws ws' : va_W) : Prop := ∀ (i a : Nat), ai_ad ws i = some a → ai_ad ws' i = some a
theorem ai_Ext.rf {ws : va_W} : ai_Ext ws ws := fun _ _ h => h
theorem ai_Ext.tr {a b c : va_W} (h : ai_Ext a b) (k : ai_Ext b c) : ai_Ext a c := fun i x q => k i x (h i x q)
theorem ai_V.mono {E : AE} {ws ws' : va_W} (h : ai_Ext ws ws') : ∀ {a : AV} {v : Value}, ai_V E ws a v → ai_V E ws' a v
  | .inl _, _, k => k
  | .inr (.inl _), _, k => k
  | .inr (.inr (.inl none)), _, k => k
  | .inr (.inr (.inl (some _))), _, k => k
  | .inr (.inr (.inr (.inl none))), _, k => k
  | .inr (.inr (.inr (.inl (some i)))), _, ⟨a, e, k⟩ => ⟨a, e, h i a k⟩
  | .inr (.inr (.inr (.inr _))), _, k => k
theorem ai_S.mono {E : AE} {ws ws' : va_W} (h : ai_Ext ws ws') : ∀ {a : List AV} {v : List Value}, ai_S E ws a v → ai_S E ws' a v
  | [], [], k => k
  | _ :: _, _ :: _, ⟨k, r⟩ => ⟨k.mono h, ai_S.mono h r⟩
  | [], _ :: _, k => k
  | _ :: _, [], k => k
theorem ai_L.mono {E : AE} {ws ws' : va_W} (h : ai_Ext ws ws') : ∀ {a : ALo} {v : List (Nat × Value)}, ai_L E ws a v → ai_L E ws' a v
  | [], [], k => k
  | _ :: _, _ :: _, ⟨⟨e, k⟩, r⟩ => ⟨⟨e, k.mono h⟩, ai_L.mono h r⟩
  | [], _ :: _, k => k
  | _ :: _, [], k => k
theorem ai_xcat (E : AE) {n : Nat} (h0 : ¬ n = 0) : (ai_xv E n).category = ai_wd (.inr (.inr (.inr (.inr n)))) := by
  unfold ai_xv ai_wd ai_cat
  by_cases h5 : n = 5
  · subst h5; rfl
  · by_cases h3 : n < 30
    · simp [h0, h5, h3, Value.category]
    · simp [h0, h5, h3, Value.category]
theorem ai_V_wd {E : AE} {ws : va_W} : ∀ {a : AV} {v : Value}, ai_V E ws a v → v.category = ai_wd a
  | .inl _, _, k => by have k : _ = _ := k; subst k; rfl
  | .inr (.inl _), _, ⟨_, e, _⟩ => by subst e; rfl
  | .inr (.inr (.inl none)), _, ⟨_, e⟩ => by subst e; rfl
  | .inr (.inr (.inl (some _))), _, k => by have k : _ = _ := k; subst k; rfl
  | .inr (.inr (.inr (.inl none))), _, k => by have k : _ = _ := k; subst k; rfl
  | .inr (.inr (.inr (.inl (some _)))), _, ⟨_, e, _⟩ => by subst e; rfl
  | .inr (.inr (.inr (.inr n))), v, k => by
    have k : if n = 0 then ∃ a, v = .ref a else v = ai_xv E n := k
    by_cases h0 : n = 0
    · rw [if_pos h0] at k
      obtain ⟨a, e⟩ := k
      subst e; subst h0; rfl
    · rw [if_neg h0] at k
      rw [k]
      exact ai_xcat E h0
theorem ai_V_int {E : AE} {ws : va_W} : ∀ {a : AV} {v : Value}, ai_cat a = 1 → ai_V E ws a v → ∃ x : Int32, v = .int x
  | .inl c, _, _, k => ⟨c, k⟩
  | .inr (.inl _), _, _, ⟨x, e, _⟩ => ⟨x, e⟩
  | .inr (.inr (.inl none)), _, h, _ => by cases h
  | .inr (.inr (.inl (some _))), _, h, _ => by cases h
  | .inr (.inr (.inr (.inl none))), _, h, _ => by cases h
  | .inr (.inr (.inr (.inl (some _)))), _, h, _ => by cases h
  | .inr (.inr (.inr (.inr n))), v, h, k => by
    have k : if n = 0 then ∃ a, v = .ref a else v = ai_xv E n := k
    have h : (if n = 0 then 3 else if n = 5 then 3 else if n < 30 then 2 else 1) = 1 := h
    by_cases h0 : n = 0
    · rw [if_pos h0] at h; cases h
    · rw [if_neg h0] at h k
      by_cases h5 : n = 5
      · rw [if_pos h5] at h; cases h
      · rw [if_neg h5] at h
        by_cases h3 : n < 30
        · rw [if_pos h3] at h; cases h
        · exact ⟨_, by rw [k, ai_xv, if_neg h5, if_neg h3]⟩
theorem ai_V_long {E : AE} {ws : va_W} : ∀ {a : AV} {v : Value}, ai_cat a = 2 → ai_V E ws a v → ∃ x : Int64, v = .long x
  | .inl c, _, h, _ => by cases h
  | .inr (.inl _), _, h, _ => by cases h
  | .inr (.inr (.inl none)), _, _, ⟨x, e⟩ => ⟨x, e⟩
  | .inr (.inr (.inl (some c))), _, _, k => ⟨c, k⟩
  | .inr (.inr (.inr (.inl none))), _, h, _ => by cases h
  | .inr (.inr (.inr (.inl (some _)))), _, h, _ => by cases h
  | .inr (.inr (.inr (.inr n))), v, h, k => by
    have k : if n = 0 then ∃ a, v = .ref a else v = ai_xv E n := k
    have h : (if n = 0 then 3 else if n = 5 then 3 else if n < 30 then 2 else 1) = 2 := h
    by_cases h0 : n = 0
    · rw [if_pos h0] at h; cases h
    · rw [if_neg h0] at h k
      by_cases h5 : n = 5
      · rw [if_pos h5] at h; cases h
      · rw [if_neg h5] at h
        by_cases h3 : n < 30
        · exact ⟨_, by rw [k, ai_xv, if_neg h5, if_pos h3]⟩
        · rw [if_neg h3] at h; cases h
theorem ai_V_ref {E : AE} {ws : va_W} : ∀ {a : AV} {v : Value}, ai_cat a = 3 → ai_V E ws a v → v = .null ∨ ∃ x : Nat, v = .ref x
  | .inl c, _, h, _ => by cases h
  | .inr (.inl _), _, h, _ => by cases h
  | .inr (.inr (.inl none)), _, h, _ => by cases h
  | .inr (.inr (.inl (some c))), _, h, _ => by cases h
  | .inr (.inr (.inr (.inl none))), _, _, k => Or.inl k
  | .inr (.inr (.inr (.inl (some _)))), _, _, ⟨a, e, _⟩ => Or.inr ⟨a, e⟩
  | .inr (.inr (.inr (.inr n))), v, h, k => by
    have k : if n = 0 then ∃ a, v = .ref a else v = ai_xv E n := k
    have h : (if n = 0 then 3 else if n = 5 then 3 else if n < 30 then 2 else 1) = 3 := h
    by_cases h0 : n = 0
    · rw [if_pos h0] at k; exact Or.inr k
    · rw [if_neg h0] at h k
      by_cases h5 : n = 5
      · exact Or.inr ⟨_, by rw [k, ai_xv, if_pos h5]⟩
      · rw [if_neg h5] at h
        by_cases h3 : n < 30
        · rw [if_pos h3] at h; cases h
        · rw [if_neg h3] at h; cases h
theorem ai_find {E : AE} {ws : va_W} (j : Nat) : ∀ {lo : ALo} {lv : List (Nat × Value)}, ai_L E ws lo lv → ∀ {q : Nat × AV}, lo.find? (fun q => q.1 == j) = some q → ∃ (k : Nat) (v : Value), lv[k]? = some (j, v) ∧ ai_V E ws q.2 v
  | [], _, _, _, h => by cases h
  | a :: as, [], k, _, _ => k.elim
  | a :: as, v :: vs, ⟨⟨e, k⟩, r⟩, q, h => by
    rw [List.find?_cons] at h
    by_cases c : (a.1 == j) = true
    · rw [c] at h
      cases h
      exact ⟨0, v.2, by rw [show j = v.1 from (beq_iff_eq.mp c).symm.trans e]; rfl, k⟩
    · rw [Bool.not_eq_true] at c
      rw [c] at h
      obtain ⟨k2, w, h1, h2⟩ := ai_find j r h
      exact ⟨k2 + 1, w, h1, h2⟩
def ai_fl (j c : Nat) (q : Nat × AV) : Bool := if c = 2 then !(q.1 == j) && (!(q.1 == j + 1) && !(q.1 + 1 == j && ai_wd q.2 == 2)) else !(q.1 == j) && !(q.1 + 1 == j && ai_wd q.2 == 2)
def ai_fv (j c : Nat) (q : Nat × Value) : Bool := if c = 2 then !(q.1 == j) && (!(q.1 == j + 1) && !(q.1 + 1 == j && q.2.category == 2)) else !(q.1 == j) && !(q.1 + 1 == j && q.2.category == 2)
theorem ai_filter {E : AE} {ws : va_W} (j c : Nat) : ∀ {lo : ALo} {lv : List (Nat × Value)}, ai_L E ws lo lv → ai_L E ws (lo.filter (ai_fl j c)) (lv.filter (ai_fv j c))
  | [], [], _ => trivial
  | [], _ :: _, k => k.elim
  | _ :: _, [], k => k.elim
  | a :: as, v :: vs, ⟨⟨e, k⟩, r⟩ => by
    have hs : ai_fl j c a = ai_fv j c v := by unfold ai_fl ai_fv; rw [ai_V_wd k, e]
    rw [List.filter_cons, List.filter_cons, hs]
    by_cases h : ai_fv j c v = true
    · rw [if_pos h, if_pos h]; exact ⟨⟨e, k⟩, ai_filter j c r⟩
    · rw [if_neg h, if_neg h]; exact ai_filter j c r
def ai_top : AV := .inr (.inl (-2147483648, 2147483647))
theorem ai_top_ok {E : AE} {ws : va_W} (x : Int32) : ai_V E ws ai_top (.int x) := ⟨x, rfl, by have := Int32.le_toInt x; simp at this ⊢; omega, by have := Int32.toInt_lt x; simp at this ⊢; omega⟩
/-! rows of one kind together -/
def ai_bi : Instr → Nat → Option (Int32 → Int32 → Int32)
  | .iadd, 1 => some (fun x y => x + y)
  | .isub, 1 => some (fun x y => x - y)
  | .imul, 1 => some (fun x y => x * y)
  | .iand, 1 => some (fun x y => x &&& y)
  | .ior, 1 => some (fun x y => x ||| y)
  | .ixor, 1 => some (fun x y => x ^^^ y)
  | .ishl, 1 => some (fun x y => x <<< (y &&& 31))
  | .ishr, 1 => some (fun x y => x >>> (y &&& 31))
  | .iushr, 1 => some (fun x y => (x.toUInt32 >>> (y.toUInt32 &&& Int32.toUInt32 31)).toInt32)
  | _, _ => none
def ai_bl : Instr → Nat → Option (Int64 → Int64 → Int64)
  | .ladd, 1 => some (fun x y => x + y)
  | .lsub, 1 => some (fun x y => x - y)
  | .land, 1 => some (fun x y => x &&& y)
  | .lor, 1 => some (fun x y => x ||| y)
  | _, _ => none
def ai_bs : Instr → Nat → Option (Int64 → Int32 → Int64)
  | .lshl, 1 => some (fun x y => x <<< (y.toInt64 &&& 63))
  | .lshr, 1 => some (fun x y => x >>> (y.toInt64 &&& 63))
  | .lushr, 1 => some (fun x y => (x.toUInt64 >>> (y.toInt64.toUInt64 &&& Int64.toUInt64 63)).toInt64)
  | _, _ => none
def ai_cs : Instr → Nat → Option AV
  | .iconst n, 1 => some (.inl (Int32.ofInt n))
  | .bipush n, 2 => some (.inl (Int8.ofInt n).toInt32)
  | .sipush n, 3 => some (.inl (Int16.ofInt n).toInt32)
  | .lconst n, 1 => some (.inr (.inr (.inl (some (Int64.ofNat (n : Nat))))))
  | .aconst_null, 1 => some (.inr (.inr (.inr (.inl none))))
  | _, _ => none
def ai_ld : Instr → Nat → Option (Nat × Nat)
  | .iload_n k, 1 => some (k.val, 1)
  | .iload k, 2 => some (k, 1)
  | .lload_n k, 1 => some (k.val, 2)
  | .lload k, 2 => some (k, 2)
  | .aload_n k, 1 => some (k.val, 3)
  | .aload k, 2 => some (k, 3)
  | _, _ => none
def ai_sr : Instr → Nat → Option (Nat × Nat)
  | .istore_n k, 1 => some (k.val, 1)
  | .istore k, 2 => some (k, 1)
  | .lstore_n k, 1 => some (k.val, 2)
  | .lstore k, 2 => some (k, 2)
  | .astore_n k, 1 => some (k.val, 3)
  | .astore k, 2 => some (k, 3)
  | _, _ => none
section AIR
variable {p : Program} {l : Launch} {e : Env} {R : Room} {s : State} {m : MethodId} {args : Array Value} {below : List Frame} {meth : Method} {c : Code} {H : Heap} {locs : List Loc} {cells slots : Nat} {Q : State → Prop}
variable {cc : ByteArray} {pc : Nat} {ls : Array Slot} {rest : List Value} {i : Instr} {len : Nat}
theorem ai_bi_ok (hx : p.tables.exec = Jvm.exec) (hb : c.code = cc) {f : Int32 → Int32 → Int32} (h : ai_bi i len = some f) (hd : decode cc pc = .ok (i, len)) {x y : Int32}
    (k : W p l e R s m args below meth c H locs cells slots Q (F0 m (pc + len) ls (.int (f x y) :: rest))) : W p l e R s m args below meth c H locs cells slots Q (F0 m pc ls (.int y :: .int x :: rest)) := by
  unfold ai_bi at h
  split at h
  · cases h; exact lv_iadd hx hb hd k
  · cases h; exact lv_isub hx hb hd k
  · cases h; exact lv_imul hx hb hd k
  · cases h; exact lv_iand hx hb hd k
  · cases h; exact lv_ior hx hb hd k
  · cases h; exact lv_ixor hx hb hd k
  · cases h; exact lv_ishl hx hb hd k
  · cases h; exact lv_ishr hx hb hd k
  · cases h; exact lv_iushr hx hb hd rfl k
  · cases h
theorem ai_bl_ok (hx : p.tables.exec = Jvm.exec) (hb : c.code = cc) {f : Int64 → Int64 → Int64} (h : ai_bl i len = some f) (hd : decode cc pc = .ok (i, len)) {x y : Int64}
    (k : W p l e R s m args below meth c H locs cells slots Q (F0 m (pc + len) ls (.long (f x y) :: rest))) : W p l e R s m args below meth c H locs cells slots Q (F0 m pc ls (.long y :: .long x :: rest)) := by
  unfold ai_bl at h
  split at h
  · cases h; exact lv_ladd hx hb hd k
  · cases h; exact lv_lsub hx hb hd k
  · cases h; exact lv_land hx hb hd k
  · cases h; exact lv_lor hx hb hd k
  · cases h
theorem ai_bs_ok (hx : p.tables.exec = Jvm.exec) (hb : c.code = cc) {f : Int64 → Int32 → Int64} (h : ai_bs i len = some f) (hd : decode cc pc = .ok (i, len)) {x : Int64} {y : Int32}
    (k : W p l e R s m args below meth c H locs cells slots Q (F0 m (pc + len) ls (.long (f x y) :: rest))) : W p l e R s m args below meth c H locs cells slots Q (F0 m pc ls (.int y :: .long x :: rest)) := by
  unfold ai_bs at h
  split at h
  · cases h; exact lv_lshl hx hb hd rfl k
  · cases h; exact lv_lshr hx hb hd rfl k
  · cases h; exact lv_lushr hx hb hd rfl k
  · cases h
theorem ai_cs_ok (hx : p.tables.exec = Jvm.exec) (hb : c.code = cc) {a : AV} (h : ai_cs i len = some a) (hd : decode cc pc = .ok (i, len)) (E : AE) (ws : va_W)
    (k : ∀ v : Value, ai_V E ws a v → W p l e R s m args below meth c H locs cells slots Q (F0 m (pc + len) ls (v :: rest))) : W p l e R s m args below meth c H locs cells slots Q (F0 m pc ls rest) := by
  unfold ai_cs at h
  split at h
  · cases h; exact lv_iconst hx hb hd rfl (k _ rfl)
  · cases h; exact lv_bipush hx hb hd rfl (k _ rfl)
  · cases h; exact lv_sipush hx hb hd rfl (k _ rfl)
  · cases h; exact lv_lconst hx hb hd rfl (k _ rfl)
  · cases h; exact lv_null hx hb hd (k _ rfl)
  · cases h
theorem ai_ld_ok (hx : p.tables.exec = Jvm.exec) (hb : c.code = cc) {j t : Nat} (h : ai_ld i len = some (j, t)) (hd : decode cc pc = .ok (i, len)) {v : Value} (hl : ls[j]? = some (.val v)) {E : AE} {ws : va_W} {a : AV} (ha : ai_cat a = t) (hv : ai_V E ws a v)
    (k : W p l e R s m args below meth c H locs cells slots Q (F0 m (pc + len) ls (v :: rest))) : W p l e R s m args below meth c H locs cells slots Q (F0 m pc ls rest) := by
  unfold ai_ld at h
  split at h
  · cases h; obtain ⟨x, rfl⟩ := ai_V_int ha hv; exact lv_iload_n hx hb hd rfl hl k
  · cases h; obtain ⟨x, rfl⟩ := ai_V_int ha hv; exact lv_iload hx hb hd hl k
  · cases h; obtain ⟨x, rfl⟩ := ai_V_long ha hv; exact lv_lload_n hx hb hd rfl hl k
  · cases h; obtain ⟨x, rfl⟩ := ai_V_long ha hv; exact lv_lload hx hb hd hl k
  · cases h
    rcases ai_V_ref ha hv with rfl | ⟨x, rfl⟩
    · exact lv_aload_nN hx hb hd rfl hl k
    · exact lv_aload_n hx hb hd rfl hl k
  · cases h
    rcases ai_V_ref ha hv with rfl | ⟨x, rfl⟩
    · exact lv_aloadN hx hb hd hl k
    · exact lv_aload hx hb hd hl k
  · cases h
theorem ai_sr_ok (hx : p.tables.exec = Jvm.exec) (hb : c.code = cc) {j t nL : Nat} {lv : List (Nat × Value)} (h : ai_sr i len = some (j, t)) (hd : decode cc pc = .ok (i, len)) (hl : lv_has ls nL lv) (hn : j < nL) (hn2 : t = 2 → j + 1 < nL) {v : Value} {E : AE} {ws : va_W} {a : AV} (ha : ai_cat a = t) (hv : ai_V E ws a v)
    (k : ∀ ls' : Array Slot, lv_has ls' nL ((j, v) :: lv.filter (ai_fv j t)) → W p l e R s m args below meth c H locs cells slots Q (F0 m (pc + len) ls' rest)) : W p l e R s m args below meth c H locs cells slots Q (F0 m pc ls (v :: rest)) := by
  unfold ai_sr at h
  split at h
  · cases h; obtain ⟨x, rfl⟩ := ai_V_int ha hv; exact lv_istore_n hx hb hd rfl hl hn rfl k
  · cases h; obtain ⟨x, rfl⟩ := ai_V_int ha hv; exact lv_istore hx hb hd hl hn rfl k
  · cases h; obtain ⟨x, rfl⟩ := ai_V_long ha hv; exact lv_lstore_n hx hb hd rfl hl (hn2 rfl) rfl k
  · cases h; obtain ⟨x, rfl⟩ := ai_V_long ha hv; exact lv_lstore hx hb hd hl (hn2 rfl) rfl k
  · cases h
    rcases ai_V_ref ha hv with rfl | ⟨x, rfl⟩
    · exact lv_astore_nN hx hb hd rfl hl hn rfl k
    · exact lv_astore_n hx hb hd rfl hl hn rfl k
  · cases h
    rcases ai_V_ref ha hv with rfl | ⟨x, rfl⟩
    · exact lv_astoreN hx hb hd hl hn rfl k
    · exact lv_astore hx hb hd hl hn rfl k
  · cases h
end AIR
end
section
/-! ===== groups of instructions that move a frame alone, each with its law ===== -/
def ai_g1 (i : Instr) (len pc : Nat) (lo : ALo) (st : List AV) : Option (Nat × ALo × List AV) := match ai_cs i len with
  | some a => some (pc + len, lo, a :: st)
  | none => none
def ai_g2 (i : Instr) (len pc : Nat) (lo : ALo) (st : List AV) : Option (Nat × ALo × List AV) := match ai_ld i len with
  | none => none
  | some jt => match lo.find? (fun q => q.1 == jt.1) with
    | none => none
    | some q => if ai_cat q.2 = jt.2 then some (pc + len, lo, q.2 :: st) else none
def ai_g3 (nL : Nat) (i : Instr) (len pc : Nat) (lo : ALo) (st : List AV) : Option (Nat × ALo × List AV) := match ai_sr i len, st with
  | some jt, a :: st' => if ai_cat a = jt.2 ∧ jt.1 < nL ∧ (jt.2 = 2 → jt.1 + 1 < nL) then some (pc + len, (jt.1, a) :: lo.filter (ai_fl jt.1 jt.2), st') else none
  | _, _ => none
def ai_ri (f : Int32 → Int32 → Int32) (x y : AV) : AV := match x, y with
  | .inl a, .inl b => .inl (f a b)
  | _, _ => ai_top
/-- an unknown by its name, moved by a known number -/
def ai_off (n : Nat) (c : Int) : Option Nat := if 1000 ≤ n ∧ 0 ≤ (((n - 1000) % 1024 : Nat) : Int) + c ∧ (((n - 1000) % 1024 : Nat) : Int) + c < 1024 then some ((n : Int) + c).toNat else none
def ai_ox (n : Nat) (c : Int) : Option AV := match ai_off n c with
  | some k => some (.inr (.inr (.inr (.inr k))))
  | none => none
def ai_rx (i : Instr) (x y : AV) : Option AV := match i, x, y with
  | .iadd, .inr (.inr (.inr (.inr n))), .inl c => ai_ox n c.toInt
  | .iadd, .inl c, .inr (.inr (.inr (.inr n))) => ai_ox n c.toInt
  | .isub, .inr (.inr (.inr (.inr n))), .inl c => ai_ox n (-c.toInt)
  | _, _, _ => none
def ai_r0 (op : Option Int32) (i : Instr) (f : Int32 → Int32 → Int32) (x y : AV) : AV := match op with
  | some k => if i = .iand ∧ x = .inr (.inr (.inr (.inr 40))) ∧ y = .inl 15 then .inl k else ai_ri f x y
  | none => ai_ri f x y
def ai_r1 (op : Option Int32) (i : Instr) (f : Int32 → Int32 → Int32) (x y : AV) : AV := match ai_rx i x y with
  | some a => a
  | none => ai_r0 op i f x y
def ai_g4 (op : Option Int32) (i : Instr) (len pc : Nat) (lo : ALo) (st : List AV) : Option (Nat × ALo × List AV) := match ai_bi i len, st with
  | some f, y :: x :: st' => if ai_cat x = 1 ∧ ai_cat y = 1 then some (pc + len, lo, ai_r1 op i f x y :: st') else none
  | _, _ => none
def ai_rl (f : Int64 → Int64 → Int64) (x y : AV) : AV := match x, y with
  | .inr (.inr (.inl (some a))), .inr (.inr (.inl (some b))) => .inr (.inr (.inl (some (f a b))))
  | _, _ => .inr (.inr (.inl none))
def ai_xn : AV → Nat
  | .inr (.inr (.inr (.inr n))) => n
  | _ => 0
def ai_r2 (i : Instr) (f : Int64 → Int64 → Int64) (x y : AV) : AV :=
  if i = .land ∧ y = .inr (.inr (.inl (some 4294967295))) ∧ x = .inr (.inr (.inr (.inr 4))) then .inr (.inr (.inr (.inr 6)))
  else if i = .lor ∧ y = .inr (.inr (.inr (.inr 6))) ∧ x = .inr (.inr (.inr (.inr 3))) then .inr (.inr (.inr (.inr 1)))
  else if i = .land ∧ y = .inr (.inr (.inl (some 255))) ∧ x = .inr (.inr (.inr (.inr (ai_xn x)))) ∧ 10 ≤ ai_xn x ∧ ai_xn x < 18 then .inr (.inr (.inr (.inr (ai_xn x + 10))))
  else ai_rl f x y
def ai_g5 (i : Instr) (len pc : Nat) (lo : ALo) (st : List AV) : Option (Nat × ALo × List AV) := match ai_bl i len, st with
  | some f, y :: x :: st' => if ai_cat x = 2 ∧ ai_cat y = 2 then some (pc + len, lo, ai_r2 i f x y :: st') else none
  | _, _ => none
def ai_rs (f : Int64 → Int32 → Int64) (x y : AV) : AV := match x, y with
  | .inr (.inr (.inl (some a))), .inl b => .inr (.inr (.inl (some (f a b))))
  | _, _ => .inr (.inr (.inl none))
def ai_kn : AV → Nat
  | .inl c => c.toNatClampNeg / 8
  | _ => 0
def ai_r3 (i : Instr) (f : Int64 → Int32 → Int64) (x y : AV) : AV :=
  if i = .lshl ∧ x = .inr (.inr (.inr (.inr 2))) ∧ y = .inl 32 then .inr (.inr (.inr (.inr 3)))
  else if i = .lshr ∧ x = .inr (.inr (.inr (.inr 1))) ∧ y = .inl (nI (8 * ai_kn y)) ∧ ai_kn y < 8 then .inr (.inr (.inr (.inr (10 + ai_kn y))))
  else ai_rs f x y
def ai_g6 (i : Instr) (len pc : Nat) (lo : ALo) (st : List AV) : Option (Nat × ALo × List AV) := match ai_bs i len, st with
  | some f, y :: x :: st' => if ai_cat x = 2 ∧ ai_cat y = 1 then some (pc + len, lo, ai_r3 i f x y :: st') else none
  | _, _ => none
def ai_i2l (x : AV) : AV := match x with
  | .inl c => .inr (.inr (.inl (some c.toInt64)))
  | .inr (.inr (.inr (.inr n))) => if n = 41 then .inr (.inr (.inr (.inr 2))) else if n = 42 then .inr (.inr (.inr (.inr 4))) else .inr (.inr (.inl none))
  | _ => .inr (.inr (.inl none))
def ai_l2i (x : AV) : AV := match x with
  | .inr (.inr (.inl (some c))) => .inl c.toInt32
  | .inr (.inr (.inr (.inr n))) => if 20 ≤ n ∧ n < 28 then .inr (.inr (.inr (.inr (n + 10)))) else ai_top
  | _ => ai_top
def ai_i2b (x : AV) : AV := match x with
  | .inl c => .inl c.toInt8.toInt32
  | _ => ai_top
def ai_g7 (i : Instr) (len pc : Nat) (lo : ALo) (st : List AV) : Option (Nat × ALo × List AV) := match i, len, st with
  | .i2l, 1, x :: st' => if ai_cat x = 1 then some (pc + 1, lo, ai_i2l x :: st') else none
  | .l2i, 1, x :: st' => if ai_cat x = 2 then some (pc + 1, lo, ai_l2i x :: st') else none
  | .i2b, 1, x :: st' => if ai_cat x = 1 then some (pc + 1, lo, ai_i2b x :: st') else none
  | _, _, _ => none
def ai_lc (x y : AV) : AV := match x, y with
  | .inr (.inr (.inl (some a))), .inr (.inr (.inl (some b))) => .inl (lg_cmp a b)
  | _, _ => .inr (.inl (-1, 1))
def ai_g8 (nL : Nat) (i : Instr) (len pc : Nat) (lo : ALo) (st : List AV) : Option (Nat × ALo × List AV) := match i, len, st with
  | .lcmp, 1, y :: x :: st' => if ai_cat x = 2 ∧ ai_cat y = 2 then some (pc + 1, lo, ai_lc x y :: st') else none
  | .dup, 1, x :: st' => if ai_wd x = 1 then some (pc + 1, lo, x :: x :: st') else none
  | .dup2, 1, x :: y :: st' => if ai_wd x = 1 ∧ ai_wd y = 1 then some (pc + 1, lo, x :: y :: x :: y :: st') else none
  | .pop, 1, x :: st' => if ai_wd x = 1 then some (pc + 1, lo, st') else none
  | .iinc j n, 3, st => match lo.find? (fun q => q.1 == j) with
    | some (_, .inl c) => if j < nL then some (pc + 3, (j, .inl (c + Int32.ofInt n)) :: lo.filter (ai_fl j 1), st) else none
    | some (_, .inr (.inr (.inr (.inr k)))) => match ai_ox k n with
      | some a => if j < nL then some (pc + 3, (j, a) :: lo.filter (ai_fl j 1), st) else none
      | none => none
    | _ => none
  | .goto off, 3, st => if 0 ≤ (pc : Int) + off then some (((pc : Int) + off).toNat, lo, st) else none
  | _, _, _ => none
def ai_iv : AV → Option (Int × Int)
  | .inl c => some (c.toInt, c.toInt)
  | .inr (.inl q) => some q
  | _ => none
def ai_lt (a b : Int × Int) : Option Bool := if a.2 < b.1 then some true else if b.2 ≤ a.1 then some false else none
def ai_eq (a b : Int × Int) : Option Bool := if a.2 < b.1 then some false else if b.2 < a.1 then some false else if a.1 = a.2 ∧ b.1 = b.2 ∧ a.1 = b.1 then some true else none
def ai_not (b : Option Bool) : Option Bool := match b with
  | some true => some false
  | some false => some true
  | none => none
def ai_cmp (k : Jvm.ClassFile.Cond) (a b : Int × Int) : Option Bool := match k with
  | .eq => ai_eq a b
  | .ne => ai_not (ai_eq a b)
  | .lt => ai_lt a b
  | .ge => ai_not (ai_lt a b)
  | .gt => ai_lt b a
  | .le => ai_not (ai_lt b a)
def ai_rel (k : Jvm.ClassFile.Cond) (x y : Int32) : Prop := match k with
  | .eq => x = y
  | .ne => ¬ x = y
  | .lt => x < y
  | .ge => y ≤ x
  | .gt => y < x
  | .le => x ≤ y
def ai_to (pc : Nat) (off : Int) (b : Option Bool) : Option Nat := if 0 ≤ (pc : Int) + off then (match b with
  | some true => some ((pc : Int) + off).toNat
  | some false => some (pc + 3)
  | none => none) else none
def ai_bo (k : Jvm.ClassFile.Cond) (x y : AV) : Option Bool := match ai_iv x, ai_iv y with
  | some a, some b => ai_cmp k a b
  | _, _ => none
def ai_g9 (i : Instr) (len pc : Nat) (lo : ALo) (st : List AV) : Option (Nat × ALo × List AV) := match i, len, st with
  | .if_icmp k off, 3, y :: x :: st' => match ai_to pc off (ai_bo k x y) with
    | some t => some (t, lo, st')
    | none => none
  | .ifCond k off, 3, x :: st' => match ai_to pc off (ai_bo k x (.inl 0)) with
    | some t => some (t, lo, st')
    | none => none
  | _, _, _ => none
def ai_sw (pc : Nat) (dflt lo hi : Int) (offs : Array Int) (q : Int × Int) : Option Nat :=
  if q.2 < lo ∨ hi < q.1 then (if 0 ≤ (pc : Int) + dflt then some ((pc : Int) + dflt).toNat else none)
  else if q.1 = q.2 then (match offs[(q.1 - lo).toNat]? with
    | some off => if 0 ≤ (pc : Int) + off then some ((pc : Int) + off).toNat else none
    | none => none)
  else none
def ai_g10 (i : Instr) (len pc : Nat) (lo : ALo) (st : List AV) : Option (Nat × ALo × List AV) := match i, st with
  | .tableswitch d a b offs, x :: st' => match ai_iv x with
    | some q => match ai_sw pc d a b offs q with
      | some t => some (t, lo, st')
      | none => none
    | none => none
  | _, _ => none
/-! what stands for the answers -/
section AIV
variable {E : AE} {ws : va_W}
theorem ai_bi_iand {len : Nat} {f : Int32 → Int32 → Int32} (h : ai_bi .iand len = some f) : f = fun x y => x &&& y := by
  match len, h with
  | 0, h => cases h
  | 1, h => exact (Option.some.inj h).symm
  | n + 2, h => cases h
theorem ai_bl_land {len : Nat} {f : Int64 → Int64 → Int64} (h : ai_bl .land len = some f) : f = fun x y => x &&& y := by
  match len, h with
  | 0, h => cases h
  | 1, h => exact (Option.some.inj h).symm
  | n + 2, h => cases h
theorem ai_bl_lor {len : Nat} {f : Int64 → Int64 → Int64} (h : ai_bl .lor len = some f) : f = fun x y => x ||| y := by
  match len, h with
  | 0, h => cases h
  | 1, h => exact (Option.some.inj h).symm
  | n + 2, h => cases h
theorem ai_bs_lshl {len : Nat} {f : Int64 → Int32 → Int64} (h : ai_bs .lshl len = some f) : f = fun (x : Int64) (y : Int32) => x <<< (y.toInt64 &&& 63) := by
  match len, h with
  | 0, h => cases h
  | 1, h => exact (Option.some.inj h).symm
  | n + 2, h => cases h
theorem ai_bs_lshr {len : Nat} {f : Int64 → Int32 → Int64} (h : ai_bs .lshr len = some f) : f = fun (x : Int64) (y : Int32) => x >>> (y.toInt64 &&& 63) := by
  match len, h with
  | 0, h => cases h
  | 1, h => exact (Option.some.inj h).symm
  | n + 2, h => cases h
theorem ai_VX {n : Nat} (h0 : ¬ n = 0) {v : Value} : ai_V E ws (.inr (.inr (.inr (.inr n)))) v ↔ v = ai_xv E n := by
  show (if n = 0 then ∃ a, v = .ref a else v = ai_xv E n) ↔ _
  rw [if_neg h0]
theorem ai_ri_ok {f : Int32 → Int32 → Int32} {x y : AV} {a b : Int32} (hx : ai_V E ws x (.int a)) (hy : ai_V E ws y (.int b)) : ai_V E ws (ai_ri f x y) (.int (f a b)) := by
  unfold ai_ri
  split
  · have h1 : Value.int a = .int _ := hx
    have h2 : Value.int b = .int _ := hy
    cases h1; cases h2
    rfl
  · exact ai_top_ok _
theorem ai_r0_ok {op : Option Int32} (hop : ∀ k, op = some k → e_0 E &&& 15 = k) {i : Instr} {len : Nat} {f : Int32 → Int32 → Int32} (h : ai_bi i len = some f) {x y : AV} {a b : Int32} (hx : ai_V E ws x (.int a)) (hy : ai_V E ws y (.int b)) : ai_V E ws (ai_r0 op i f x y) (.int (f a b)) := by
  unfold ai_r0
  split
  case h_2 => exact ai_ri_ok hx hy
  next k =>
  split
  · next q =>
    obtain ⟨rfl, rfl, rfl⟩ := q
    rw [ai_bi_iand h]
    have h1 := (ai_VX (by decide)).mp hx
    have h2 : Value.int b = .int 15 := hy
    obtain rfl := Value.int.inj h2
    have h3 : Value.int a = .int (e_0 E) := h1
    obtain rfl := Value.int.inj h3
    exact congrArg Value.int (hop k rfl)
  · exact ai_ri_ok hx hy
theorem ai_off_ok (E : AE) {n k : Nat} {c : Int} (h : ai_off n c = some k) : 1000 ≤ n ∧ 1000 ≤ k ∧ ai_sv E k = ai_sv E n + Int32.ofInt c := by
  unfold ai_off at h
  split at h
  · next q =>
    obtain ⟨q1, q2, q3⟩ := q
    have hk : k = ((n : Int) + c).toNat := (Option.some.inj h).symm
    have e1 : (k - 1000) / 1024 = (n - 1000) / 1024 := by omega
    have e2 : (((k - 1000) % 1024 : Nat) : Int) = (((n - 1000) % 1024 : Nat) : Int) + c := by omega
    refine ⟨q1, by omega, ?_⟩
    unfold ai_sv
    rw [e1, e2, show (((n - 1000) % 1024 : Nat) : Int) + c - 512 = ((((n - 1000) % 1024 : Nat) : Int) - 512) + c by omega, Int32.ofInt_add, Int32.add_assoc]
  · cases h
theorem ai_xv_s (E : AE) {n : Nat} (h : 1000 ≤ n) : ai_xv E n = .int (ai_sv E n) := by
  rw [ai_xv, if_neg (by omega), if_neg (by omega), ai_xi, if_pos h]
theorem ai_ox_ok {n : Nat} {c : Int} {a : AV} (h : ai_ox n c = some a) {v : Value} (hv : ai_V E ws (.inr (.inr (.inr (.inr n)))) v) : ∃ x : Int32, v = .int x ∧ ai_V E ws a (.int (x + Int32.ofInt c)) := by
  unfold ai_ox at h
  split at h
  · next k hk =>
    cases h
    obtain ⟨h1, h2, h3⟩ := ai_off_ok E hk
    have hv := (ai_VX (by omega)).mp hv
    rw [ai_xv_s E h1] at hv
    exact ⟨_, hv, (ai_VX (by omega)).mpr (by rw [ai_xv_s E h2, h3])⟩
  · cases h
theorem ai_bi_iadd {len : Nat} {f : Int32 → Int32 → Int32} (h : ai_bi .iadd len = some f) : f = fun x y => x + y := by
  match len, h with
  | 0, h => cases h
  | 1, h => exact (Option.some.inj h).symm
  | n + 2, h => cases h
theorem ai_bi_isub {len : Nat} {f : Int32 → Int32 → Int32} (h : ai_bi .isub len = some f) : f = fun x y => x - y := by
  match len, h with
  | 0, h => cases h
  | 1, h => exact (Option.some.inj h).symm
  | n + 2, h => cases h
theorem ai_rx_ok {i : Instr} {len : Nat} {f : Int32 → Int32 → Int32} (h : ai_bi i len = some f) {x y r : AV} (hr : ai_rx i x y = some r) {a b : Int32} (hx : ai_V E ws x (.int a)) (hy : ai_V E ws y (.int b)) : ai_V E ws r (.int (f a b)) := by
  unfold ai_rx at hr
  split at hr
  · next n c =>
    rw [ai_bi_iadd h]
    have h2 : Value.int b = .int c := hy
    obtain rfl := Value.int.inj h2
    obtain ⟨q, e, hq⟩ := ai_ox_ok hr hx
    obtain rfl := Value.int.inj e
    rw [Int32.ofInt_toInt] at hq
    exact hq
  · next c n =>
    rw [ai_bi_iadd h]
    have h2 : Value.int a = .int c := hx
    obtain rfl := Value.int.inj h2
    obtain ⟨q, e, hq⟩ := ai_ox_ok hr hy
    obtain rfl := Value.int.inj e
    rw [Int32.ofInt_toInt, Int32.add_comm] at hq
    exact hq
  · next n c =>
    rw [ai_bi_isub h]
    have h2 : Value.int b = .int c := hy
    obtain rfl := Value.int.inj h2
    obtain ⟨q, e, hq⟩ := ai_ox_ok hr hx
    obtain rfl := Value.int.inj e
    rw [Int32.ofInt_neg, Int32.ofInt_toInt, ← Int32.sub_eq_add_neg] at hq
    exact hq
  · cases hr
theorem ai_r1_ok {op : Option Int32} (hop : ∀ k, op = some k → e_0 E &&& 15 = k) {i : Instr} {len : Nat} {f : Int32 → Int32 → Int32} (h : ai_bi i len = some f) {x y : AV} {a b : Int32} (hx : ai_V E ws x (.int a)) (hy : ai_V E ws y (.int b)) : ai_V E ws (ai_r1 op i f x y) (.int (f a b)) := by
  unfold ai_r1
  split
  · next r hr => exact ai_rx_ok h hr hx hy
  · exact ai_r0_ok hop h hx hy
theorem ai_rl_ok {f : Int64 → Int64 → Int64} {x y : AV} {a b : Int64} (hx : ai_V E ws x (.long a)) (hy : ai_V E ws y (.long b)) : ai_V E ws (ai_rl f x y) (.long (f a b)) := by
  unfold ai_rl
  split
  · have h1 : Value.long a = .long _ := hx
    have h2 : Value.long b = .long _ := hy
    cases h1; cases h2
    rfl
  · exact ⟨_, rfl⟩
theorem ai_r2_ok {i : Instr} {len : Nat} {f : Int64 → Int64 → Int64} (h : ai_bl i len = some f) {x y : AV} {a b : Int64} (hx : ai_V E ws x (.long a)) (hy : ai_V E ws y (.long b)) : ai_V E ws (ai_r2 i f x y) (.long (f a b)) := by
  unfold ai_r2
  split
  · next q =>
    obtain ⟨rfl, rfl, rfl⟩ := q
    rw [ai_bl_land h]
    have h1 : Value.long a = .long (e_2 E).toInt64 := (ai_VX (by decide)).mp hx
    have h2 : Value.long b = .long 4294967295 := hy
    obtain rfl := Value.long.inj h1
    obtain rfl := Value.long.inj h2
    exact (ai_VX (by decide)).mpr rfl
  · split
    · next q =>
      obtain ⟨rfl, rfl, rfl⟩ := q
      rw [ai_bl_lor h]
      have h1 : Value.long a = .long ((e_1 E).toInt64 <<< ((32 : Int32).toInt64 &&& 63)) := (ai_VX (by decide)).mp hx
      have h2 : Value.long b = .long ((e_2 E).toInt64 &&& 4294967295) := (ai_VX (by decide)).mp hy
      obtain rfl := Value.long.inj h1
      obtain rfl := Value.long.inj h2
      exact (ai_VX (by decide)).mpr rfl
    · split
      · next q =>
        obtain ⟨rfl, rfl, q3, q4, q5⟩ := q
        rw [ai_bl_land h]
        generalize ai_xn x = n at q3 q4 q5
        subst q3
        have h1 := (ai_VX (by omega)).mp hx
        have h2 : Value.long b = .long 255 := hy
        obtain rfl := Value.long.inj h2
        rw [ai_xv, if_neg (by omega), if_pos (by omega)] at h1
        obtain rfl := Value.long.inj h1
        refine (ai_VX (by omega)).mpr ?_
        rw [ai_xv, if_neg (by omega), if_pos (by omega)]
        refine congrArg Value.long ?_
        unfold ai_xl
        rw [if_neg (by omega), if_neg (by omega), if_neg (by omega), if_neg (by omega), if_neg (by omega), if_pos (by omega), if_neg (by omega), if_neg (by omega), if_neg (by omega), if_neg (by omega), if_neg (by omega), if_neg (by omega)]
        rw [show n + 10 - 20 = n - 10 by omega]
      · exact ai_rl_ok hx hy
theorem ai_rs_ok {f : Int64 → Int32 → Int64} {x y : AV} {a : Int64} {b : Int32} (hx : ai_V E ws x (.long a)) (hy : ai_V E ws y (.int b)) : ai_V E ws (ai_rs f x y) (.long (f a b)) := by
  unfold ai_rs
  split
  · have h1 : Value.long a = .long _ := hx
    have h2 : Value.int b = .int _ := hy
    cases h1; cases h2
    rfl
  · exact ⟨_, rfl⟩
theorem ai_r3_ok {i : Instr} {len : Nat} {f : Int64 → Int32 → Int64} (h : ai_bs i len = some f) {x y : AV} {a : Int64} {b : Int32} (hx : ai_V E ws x (.long a)) (hy : ai_V E ws y (.int b)) : ai_V E ws (ai_r3 i f x y) (.long (f a b)) := by
  unfold ai_r3
  split
  · next q =>
    obtain ⟨rfl, rfl, rfl⟩ := q
    rw [ai_bs_lshl h]
    have h1 : Value.long a = .long (e_1 E).toInt64 := (ai_VX (by decide)).mp hx
    have h2 : Value.int b = .int 32 := hy
    obtain rfl := Value.long.inj h1
    obtain rfl := Value.int.inj h2
    exact (ai_VX (by decide)).mpr rfl
  · split
    · next q =>
      obtain ⟨rfl, rfl, q3, q4⟩ := q
      rw [ai_bs_lshr h]
      generalize ai_kn y = n at q3 q4
      subst q3
      have h1 : Value.long a = .long (ai_w0 E) := (ai_VX (by decide)).mp hx
      have h2 : Value.int b = .int (nI (8 * n)) := hy
      obtain rfl := Value.long.inj h1
      obtain rfl := Value.int.inj h2
      refine (ai_VX (by omega)).mpr ?_
      rw [ai_xv, if_neg (by omega), if_pos (by omega)]
      refine congrArg Value.long ?_
      unfold ai_xl
      rw [if_neg (by omega), if_neg (by omega), if_neg (by omega), if_neg (by omega), if_neg (by omega), if_pos (by omega)]
      rw [show 10 + n - 10 = n by omega]
      rfl
    · exact ai_rs_ok hx hy
theorem ai_i2l_ok {x : AV} {a : Int32} (hx : ai_V E ws x (.int a)) : ai_V E ws (ai_i2l x) (.long a.toInt64) := by
  unfold ai_i2l
  split
  · have h1 : Value.int a = .int _ := hx
    cases h1
    rfl
  · next n =>
    split
    · next q =>
      subst q
      have h1 : Value.int a = .int (e_1 E) := (ai_VX (by decide)).mp hx
      obtain rfl := Value.int.inj h1
      exact (ai_VX (by decide)).mpr rfl
    · split
      · next q =>
        subst q
        have h1 : Value.int a = .int (e_2 E) := (ai_VX (by decide)).mp hx
        obtain rfl := Value.int.inj h1
        exact (ai_VX (by decide)).mpr rfl
      · exact ⟨_, rfl⟩
  · exact ⟨_, rfl⟩
theorem ai_l2i_ok {x : AV} {a : Int64} (hx : ai_V E ws x (.long a)) : ai_V E ws (ai_l2i x) (.int a.toInt32) := by
  unfold ai_l2i
  split
  · have h1 : Value.long a = .long _ := hx
    cases h1
    rfl
  · next n =>
    split
    · next q =>
      have h1 := (ai_VX (by omega)).mp hx
      rw [ai_xv, if_neg (by omega), if_pos (by omega)] at h1
      cases h1
      refine (ai_VX (by omega)).mpr ?_
      rw [ai_xv, if_neg (by omega), if_neg (by omega)]
      refine congrArg Value.int ?_
      unfold ai_xi ai_xl
      rw [if_neg (by omega), if_neg (by omega), if_neg (by omega), if_neg (by omega), if_neg (by omega), if_neg (by omega), if_neg (by omega), if_neg (by omega), if_neg (by omega), if_neg (by omega)]
      rw [show n + 10 - 30 = n - 20 by omega]
    · exact ai_top_ok _
  · exact ai_top_ok _
theorem ai_i2b_ok {x : AV} {a : Int32} (hx : ai_V E ws x (.int a)) : ai_V E ws (ai_i2b x) (.int a.toInt8.toInt32) := by
  unfold ai_i2b
  split
  · have h1 : Value.int a = .int _ := hx
    cases h1
    rfl
  · exact ai_top_ok _
theorem ai_lc_ok {x y : AV} {a b : Int64} (hx : ai_V E ws x (.long a)) (hy : ai_V E ws y (.long b)) : ai_V E ws (ai_lc x y) (.int (lg_cmp a b)) := by
  unfold ai_lc
  split
  · have h1 : Value.long a = .long _ := hx
    have h2 : Value.long b = .long _ := hy
    cases h1; cases h2
    rfl
  · refine ⟨_, rfl, ?_⟩
    unfold lg_cmp
    split
    · exact ⟨by decide, by decide⟩
    · split
      · exact ⟨by decide, by decide⟩
      · exact ⟨by decide, by decide⟩
theorem ai_iv_ok {a : AV} {q : Int × Int} (h : ai_iv a = some q) {v : Value} (hv : ai_V E ws a v) : ∃ x : Int32, v = .int x ∧ q.1 ≤ x.toInt ∧ x.toInt ≤ q.2 := by
  unfold ai_iv at h
  split at h
  · cases h; exact ⟨_, hv, Int.le_refl _, Int.le_refl _⟩
  · cases h; exact hv
  · cases h
theorem ai_lt_ok {a b : Int × Int} {t : Bool} {x y : Int32} (h : ai_lt a b = some t) (h1 : a.1 ≤ x.toInt) (h2 : x.toInt ≤ a.2) (h3 : b.1 ≤ y.toInt) (h4 : y.toInt ≤ b.2) : x < y ↔ t = true := by
  unfold ai_lt at h
  rw [Int32.lt_iff_toInt_lt]
  split at h
  · cases h; exact ⟨fun _ => rfl, fun _ => by omega⟩
  · split at h
    · cases h; exact ⟨fun q => by omega, fun q => by cases q⟩
    · cases h
theorem ai_eq_ok {a b : Int × Int} {t : Bool} {x y : Int32} (h : ai_eq a b = some t) (h1 : a.1 ≤ x.toInt) (h2 : x.toInt ≤ a.2) (h3 : b.1 ≤ y.toInt) (h4 : y.toInt ≤ b.2) : x = y ↔ t = true := by
  unfold ai_eq at h
  rw [← Int32.toInt_inj]
  split at h
  · cases h; exact ⟨fun q => by omega, fun q => by cases q⟩
  · split at h
    · cases h; exact ⟨fun q => by omega, fun q => by cases q⟩
    · split at h
      · next q => cases h; exact ⟨fun _ => rfl, fun _ => by omega⟩
      · cases h
theorem ai_not_ok {b : Option Bool} {t : Bool} (h : ai_not b = some t) {P : Prop} (k : ∀ u : Bool, b = some u → (P ↔ u = true)) : ¬ P ↔ t = true := by
  match b, h with
  | some true, h =>
    cases h
    have := k true rfl
    exact ⟨fun q => absurd (this.mpr rfl) q, fun q => by cases q⟩
  | some false, h =>
    cases h
    have := k false rfl
    exact ⟨fun _ => rfl, fun _ q => by cases this.mp q⟩
  | none, h => cases h
theorem ai_cmp_ok {k : Jvm.ClassFile.Cond} {a b : Int × Int} {t : Bool} {x y : Int32} (h : ai_cmp k a b = some t) (h1 : a.1 ≤ x.toInt) (h2 : x.toInt ≤ a.2) (h3 : b.1 ≤ y.toInt) (h4 : y.toInt ≤ b.2) : ai_rel k x y ↔ t = true := by
  cases k with
  | eq => exact ai_eq_ok h h1 h2 h3 h4
  | ne => exact ai_not_ok h (fun u hu => ai_eq_ok hu h1 h2 h3 h4)
  | lt => exact ai_lt_ok h h1 h2 h3 h4
  | ge =>
    have := ai_not_ok h (fun u hu => ai_lt_ok hu h1 h2 h3 h4)
    rw [Int32.not_lt] at this
    exact this
  | gt => exact ai_lt_ok h h3 h4 h1 h2
  | le =>
    have := ai_not_ok h (fun u hu => ai_lt_ok hu h3 h4 h1 h2)
    rw [Int32.not_lt] at this
    exact this
theorem ai_bo_ok {k : Jvm.ClassFile.Cond} {x y : AV} {t : Bool} (h : ai_bo k x y = some t) {v w : Value} (hv : ai_V E ws x v) (hw : ai_V E ws y w) : ∃ a b : Int32, v = .int a ∧ w = .int b ∧ (ai_rel k a b ↔ t = true) := by
  unfold ai_bo at h
  split at h
  · next q r h1 h2 =>
    obtain ⟨a, e1, l1, l2⟩ := ai_iv_ok h1 hv
    obtain ⟨b, e2, l3, l4⟩ := ai_iv_ok h2 hw
    exact ⟨a, b, e1, e2, ai_cmp_ok h l1 l2 l3 l4⟩
  · cases h
end AIV
end
section
/-! ===== the groups' laws over the machine ===== -/
def ai_KW (p : Program) (l : Launch) (e : Env) (R : Room) (s : State) (m : MethodId) (args : Array Value) (below : List Frame) (meth : Method) (c : Code) (H : Heap) (locs : List Loc) (cells slots : Nat) (Q : State → Prop) (E : AE) (ws : va_W) (nL : Nat) (r : Nat × ALo × List AV) : Prop :=
  ∀ (ls : Array Slot) (lv : List (Nat × Value)) (vs : List Value), lv_has ls nL lv → ai_L E ws r.2.1 lv → ai_S E ws r.2.2 vs → W p l e R s m args below meth c H locs cells slots Q (F0 m r.1 ls vs)
section AIG
variable {p : Program} {l : Launch} {e : Env} {R : Room} {s : State} {m : MethodId} {args : Array Value} {below : List Frame} {meth : Method} {c : Code} {H : Heap} {locs : List Loc} {cells slots : Nat} {Q : State → Prop}
variable {cc : ByteArray} {pc : Nat} {ls : Array Slot} {i : Instr} {len nL : Nat} {E : AE} {ws : va_W} {lo : ALo} {st : List AV} {lv : List (Nat × Value)} {vs : List Value} {r : Nat × ALo × List AV}
theorem ai_g1_ok (hx : p.tables.exec = Jvm.exec) (hb : c.code = cc) (hd : decode cc pc = .ok (i, len)) (hl : lv_has ls nL lv) (hL : ai_L E ws lo lv) (hS : ai_S E ws st vs) (h : ai_g1 i len pc lo st = some r)
    (k : ai_KW p l e R s m args below meth c H locs cells slots Q E ws nL r) : W p l e R s m args below meth c H locs cells slots Q (F0 m pc ls vs) := by
  unfold ai_g1 at h
  split at h
  · next a ha =>
    cases h
    exact ai_cs_ok hx hb ha hd E ws (fun v hv => k ls lv (v :: vs) hl hL ⟨hv, hS⟩)
  · cases h
theorem ai_g2_ok (hx : p.tables.exec = Jvm.exec) (hb : c.code = cc) (hd : decode cc pc = .ok (i, len)) (hl : lv_has ls nL lv) (hL : ai_L E ws lo lv) (hS : ai_S E ws st vs) (h : ai_g2 i len pc lo st = some r)
    (k : ai_KW p l e R s m args below meth c H locs cells slots Q E ws nL r) : W p l e R s m args below meth c H locs cells slots Q (F0 m pc ls vs) := by
  unfold ai_g2 at h
  split at h
  · cases h
  · next jt hjt =>
    split at h
    · cases h
    · next q hq =>
      split at h
      · next hc =>
        cases h
        obtain ⟨k2, v, h1, h2⟩ := ai_find jt.1 hL hq
        exact ai_ld_ok hx hb hjt hd (lv_at hl k2 h1) hc h2 (k ls lv (v :: vs) hl hL ⟨h2, hS⟩)
      · cases h
theorem ai_g3_ok (hx : p.tables.exec = Jvm.exec) (hb : c.code = cc) (hd : decode cc pc = .ok (i, len)) (hl : lv_has ls nL lv) (hL : ai_L E ws lo lv) (hS : ai_S E ws st vs) (h : ai_g3 nL i len pc lo st = some r)
    (k : ai_KW p l e R s m args below meth c H locs cells slots Q E ws nL r) : W p l e R s m args below meth c H locs cells slots Q (F0 m pc ls vs) := by
  unfold ai_g3 at h
  split at h
  · next jt a st' hjt =>
    match vs, hS with
    | [], hS => exact hS.elim
    | v :: vs, ⟨hv, hS⟩ =>
      split at h
      · next hc =>
        cases h
        exact ai_sr_ok hx hb hjt hd hl hc.2.1 hc.2.2 hc.1 hv (fun ls' hl' => k ls' _ vs hl' ⟨⟨rfl, hv⟩, ai_filter jt.1 jt.2 hL⟩ hS)
      · cases h
  · cases h
theorem ai_g4_ok {op : Option Int32} (hop : ∀ k, op = some k → e_0 E &&& 15 = k) (hx : p.tables.exec = Jvm.exec) (hb : c.code = cc) (hd : decode cc pc = .ok (i, len)) (hl : lv_has ls nL lv) (hL : ai_L E ws lo lv) (hS : ai_S E ws st vs) (h : ai_g4 op i len pc lo st = some r)
    (k : ai_KW p l e R s m args below meth c H locs cells slots Q E ws nL r) : W p l e R s m args below meth c H locs cells slots Q (F0 m pc ls vs) := by
  unfold ai_g4 at h
  split at h
  · next f y x st' hf =>
    match vs, hS with
    | [], hS => exact hS.elim
    | [_], ⟨_, hS⟩ => exact hS.elim
    | w :: v :: vs, ⟨hw, hv, hS⟩ =>
      split at h
      · next hc =>
        cases h
        obtain ⟨a, rfl⟩ := ai_V_int hc.1 hv
        obtain ⟨b, rfl⟩ := ai_V_int hc.2 hw
        exact ai_bi_ok hx hb hf hd (k ls lv (_ :: vs) hl hL ⟨ai_r1_ok hop hf hv hw, hS⟩)
      · cases h
  · cases h
theorem ai_g5_ok (hx : p.tables.exec = Jvm.exec) (hb : c.code = cc) (hd : decode cc pc = .ok (i, len)) (hl : lv_has ls nL lv) (hL : ai_L E ws lo lv) (hS : ai_S E ws st vs) (h : ai_g5 i len pc lo st = some r)
    (k : ai_KW p l e R s m args below meth c H locs cells slots Q E ws nL r) : W p l e R s m args below meth c H locs cells slots Q (F0 m pc ls vs) := by
  unfold ai_g5 at h
  split at h
  · next f y x st' hf =>
    match vs, hS with
    | [], hS => exact hS.elim
    | [_], ⟨_, hS⟩ => exact hS.elim
    | w :: v :: vs, ⟨hw, hv, hS⟩ =>
      split at h
      · next hc =>
        cases h
        obtain ⟨a, rfl⟩ := ai_V_long hc.1 hv
        obtain ⟨b, rfl⟩ := ai_V_long hc.2 hw
        exact ai_bl_ok hx hb hf hd (k ls lv (_ :: vs) hl hL ⟨ai_r2_ok hf hv hw, hS⟩)
      · cases h
  · cases h
theorem ai_g6_ok (hx : p.tables.exec = Jvm.exec) (hb : c.code = cc) (hd : decode cc pc = .ok (i, len)) (hl : lv_has ls nL lv) (hL : ai_L E ws lo lv) (hS : ai_S E ws st vs) (h : ai_g6 i len pc lo st = some r)
    (k : ai_KW p l e R s m args below meth c H locs cells slots Q E ws nL r) : W p l e R s m args below meth c H locs cells slots Q (F0 m pc ls vs) := by
  unfold ai_g6 at h
  split at h
  · next f y x st' hf =>
    match vs, hS with
    | [], hS => exact hS.elim
    | [_], ⟨_, hS⟩ => exact hS.elim
    | w :: v :: vs, ⟨hw, hv, hS⟩ =>
      split at h
      · next hc =>
        cases h
        obtain ⟨a, rfl⟩ := ai_V_long hc.1 hv
        obtain ⟨b, rfl⟩ := ai_V_int hc.2 hw
        exact ai_bs_ok hx hb hf hd (k ls lv (_ :: vs) hl hL ⟨ai_r3_ok hf hv hw, hS⟩)
      · cases h
  · cases h
theorem ai_g7_ok (hx : p.tables.exec = Jvm.exec) (hb : c.code = cc) (hd : decode cc pc = .ok (i, len)) (hl : lv_has ls nL lv) (hL : ai_L E ws lo lv) (hS : ai_S E ws st vs) (h : ai_g7 i len pc lo st = some r)
    (k : ai_KW p l e R s m args below meth c H locs cells slots Q E ws nL r) : W p l e R s m args below meth c H locs cells slots Q (F0 m pc ls vs) := by
  unfold ai_g7 at h
  split at h
  · next x st' =>
    match vs, hS with
    | [], hS => exact hS.elim
    | v :: vs, ⟨hv, hS⟩ =>
      split at h
      · next hc =>
        cases h
        obtain ⟨a, rfl⟩ := ai_V_int hc hv
        exact lv_i2l hx hb hd rfl (k ls lv (_ :: vs) hl hL ⟨ai_i2l_ok hv, hS⟩)
      · cases h
  · next x st' =>
    match vs, hS with
    | [], hS => exact hS.elim
    | v :: vs, ⟨hv, hS⟩ =>
      split at h
      · next hc =>
        cases h
        obtain ⟨a, rfl⟩ := ai_V_long hc hv
        exact lv_l2i hx hb hd rfl (k ls lv (_ :: vs) hl hL ⟨ai_l2i_ok hv, hS⟩)
      · cases h
  · next x st' =>
    match vs, hS with
    | [], hS => exact hS.elim
    | v :: vs, ⟨hv, hS⟩ =>
      split at h
      · next hc =>
        cases h
        obtain ⟨a, rfl⟩ := ai_V_int hc hv
        exact lv_i2b hx hb hd rfl (k ls lv (_ :: vs) hl hL ⟨ai_i2b_ok hv, hS⟩)
      · cases h
  · cases h
theorem ai_g8_ok (hx : p.tables.exec = Jvm.exec) (hb : c.code = cc) (hd : decode cc pc = .ok (i, len)) (hl : lv_has ls nL lv) (hL : ai_L E ws lo lv) (hS : ai_S E ws st vs) (h : ai_g8 nL i len pc lo st = some r)
    (k : ai_KW p l e R s m args below meth c H locs cells slots Q E ws nL r) : W p l e R s m args below meth c H locs cells slots Q (F0 m pc ls vs) := by
  unfold ai_g8 at h
  split at h
  · next y x st' =>
    match vs, hS with
    | [], hS => exact hS.elim
    | [_], ⟨_, hS⟩ => exact hS.elim
    | w :: v :: vs, ⟨hw, hv, hS⟩ =>
      split at h
      · next hc =>
        cases h
        obtain ⟨a, rfl⟩ := ai_V_long hc.1 hv
        obtain ⟨b, rfl⟩ := ai_V_long hc.2 hw
        exact W.lcmp hx hb hd (k ls lv (_ :: vs) hl hL ⟨ai_lc_ok hv hw, hS⟩)
      · cases h
  · next x st' =>
    match vs, hS with
    | [], hS => exact hS.elim
    | v :: vs, ⟨hv, hS⟩ =>
      split at h
      · next hc =>
        cases h
        exact lv_dup hx hb hd ((ai_V_wd hv).trans hc) (k ls lv (v :: v :: vs) hl hL ⟨hv, hv, hS⟩)
      · cases h
  · next x y st' =>
    match vs, hS with
    | [], hS => exact hS.elim
    | [_], ⟨_, hS⟩ => exact hS.elim
    | v :: w :: vs, ⟨hv, hw, hS⟩ =>
      split at h
      · next hc =>
        cases h
        exact lv_dup2_11 hx hb hd ((ai_V_wd hv).trans hc.1) ((ai_V_wd hw).trans hc.2) (k ls lv (v :: w :: v :: w :: vs) hl hL ⟨hv, hw, hv, hw, hS⟩)
      · cases h
  · next x st' =>
    match vs, hS with
    | [], hS => exact hS.elim
    | v :: vs, ⟨hv, hS⟩ =>
      split at h
      · next hc =>
        cases h
        exact lv_pop hx hb hd ((ai_V_wd hv).trans hc) (k ls lv vs hl hL hS)
      · cases h
  · next st' j n =>
    split at h
    · next j' b hq =>
      split at h
      · next hn =>
        cases h
        obtain ⟨k2, v, h1, h2⟩ := ai_find j hL hq
        have h2 : v = .int b := h2
        subst h2
        exact lv_iinc hx hb hd hl h1 rfl hn rfl (fun ls' hl' => k ls' _ vs hl' ⟨⟨rfl, rfl⟩, ai_filter j 1 hL⟩ hS)
      · cases h
    · next j' b hq =>
      split at h
      · next a ha =>
        split at h
        · next hn =>
          cases h
          obtain ⟨k2, v, h1, h2⟩ := ai_find j hL hq
          obtain ⟨x, rfl, h3⟩ := ai_ox_ok ha h2
          exact lv_iinc hx hb hd hl h1 rfl hn rfl (fun ls' hl' => k ls' _ vs hl' ⟨⟨rfl, h3⟩, ai_filter j 1 hL⟩ hS)
        · cases h
      · cases h
    · cases h
  · next off st' =>
    split at h
    · next hz =>
      cases h
      exact lv_goto hx hb hd (by omega) (k ls lv vs hl hL hS)
    · cases h
  · cases h
theorem ai_icmp_ok (hx : p.tables.exec = Jvm.exec) (hb : c.code = cc) {q : Jvm.ClassFile.Cond} {off : Int} (hd : decode cc pc = .ok (.if_icmp q off, 3)) {rest : List Value} {x y : Int32} {t : Bool} {tg : Nat} (hr : ai_rel q x y ↔ t = true) (ht : ai_to pc off (some t) = some tg)
    (k : W p l e R s m args below meth c H locs cells slots Q (F0 m tg ls rest)) : W p l e R s m args below meth c H locs cells slots Q (F0 m pc ls (.int y :: .int x :: rest)) := by
  unfold ai_to at ht
  by_cases hz : 0 ≤ (pc : Int) + off
  case neg => rw [if_neg hz] at ht; cases ht
  rw [if_pos hz] at ht
  cases t with
  | true =>
    have hy : ai_rel q x y := hr.mpr rfl
    have ht : some ((pc : Int) + off).toNat = some tg := ht
    cases ht
    cases q with
    | eq => exact lv_icmp_eq (tgt := ((pc : Int) + off).toNat) hx hb hd (by omega) (fun _ => k) (fun z => absurd hy z)
    | ne => exact lv_icmp_ne (tgt := ((pc : Int) + off).toNat) hx hb hd (by omega) (fun _ => k) (fun z => absurd z hy)
    | lt => exact lv_icmp_lt (tgt := ((pc : Int) + off).toNat) hx hb hd (by omega) (fun _ => k) (fun z => absurd hy z)
    | ge => exact lv_icmp_ge (tgt := ((pc : Int) + off).toNat) hx hb hd (by omega) (fun _ => k) (fun z => absurd hy z)
    | gt => exact lv_icmp_gt (tgt := ((pc : Int) + off).toNat) hx hb hd (by omega) (fun _ => k) (fun z => absurd hy z)
    | le => exact lv_icmp_le (tgt := ((pc : Int) + off).toNat) hx hb hd (by omega) (fun _ => k) (fun z => absurd hy z)
  | false =>
    have hy : ¬ ai_rel q x y := fun z => by cases hr.mp z
    have ht : some (pc + 3) = some tg := ht
    cases ht
    cases q with
    | eq => exact lv_icmp_eq (tgt := ((pc : Int) + off).toNat) hx hb hd (by omega) (fun z => absurd z hy) (fun _ => k)
    | ne => exact lv_icmp_ne (tgt := ((pc : Int) + off).toNat) hx hb hd (by omega) (fun z => absurd z hy) (fun _ => k)
    | lt => exact lv_icmp_lt (tgt := ((pc : Int) + off).toNat) hx hb hd (by omega) (fun z => absurd z hy) (fun _ => k)
    | ge => exact lv_icmp_ge (tgt := ((pc : Int) + off).toNat) hx hb hd (by omega) (fun z => absurd z hy) (fun _ => k)
    | gt => exact lv_icmp_gt (tgt := ((pc : Int) + off).toNat) hx hb hd (by omega) (fun z => absurd z hy) (fun _ => k)
    | le => exact lv_icmp_le (tgt := ((pc : Int) + off).toNat) hx hb hd (by omega) (fun z => absurd z hy) (fun _ => k)
theorem ai_ifc_ok (hx : p.tables.exec = Jvm.exec) (hb : c.code = cc) {q : Jvm.ClassFile.Cond} {off : Int} (hd : decode cc pc = .ok (.ifCond q off, 3)) {rest : List Value} {x : Int32} {t : Bool} {tg : Nat} (hr : ai_rel q x 0 ↔ t = true) (ht : ai_to pc off (some t) = some tg)
    (k : W p l e R s m args below meth c H locs cells slots Q (F0 m tg ls rest)) : W p l e R s m args below meth c H locs cells slots Q (F0 m pc ls (.int x :: rest)) := by
  unfold ai_to at ht
  by_cases hz : 0 ≤ (pc : Int) + off
  case neg => rw [if_neg hz] at ht; cases ht
  rw [if_pos hz] at ht
  cases t with
  | true =>
    have hy : ai_rel q x 0 := hr.mpr rfl
    have ht : some ((pc : Int) + off).toNat = some tg := ht
    cases ht
    cases q with
    | eq => exact lv_if_eq (tgt := ((pc : Int) + off).toNat) hx hb hd (by omega) (fun _ => k) (fun z => absurd hy z)
    | ne => exact lv_if_ne (tgt := ((pc : Int) + off).toNat) hx hb hd (by omega) (fun _ => k) (fun z => absurd z hy)
    | lt => exact lv_if_lt (tgt := ((pc : Int) + off).toNat) hx hb hd (by omega) (fun _ => k) (fun z => absurd hy z)
    | ge => exact lv_if_ge (tgt := ((pc : Int) + off).toNat) hx hb hd (by omega) (fun _ => k) (fun z => absurd hy z)
    | gt => exact lv_if_gt (tgt := ((pc : Int) + off).toNat) hx hb hd (by omega) (fun _ => k) (fun z => absurd hy z)
    | le => exact lv_if_le (tgt := ((pc : Int) + off).toNat) hx hb hd (by omega) (fun _ => k) (fun z => absurd hy z)
  | false =>
    have hy : ¬ ai_rel q x 0 := fun z => by cases hr.mp z
    have ht : some (pc + 3) = some tg := ht
    cases ht
    cases q with
    | eq => exact lv_if_eq (tgt := ((pc : Int) + off).toNat) hx hb hd (by omega) (fun z => absurd z hy) (fun _ => k)
    | ne => exact lv_if_ne (tgt := ((pc : Int) + off).toNat) hx hb hd (by omega) (fun z => absurd z hy) (fun _ => k)
    | lt => exact lv_if_lt (tgt := ((pc : Int) + off).toNat) hx hb hd (by omega) (fun z => absurd z hy) (fun _ => k)
    | ge => exact lv_if_ge (tgt := ((pc : Int) + off).toNat) hx hb hd (by omega) (fun z => absurd z hy) (fun _ => k)
    | gt => exact lv_if_gt (tgt := ((pc : Int) + off).toNat) hx hb hd (by omega) (fun z => absurd z hy) (fun _ => k)
    | le => exact lv_if_le (tgt := ((pc : Int) + off).toNat) hx hb hd (by omega) (fun z => absurd z hy) (fun _ => k)
theorem ai_g9_ok (hx : p.tables.exec = Jvm.exec) (hb : c.code = cc) (hd : decode cc pc = .ok (i, len)) (hl : lv_has ls nL lv) (hL : ai_L E ws lo lv) (hS : ai_S E ws st vs) (h : ai_g9 i len pc lo st = some r)
    (k : ai_KW p l e R s m args below meth c H locs cells slots Q E ws nL r) : W p l e R s m args below meth c H locs cells slots Q (F0 m pc ls vs) := by
  unfold ai_g9 at h
  split at h
  · next q off y x st' =>
    match vs, hS with
    | [], hS => exact hS.elim
    | [_], ⟨_, hS⟩ => exact hS.elim
    | w :: v :: vs, ⟨hw, hv, hS⟩ =>
      split at h
      · next t ht =>
        cases h
        cases hbo : ai_bo q x y with
        | none => rw [hbo] at ht; unfold ai_to at ht; split at ht <;> cases ht
        | some u =>
          rw [hbo] at ht
          obtain ⟨a, b, rfl, rfl, hr⟩ := ai_bo_ok hbo hv hw
          exact ai_icmp_ok hx hb hd hr ht (k ls lv vs hl hL hS)
      · cases h
  · next q off x st' =>
    match vs, hS with
    | [], hS => exact hS.elim
    | v :: vs, ⟨hv, hS⟩ =>
      split at h
      · next t ht =>
        cases h
        cases hbo : ai_bo q x (.inl 0) with
        | none => rw [hbo] at ht; unfold ai_to at ht; split at ht <;> cases ht
        | some u =>
          rw [hbo] at ht
          obtain ⟨a, b, rfl, e2, hr⟩ := ai_bo_ok (w := .int 0) hbo hv rfl
          cases e2
          exact ai_ifc_ok hx hb hd hr ht (k ls lv vs hl hL hS)
      · cases h
  · cases h
theorem ai_g10_ok (hx : p.tables.exec = Jvm.exec) (hb : c.code = cc) (hd : decode cc pc = .ok (i, len)) (hl : lv_has ls nL lv) (hL : ai_L E ws lo lv) (hS : ai_S E ws st vs) (h : ai_g10 i len pc lo st = some r)
    (k : ai_KW p l e R s m args below meth c H locs cells slots Q E ws nL r) : W p l e R s m args below meth c H locs cells slots Q (F0 m pc ls vs) := by
  unfold ai_g10 at h
  split at h
  · next d a b offs x st' =>
    match vs, hS with
    | [], hS => exact hS.elim
    | v :: vs, ⟨hv, hS⟩ =>
      split at h
      · next q hq =>
        obtain ⟨y, rfl, h1, h2⟩ := ai_iv_ok hq hv
        split at h
        · next t ht =>
          cases h
          unfold ai_sw at ht
          split at ht
          · next ho =>
            split at ht
            · next hz =>
              cases ht
              exact lv_tableOut (tgt := ((pc : Int) + d).toNat) hx hb hd (by omega) (by omega) (k ls lv vs hl hL hS)
            · cases ht
          · next ho =>
            split at ht
            · next he =>
              split at ht
              · next off hoff =>
                split at ht
                · next hz =>
                  cases ht
                  exact lv_tableIn (tgt := ((pc : Int) + off).toNat) hx hb hd (by omega) (by omega) (by rw [show y.toInt = q.1 by omega]; exact hoff) (by omega) (k ls lv vs hl hL hS)
                · cases ht
              · cases ht
            · cases ht
        · cases h
      · cases h
  · cases h
end AIG
def ai_or {α : Type} (a : Option α) (b : Option α) : Option α := match a with
  | some x => some x
  | none => b
theorem ai_or_ok {α : Type} {a b : Option α} {r : α} (h : ai_or a b = some r) : a = some r ∨ b = some r := by
  unfold ai_or at h
  split at h
  · exact Or.inl h
  · exact Or.inr h
/-- an instruction that moves the frame alone -/
def ai_pu (op : Option Int32) (nL : Nat) (i : Instr) (len pc : Nat) (lo : ALo) (st : List AV) : Option (Nat × ALo × List AV) :=
  ai_or (ai_g2 i len pc lo st) (ai_or (ai_g1 i len pc lo st) (ai_or (ai_g9 i len pc lo st) (ai_or (ai_g4 op i len pc lo st) (ai_or (ai_g3 nL i len pc lo st) (ai_or (ai_g8 nL i len pc lo st) (ai_or (ai_g7 i len pc lo st) (ai_or (ai_g5 i len pc lo st) (ai_or (ai_g6 i len pc lo st) (ai_g10 i len pc lo st)))))))))
theorem ai_pu_ok {p : Program} {l : Launch} {e : Env} {R : Room} {s : State} {m : MethodId} {args : Array Value} {below : List Frame} {meth : Method} {c : Code} {H : Heap} {locs : List Loc} {cells slots : Nat} {Q : State → Prop}
    {cc : ByteArray} {pc : Nat} {ls : Array Slot} {i : Instr} {len nL : Nat} {E : AE} {ws : va_W} {lo : ALo} {st : List AV} {lv : List (Nat × Value)} {vs : List Value} {r : Nat × ALo × List AV}
    {op : Option Int32} (hop : ∀ k, op = some k → e_0 E &&& 15 = k) (hx : p.tables.exec = Jvm.exec) (hb : c.code = cc) (hd : decode cc pc = .ok (i, len)) (hl : lv_has ls nL lv) (hL : ai_L E ws lo lv) (hS : ai_S E ws st vs) (h : ai_pu op nL i len pc lo st = some r)
    (k : ai_KW p l e R s m args below meth c H locs cells slots Q E ws nL r) : W p l e R s m args below meth c H locs cells slots Q (F0 m pc ls vs) := by
  unfold ai_pu at h
  rcases ai_or_ok h with h | h
  · exact ai_g2_ok hx hb hd hl hL hS h k
  rcases ai_or_ok h with h | h
  · exact ai_g1_ok hx hb hd hl hL hS h k
  rcases ai_or_ok h with h | h
  · exact ai_g9_ok hx hb hd hl hL hS h k
  rcases ai_or_ok h with h | h
  · exact ai_g4_ok hop hx hb hd hl hL hS h k
  rcases ai_or_ok h with h | h
  · exact ai_g3_ok hx hb hd hl hL hS h k
  rcases ai_or_ok h with h | h
  · exact ai_g8_ok hx hb hd hl hL hS h k
  rcases ai_or_ok h with h | h
  · exact ai_g7_ok hx hb hd hl hL hS h k
  rcases ai_or_ok h with h | h
  · exact ai_g5_ok hx hb hd hl hL hS h k
  rcases ai_or_ok h with h | h
  · exact ai_g6_ok hx hb hd hl hL hS h k
  · exact ai_g10_ok hx hb hd hl hL hS h k
end
section
/-! ===== the abstract world, and what it stands for ===== -/
def ai_cl (ci : Nat) : String := (vwCl.getD ci ("", fun _ => ("", "", "", false), 0)).1
def ai_ty (t : Nat) : FieldType := match t with
  | 0 => .byte
  | 1 => .int
  | 2 => .long
  | 3 => .boolean
  | n + 4 => .object (ai_cl n)
def ai_kd (t : Nat) : Nat := match t with
  | 0 => 0
  | 1 => 0
  | 2 => 1
  | 3 => 0
  | _ + 4 => 2
def ai_A (E : AE) (ws : va_W) (n k : Nat) (f : Nat → AV) (x : (Nat → Int32) ⊕ (Nat → Int64) ⊕ (Nat → UInt32) ⊕ (Nat → UInt64) ⊕ (Nat → Option Nat)) : Prop := match k, x with
  | 0, .inl g => ∀ j, j < n → ai_V E ws (f j) (.int (g j))
  | 1, .inr (.inl g) => ∀ j, j < n → ai_V E ws (f j) (.long (g j))
  | 2, .inr (.inr (.inr (.inr g))) => ∀ j, j < n → ai_V E ws (f j) (va_rf (g j))
  | _, _ => False
def ai_C (E : AE) (s : State) (ws : va_W) (e : AC) (x : va_E) : Prop := match e, x with
  | .inl a, .inl b => a.2.1 = b.2.1 ∧ ArrOfT s b.1 (ai_ty a.1) ∧ va_RA s b.1 (ai_ty a.1) ∧ ai_A E ws a.2.1 (ai_kd a.1) a.2.2 b.2.2
  | .inr a, .inr b => a.1 = b.1 ∧ ai_S E ws a.2 b.2
  | _, _ => False
def ai_W (E : AE) (s : State) (σ : List AC) (ws : va_W) : Prop := σ.length = ws.length ∧ ∀ (i : Nat) (e : AC) (q : Nat × va_E), σ[i]? = some e → ws[i]? = some q → ai_C E s ws e q.2
theorem ai_A.mono {E : AE} {ws ws' : va_W} (h : ai_Ext ws ws') {n k : Nat} {f : Nat → AV} {x : (Nat → Int32) ⊕ (Nat → Int64) ⊕ (Nat → UInt32) ⊕ (Nat → UInt64) ⊕ (Nat → Option Nat)} (a : ai_A E ws n k f x) : ai_A E ws' n k f x := by
  unfold ai_A at a ⊢
  split at a
  · exact fun j hj => (a j hj).mono h
  · exact fun j hj => (a j hj).mono h
  · exact fun j hj => (a j hj).mono h
  · exact a.elim
theorem ai_C.mono {E : AE} {s : State} {ws ws' : va_W} (h : ai_Ext ws ws') {e : AC} {x : va_E} (a : ai_C E s ws e x) : ai_C E s ws' e x := by
  unfold ai_C at a ⊢
  split at a
  · exact ⟨a.1, a.2.1, a.2.2.1, a.2.2.2.mono h⟩
  · exact ⟨a.1, a.2.mono h⟩
  · exact a.elim
theorem ai_C.moved {E : AE} {s u : State} {ws : va_W} (h : s.vm.Alike u.vm) {e : AC} {x : va_E} (a : ai_C E s ws e x) : ai_C E u ws e x := by
  unfold ai_C at a ⊢
  split at a
  · exact ⟨a.1, arrOfT_moved h a.2.1, a.2.2.1.moved h, a.2.2.2⟩
  · exact a
  · exact a.elim
theorem ai_W.moved {E : AE} {s u : State} {σ : List AC} {ws : va_W} (h : s.vm.Alike u.vm) (a : ai_W E s σ ws) : ai_W E u σ ws := ⟨a.1, fun i e q h1 h2 => (a.2 i e q h1 h2).moved h⟩
theorem ai_W.get {E : AE} {s : State} {σ : List AC} {ws : va_W} (a : ai_W E s σ ws) {i : Nat} {e : AC} (h : σ[i]? = some e) : ∃ q, ws[i]? = some q ∧ ai_C E s ws e q.2 := by
  have hl : i < ws.length := by rw [← a.1]; exact (List.getElem?_eq_some_iff.mp h).1
  exact ⟨ws[i], List.getElem?_eq_getElem hl, a.2 i e _ h (List.getElem?_eq_getElem hl)⟩
theorem ai_ad_set {ws : va_W} {i a : Nat} {x0 x : va_E} (h : ws[i]? = some (a, x0)) (j : Nat) : ai_ad (ws.set i (a, x)) j = ai_ad ws j := by
  unfold ai_ad
  rw [List.getElem?_set]
  by_cases e : i = j
  · subst e
    rw [if_pos rfl, if_pos (List.getElem?_eq_some_iff.mp h).1, h]
    rfl
  · rw [if_neg e]
theorem ai_Ext.set {ws : va_W} {i a : Nat} {x0 x : va_E} (h : ws[i]? = some (a, x0)) : ai_Ext ws (ws.set i (a, x)) := fun j b hb => by rw [ai_ad_set h]; exact hb
theorem ai_Ext.push {ws : va_W} {q : Nat × va_E} : ai_Ext ws (ws ++ [q]) := fun j b hb => by
  unfold ai_ad at hb ⊢
  cases hw : ws[j]? with
  | none => rw [hw] at hb; cases hb
  | some y =>
    rw [hw] at hb
    rw [List.getElem?_append_left (List.getElem?_eq_some_iff.mp hw).1, hw]
    exact hb
theorem ai_W.set {E : AE} {s : State} {σ : List AC} {ws : va_W} (w : ai_W E s σ ws) {i a : Nat} {x0 x : va_E} (h : ws[i]? = some (a, x0)) {e : AC} (c : ai_C E s (ws.set i (a, x)) e x) : ai_W E s (σ.set i e) (ws.set i (a, x)) := by
  refine ⟨by rw [List.length_set, List.length_set]; exact w.1, fun j e' q h1 h2 => ?_⟩
  rw [List.getElem?_set] at h1 h2
  by_cases ej : i = j
  · subst ej
    rw [if_pos rfl] at h1 h2
    split at h1
    · cases h1
      split at h2
      · cases h2; exact c
      · cases h2
    · cases h1
  · rw [if_neg ej] at h1 h2
    exact (w.2 j e' q h1 h2).mono (ai_Ext.set h)
theorem ai_W.push {E : AE} {s : State} {σ : List AC} {ws : va_W} (w : ai_W E s σ ws) {q : Nat × va_E} {e : AC} (c : ai_C E s (ws ++ [q]) e q.2) : ai_W E s (σ ++ [e]) (ws ++ [q]) := by
  refine ⟨by rw [List.length_append, List.length_append, w.1]; rfl, fun j e' q' h1 h2 => ?_⟩
  by_cases hj : j < σ.length
  · rw [List.getElem?_append_left hj] at h1
    rw [List.getElem?_append_left (by rw [← w.1]; exact hj)] at h2
    exact (w.2 j e' q' h1 h2).mono ai_Ext.push
  · rw [List.getElem?_append_right (by omega)] at h1
    rw [List.getElem?_append_right (by rw [← w.1]; omega)] at h2
    have hz : j - σ.length < 1 := (List.getElem?_eq_some_iff.mp h1).1
    rw [show j - σ.length = 0 by omega] at h1
    rw [← w.1, show j - σ.length = 0 by omega] at h2
    cases h1
    cases h2
    exact c
theorem ai_ad_push {ws : va_W} {q : Nat × va_E} : ai_ad (ws ++ [q]) ws.length = some q.1 := by
  unfold ai_ad
  rw [List.getElem?_append_right (Nat.le_refl _), Nat.sub_self]
  rfl
/-! parts of a value -/
def ai_rf : AV → Option Nat
  | .inr (.inr (.inr (.inl (some i)))) => some i
  | _ => none
theorem ai_rf_ok {E : AE} {ws : va_W} {x : AV} {i : Nat} (h : ai_rf x = some i) {v : Value} (hv : ai_V E ws x v) : ∃ a, v = .ref a ∧ ai_ad ws i = some a := by
  unfold ai_rf at h
  split at h
  · cases h; exact hv
  · cases h
def ai_ob (σ : List AC) (x : AV) (ci : Nat) : Option (Nat × List AV) := match ai_rf x with
  | some i => match σ[i]? with
    | some (.inr o) => if o.1 = ci then some (i, o.2) else none
    | _ => none
  | none => none
theorem ai_ob_ok {E : AE} {s : State} {σ : List AC} {ws : va_W} {x : AV} {ci i : Nat} {fs : List AV} (h : ai_ob σ x ci = some (i, fs)) (w : ai_W E s σ ws) {v : Value} (hv : ai_V E ws x v) :
    ∃ a vs, v = .ref a ∧ ws[i]? = some (a, .inr (ci, vs)) ∧ ai_S E ws fs vs := by
  unfold ai_ob at h
  split at h
  · next j hj =>
    obtain ⟨a, rfl, had⟩ := ai_rf_ok hj hv
    split at h
    · next o ho =>
      split at h
      · next he =>
        cases h
        obtain ⟨q, hq, hc⟩ := w.get ho
        unfold ai_ad at had
        rw [hq] at had
        obtain ⟨q1, q2⟩ := q
        have had : q1 = a := Option.some.inj had
        subst had
        match q2, hc with
        | .inl b, hc => exact hc.elim
        | .inr b, hc =>
          obtain ⟨h1, h2⟩ := hc
          obtain ⟨b1, b2⟩ := b
          have h1 : o.1 = b1 := h1
          subst h1
          exact ⟨_, b2, rfl, by rw [hq, he], h2⟩
      · cases h
    · cases h
  · cases h
def ai_ar (σ : List AC) (x : AV) : Option (Nat × Nat × Nat × (Nat → AV)) := match ai_rf x with
  | some i => match σ[i]? with
    | some (.inl o) => some (i, o)
    | _ => none
  | none => none
theorem ai_ar_ok {E : AE} {s : State} {σ : List AC} {ws : va_W} {x : AV} {i t n : Nat} {f : Nat → AV} (h : ai_ar σ x = some (i, t, n, f)) (w : ai_W E s σ ws) {v : Value} (hv : ai_V E ws x v) :
    ∃ a cA y, v = .ref a ∧ ws[i]? = some (a, .inl (cA, n, y)) ∧ ArrOfT s cA (ai_ty t) ∧ va_RA s cA (ai_ty t) ∧ ai_A E ws n (ai_kd t) f y := by
  unfold ai_ar at h
  split at h
  · next j hj =>
    obtain ⟨a, rfl, had⟩ := ai_rf_ok hj hv
    split at h
    · next o ho =>
      cases h
      obtain ⟨q, hq, hc⟩ := w.get ho
      unfold ai_ad at had
      rw [hq] at had
      obtain ⟨q1, q2⟩ := q
      have had : q1 = a := Option.some.inj had
      subst had
      match q2, hc with
      | .inr b, hc => exact hc.elim
      | .inl b, hc =>
        obtain ⟨h1, h2, h3, h4⟩ := hc
        obtain ⟨b1, b2, b3⟩ := b
        have h1 : n = b2 := h1
        subst h1
        exact ⟨_, b1, b3, rfl, hq, h2, h3, h4⟩
    · cases h
  · cases h
def ai_ix (x : AV) (n : Nat) : Option Nat := match x with
  | .inl c => if c < 0 then none else if n ≤ c.toNatClampNeg then none else some c.toNatClampNeg
  | _ => none
theorem ai_ix_ok {E : AE} {ws : va_W} {x : AV} {n j : Nat} (h : ai_ix x n = some j) {v : Value} (hv : ai_V E ws x v) : ∃ c : Int32, v = .int c ∧ vp_in c n ∧ j = c.toNatClampNeg := by
  unfold ai_ix at h
  split at h
  · next c =>
    split at h
    · cases h
    · next h1 =>
      split at h
      · cases h
      · next h2 =>
        cases h
        exact ⟨c, hv, fun q => q.elim h1 h2, rfl⟩
  · cases h
theorem ai_S_get {E : AE} {ws : va_W} : ∀ {fs : List AV} {vs : List Value} {k : Nat} {a : AV}, ai_S E ws fs vs → fs[k]? = some a → ∃ v, vs[k]? = some v ∧ ai_V E ws a v
  | [], _, _, _, _, h => by cases h
  | _ :: _, [], _, _, h, _ => h.elim
  | _ :: _, v :: _, 0, _, h, hk => by cases hk; exact ⟨v, rfl, h.1⟩
  | _ :: _, _ :: _, k + 1, _, h, hk => ai_S_get (k := k) h.2 hk
theorem ai_S_len {E : AE} {ws : va_W} : ∀ {fs : List AV} {vs : List Value}, ai_S E ws fs vs → fs.length = vs.length
  | [], [], _ => rfl
  | [], _ :: _, h => h.elim
  | _ :: _, [], h => h.elim
  | _ :: _, _ :: _, h => by rw [List.length_cons, List.length_cons, ai_S_len h.2]
theorem ai_S_set {E : AE} {ws : va_W} {a : AV} {v : Value} (hv : ai_V E ws a v) : ∀ {fs : List AV} {vs : List Value} {k : Nat}, ai_S E ws fs vs → ai_S E ws (fs.set k a) (vs.set k v)
  | [], [], _, h => h
  | [], _ :: _, _, h => h.elim
  | _ :: _, [], _, h => h.elim
  | _ :: _, _ :: _, 0, h => ⟨hv, h.2⟩
  | _ :: _, _ :: _, k + 1, h => ⟨h.1, ai_S_set hv (k := k) h.2⟩
/-! the classes' tables, by number -/
def ai_tf (ci : Nat) : Nat → FieldType := match ci with
  | 0 => tyX0
  | 1 => tyX1
  | 2 => tyX2
  | 3 => tyX3
  | 4 => tyX4
  | 5 => tyX5
  | 6 => tyX6
  | 7 => tyX7
  | 8 => tyX8
  | 9 => tyX9
  | 10 => tyX10
  | 11 => tyX11
  | _ => tyX12
theorem ai_in0 : ∀ w ∈ u_ws RX0 TX0 2, w ∈ lw_tbl := by decide +kernel
theorem ai_in1 : ∀ w ∈ u_ws RX1 TX1 2, w ∈ lw_tbl := by decide +kernel
theorem ai_in2 : ∀ w ∈ u_ws RX2 TX2 1, w ∈ lw_tbl := by decide +kernel
theorem ai_in3 : ∀ w ∈ u_ws RX3 TX3 7, w ∈ lw_tbl := by decide +kernel
theorem ai_in4 : ∀ w ∈ u_ws RX4 TX4 1, w ∈ lw_tbl := by decide +kernel
theorem ai_in5 : ∀ w ∈ u_ws RX5 TX5 8, w ∈ lw_tbl := by decide +kernel
theorem ai_in6 : ∀ w ∈ u_ws RX6 TX6 6, w ∈ lw_tbl := by decide +kernel
theorem ai_in7 : ∀ w ∈ u_ws RX7 TX7 5, w ∈ lw_tbl := by decide +kernel
theorem ai_in8 : ∀ w ∈ u_ws RX8 TX8 3, w ∈ lw_tbl := by decide +kernel
theorem ai_in9 : ∀ w ∈ u_ws RX9 TX9 6, w ∈ lw_tbl := by decide +kernel
theorem ai_in10 : ∀ w ∈ u_ws RX10 TX10 2, w ∈ lw_tbl := by decide +kernel
theorem ai_in11 : ∀ w ∈ u_ws RX11 TX11 6, w ∈ lw_tbl := by decide +kernel
theorem ai_in12 : ∀ w ∈ u_ws RX12 TX12 40, w ∈ lw_tbl := by decide +kernel
theorem ai_u_good (C : String) (T : u_T) (N : Nat) : ∀ w ∈ u_ws C T N, goodWord w = true := by
  intro w hw
  obtain ⟨k, -, rfl⟩ := List.mem_map.mp hw
  unfold u_lay
  split <;> rfl
/-- what is needed of a class's fields -/
def ai_F (ci : Nat) (r : vw_C) : Prop := (∀ k, k < r.2.2 → parseFieldDescriptor (r.2.1 k).2.2.1 = some (ai_tf ci k)) ∧ (∀ a, a < r.2.2 → ∀ b, b < r.2.2 → a ≠ b → (r.2.1 a).2.1 ≠ (r.2.1 b).2.1) ∧ ∀ w ∈ u_ws r.1 r.2.1 r.2.2, w ∈ lw_tbl
theorem ai_F_all : ∀ (ci : Nat) (r : vw_C), vwCl[ci]? = some r → ai_F ci r
  | 0, _, h => by cases h; exact ⟨tyX0_ok, nmX0, ai_in0⟩
  | 1, _, h => by cases h; exact ⟨tyX1_ok, nmX1, ai_in1⟩
  | 2, _, h => by cases h; exact ⟨tyX2_ok, nmX2, ai_in2⟩
  | 3, _, h => by cases h; exact ⟨tyX3_ok, nmX3, ai_in3⟩
  | 4, _, h => by cases h; exact ⟨tyX4_ok, nmX4, ai_in4⟩
  | 5, _, h => by cases h; exact ⟨tyX5_ok, nmX5, ai_in5⟩
  | 6, _, h => by cases h; exact ⟨tyX6_ok, nmX6, ai_in6⟩
  | 7, _, h => by cases h; exact ⟨tyX7_ok, nmX7, ai_in7⟩
  | 8, _, h => by cases h; exact ⟨tyX8_ok, nmX8, ai_in8⟩
  | 9, _, h => by cases h; exact ⟨tyX9_ok, nmX9, ai_in9⟩
  | 10, _, h => by cases h; exact ⟨tyX10_ok, nmX10, ai_in10⟩
  | 11, _, h => by cases h; exact ⟨tyX11_ok, nmX11, ai_in11⟩
  | 12, _, h => by cases h; exact ⟨tyX12_ok, nmX12, ai_in12⟩
  | n + 13, _, h => by simp [vwCl] at h
def ai_df (t : FieldType) : AV := match t with
  | .long => .inr (.inr (.inl (some 0)))
  | .object _ => .inr (.inr (.inr (.inl none)))
  | .array _ => .inr (.inr (.inr (.inl none)))
  | _ => .inl 0
def ai_fd (ci N : Nat) : List AV := (List.range N).map (fun k => ai_df (ai_tf ci k))
def ai_ok (t : FieldType) : Bool := match t with
  | .float => false
  | .double => false
  | _ => true
theorem ai_df_ok {E : AE} {ws : va_W} {t : FieldType} (h : ai_ok t = true) : ai_V E ws (ai_df t) (defaultValue t) := by
  cases t <;> first | rfl | cases h
theorem ai_S_map {E : AE} {ws : va_W} {f : Nat → AV} {g : Nat → Value} : ∀ (l : List Nat), (∀ k ∈ l, ai_V E ws (f k) (g k)) → ai_S E ws (l.map f) (l.map g)
  | [], _ => trivial
  | a :: l, h => ⟨h a List.mem_cons_self, ai_S_map l (fun k hk => h k (List.mem_cons_of_mem _ hk))⟩
def ai_fit (t : FieldType) (a : AV) : Bool := match t with
  | .int => decide (ai_cat a = 1)
  | .long => decide (ai_cat a = 2)
  | .boolean => match ai_iv a with
    | some q => decide (0 ≤ q.1 ∧ q.2 ≤ 1)
    | none => false
  | .object _ => decide (ai_cat a = 3)
  | .array _ => decide (ai_cat a = 3)
  | _ => false
theorem ai_bool {x : Int32} (h0 : 0 ≤ x.toInt) (h1 : x.toInt ≤ 1) : x = 0 ∨ x = 1 := by
  rcases (show x.toInt = 0 ∨ x.toInt = 1 by omega) with h | h
  · exact Or.inl (Int32.toInt_inj.mp h)
  · exact Or.inr (Int32.toInt_inj.mp h)
theorem ai_fit_ok {E : AE} {ws : va_W} {t : FieldType} {a : AV} (h : ai_fit t a = true) {v : Value} (hv : ai_V E ws a v) : narrow t v = v ∧ fits t v = true := by
  unfold ai_fit at h
  split at h
  · obtain ⟨x, rfl⟩ := ai_V_int (of_decide_eq_true h) hv
    exact ⟨rfl, rfl⟩
  · obtain ⟨x, rfl⟩ := ai_V_long (of_decide_eq_true h) hv
    exact ⟨rfl, rfl⟩
  · split at h
    · next q hq =>
      obtain ⟨x, rfl, h1, h2⟩ := ai_iv_ok hq hv
      obtain ⟨g1, g2⟩ := of_decide_eq_true h
      rcases ai_bool (x := x) (by omega) (by omega) with rfl | rfl
      · exact ⟨rfl, rfl⟩
      · exact ⟨rfl, rfl⟩
    · cases h
  · rcases ai_V_ref (of_decide_eq_true h) hv with rfl | ⟨x, rfl⟩
    · exact ⟨rfl, rfl⟩
    · exact ⟨rfl, rfl⟩
  · rcases ai_V_ref (of_decide_eq_true h) hv with rfl | ⟨x, rfl⟩
    · exact ⟨rfl, rfl⟩
    · exact ⟨rfl, rfl⟩
  · cases h
def ai_up (f : Nat → AV) (k : Nat) (a : AV) : Nat → AV := fun j => if j = k then a else f j
def ai_eqV (a b : AV) : Bool := decide (a = b)
def ai_eqL : List AV → List AV → Bool
  | [], [] => true
  | a :: as, b :: bs => ai_eqV a b && ai_eqL as bs
  | _, _ => false
theorem ai_eqL_ok : ∀ {a b : List AV}, ai_eqL a b = true → a = b
  | [], [], _ => rfl
  | [], _ :: _, h => by cases h
  | _ :: _, [], h => by cases h
  | a :: as, b :: bs, h => by
    have h : (ai_eqV a b && ai_eqL as bs) = true := h
    rw [Bool.and_eq_true] at h
    rw [show a = b from of_decide_eq_true h.1, ai_eqL_ok h.2]
def ai_eqA (a b : AC) : Bool := match a, b with
  | .inl x, .inl y => decide (x.1 = y.1) && (decide (x.2.1 = y.2.1) && (List.range x.2.1).all (fun j => ai_eqV (x.2.2 j) (y.2.2 j)))
  | .inr x, .inr y => decide (x.1 = y.1) && ai_eqL x.2 y.2
  | _, _ => false
def ai_eqW : List AC → List AC → Bool
  | [], [] => true
  | a :: σ, b :: τ => ai_eqA a b && ai_eqW σ τ
  | _, _ => false
theorem ai_eqA_ok {E : AE} {s : State} {ws : va_W} {a b : AC} (h : ai_eqA a b = true) {x : va_E} (c : ai_C E s ws a x) : ai_C E s ws b x := by
  unfold ai_eqA at h
  split at h
  · next u v =>
    obtain ⟨u1, u2, u3⟩ := u
    obtain ⟨v1, v2, v3⟩ := v
    simp only [Bool.and_eq_true, decide_eq_true_eq, List.all_eq_true, List.mem_range] at h
    obtain ⟨h1, h2, h3⟩ := h
    have h3 : ∀ j, j < u2 → u3 j = v3 j := fun j hj => of_decide_eq_true (h3 j hj)
    subst h1; subst h2
    match x, c with
    | .inr q, c => exact c.elim
    | .inl q, c =>
      obtain ⟨c1, c2, c3, c4⟩ := c
      refine ⟨c1, c2, c3, ?_⟩
      have c4 : ai_A E ws u2 (ai_kd u1) u3 q.2.2 := c4
      show ai_A E ws u2 (ai_kd u1) v3 q.2.2
      unfold ai_A at c4 ⊢
      split at c4
      · exact fun j hj => by rw [← h3 j hj]; exact c4 j hj
      · exact fun j hj => by rw [← h3 j hj]; exact c4 j hj
      · exact fun j hj => by rw [← h3 j hj]; exact c4 j hj
      · exact c4.elim
  · next u v =>
    obtain ⟨u1, u2⟩ := u
    obtain ⟨v1, v2⟩ := v
    rw [Bool.and_eq_true] at h
    have h1 : u1 = v1 := of_decide_eq_true h.1
    have h2 : u2 = v2 := ai_eqL_ok h.2
    subst h1; subst h2
    exact c
  · cases h
theorem ai_eqW_get : ∀ {σ τ : List AC}, ai_eqW σ τ = true → σ.length = τ.length ∧ ∀ (i : Nat) (b : AC), τ[i]? = some b → ∃ a, σ[i]? = some a ∧ ai_eqA a b = true
  | [], [], _ => ⟨rfl, fun i b h => by cases h⟩
  | [], _ :: _, h => by cases h
  | _ :: _, [], h => by cases h
  | a :: σ, b :: τ, h => by
    have h : (ai_eqA a b && ai_eqW σ τ) = true := h
    rw [Bool.and_eq_true] at h
    obtain ⟨g1, g2⟩ := ai_eqW_get h.2
    refine ⟨by rw [List.length_cons, List.length_cons, g1], fun i c hc => ?_⟩
    match i, hc with
    | 0, hc => cases hc; exact ⟨a, rfl, h.1⟩
    | i + 1, hc => exact g2 i c hc
theorem ai_eqW_ok {E : AE} {s : State} {σ τ : List AC} {ws : va_W} (h : ai_eqW σ τ = true) (w : ai_W E s σ ws) : ai_W E s τ ws := by
  obtain ⟨g1, g2⟩ := ai_eqW_get h
  refine ⟨g1.symm.trans w.1, fun i b q hb hq => ?_⟩
  obtain ⟨a, ha, hab⟩ := g2 i b hb
  exact ai_eqA_ok hab (w.2 i a q ha hq)
theorem ai_in_lt {b : Int32} {n : Nat} (h : vp_in b n) : b.toNatClampNeg < n := Nat.lt_of_not_le (fun z => h (Or.inr z))
end
section
/-! ===== the instructions that use the world ===== -/
def lw_blk (b : Nat) : List Cond := match b with
  | 0 => k2_sels lw_privs
  | 1 => tables_1_1
  | 2 => tables_1_2
  | 3 => tables_1_3
  | 4 => tables_1_4
  | 5 => tables_1_5
  | 6 => tables_1_6
  | 7 => tables_1_7
  | _ => []
theorem lw_blk_in {b : Nat} {w : Cond} (h : w ∈ lw_blk b) : w ∈ lw_tbl := by
  have e : lw_tbl = k2_sels lw_privs ++ (tables_1_1 ++ (tables_1_2 ++ (tables_1_3 ++ (tables_1_4 ++ (tables_1_5 ++ (tables_1_6 ++ tables_1_7)))))) := rfl
  rw [e]
  unfold lw_blk at h
  simp only [List.mem_append]
  split at h
  · exact Or.inl h
  · exact Or.inr (Or.inl h)
  · exact Or.inr (Or.inr (Or.inl h))
  · exact Or.inr (Or.inr (Or.inr (Or.inl h)))
  · exact Or.inr (Or.inr (Or.inr (Or.inr (Or.inl h))))
  · exact Or.inr (Or.inr (Or.inr (Or.inr (Or.inr (Or.inl h)))))
  · exact Or.inr (Or.inr (Or.inr (Or.inr (Or.inr (Or.inr (Or.inl h))))))
  · exact Or.inr (Or.inr (Or.inr (Or.inr (Or.inr (Or.inr (Or.inr h))))))
  · cases h
def ai_wb (t : Nat) (w : Cond) : Bool := decide ((lw_blk (t / 1000))[t % 1000]? = some w)
theorem ai_wb_ok {t : Nat} {w : Cond} (h : ai_wb t w = true) : w ∈ lw_tbl := lw_blk_in (List.mem_of_getElem? (of_decide_eq_true h))
def ai_w (t : Nat) (w : Cond) : Bool := ai_wb t w && goodWord w
theorem ai_w_ok {t : Nat} {w : Cond} (h : ai_w t w = true) : w ∈ lw_tbl ∧ goodWord w = true := by
  unfold ai_w at h
  rw [Bool.and_eq_true] at h
  exact ⟨ai_wb_ok h.1, h.2⟩
/-- what is looked up in the tables for an instruction, by places -/
def ai_chk (own : String) (i : Instr) (aux : List Nat) : Bool := match i, aux with
  | .getfield x, [ci, k, t] => match vwCl[ci]? with
    | some r => decide (k < r.2.2) && ai_w t (.fieldLink own x r.1 (r.2.1 k).2.1 (r.2.1 k).2.2.1) && decide ((r.2.1 k).1 = r.1)
    | none => false
  | .putfield x, [ci, k, t] => match vwCl[ci]? with
    | some r => decide (k < r.2.2) && ai_w t (.fieldLink own x r.1 (r.2.1 k).2.1 (r.2.1 k).2.2.1) && decide ((r.2.1 k).1 = r.1) && (!(r.2.1 k).2.2.2 || decide (r.1 = own))
    | none => false
  | .new x, [ci, t1, t2, t3] => match vwCl[ci]? with
    | some r => ai_w t1 (.classLink own x r.1) && ai_w t2 (.instantiable r.1 r.2.2) && ai_w t3 (.initialized r.1) && (List.range r.2.2).all (fun k => ai_ok (ai_tf ci k))
    | none => false
  | .newarray y, [t, t1] => decide (ai_ty t = newarray.typeOf y) && ai_w t1 (.arrayClass (newarray.typeOf y)) && decide (t < 4)
  | .anewarray x, [ci, t1, t2] => ai_w t1 (.classLink own x (ai_cl ci)) && ai_wb t2 (.arrayOver (.object (ai_cl ci)))
  | .ldc2_w x, [n, t] => ai_w t (.constantLong own x (Int64.ofNat n))
  | _, _ => true
def ai_h1 (i : Instr) (len : Nat) (aux : List Nat) (st : List AV) (σ : List AC) : Option (List AV) := match i, len, aux, st with
  | .getfield _, 3, [ci, k, _], x :: r => match ai_ob σ x ci with
    | some o => match o.2[k]? with
      | some v => some (v :: r)
      | none => none
    | none => none
  | .ldc2_w _, 3, [n, _], r => some (.inr (.inr (.inl (some (Int64.ofNat n)))) :: r)
  | .arraylength, 1, _, x :: r => match ai_ar σ x with
    | some o => some (.inl (Int32.ofNat o.2.2.1) :: r)
    | none => none
  | .iaload, 1, _, j :: x :: r => match ai_ar σ x with
    | some o => match ai_ix j o.2.2.1 with
      | some k => if o.2.1 = 1 then some (o.2.2.2 k :: r) else none
      | none => none
    | none => none
  | .baload, 1, _, j :: x :: r => match ai_ar σ x with
    | some o => match ai_ix j o.2.2.1 with
      | some k => if o.2.1 = 0 ∨ o.2.1 = 3 then some (o.2.2.2 k :: r) else none
      | none => none
    | none => none
  | .laload, 1, _, j :: x :: r => match ai_ar σ x with
    | some o => match ai_ix j o.2.2.1 with
      | some k => if o.2.1 = 2 then some (o.2.2.2 k :: r) else none
      | none => none
    | none => none
  | .aaload, 1, _, j :: x :: r => match ai_ar σ x with
    | some o => match ai_ix j o.2.2.1 with
      | some k => if 4 ≤ o.2.1 then some (o.2.2.2 k :: r) else none
      | none => none
    | none => none
  | _, _, _, _ => none
def ai_nb (a : AV) : AV := match a with
  | .inl c => .inl (vp_nar .byte c)
  | _ => ai_top
def ai_nz (a : AV) : AV := match a with
  | .inl c => .inl (vp_nar .boolean c)
  | _ => ai_top
def ai_h2 (ini : Bool) (i : Instr) (len : Nat) (aux : List Nat) (st : List AV) (σ : List AC) : Option (List AV × List AC) := match i, len, aux, st with
  | .putfield _, 3, [ci, k, _], v :: x :: r => match ai_ob σ x ci with
    | some o => match vwCl[ci]? with
      | some q => if k < o.2.length ∧ ai_fit (ai_tf ci k) v = true ∧ ((q.2.1 k).2.2.2 = true → ini = true) then some (r, σ.set o.1 (.inr (ci, o.2.set k v))) else none
      | none => none
    | none => none
  | .iastore, 1, _, v :: j :: x :: r => match ai_ar σ x with
    | some o => match ai_ix j o.2.2.1 with
      | some k => if o.2.1 = 1 ∧ ai_cat v = 1 then some (r, σ.set o.1 (.inl (o.2.1, o.2.2.1, ai_up o.2.2.2 k v))) else none
      | none => none
    | none => none
  | .bastore, 1, _, v :: j :: x :: r => match ai_ar σ x with
    | some o => match ai_ix j o.2.2.1 with
      | some k => if ai_cat v = 1 then (if o.2.1 = 0 then some (r, σ.set o.1 (.inl (o.2.1, o.2.2.1, ai_up o.2.2.2 k (ai_nb v)))) else if o.2.1 = 3 then some (r, σ.set o.1 (.inl (o.2.1, o.2.2.1, ai_up o.2.2.2 k (ai_nz v)))) else none) else none
      | none => none
    | none => none
  | .lastore, 1, _, v :: j :: x :: r => match ai_ar σ x with
    | some o => match ai_ix j o.2.2.1 with
      | some k => if o.2.1 = 2 ∧ ai_cat v = 2 then some (r, σ.set o.1 (.inl (o.2.1, o.2.2.1, ai_up o.2.2.2 k v))) else none
      | none => none
    | none => none
  | .aastore, 1, _, v :: j :: x :: r => match ai_ar σ x with
    | some o => match ai_ix j o.2.2.1 with
      | some k => match ai_ob σ v (o.2.1 - 4) with
        | some _ => match vwCl[o.2.1 - 4]? with
          | some _ => if 4 ≤ o.2.1 then some (r, σ.set o.1 (.inl (o.2.1, o.2.2.1, ai_up o.2.2.2 k v))) else none
          | none => none
        | none => none
      | none => none
    | none => none
  | _, _, _, _ => none
def ai_dfa (t : Nat) : AV := if ai_kd t = 0 then .inl 0 else if ai_kd t = 1 then .inr (.inr (.inl (some 0))) else .inr (.inr (.inr (.inl none)))
def ai_h3 (i : Instr) (len : Nat) (aux : List Nat) (st : List AV) (σ : List AC) : Option (List AV × AC × Nat) := match i, len, aux, st with
  | .new _, 3, [ci, _, _, _], r => match vwCl[ci]? with
    | some q => some (r, .inr (ci, ai_fd ci q.2.2), q.2.2)
    | none => none
  | .newarray _, 2, [t, _], n :: r => match ai_ix n 100000 with
    | some k => some (r, .inl (t, k, fun _ => ai_dfa t), k)
    | none => none
  | .anewarray _, 3, [ci, _, _], n :: r => match ai_ix n 100000 with
    | some k => some (r, .inl (ci + 4, k, fun _ => .inr (.inr (.inr (.inl none)))), k)
    | none => none
  | _, _, _, _ => none
section AIH
variable {p : Program} {l : Launch} {e : Env} {R : Room} {s : State} {m : MethodId} {args : Array Value} {below : List Frame} {meth : Method} {c : Code} {H : Heap} {locs : List Loc} {cells slots : Nat} {Q : State → Prop}
variable {cc : ByteArray} {pc : Nat} {ls : Array Slot} {i : Instr} {len : Nat} {aux : List Nat} {E : AE} {ws : va_W} {st st' : List AV} {vs : List Value} {σ σ' : List AC} {own : String} {D : va_G} {A : Nat → Prop} {H0 : Heap}
theorem ai_K1 (hK : va_K D vwCl [] s) {cA : ClassId} {ty : FieldType} (h1 : ArrOfT s cA ty) (h2 : va_RA s cA ty) : va_K D vwCl [(cA, ty)] s :=
  ⟨hK.1, fun k q h => match k, h with
    | 0, h => by cases h; exact ⟨h1, h2⟩⟩
theorem ai_h1_ok (hx : p.tables.exec = Jvm.exec) (hb : c.code = cc) (hown : s.vm.findClass own = some m.cls) (hT : ∀ w, w ∈ lw_tbl → goodWord w = true → w.before args s = true) (hK : va_K D vwCl [] s) (hd : decode cc pc = .ok (i, len)) (hchk : ai_chk own i aux = true)
    (w : ai_W E s σ ws) (hP : va_P D vwCl ws H) (hS : ai_S E ws st vs) (h : ai_h1 i len aux st σ = some st')
    (k : ∀ vs' : List Value, ai_S E ws st' vs' → W p l e R s m args below meth c H locs cells slots Q (F0 m (pc + len) ls vs')) : W p l e R s m args below meth c H locs cells slots Q (F0 m pc ls vs) := by
  unfold ai_h1 at h
  split at h
  · next ix ci kk t x r =>
    match vs, hS with
    | [], hS => exact hS.elim
    | v :: vs, ⟨hv, hS⟩ =>
      split at h
      · next o ho =>
        obtain ⟨oi, fs⟩ := o
        obtain ⟨a, us, rfl, hw, hfs⟩ := ai_ob_ok ho w hv
        split at h
        · next y hy =>
          cases h
          obtain ⟨u, hu, hyu⟩ := ai_S_get hfs hy
          have hchk : (match vwCl[ci]? with
            | some r => decide (kk < r.2.2) && ai_w t (.fieldLink own ix r.1 (r.2.1 kk).2.1 (r.2.1 kk).2.2.1) && decide ((r.2.1 kk).1 = r.1)
            | none => false) = true := hchk
          cases hr : vwCl[ci]? with
          | none => rw [hr] at hchk; cases hchk
          | some r =>
            rw [hr] at hchk
            simp only [Bool.and_eq_true, decide_eq_true_eq] at hchk
            obtain ⟨⟨c1, c2⟩, c3⟩ := hchk
            obtain ⟨f1, f2, f3⟩ := ai_F_all ci r hr
            obtain ⟨g1, g2⟩ := ai_w_ok c2
            refine va_get (own := own) (ref := r.1) (C := r.1) (T := r.2.1) (N := r.2.2) (Ts := u_ws r.1 r.2.1 r.2.2) hx hb (fun w hw => hT w (f3 w hw) (ai_u_good _ _ _ w hw)) (fun w hw => hw) hown hK hP oi hw hr kk c1 (hT _ g1 g2) (fun x hx => by rw [c3] at hx; exact hx) hu hd ?_
            exact k (u :: vs) ⟨hyu, hS⟩
        · cases h
      · cases h
  · next r ix n t =>
    cases h
    have hchk : ai_w t (.constantLong own ix (Int64.ofNat n)) = true := hchk
    obtain ⟨g1, g2⟩ := ai_w_ok hchk
    exact lv_ldc2 hx hb hown (hT _ g1 g2) hd (k (_ :: vs) ⟨rfl, hS⟩)
  · next x r =>
    match vs, hS with
    | [], hS => exact hS.elim
    | v :: vs, ⟨hv, hS⟩ =>
      split at h
      · next o ho =>
        obtain ⟨oi, t, n, f⟩ := o
        obtain ⟨a, cA, y, rfl, hw, h1, h2, h3⟩ := ai_ar_ok ho w hv
        cases h
        exact va_alen hx hb (ai_K1 hK h1 h2) hP oi 0 hw rfl rfl hd (k (_ :: vs) ⟨rfl, hS⟩)
      · cases h
  · next j x r =>
    match vs, hS with
    | [], hS => exact hS.elim
    | [_], ⟨_, hS⟩ => exact hS.elim
    | vj :: v :: vs, ⟨hvj, hv, hS⟩ =>
      split at h
      · next o ho =>
        obtain ⟨oi, t, n, f⟩ := o
        obtain ⟨a, cA, y, rfl, hw, h1, h2, h3⟩ := ai_ar_ok ho w hv
        split at h
        · next kk hk =>
          obtain ⟨b, rfl, hin, rfl⟩ := ai_ix_ok hk hvj
          split at h
          · next ht =>
            cases h
            have ht : t = 1 := ht
            subst ht
            match y, h3, hw with
            | .inl g, h3, hw => exact va_iald hx hb (ai_K1 hK h1 h2) hP oi 0 hw rfl hin hd (k (_ :: vs) ⟨h3 _ (ai_in_lt hin), hS⟩)
            | .inr (.inl g), h3, hw => exact h3.elim
            | .inr (.inr (.inl g)), h3, hw => exact h3.elim
            | .inr (.inr (.inr (.inl g))), h3, hw => exact h3.elim
            | .inr (.inr (.inr (.inr g))), h3, hw => exact h3.elim
          · cases h
        · cases h
      · cases h
  · next j x r =>
    match vs, hS with
    | [], hS => exact hS.elim
    | [_], ⟨_, hS⟩ => exact hS.elim
    | vj :: v :: vs, ⟨hvj, hv, hS⟩ =>
      split at h
      · next o ho =>
        obtain ⟨oi, t, n, f⟩ := o
        obtain ⟨a, cA, y, rfl, hw, h1, h2, h3⟩ := ai_ar_ok ho w hv
        split at h
        · next kk hk =>
          obtain ⟨b, rfl, hin, rfl⟩ := ai_ix_ok hk hvj
          split at h
          · next ht =>
            cases h
            have ht : t = 0 ∨ t = 3 := ht
            rcases ht with ht | ht
            · subst ht
              match y, h3, hw with
              | .inl g, h3, hw => exact va_bald hx hb (ai_K1 hK h1 h2) hP oi 0 hw rfl hin hd (k (_ :: vs) ⟨h3 _ (ai_in_lt hin), hS⟩)
              | .inr (.inl g), h3, hw => exact h3.elim
              | .inr (.inr (.inl g)), h3, hw => exact h3.elim
              | .inr (.inr (.inr (.inl g))), h3, hw => exact h3.elim
              | .inr (.inr (.inr (.inr g))), h3, hw => exact h3.elim
            · subst ht
              match y, h3, hw with
              | .inl g, h3, hw => exact va_zald hx hb (ai_K1 hK h1 h2) hP oi 0 hw rfl hin hd (k (_ :: vs) ⟨h3 _ (ai_in_lt hin), hS⟩)
              | .inr (.inl g), h3, hw => exact h3.elim
              | .inr (.inr (.inl g)), h3, hw => exact h3.elim
              | .inr (.inr (.inr (.inl g))), h3, hw => exact h3.elim
              | .inr (.inr (.inr (.inr g))), h3, hw => exact h3.elim
          · cases h
        · cases h
      · cases h
  · next j x r =>
    match vs, hS with
    | [], hS => exact hS.elim
    | [_], ⟨_, hS⟩ => exact hS.elim
    | vj :: v :: vs, ⟨hvj, hv, hS⟩ =>
      split at h
      · next o ho =>
        obtain ⟨oi, t, n, f⟩ := o
        obtain ⟨a, cA, y, rfl, hw, h1, h2, h3⟩ := ai_ar_ok ho w hv
        split at h
        · next kk hk =>
          obtain ⟨b, rfl, hin, rfl⟩ := ai_ix_ok hk hvj
          split at h
          · next ht =>
            cases h
            have ht : t = 2 := ht
            subst ht
            match y, h3, hw with
            | .inl g, h3, hw => exact h3.elim
            | .inr (.inl g), h3, hw => exact va_lald hx hb (ai_K1 hK h1 h2) hP oi 0 hw rfl hin hd (k (_ :: vs) ⟨h3 _ (ai_in_lt hin), hS⟩)
            | .inr (.inr (.inl g)), h3, hw => exact h3.elim
            | .inr (.inr (.inr (.inl g))), h3, hw => exact h3.elim
            | .inr (.inr (.inr (.inr g))), h3, hw => exact h3.elim
          · cases h
        · cases h
      · cases h
  · next j x r =>
    match vs, hS with
    | [], hS => exact hS.elim
    | [_], ⟨_, hS⟩ => exact hS.elim
    | vj :: v :: vs, ⟨hvj, hv, hS⟩ =>
      split at h
      · next o ho =>
        obtain ⟨oi, t, n, f⟩ := o
        obtain ⟨a, cA, y, rfl, hw, h1, h2, h3⟩ := ai_ar_ok ho w hv
        split at h
        · next kk hk =>
          obtain ⟨b, rfl, hin, rfl⟩ := ai_ix_ok hk hvj
          split at h
          · next ht =>
            cases h
            have ht : 4 ≤ t := ht
            obtain ⟨t4, rfl⟩ : ∃ t4, t = t4 + 4 := ⟨t - 4, by omega⟩
            match y, h3, hw with
            | .inl g, h3, hw => exact h3.elim
            | .inr (.inl g), h3, hw => exact h3.elim
            | .inr (.inr (.inl g)), h3, hw => exact h3.elim
            | .inr (.inr (.inr (.inl g))), h3, hw => exact h3.elim
            | .inr (.inr (.inr (.inr g))), h3, hw => exact va_aldq hx hb (ai_K1 hK h1 h2) hP oi 0 hw rfl hin hd (k (_ :: vs) ⟨h3 _ (ai_in_lt hin), hS⟩)
          · cases h
        · cases h
      · cases h
  · cases h
end AIH
end
section
/-! ===== stores and makings ===== -/
theorem ai_cl_of {ci : Nat} {r : vw_C} (h : vwCl[ci]? = some r) : ai_cl ci = r.1 := by
  unfold ai_cl
  rw [List.getD_eq_getElem?_getD, h]
  rfl
theorem ai_up_i {E : AE} {ws ws' : va_W} {n : Nat} (hE : ai_Ext ws ws') {f : Nat → AV} {g : Nat → Int32} (h : ∀ j, j < n → ai_V E ws (f j) (.int (g j))) {k : Nat} {a : AV} {x : Int32} (ha : ai_V E ws a (.int x)) : ∀ j, j < n → ai_V E ws' (ai_up f k a j) (.int (upd g k x j)) := by
  intro j hj
  unfold ai_up upd
  by_cases e : j = k
  · rw [if_pos e, if_pos e]; exact ha.mono hE
  · rw [if_neg e, if_neg e]; exact (h j hj).mono hE
theorem ai_up_l {E : AE} {ws ws' : va_W} {n : Nat} (hE : ai_Ext ws ws') {f : Nat → AV} {g : Nat → Int64} (h : ∀ j, j < n → ai_V E ws (f j) (.long (g j))) {k : Nat} {a : AV} {x : Int64} (ha : ai_V E ws a (.long x)) : ∀ j, j < n → ai_V E ws' (ai_up f k a j) (.long (vp_updL g k x j)) := by
  intro j hj
  unfold ai_up vp_updL
  by_cases e : j = k
  · rw [if_pos e, if_pos e]; exact ha.mono hE
  · rw [if_neg e, if_neg e]; exact (h j hj).mono hE
theorem ai_up_q {E : AE} {ws ws' : va_W} {n : Nat} (hE : ai_Ext ws ws') {f : Nat → AV} {g : Nat → Option Nat} (h : ∀ j, j < n → ai_V E ws (f j) (va_rf (g j))) {k : Nat} {a : AV} {x : Nat} (ha : ai_V E ws a (.ref x)) : ∀ j, j < n → ai_V E ws' (ai_up f k a j) (va_rf (va_up g k (some x) j)) := by
  intro j hj
  unfold ai_up va_up
  by_cases e : j = k
  · rw [if_pos e, if_pos e]; exact ha.mono hE
  · rw [if_neg e, if_neg e]; exact (h j hj).mono hE
theorem ai_nb_ok {E : AE} {ws : va_W} {a : AV} {x : Int32} (h : ai_V E ws a (.int x)) : ai_V E ws (ai_nb a) (.int (vp_nar .byte x)) := by
  unfold ai_nb
  split
  · have h : Value.int x = .int _ := h
    obtain rfl := Value.int.inj h
    rfl
  · exact ai_top_ok _
theorem ai_nz_ok {E : AE} {ws : va_W} {a : AV} {x : Int32} (h : ai_V E ws a (.int x)) : ai_V E ws (ai_nz a) (.int (vp_nar .boolean x)) := by
  unfold ai_nz
  split
  · have h : Value.int x = .int _ := h
    obtain rfl := Value.int.inj h
    rfl
  · exact ai_top_ok _
theorem ai_setA {E : AE} {s : State} {σ : List AC} {ws : va_W} (w : ai_W E s σ ws) {i a t n : Nat} {cA : ClassId} {x0 : va_E} {f : Nat → AV} (y : (Nat → Int32) ⊕ (Nat → Int64) ⊕ (Nat → UInt32) ⊕ (Nat → UInt64) ⊕ (Nat → Option Nat)) (h : ws[i]? = some (a, x0)) (h1 : ArrOfT s cA (ai_ty t)) (h2 : va_RA s cA (ai_ty t))
    (h3 : ai_A E (ws.set i (a, .inl (cA, n, y))) n (ai_kd t) f y) : ai_W E s (σ.set i (.inl (t, n, f))) (ws.set i (a, .inl (cA, n, y))) := w.set (x := .inl (cA, n, y)) h ⟨rfl, h1, h2, h3⟩
theorem ai_pushA {E : AE} {s : State} {σ : List AC} {ws : va_W} (w : ai_W E s σ ws) {a t n : Nat} {cA : ClassId} {f : Nat → AV} (y : (Nat → Int32) ⊕ (Nat → Int64) ⊕ (Nat → UInt32) ⊕ (Nat → UInt64) ⊕ (Nat → Option Nat)) (h1 : ArrOfT s cA (ai_ty t)) (h2 : va_RA s cA (ai_ty t))
    (h3 : ai_A E (ws ++ [(a, .inl (cA, n, y))]) n (ai_kd t) f y) : ai_W E s (σ ++ [.inl (t, n, f)]) (ws ++ [(a, .inl (cA, n, y))]) := w.push (q := (a, .inl (cA, n, y))) ⟨rfl, h1, h2, h3⟩
section AIH2
variable {p : Program} {l : Launch} {e : Env} {R : Room} {s : State} {m : MethodId} {args : Array Value} {below : List Frame} {meth : Method} {c : Code} {H : Heap} {locs : List Loc} {cells slots : Nat} {Q : State → Prop}
variable {cc : ByteArray} {pc : Nat} {ls : Array Slot} {i : Instr} {len : Nat} {aux : List Nat} {E : AE} {ws : va_W} {st st' : List AV} {vs : List Value} {σ σ' : List AC} {own : String} {D : va_G} {A : Nat → Prop} {H0 : Heap}
set_option maxHeartbeats 4000000 in
theorem ai_h2_ok {ini : Bool} (hini : ini = true → meth.name = "<init>") (hx : p.tables.exec = Jvm.exec) (hb : c.code = cc) (hown : s.vm.findClass own = some m.cls) (hT : ∀ w, w ∈ lw_tbl → goodWord w = true → w.before args s = true) (hK : va_K D vwCl [] s) (hd : decode cc pc = .ok (i, len)) (hchk : ai_chk own i aux = true)
    (w : ai_W E s σ ws) (hP : va_P D vwCl ws H) (hD : va_D A ws) (hSs : va_S A H0 H locs) (hS : ai_S E ws st vs) (h : ai_h2 ini i len aux st σ = some (st', σ'))
    (k : ∀ (ws' : va_W) (H' : Heap) (locs' : List Loc) (vs' : List Value), ai_Ext ws ws' → ai_W E s σ' ws' → va_P D vwCl ws' H' → va_D A ws' → va_S A H0 H' locs' → ai_S E ws' st' vs' → W p l e R s m args below meth c H' locs' cells slots Q (F0 m (pc + len) ls vs')) : W p l e R s m args below meth c H locs cells slots Q (F0 m pc ls vs) := by
  unfold ai_h2 at h
  split at h
  · next ix ci kk t y x r =>
    match vs, hS with
    | [], hS => exact hS.elim
    | [_], ⟨_, hS⟩ => exact hS.elim
    | u :: v :: vs, ⟨hu, hv, hS⟩ =>
      split at h
      · next o ho =>
        obtain ⟨oi, fs⟩ := o
        obtain ⟨a, us, rfl, hw, hfs⟩ := ai_ob_ok ho w hv
        split at h
        · next q hq =>
          split at h
          · next hc =>
            cases h
            obtain ⟨hc1, hc2, hc3⟩ := hc
            have hchk : (match vwCl[ci]? with
              | some r => decide (kk < r.2.2) && ai_w t (.fieldLink own ix r.1 (r.2.1 kk).2.1 (r.2.1 kk).2.2.1) && decide ((r.2.1 kk).1 = r.1) && (!(r.2.1 kk).2.2.2 || decide (r.1 = own))
              | none => false) = true := hchk
            rw [hq] at hchk
            simp only [Bool.and_eq_true, decide_eq_true_eq, Bool.or_eq_true, Bool.not_eq_true'] at hchk
            obtain ⟨⟨⟨c1, c2⟩, c3⟩, c4⟩ := hchk
            obtain ⟨f1, f2, f3⟩ := ai_F_all ci q hq
            obtain ⟨g1, g2⟩ := ai_w_ok c2
            obtain ⟨n1, n2⟩ := ai_fit_ok hc2 hu
            have hlen : kk < us.length := by rw [← ai_S_len hfs]; exact hc1
            have fin : ∀ (H1 : Heap) (locs1 : List Loc), va_P D vwCl (ws.set oi (a, .inr (ci, us.set kk u))) H1 → va_D A (ws.set oi (a, .inr (ci, us.set kk u))) → va_S A H0 H1 locs1 → W p l e R s m args below meth c H1 locs1 cells slots Q (F0 m (pc + 3) ls vs) :=
              fun H1 locs1 p1 d1 s1 => k _ H1 locs1 vs (ai_Ext.set hw) (w.set (x := .inr (ci, us.set kk u)) hw ⟨rfl, (ai_S_set hu hfs).mono (ai_Ext.set hw)⟩) p1 d1 s1 (hS.mono (ai_Ext.set hw))
            cases hfl : (q.2.1 kk).2.2.2 with
            | false => exact va_put (own := own) (ref := q.1) (C := q.1) (T := q.2.1) (N := q.2.2) (Ts := u_ws q.1 q.2.1 q.2.2) hx hb (fun w hw => hT w (f3 w hw) (ai_u_good _ _ _ w hw)) (fun w hw => hw) (ai_tf ci) f1 f2 hown hK hP hD hSs oi hw hq kk c1 (hT _ g1 g2) (fun x hx => by rw [c3] at hx; exact hx) hfl (f1 kk c1) n1 n2 hlen hd fin
            | true =>
              have ho : q.1 = own := c4.elim (fun z => by rw [hfl] at z; cases z) id
              exact va_putF (own := own) (ref := q.1) (C := q.1) (T := q.2.1) (N := q.2.2) (Ts := u_ws q.1 q.2.1 q.2.2) hx hb (fun w hw => hT w (f3 w hw) (ai_u_good _ _ _ w hw)) (fun w hw => hw) (ai_tf ci) f1 f2 hown hK hP hD hSs oi hw hq kk c1 (hT _ g1 g2) (fun x hx => by rw [c3] at hx; exact hx) hfl (hini (hc3 hfl)) (c3.trans ho) (f1 kk c1) n1 n2 hlen hd fin
          · cases h
        · cases h
      · cases h
  · next y j x r =>
    match vs, hS with
    | [], hS => exact hS.elim
    | [_], ⟨_, hS⟩ => exact hS.elim
    | [_, _], ⟨_, _, hS⟩ => exact hS.elim
    | u :: vj :: v :: vs, ⟨hu, hvj, hv, hS⟩ =>
      split at h
      · next o ho =>
        obtain ⟨oi, t, n, f⟩ := o
        obtain ⟨a, cA, y, rfl, hw, h1, h2, h3⟩ := ai_ar_ok ho w hv
        split at h
        · next kk hk =>
          obtain ⟨b, rfl, hin, rfl⟩ := ai_ix_ok hk hvj
          split at h
          · next hc =>
            cases h
            obtain ⟨ht, hcu⟩ := hc
            have ht : t = 1 := ht
            subst ht
            obtain ⟨xu, rfl⟩ := ai_V_int hcu hu
            match y, h3, hw with
            | .inl g, h3, hw => exact va_iast hx hb (ai_K1 hK h1 h2) hP hD hSs oi 0 hw rfl hin hd (fun H1 locs1 p1 d1 s1 => k _ H1 locs1 vs (ai_Ext.set hw) (ai_setA w (.inl (upd g b.toNatClampNeg xu)) hw h1 h2 (ai_up_i (ai_Ext.set hw) h3 hu)) p1 d1 s1 (hS.mono (ai_Ext.set hw)))
            | .inr (.inl g), h3, hw => exact h3.elim
            | .inr (.inr (.inl g)), h3, hw => exact h3.elim
            | .inr (.inr (.inr (.inl g))), h3, hw => exact h3.elim
            | .inr (.inr (.inr (.inr g))), h3, hw => exact h3.elim
          · cases h
        · cases h
      · cases h
  · next y j x r =>
    match vs, hS with
    | [], hS => exact hS.elim
    | [_], ⟨_, hS⟩ => exact hS.elim
    | [_, _], ⟨_, _, hS⟩ => exact hS.elim
    | u :: vj :: v :: vs, ⟨hu, hvj, hv, hS⟩ =>
      split at h
      · next o ho =>
        obtain ⟨oi, t, n, f⟩ := o
        obtain ⟨a, cA, y, rfl, hw, h1, h2, h3⟩ := ai_ar_ok ho w hv
        split at h
        · next kk hk =>
          obtain ⟨b, rfl, hin, rfl⟩ := ai_ix_ok hk hvj
          split at h
          · next hcu =>
            obtain ⟨xu, rfl⟩ := ai_V_int hcu hu
            split at h
            · next ht =>
              cases h
              have ht : t = 0 := ht
              subst ht
              match y, h3, hw with
              | .inl g, h3, hw => exact va_bast hx hb (ai_K1 hK h1 h2) hP hD hSs oi 0 hw rfl hin hd (fun H1 locs1 p1 d1 s1 => k _ H1 locs1 vs (ai_Ext.set hw) (ai_setA w (.inl (upd g b.toNatClampNeg (vp_nar .byte xu))) hw h1 h2 (ai_up_i (ai_Ext.set hw) h3 (ai_nb_ok hu))) p1 d1 s1 (hS.mono (ai_Ext.set hw)))
              | .inr (.inl g), h3, hw => exact h3.elim
              | .inr (.inr (.inl g)), h3, hw => exact h3.elim
              | .inr (.inr (.inr (.inl g))), h3, hw => exact h3.elim
              | .inr (.inr (.inr (.inr g))), h3, hw => exact h3.elim
            · split at h
              · next ht =>
                cases h
                have ht : t = 3 := ht
                subst ht
                match y, h3, hw with
                | .inl g, h3, hw => exact va_zast hx hb (ai_K1 hK h1 h2) hP hD hSs oi 0 hw rfl hin hd (fun H1 locs1 p1 d1 s1 => k _ H1 locs1 vs (ai_Ext.set hw) (ai_setA w (.inl (upd g b.toNatClampNeg (vp_nar .boolean xu))) hw h1 h2 (ai_up_i (ai_Ext.set hw) h3 (ai_nz_ok hu))) p1 d1 s1 (hS.mono (ai_Ext.set hw)))
                | .inr (.inl g), h3, hw => exact h3.elim
                | .inr (.inr (.inl g)), h3, hw => exact h3.elim
                | .inr (.inr (.inr (.inl g))), h3, hw => exact h3.elim
                | .inr (.inr (.inr (.inr g))), h3, hw => exact h3.elim
              · cases h
          · cases h
        · cases h
      · cases h
  · next y j x r =>
    match vs, hS with
    | [], hS => exact hS.elim
    | [_], ⟨_, hS⟩ => exact hS.elim
    | [_, _], ⟨_, _, hS⟩ => exact hS.elim
    | u :: vj :: v :: vs, ⟨hu, hvj, hv, hS⟩ =>
      split at h
      · next o ho =>
        obtain ⟨oi, t, n, f⟩ := o
        obtain ⟨a, cA, y, rfl, hw, h1, h2, h3⟩ := ai_ar_ok ho w hv
        split at h
        · next kk hk =>
          obtain ⟨b, rfl, hin, rfl⟩ := ai_ix_ok hk hvj
          split at h
          · next hc =>
            cases h
            obtain ⟨ht, hcu⟩ := hc
            have ht : t = 2 := ht
            subst ht
            obtain ⟨xu, rfl⟩ := ai_V_long hcu hu
            match y, h3, hw with
            | .inl g, h3, hw => exact h3.elim
            | .inr (.inl g), h3, hw => exact va_last hx hb (ai_K1 hK h1 h2) hP hD hSs oi 0 hw rfl hin hd (fun H1 locs1 p1 d1 s1 => k _ H1 locs1 vs (ai_Ext.set hw) (ai_setA w (.inr (.inl (vp_updL g b.toNatClampNeg xu))) hw h1 h2 (ai_up_l (ai_Ext.set hw) h3 hu)) p1 d1 s1 (hS.mono (ai_Ext.set hw)))
            | .inr (.inr (.inl g)), h3, hw => exact h3.elim
            | .inr (.inr (.inr (.inl g))), h3, hw => exact h3.elim
            | .inr (.inr (.inr (.inr g))), h3, hw => exact h3.elim
          · cases h
        · cases h
      · cases h
  · next y j x r =>
    match vs, hS with
    | [], hS => exact hS.elim
    | [_], ⟨_, hS⟩ => exact hS.elim
    | [_, _], ⟨_, _, hS⟩ => exact hS.elim
    | u :: vj :: v :: vs, ⟨hu, hvj, hv, hS⟩ =>
      split at h
      · next o ho =>
        obtain ⟨oi, t, n, f⟩ := o
        obtain ⟨a, cA, y, rfl, hw, h1, h2, h3⟩ := ai_ar_ok ho w hv
        split at h
        · next kk hk =>
          obtain ⟨b, rfl, hin, rfl⟩ := ai_ix_ok hk hvj
          split at h
          · next ob hob =>
            obtain ⟨obi, ofs⟩ := ob
            obtain ⟨a2, us2, rfl, hw2, -⟩ := ai_ob_ok hob w hu
            split at h
            · next q hq =>
              split at h
              · next ht =>
                cases h
                have ht : 4 ≤ t := ht
                obtain ⟨t4, rfl⟩ : ∃ t4, t = t4 + 4 := ⟨t - 4, by omega⟩
                have hw2 : ws[obi]? = some (a2, .inr (t4, us2)) := hw2
                have hq : vwCl[t4]? = some q := hq
                have e4 : ai_ty (t4 + 4) = .object q.1 := by show FieldType.object (ai_cl t4) = _; rw [ai_cl_of hq]
                match y, h3, hw with
                | .inl g, h3, hw => exact h3.elim
                | .inr (.inl g), h3, hw => exact h3.elim
                | .inr (.inr (.inl g)), h3, hw => exact h3.elim
                | .inr (.inr (.inr (.inl g))), h3, hw => exact h3.elim
                | .inr (.inr (.inr (.inr g))), h3, hw => exact va_astq hx hb (ai_K1 hK h1 h2) hP hD hSs oi 0 obi t4 hw (by rw [e4]; rfl) hw2 hq hin hd (fun H1 locs1 p1 d1 s1 => k _ H1 locs1 vs (ai_Ext.set hw) (ai_setA w (.inr (.inr (.inr (.inr (va_up g b.toNatClampNeg (some a2)))))) hw h1 h2 (ai_up_q (ai_Ext.set hw) h3 hu)) p1 d1 s1 (hS.mono (ai_Ext.set hw)))
              · cases h
            · cases h
          · cases h
        · cases h
      · cases h
  · cases h
set_option maxHeartbeats 4000000 in
theorem ai_h3_ok (hx : p.tables.exec = Jvm.exec) (hb : c.code = cc) (hown : s.vm.findClass own = some m.cls) (hT : ∀ w, w ∈ lw_tbl → goodWord w = true → w.before args s = true) (hO : ∀ C : String, Cond.arrayOver (.object C) ∈ lw_tbl → va_AO C s) (hK : va_K D vwCl [] s) (hd : decode cc pc = .ok (i, len)) (hchk : ai_chk own i aux = true)
    (w : ai_W E s σ ws) (hP : va_P D vwCl ws H) (hD : va_D A ws) (hSs : va_S A H0 H locs) (hA : ∀ q, H0.size ≤ q → A q) (hS : ai_S E ws st vs) {ce : AC} {ds : Nat} (h : ai_h3 i len aux st σ = some (st', ce, ds)) (hc1 : cells + 1 ≤ R.cells) (hs1 : slots + ds ≤ R.slots)
    (k : ∀ (ws' : va_W) (H' : Heap) (vs' : List Value), ai_Ext ws ws' → ai_W E s (σ ++ [ce]) ws' → va_P D vwCl ws' H' → va_D A ws' → va_S A H0 H' locs → ai_S E ws' (.inr (.inr (.inr (.inl (some σ.length)))) :: st') vs' → W p l e R s m args below meth c H' locs (cells + 1) (slots + ds) Q (F0 m (pc + len) ls vs')) : W p l e R s m args below meth c H locs cells slots Q (F0 m pc ls vs) := by
  have hadd : ∀ (q : Nat × va_E) , ai_ad (ws ++ [q]) σ.length = some q.1 := fun q => by rw [w.1]; exact ai_ad_push
  unfold ai_h3 at h
  split at h
  · next ix ci t1 t2 t3 =>
    split at h
    · next q hq =>
      cases h
      have hchk : (match vwCl[ci]? with
        | some r => ai_w t1 (.classLink own ix r.1) && ai_w t2 (.instantiable r.1 r.2.2) && ai_w t3 (.initialized r.1) && (List.range r.2.2).all (fun k => ai_ok (ai_tf ci k))
        | none => false) = true := hchk
      rw [hq] at hchk
      simp only [Bool.and_eq_true, List.all_eq_true] at hchk
      obtain ⟨⟨⟨c1, c2⟩, c3⟩, c4⟩ := hchk
      obtain ⟨f1, f2, f3⟩ := ai_F_all ci q hq
      refine va_new (own := own) (C := q.1) (T := q.2.1) (N := q.2.2) (Ts := u_ws q.1 q.2.1 q.2.2) (fs := (List.range q.2.2).map (fun k => defaultValue (ai_tf ci k))) hx hb (fun w hw => hT w (f3 w hw) (ai_u_good _ _ _ w hw)) (fun w hw => hw) (ai_tf ci) f1 hown (hT _ (ai_w_ok c1).1 (ai_w_ok c1).2) (hT _ (ai_w_ok c2).1 (ai_w_ok c2).2) (hT _ (ai_w_ok c3).1 (ai_w_ok c3).2) hK hP hD hSs hA hq ?_ hc1 hs1 hd ?_
      · intro j hj
        unfold vp_V
        rw [List.getD_eq_getElem?_getD, List.getElem?_map, List.getElem?_range hj]
        rfl
      · intro qa H1 p1 d1 s1
        exact k _ H1 (.ref qa :: vs) ai_Ext.push (w.push (q := (qa, .inr (ci, (List.range q.2.2).map (fun k => defaultValue (ai_tf ci k))))) ⟨rfl, ai_S_map _ (fun k hk => ai_df_ok (c4 k hk))⟩) p1 d1 s1 ⟨⟨qa, rfl, hadd _⟩, hS.mono ai_Ext.push⟩
    · cases h
  · next y t t1 n r =>
    match vs, hS with
    | [], hS => exact hS.elim
    | v :: vs, ⟨hv, hS⟩ =>
      split at h
      · next kk hk =>
        cases h
        obtain ⟨b, rfl, hin, rfl⟩ := ai_ix_ok hk hv
        have hchk : (decide (ai_ty t = newarray.typeOf y) && ai_w t1 (.arrayClass (newarray.typeOf y)) && decide (t < 4)) = true := hchk
        simp only [Bool.and_eq_true, decide_eq_true_eq] at hchk
        obtain ⟨⟨c1, c2⟩, c3⟩ := hchk
        have hn : ¬ b < 0 := fun z => hin (Or.inl z)
        have hn2 : b.toNatClampNeg < 100000 := Nat.lt_of_not_le fun z => hin (Or.inr z)
        have hcA := hT _ (ai_w_ok c2).1 (ai_w_ok c2).2
        match t, c1, c3 with
        | 0, c1, _ =>
          exact va_newa (a0 := (b.toNatClampNeg, .inl (fun _ => 0))) hx hb hcA c1.symm hK hP hD hSs hA (fun cA => rfl) hn rfl (by show _ * 1 ≤ _; omega) hc1 hs1 hd (fun qa cA H1 k1 p1 d1 s1 => k _ H1 (.ref qa :: vs) ai_Ext.push (ai_pushA w (.inl (fun _ => 0)) (k1.2 0 _ rfl).1 (k1.2 0 _ rfl).2 (fun _ _ => rfl)) p1 d1 s1 ⟨⟨qa, rfl, hadd _⟩, hS.mono ai_Ext.push⟩)
        | 1, c1, _ =>
          exact va_newa (a0 := (b.toNatClampNeg, .inl (fun _ => 0))) hx hb hcA c1.symm hK hP hD hSs hA (fun cA => rfl) hn rfl (by show _ * 4 ≤ _; omega) hc1 hs1 hd (fun qa cA H1 k1 p1 d1 s1 => k _ H1 (.ref qa :: vs) ai_Ext.push (ai_pushA w (.inl (fun _ => 0)) (k1.2 0 _ rfl).1 (k1.2 0 _ rfl).2 (fun _ _ => rfl)) p1 d1 s1 ⟨⟨qa, rfl, hadd _⟩, hS.mono ai_Ext.push⟩)
        | 2, c1, _ =>
          exact va_newa (a0 := (b.toNatClampNeg, .inr (.inl (fun _ => 0)))) hx hb hcA c1.symm hK hP hD hSs hA (fun cA => rfl) hn rfl (by show _ * 8 ≤ _; omega) hc1 hs1 hd (fun qa cA H1 k1 p1 d1 s1 => k _ H1 (.ref qa :: vs) ai_Ext.push (ai_pushA w (.inr (.inl (fun _ => 0))) (k1.2 0 _ rfl).1 (k1.2 0 _ rfl).2 (fun _ _ => rfl)) p1 d1 s1 ⟨⟨qa, rfl, hadd _⟩, hS.mono ai_Ext.push⟩)
        | 3, c1, _ =>
          exact va_newa (a0 := (b.toNatClampNeg, .inl (fun _ => 0))) hx hb hcA c1.symm hK hP hD hSs hA (fun cA => rfl) hn rfl (by show _ * 1 ≤ _; omega) hc1 hs1 hd (fun qa cA H1 k1 p1 d1 s1 => k _ H1 (.ref qa :: vs) ai_Ext.push (ai_pushA w (.inl (fun _ => 0)) (k1.2 0 _ rfl).1 (k1.2 0 _ rfl).2 (fun _ _ => rfl)) p1 d1 s1 ⟨⟨qa, rfl, hadd _⟩, hS.mono ai_Ext.push⟩)
        | n + 4, _, c3 => exact absurd c3 (by omega)
      · cases h
  · next ix ci t1 t2 n r =>
    match vs, hS with
    | [], hS => exact hS.elim
    | v :: vs, ⟨hv, hS⟩ =>
      split at h
      · next kk hk =>
        cases h
        obtain ⟨b, rfl, hin, rfl⟩ := ai_ix_ok hk hv
        have hchk : (ai_w t1 (.classLink own ix (ai_cl ci)) && ai_wb t2 (.arrayOver (.object (ai_cl ci)))) = true := hchk
        rw [Bool.and_eq_true] at hchk
        obtain ⟨c1, c2⟩ := hchk
        have hn : ¬ b < 0 := fun z => hin (Or.inl z)
        have hn2 : b.toNatClampNeg < 100000 := Nat.lt_of_not_le fun z => hin (Or.inr z)
        exact va_newq hx hb hown (hT _ (ai_w_ok c1).1 (ai_w_ok c1).2) (hO _ (ai_wb_ok c2)) hK hP hD hSs hA hn rfl (by omega) hc1 hs1 hd (fun qa cA H1 k1 p1 d1 s1 => k _ H1 (.ref qa :: vs) ai_Ext.push (ai_pushA (t := ci + 4) w (.inr (.inr (.inr (.inr (fun _ => none))))) (k1.2 0 _ rfl).1 (k1.2 0 _ rfl).2 (fun _ _ => rfl)) p1 d1 s1 ⟨⟨qa, rfl, hadd _⟩, hS.mono ai_Ext.push⟩)
      · cases h
  · cases h
end AIH2
end
section
/-! ===== methods, and the machine's run over the abstract world ===== -/
abbrev AQ : Type := Nat × Instr × Nat × List Nat
/-- own class, name, bytes, locals, what it returns; handlers, their exceptions, kind (0 virtual, 1 static, 2 constructor), parameters, class number, places in the tables; code -/
abbrev AM : Type := (String × MethodName × ByteArray × Nat × Option FieldType) × (List (Nat × Nat × Nat × Nat) × List (Nat × Nat) × Nat × Nat × Nat × List Nat) × List AQ
def m_own (M : AM) : String := M.1.1
def m_y (M : AM) : MethodName := M.1.2.1
def m_cc (M : AM) : ByteArray := M.1.2.2.1
def m_L (M : AM) : Nat := M.1.2.2.2.1
def m_ret (M : AM) : Option FieldType := M.1.2.2.2.2
def m_hh (M : AM) : List (Nat × Nat × Nat × Nat) := M.2.1.1
def m_hx (M : AM) : List (Nat × Nat) := M.2.1.2.1
def m_kind (M : AM) : Nat := M.2.1.2.2.1
def m_n (M : AM) : Nat := M.2.1.2.2.2.1
def m_ci (M : AM) : Nat := M.2.1.2.2.2.2.1
def m_ts (M : AM) : List Nat := M.2.1.2.2.2.2.2
def m_code (M : AM) : List AQ := M.2.2
def m_G : List Cond := lw_tbl.filter goodWord
def m_head (M : AM) : Cond := if m_hh M = [] then .code (m_y M) (m_cc M) (m_L M) (m_ret M) else .codeWith (m_y M) (m_cc M) (m_L M) (m_ret M) (m_hh M)
def m_ws (M : AM) : List Cond := m_head M :: m_G
def ax_n : Nat → String
  | 0 => "java/lang/IllegalArgumentException"
  | 1 => "java/lang/UnsupportedOperationException"
  | 2 => "java/util/NoSuchElementException"
  | 3 => "java/lang/IndexOutOfBoundsException"
  | _ => "java/lang/IllegalStateException"
def ax_up : List String := ["java/lang/RuntimeException", "java/lang/Exception"]
/-- words that are no good words but are kept by their own laws -/
def ax_kw (w : Cond) : Bool := match w with
  | .declares _ => true
  | .castable _ _ => true
  | .methodLinkNest _ _ _ _ => true
  | _ => false
def ax_ck (own : String) (cc : ByteArray) (pc x n t1 t2 ic t3 : Nat) : Bool :=
  decide (n < 5) && ai_w t1 (.classLink own x (ax_n n)) && ai_w t2 (.initialized (ax_n n)) && decide (decode cc (pc + 3) = .ok (.dup, 1)) && decide (decode cc (pc + 4) = .ok (.invokespecial ic, 3)) && decide (decode cc (pc + 7) = .ok (.athrow, 1))
    && ai_w t3 (.methodLink own ic (Bundle.init0 (ax_n n)))
/-- the words of a throw that don't speak of its place -/
def ax_ws (n : Nat) : List Cond := (Bundle.throwableAtoms ++ (Bundle.chain0Atoms (ax_n n) ax_up ++ ([.instantiable (ax_n n) 6, .castable (ax_n n) (ax_n n), .selects (ax_n n) Bundle.tFill0 Bundle.tFill0, .selects (ax_n n) Bundle.tFill Bundle.tFill,
   .lays (ax_n n) Bundle.tN "cause" "Ljava/lang/Throwable;", .lays (ax_n n) Bundle.tN "stackTrace" Bundle.steD, .lays (ax_n n) Bundle.tN "suppressedExceptions" Bundle.listD, .lays (ax_n n) Bundle.tN "detailMessage" "Ljava/lang/String;",
   .isRef (.static Bundle.tN "UNASSIGNED_STACK" Bundle.steD), .isRef (.static Bundle.tN "SUPPRESSED_SENTINEL" Bundle.listD),
   .fieldLink Bundle.tN 198 Bundle.tN "backtrace" "Ljava/lang/Object;", .lays Bundle.tN Bundle.tN "backtrace" "Ljava/lang/Object;", .lays (ax_n n) Bundle.tN "backtrace" "Ljava/lang/Object;"] : List Cond))).filter vx_no
theorem ax_split {own : String} {ic n : Nat} {w : Cond} (h : w ∈ vx_at0 own ic (ax_n n) ax_up) : w = .methodLink own ic (Bundle.init0 (ax_n n)) ∨ w ∈ ax_ws n := by
  obtain ⟨h1, h2⟩ := List.mem_filter.mp h
  unfold Bundle.ownAtoms0 at h1
  rcases List.mem_append.mp h1 with h1 | h1
  · rcases List.mem_append.mp h1 with h1 | h1
    · exact Or.inr (List.mem_filter.mpr ⟨List.mem_append_left _ h1, h2⟩)
    · exact Or.inr (List.mem_filter.mpr ⟨List.mem_append_right _ (List.mem_append_left _ h1), h2⟩)
  · rcases List.mem_cons.mp h1 with h1 | h1
    · exact Or.inl h1
    · exact Or.inr (List.mem_filter.mpr ⟨List.mem_append_right _ (List.mem_append_right _ h1), h2⟩)
def ax_one (w : Cond) : Bool := decide (w ∈ lw_tbl) && (vx_ot w && (goodWord w || ax_kw w))
set_option maxRecDepth 100000 in
theorem ax_w0 : (ax_ws 0).all ax_one = true := by decide +kernel
set_option maxRecDepth 100000 in
theorem ax_w1 : (ax_ws 1).all ax_one = true := by decide +kernel
set_option maxRecDepth 100000 in
theorem ax_w2 : (ax_ws 2).all ax_one = true := by decide +kernel
set_option maxRecDepth 100000 in
theorem ax_w3 : (ax_ws 3).all ax_one = true := by decide +kernel
set_option maxRecDepth 100000 in
theorem ax_w4 : (ax_ws 4).all ax_one = true := by decide +kernel
theorem ax_all {own : String} {ic n : Nat} (hn : n < 5) (hm : Cond.methodLink own ic (Bundle.init0 (ax_n n)) ∈ lw_tbl) : ∀ w ∈ vx_at0 own ic (ax_n n) ax_up, w ∈ lw_tbl ∧ vx_ot w = true ∧ (goodWord w = true ∨ ax_kw w = true) := by
  intro w hw
  rcases ax_split hw with rfl | hw
  · exact ⟨hm, rfl, Or.inl rfl⟩
  · have h : ax_one w = true := by
      match n, hn, hw with
      | 0, _, hw => exact List.all_eq_true.mp ax_w0 w hw
      | 1, _, hw => exact List.all_eq_true.mp ax_w1 w hw
      | 2, _, hw => exact List.all_eq_true.mp ax_w2 w hw
      | 3, _, hw => exact List.all_eq_true.mp ax_w3 w hw
      | 4, _, hw => exact List.all_eq_true.mp ax_w4 w hw
    unfold ax_one at h
    simp only [Bool.and_eq_true, decide_eq_true_eq, Bool.or_eq_true] at h
    exact h
def ai_ck2 (mt : List AM) (own : String) (cc : ByteArray) (q : AQ) : Bool := match q.2.1, q.2.2.2 with
  | .invokevirtual x, [k, t] => match mt[k]? with
    | some M => ai_w t (.methodLink own x (m_y M))
    | none => false
  | .invokestatic x, [k, t] => match mt[k]? with
    | some M => ai_w t (.methodLink own x (m_y M))
    | none => false
  | .invokespecial x, [k, t] => match mt[k]? with
    | some M => ai_w t (.methodLink own x (m_y M))
    | none => false
  | .invokespecial x, [t1, t2, t3] => ai_w t1 (.methodLink own x Lib.objectInit) && ai_w t2 (.instanceMethod Lib.objectInit) && ai_w t3 (.code Lib.objectInit ⟨#[0xb1]⟩ 1 none)
  | .invokespecial x, [k, t, _, _] => match mt[k]? with
    | some M => ai_wb t (.methodLinkNest own x (m_y M) "MountYard")
    | none => false
  | .new x, [n, t1, t2, ic, t3] => ax_ck own cc q.1 x n t1 t2 ic t3
  | _, _ => true
def ai_ckh (own : String) (hh : List (Nat × Nat × Nat × Nat)) (hx : List (Nat × Nat)) : Bool := match hh, hx with
  | [], [] => true
  | q :: hh, x :: hx => decide (x.1 < 5) && decide (q.2.2.2 ≠ 0) && ai_w x.2 (.classLink own q.2.2.2 (ax_n x.1)) && ai_ckh own hh hx
  | _, _ => false
/-- what a method's row in the list must be -/
def ai_mok1 (M : AM) : Bool :=
  plainName (m_own M) && decide ((m_y M).cls = m_own M) && decide (m_own M ≠ "java/lang/invoke/MethodHandle") && decide (m_own M ≠ "java/lang/invoke/VarHandle")
    && decide ((parseMethodDescriptor (m_y M).desc).map (fun d => d.parameters.length) = some (m_n M)) && decide (m_L M ≤ 16)
    && (match m_ts M with
      | [tc, ti, tk, tsel] => ai_w tc (m_head M) && ai_w ti (.initialized (m_own M))
        && (match m_kind M with
          | 0 => ai_w tk (.instanceMethod (m_y M)) && ai_w tsel (.selects (m_own M) (m_y M) (m_y M)) && decide ((vwCl[m_ci M]?).map (fun r => r.1) = some (m_own M)) && decide (m_hh M = [])
          | 1 => ai_w tk (.static (m_y M))
          | _ => ai_w tk (.instanceMethod (m_y M)) && decide ((m_y M).name = "<init>") && decide (m_ret M = none) && decide (m_hh M = []) && decide (m_kind M = 2))
      | _ => false)
    && ai_ckh (m_own M) (m_hh M) (m_hx M)
def ai_row (mt : List AM) (M : AM) (q : AQ) : Bool := decide (decode (m_cc M) q.1 = .ok (q.2.1, q.2.2.1)) && ai_chk (m_own M) q.2.1 q.2.2.2 && ai_ck2 mt (m_own M) (m_cc M) q
def ai_mok2 (mt : List AM) (M : AM) : Bool := (m_code M).all (ai_row mt M)
def ai_call (mt : List AM) (i : Instr) (len : Nat) (aux : List Nat) (st : List AV) (σ : List AC) : Option (AM × List AV × List AV) := match i, len, aux with
  | .invokevirtual _, 3, [k, _] => match mt[k]? with
    | some M => match st.drop (m_n M) with
      | x :: r => match ai_ob σ x (m_ci M) with
        | some _ => if m_kind M = 0 ∧ (r.map ai_wd).sum ≤ 8 then some (M, x :: (st.take (m_n M)).reverse, r) else none
        | none => none
      | [] => none
    | none => none
  | .invokestatic _, 3, [k, _] => match mt[k]? with
    | some M => if m_kind M = 1 ∧ m_n M ≤ st.length ∧ ((st.drop (m_n M)).map ai_wd).sum ≤ 8 then some (M, (st.take (m_n M)).reverse, st.drop (m_n M)) else none
    | none => none
  | .invokespecial _, 3, [k, _] => match mt[k]? with
    | some M => match st.drop (m_n M) with
      | x :: r => match ai_rf x with
        | some _ => if m_kind M = 2 ∧ (r.map ai_wd).sum ≤ 8 then some (M, x :: (st.take (m_n M)).reverse, r) else none
        | none => none
      | [] => none
    | none => none
  | .invokespecial _, 3, [k, _, _, _] => match mt[k]? with
    | some M => match st.drop (m_n M) with
      | x :: r => match ai_rf x with
        | some _ => if m_kind M = 2 ∧ (r.map ai_wd).sum ≤ 8 then some (M, x :: (st.take (m_n M)).reverse, r) else none
        | none => none
      | [] => none
    | none => none
  | _, _, _ => none
def ai_oi (i : Instr) (len : Nat) (aux : List Nat) (st : List AV) : Option (List AV) := match i, len, aux, st with
  | .invokespecial _, 3, [_, _, _], x :: r => match ai_rf x with
    | some _ => if (r.map ai_wd).sum ≤ 8 then some r else none
    | none => none
  | _, _, _, _ => none
def ai_sc (sc : Option (Nat × (Nat → AV))) (i : Instr) (len : Nat) (st : List AV) : Option (List AV) := match sc, i, len, st with
  | some q, .iaload, 1, j :: x :: r => if x = .inr (.inr (.inr (.inr 5))) then (match ai_ix j q.1 with
    | some k => some (q.2 k :: r)
    | none => none) else none
  | some q, .arraylength, 1, x :: r => if x = .inr (.inr (.inr (.inr 5))) then some (.inl (Int32.ofNat q.1) :: r) else none
  | _, _, _, _ => none
def ai_ret (M : AM) (i : Instr) (len : Nat) (st : List AV) : Option (Option AV) := match i, len, st with
  | .ireturn, 1, [x] => match m_ret M with
    | some t => if (t = .int ∨ t = .boolean) ∧ ai_fit t x = true then some (some x) else none
    | none => none
  | .lreturn, 1, [x] => if m_ret M = some .long ∧ ai_cat x = 2 then some (some x) else none
  | .areturn, 1, [x] => match m_ret M with
    | some (.object _) => if ai_cat x = 3 then some (some x) else none
    | _ => none
  | .return_, 1, [] => if m_ret M = none then some none else none
  | _, _, _ => none
def ai_th (d : Nat) (M : AM) (i : Instr) (len : Nat) (aux : List Nat) (st : List AV) : Option Nat := match i, len, aux with
  | .new _, 3, [n, _, _, _, _] => if 6 ≤ d ∧ m_hh M = [] ∧ (st.map ai_wd).sum ≤ 8 then some n else none
  | _, _, _ => none
def ai_hnd (pc E : Nat) : List (Nat × Nat × Nat × Nat) → List (Nat × Nat) → Option Nat
  | q :: hh, x :: hx => if q.1 ≤ pc ∧ pc < q.2.1 then (if x.1 = E then some q.2.2.1 else ai_hnd pc E hh hx) else ai_hnd pc E hh hx
  | _, _ => none
def ai_args : Nat → List AV → ALo
  | _, [] => []
  | i, v :: vs => (i, v) :: ai_args (if ai_wd v = 2 then i + 2 else i + 1) vs
abbrev AR : Type := (Option AV ⊕ Nat) × List AC × Nat × Nat
def ai_add (c s : Nat) (r : Option AR) : Option AR := match r with
  | some q => some (q.1, q.2.1, c + q.2.2.1, s + q.2.2.2)
  | none => none
abbrev AIH : Type := Option (Nat × (Nat → AV)) → Nat → AM → Nat → ALo → List AV → List AC → Option AR
/-- answers that are known beforehand -/
abbrev AXT : Type := Nat → AM → List AV → List AC → Option AR
def ai_body (ext : AXT) (mt : List AM) (op : Option Int32) (ih : AIH) (sc : Option (Nat × (Nat → AV))) (d : Nat) (M : AM) (pc : Nat) (lo : ALo) (st : List AV) (σ : List AC) : Option AR :=
  match (m_code M).find? (fun q => q.1 == pc) with
  | none => none
  | some q =>
    match ai_pu op (m_L M) q.2.1 q.2.2.1 pc lo st with
    | some r => ih sc d M r.1 r.2.1 r.2.2 σ
    | none =>
    match ai_h1 q.2.1 q.2.2.1 q.2.2.2 st σ with
    | some st' => ih sc d M (pc + q.2.2.1) lo st' σ
    | none =>
    match ai_h2 (decide (m_kind M = 2)) q.2.1 q.2.2.1 q.2.2.2 st σ with
    | some r => ih sc d M (pc + q.2.2.1) lo r.1 r.2
    | none =>
    match ai_h3 q.2.1 q.2.2.1 q.2.2.2 st σ with
    | some r => ai_add 1 r.2.2 (ih sc d M (pc + q.2.2.1) lo (.inr (.inr (.inr (.inl (some σ.length)))) :: r.1) (σ ++ [r.2.1]))
    | none =>
    match ai_sc sc q.2.1 q.2.2.1 st with
    | some st' => ih sc d M (pc + q.2.2.1) lo st' σ
    | none =>
    match ai_ret M q.2.1 q.2.2.1 st with
    | some v => some (.inl v, σ, 0, 0)
    | none =>
    match ai_th d M q.2.1 q.2.2.1 q.2.2.2 st with
    | some n => some (.inr n, σ, 1, 6)
    | none =>
    match ai_oi q.2.1 q.2.2.1 q.2.2.2 st with
    | some st' => if 1 ≤ d then ih sc d M (pc + q.2.2.1) lo st' σ else none
    | none =>
    match ai_call mt q.2.1 q.2.2.1 q.2.2.2 st σ with
    | none => none
    | some r =>
      match d with
      | 0 => none
      | d' + 1 =>
        if ((r.2.1).map ai_wd).sum ≤ m_L r.1 then
          match ai_or (ext d' r.1 r.2.1 σ) (ih none d' r.1 0 (ai_args 0 r.2.1) [] σ) with
          | none => none
          | some (.inl v, σ', dc, ds) => ai_add dc ds (ih sc (d' + 1) M (pc + q.2.2.1) lo (v.toList ++ r.2.2) σ')
          | some (.inr n, σ', dc, ds) =>
            if m_kind r.1 = 2 then none else
            match ai_hnd pc n (m_hh M) (m_hx M) with
            | some h => ai_add dc ds (ih sc (d' + 1) M h lo [.inr (.inr (.inr (.inr 0)))] σ')
            | none => if m_hh M = [] then some (.inr n, σ', dc, ds) else none
        else none
def ai_run (ext : AXT) (mt : List AM) (op : Option Int32) (fuel : Nat) : AIH := Nat.rec (motive := fun _ => AIH) (fun _ _ _ _ _ _ _ => none) (fun _ ih => ai_body ext mt op ih) fuel
end
section
/-! ===== the run's law over the machine ===== -/
def ai_O (E : AE) (ws : va_W) (o : Option AV) (v : Option Value) : Prop := match o, v with
  | none, none => True
  | some a, some x => ai_V E ws a x
  | _, _ => False
def ai_Ev (E : AE) (D : va_G) (σ : List AC) (ws0 : va_W) (A : Nat → Prop) (st t : State) (ws : va_W) : Prop := ai_W E t σ ws ∧ ai_Ext ws0 ws ∧ va_P D vwCl ws t.heap ∧ va_D A ws ∧ va_F A st t
def ai_Q (E : AE) (D : va_G) (o : Option AV ⊕ Nat) (σ : List AC) (ws0 : va_W) (A : Nat → Prop) : Array Value → State → Outcome → State → Prop := fun _ st oc t => ∃ (ov : Option AV) (v : Option Value) (ws : va_W), o = .inl ov ∧ oc = .returned v ∧ ai_O E ws ov v ∧ ai_Ev E D σ ws0 A st t ws
def ai_X (E : AE) (D : va_G) (o : Option AV ⊕ Nat) (σ : List AC) (ws0 : va_W) (A : Nat → Prop) : String → State → State → Prop := fun N st t => ∃ (n : Nat) (ws : va_W), o = .inr n ∧ N = ax_n n ∧ ai_Ev E D σ ws0 A st t ws
def ai_G (D : va_G) (s : State) : Prop := va_K D vwCl [] s ∧ (∀ C : String, Cond.arrayOver (.object C) ∈ lw_tbl → va_AO C s) ∧ (∀ w, w ∈ lw_tbl → ax_kw w = true → va_Nw w s) ∧ ∀ a b : Nat, a < 5 → b < 5 → a ≠ b → va_Nc (ax_n a) (ax_n b) s
def ai_Z (A : Nat → Prop) (s : State) (H : Heap) : Prop := vx_Zq Bundle.tN "UNASSIGNED_STACK" Bundle.steD A s H ∧ vx_Zq Bundle.tN "SUPPRESSED_SENTINEL" Bundle.listD A s H
theorem ax_kw_on {w : Cond} (h : ax_kw w = true) : w.onTables = true := by
  unfold ax_kw at h
  split at h <;> first | rfl | cases h
theorem ax_kw_warm {w : Cond} (h : ax_kw w = true) {s U : State} (hW : s.WarmedH U.vm) (k : va_Nw w s) : va_Nw w U := by
  unfold ax_kw at h
  split at h
  · exact va_Nw.warmD hW k
  · exact va_Nw.warmC hW k
  · exact va_Nw.warmM hW k
  · cases h
theorem ai_G.warm {D : va_G} {s U : State} (hW : s.WarmedH U.vm) (h : ai_G D s) : ai_G D U :=
  ⟨va_K.moved hW.alike h.1, fun C hC => (h.2.1 C hC).moved hW.alike, fun w hw hk => ax_kw_warm hk hW (h.2.2.1 w hw hk), fun a b ha hb hn => (h.2.2.2 a b ha hb hn).moved hW.alike⟩
theorem ai_G.same {D : va_G} {s U : State} (e : s.vm = U.vm) (h : ai_G D s) : ai_G D U :=
  ⟨va_K.moved (by rw [e]; exact Vm.Alike.refl _) h.1, fun C hC => (h.2.1 C hC).moved (by rw [e]; exact Vm.Alike.refl _), fun w hw hk => va_Nw.same (ax_kw_on hk) e (h.2.2.1 w hw hk), fun a b ha hb hn => (h.2.2.2 a b ha hb hn).moved (by rw [e]; exact Vm.Alike.refl _)⟩
theorem ai_Z.moved {A : Nat → Prop} {s U : State} {H : Heap} (e : s.vm.Alike U.vm) (h : ai_Z A s H) : ai_Z A U H := ⟨h.1.moved e, h.2.moved e⟩
theorem ai_Z.kept {A : Nat → Prop} {s : State} {H H1 : Heap} (h : ai_Z A s H) (k : ∀ a : Nat, a < H.size → ¬ A a → H1[a]? = H[a]?) : ai_Z A s H1 := ⟨h.1.kept k, h.2.kept k⟩
theorem ai_Z.narrow {A B : Nat → Prop} {s : State} {H : Heap} (h : ai_Z A s H) (k : ∀ q, B q → A q) : ai_Z B s H := ⟨h.1.narrow k, h.2.narrow k⟩
theorem m_G_in {w : Cond} (h : w ∈ lw_tbl) (g : goodWord w = true) : w ∈ m_G := List.mem_filter.mpr ⟨h, g⟩
theorem m_G_of {w : Cond} (h : w ∈ m_G) : w ∈ lw_tbl ∧ goodWord w = true := List.mem_filter.mp h
theorem m_good {ws : List Cond} (h : ∀ w ∈ ws, w ∈ m_G) : GoodIn m_G ws := fun w hw => ⟨h w hw, good_of_word (m_G_of (h w hw)).2⟩
/-- the frame of a method that is walked -/
def ai_Fr (M : AM) (D : va_G) (l : Launch) (p : Program) (s : State) (m : MethodId) (args : Array Value) (meth : Method) (c : Code) : Prop :=
  p.tables.exec = Jvm.exec ∧ c.code = m_cc M ∧ c.maxLocals = m_L M ∧ s.vm.findClass (m_own M) = some m.cls ∧ meth.sig.returnType = m_ret M ∧ meth.locks = false ∧ (m_kind M = 2 → meth.name = "<init>") ∧ c.exceptionTable.toList = tableOf (m_hh M) ∧ (∀ w, w ∈ lw_tbl → goodWord w = true → w.before args s = true) ∧ ai_G D s ∧ l.stackTraces = false
def ai_Pc (D : va_G) (E : AE) (σ : List AC) (ws : va_W) (sz : Nat) (av : List Value) : Array Value → State → Prop := va_Pc av (fun U => U.heap.size = sz ∧ ai_W E U σ ws ∧ va_P D vwCl ws U.heap ∧ va_D (fun _ => True) ws ∧ ai_G D U ∧ ai_Z (va_A ws sz) U U.heap)
def ai_rm (d dc ds : Nat) : Room := { frames := d, cells := dc, slots := ds, locals := 36 * d }
/-- a method's contract, out of a run -/
def ai_CT (l : Launch) (D : va_G) (E : AE) (M : AM) (as : List AV) (σ : List AC) (d : Nat) (r : AR) : Prop :=
  ∀ (ws : va_W) (sz : Nat) (av : List Value), ai_S E ws as av → vx_Met l (m_y M) (m_ws M) (ai_rm d r.2.2.1 r.2.2.2) (ai_Pc D E σ ws sz av) (ai_Q E D r.1 r.2.1 ws (va_A ws sz)) (ai_X E D r.1 r.2.1 ws (va_A ws sz)) r.2.2.1 r.2.2.2 (va_A ws sz)
theorem ai_Pc_blind {D : va_G} {E : AE} {σ : List AC} {ws : va_W} {sz : Nat} {av : List Value} : FrameBlind (ai_Pc D E σ ws sz av) := by
  intro a U g mk h
  obtain ⟨h0, h1, h2, h3, h4, h5, h6⟩ := h
  exact ⟨h0, h1, h2.moved (Vm.Alike.refl U.vm), h3, h4, h5.same (U := U.calling g mk a) (show U.vm = (U.calling g mk a).vm from rfl), h6.moved (Vm.Alike.refl U.vm)⟩
theorem ai_S_app {E : AE} {ws : va_W} : ∀ {a b : List AV} {x y : List Value}, ai_S E ws a x → ai_S E ws b y → ai_S E ws (a ++ b) (x ++ y)
  | [], _, [], _, _, h => h
  | [], _, _ :: _, _, h, _ => h.elim
  | _ :: _, _, [], _, h, _ => h.elim
  | _ :: _, _, _ :: _, _, h, k => ⟨h.1, ai_S_app h.2 k⟩
theorem ai_S_rev {E : AE} {ws : va_W} : ∀ {a : List AV} {x : List Value}, ai_S E ws a x → ai_S E ws a.reverse x.reverse
  | [], [], h => h
  | [], _ :: _, h => h.elim
  | _ :: _, [], h => h.elim
  | _ :: _, _ :: _, h => by
    rw [List.reverse_cons, List.reverse_cons]
    exact ai_S_app (ai_S_rev h.2) ⟨h.1, trivial⟩
theorem ai_S_take {E : AE} {ws : va_W} : ∀ (n : Nat) {a : List AV} {x : List Value}, ai_S E ws a x → ai_S E ws (a.take n) (x.take n)
  | 0, _, _, _ => trivial
  | _ + 1, [], [], h => h
  | _ + 1, [], _ :: _, h => h.elim
  | _ + 1, _ :: _, [], h => h.elim
  | n + 1, _ :: _, _ :: _, h => ⟨h.1, ai_S_take n h.2⟩
theorem ai_S_drop {E : AE} {ws : va_W} : ∀ (n : Nat) {a : List AV} {x : List Value}, ai_S E ws a x → ai_S E ws (a.drop n) (x.drop n)
  | 0, _, _, h => h
  | _ + 1, [], [], h => h
  | _ + 1, [], _ :: _, h => h.elim
  | _ + 1, _ :: _, [], h => h.elim
  | n + 1, _ :: _, _ :: _, h => ai_S_drop n h.2
theorem ai_S_sum {E : AE} {ws : va_W} : ∀ {a : List AV} {x : List Value}, ai_S E ws a x → (x.map fun v => v.category).sum = (a.map ai_wd).sum
  | [], [], _ => rfl
  | [], _ :: _, h => h.elim
  | _ :: _, [], h => h.elim
  | _ :: _, _ :: _, h => by rw [List.map_cons, List.map_cons, List.sum_cons, List.sum_cons, ai_S_sum h.2, ai_V_wd h.1]
theorem ai_args_ok {E : AE} {ws : va_W} : ∀ (i : Nat) {a : List AV} {x : List Value}, ai_S E ws a x → ai_L E ws (ai_args i a) (lv_args i x)
  | _, [], [], _ => trivial
  | _, [], _ :: _, h => h.elim
  | _, _ :: _, [], h => h.elim
  | i, a :: as, v :: vs, h => by
    refine ⟨⟨rfl, h.1⟩, ?_⟩
    rw [show v.category = ai_wd a from ai_V_wd h.1]
    exact ai_args_ok _ h.2
theorem ai_sl_len : ∀ (x : List Value), (lg_sl x).length = (x.map fun v => v.category).sum
  | [] => rfl
  | v :: x => by
    have e : lg_sl (v :: x) = (if v.category = 2 then [.val v, .second] else [.val v]) ++ lg_sl x := rfl
    rw [e, List.length_append, ai_sl_len x, List.map_cons, List.sum_cons]
    rcases lv_cat v with h | h
    · rw [if_neg (by omega), h]; rfl
    · rw [if_pos h, h]; rfl
theorem ai_hnd_ok {own : String} {pc E : Nat} {args : Array Value} {s : State} (hT : ∀ w, w ∈ lw_tbl → goodWord w = true → w.before args s = true) (hN : ∀ a b : Nat, a < 5 → b < 5 → a ≠ b → va_Nc (ax_n a) (ax_n b) s) (hE : E < 5) : ∀ {hh : List (Nat × Nat × Nat × Nat)} {hx : List (Nat × Nat)} {h : Nat}, ai_ckh own hh hx = true → ai_hnd pc E hh hx = some h →
    ∃ (pre : List ExceptionTableEntry) (x : ExceptionTableEntry) (suf : List ExceptionTableEntry), tableOf hh = pre ++ x :: suf ∧ (∀ z ∈ pre, covers z pc = false ∨ (z.catchType ≠ 0 ∧ ∃ nm : String, (Cond.classLink own z.catchType nm).before args s = true ∧ va_Nc (ax_n E) nm s)) ∧ covers x pc = true ∧ x.catchType ≠ 0 ∧ (Cond.classLink own x.catchType (ax_n E)).before args s = true ∧ x.handlerPc = h
  | [], _, _, _, k => by cases k
  | _ :: _, [], _, _, k => by cases k
  | q :: hh, x :: hx, h, c, k => by
    have c : (decide (x.1 < 5) && decide (q.2.2.2 ≠ 0) && ai_w x.2 (.classLink own q.2.2.2 (ax_n x.1)) && ai_ckh own hh hx) = true := c
    simp only [Bool.and_eq_true, decide_eq_true_eq] at c
    obtain ⟨⟨⟨c1, c2⟩, c3⟩, c4⟩ := c
    have hl := hT _ (ai_w_ok c3).1 (ai_w_ok c3).2
    have k : (if q.1 ≤ pc ∧ pc < q.2.1 then (if x.1 = E then some q.2.2.1 else ai_hnd pc E hh hx) else ai_hnd pc E hh hx) = some h := k
    have hcov : covers ⟨q.1, q.2.1, q.2.2.1, q.2.2.2⟩ pc = decide (q.1 ≤ pc ∧ pc < q.2.1) := by simp [covers]
    by_cases hc : q.1 ≤ pc ∧ pc < q.2.1
    · rw [if_pos hc] at k
      by_cases he : x.1 = E
      · rw [if_pos he] at k
        cases k
        exact ⟨[], ⟨q.1, q.2.1, q.2.2.1, q.2.2.2⟩, tableOf hh, rfl, (fun z hz => by cases hz), (by rw [hcov]; exact decide_eq_true hc), c2, (by rw [← he]; exact hl), rfl⟩
      · rw [if_neg he] at k
        obtain ⟨pre, y, suf, e1, e2, e3⟩ := ai_hnd_ok hT hN hE c4 k
        refine ⟨⟨q.1, q.2.1, q.2.2.1, q.2.2.2⟩ :: pre, y, suf, by show _ :: tableOf hh = _; rw [e1]; rfl, fun z hz => ?_, e3⟩
        rcases List.mem_cons.mp hz with rfl | hz
        · exact Or.inr ⟨c2, ax_n x.1, hl, hN E x.1 hE c1 (fun z => he z.symm)⟩
        · exact e2 z hz
    · rw [if_neg hc] at k
      obtain ⟨pre, y, suf, e1, e2, e3⟩ := ai_hnd_ok hT hN hE c4 k
      refine ⟨⟨q.1, q.2.1, q.2.2.1, q.2.2.2⟩ :: pre, y, suf, by show _ :: tableOf hh = _; rw [e1]; rfl, fun z hz => ?_, e3⟩
      rcases List.mem_cons.mp hz with rfl | hz
      · exact Or.inl (by rw [hcov]; exact decide_eq_false hc)
      · exact e2 z hz
theorem ai_cast : ∀ n, n < 5 → Cond.castable (ax_n n) (ax_n n) ∈ lw_tbl := by decide +kernel
/-- a method that never throws -/
theorem ai_toMet {l : Launch} {y : MethodName} {ws : List Cond} {rm : Room} {Pc : Array Value → State → Prop} {Qc : Array Value → State → Outcome → State → Prop} {XC : String → State → State → Prop} {mc ms : Nat} {free : Addr → Prop} (h : vx_Met l y ws rm Pc Qc XC mc ms free) (hX : ∀ N st t, ¬ XC N st t) : Met l y ws rm Pc Qc mc ms free := by
  intro p e ha hc hk s m args below hf happ hP hK
  obtain ⟨n, o, h1, h2, h3, hQ⟩ := h p e ha hc hk s m args below hf happ hP hK
  refine ⟨n, o, h1, h2, h3, ?_⟩
  rcases hQ with hQ | ⟨q, -, E, ce, L, hx, -⟩
  · exact hQ
  · exact absurd hx (hX _ _ _)
theorem ai_mono {σ : List AC} {ws : va_W} {D : va_G} {A : Nat → Prop} {H : Heap} {s : State} {locs : List Loc} (hD : va_D A ws) (hS : va_S A s.heap H locs) (hA : ∀ q, s.heap.size ≤ q → A q) : ∀ q, va_A ws H.size q → A q := by
  intro q h
  rcases h with ⟨k, e, h⟩ | h
  · exact hD.2 k (q, e) h
  · exact hA q (Nat.le_trans hS.1 h)
end
section
/-! ===== contracts out of runs, and calls ===== -/
def ai_Sc (sc : Option (Nat × (Nat → AV))) (E : AE) (A : Nat → Prop) (s : State) : Prop := ∀ q, sc = some q → ∃ xs : Nat → Int32, va_X (e_b E) q.1 xs s s.heap ∧ (e_b E) < s.heap.size ∧ ¬ A (e_b E) ∧ ∀ (j : Nat) (ws : va_W), j < q.1 → ai_V E ws (q.2 j) (.int (xs j))
def ai_Wk (mt : List AM) (M : AM) : Prop := ai_mok2 mt M = true ∧ ai_ckh (m_own M) (m_hh M) (m_hx M) = true
def ai_SND (mt : List AM) (l : Launch) (D : va_G) (E : AE) (ih : AIH) : Prop :=
  ∀ (sc : Option (Nat × (Nat → AV))) (d : Nat) (M : AM) (pc : Nat) (lo : ALo) (st : List AV) (σ : List AC) (r : AR), ai_Wk mt M → ih sc d M pc lo st σ = some r →
  ∀ (p : Program) (e : Env) (R : Room) (s : State) (m : MethodId) (args : Array Value) (below : List Frame) (meth : Method) (c : Code) (ws0 : va_W) (A : Nat → Prop) (ws : va_W) (H : Heap) (locs : List Loc) (ls : Array Slot) (lv : List (Nat × Value)) (vs : List Value) (cells slots mc ms : Nat),
    ai_Fr M D l p s m args meth c → ai_Sc sc E A s → (∀ q, s.heap.size ≤ q → A q) → ai_Z A s s.heap → ai_Ext ws0 ws → ai_W E s σ ws → va_P D vwCl ws H → va_D A ws → va_S A s.heap H locs → lv_has ls (m_L M) lv → ai_L E ws lo lv → ai_S E ws st vs → d ≤ R.frames → 36 * d ≤ R.locals → cells + r.2.2.1 ≤ mc → slots + r.2.2.2 ≤ ms → mc ≤ R.cells → ms ≤ R.slots →
    W p l e R s m args below meth c H locs cells slots (vx_MQ below (ai_Q E D r.1 r.2.1 ws0 A) (ai_X E D r.1 r.2.1 ws0 A) args s mc ms A) (F0 m pc ls vs)
/-- a method's row says -/
def ai_Mk (M : AM) : Prop := plainName (m_own M) = true ∧ (m_y M).cls = m_own M ∧ m_own M ≠ "java/lang/invoke/MethodHandle" ∧ m_own M ≠ "java/lang/invoke/VarHandle" ∧ (parseMethodDescriptor (m_y M).desc).map (fun d => d.parameters.length) = some (m_n M) ∧ m_L M ≤ 16 ∧
  m_head M ∈ m_G ∧ Cond.initialized (m_own M) ∈ m_G ∧ ai_ckh (m_own M) (m_hh M) (m_hx M) = true ∧
  (m_kind M = 0 → Cond.instanceMethod (m_y M) ∈ m_G ∧ Cond.selects (m_own M) (m_y M) (m_y M) ∈ m_G ∧ (vwCl[m_ci M]?).map (fun r => r.1) = some (m_own M) ∧ m_hh M = []) ∧
  (m_kind M = 1 → Cond.static (m_y M) ∈ m_G) ∧
  (m_kind M = 2 → Cond.instanceMethod (m_y M) ∈ m_G ∧ (m_y M).name = "<init>" ∧ m_ret M = none ∧ m_hh M = [])
theorem ai_w_G {t : Nat} {w : Cond} (h : ai_w t w = true) : w ∈ m_G := m_G_in (ai_w_ok h).1 (ai_w_ok h).2
theorem ai_Mk_of {M : AM} (h : ai_mok1 M = true) : ai_Mk M := by
  unfold ai_mok1 at h
  simp only [Bool.and_eq_true, decide_eq_true_eq] at h
  obtain ⟨⟨⟨⟨⟨⟨⟨h1, h2⟩, h3⟩, h4⟩, h5⟩, h6⟩, h7⟩, h8⟩ := h
  split at h7
  · next tc ti tk tsel hts =>
    simp only [Bool.and_eq_true] at h7
    obtain ⟨⟨g1, g2⟩, g3⟩ := h7
    refine ⟨h1, h2, h3, h4, h5, h6, ai_w_G g1, ai_w_G g2, h8, ?_, ?_, ?_⟩
    · intro hk
      rw [hk] at g3
      simp only [Bool.and_eq_true, decide_eq_true_eq] at g3
      exact ⟨ai_w_G g3.1.1.1, ai_w_G g3.1.1.2, g3.1.2, g3.2⟩
    · intro hk
      rw [hk] at g3
      exact ai_w_G g3
    · intro hk
      rw [hk] at g3
      simp only [Bool.and_eq_true, decide_eq_true_eq] at g3
      exact ⟨ai_w_G g3.1.1.1.1, g3.1.1.1.2, g3.1.1.2, g3.1.2⟩
  · cases h7
section ACT
variable {mt : List AM} {l : Launch} {D : va_G} {E : AE} {ih : AIH}
set_option maxHeartbeats 4000000 in
theorem ai_ct (hl : l.stackTraces = false) (S : ai_SND mt l D E ih) {M : AM} (hM : ai_Wk mt M) (K : ai_Mk M) {as : List AV} {σ : List AC} {d : Nat} {r : AR} (h : ih none d M 0 (ai_args 0 as) [] σ = some r) (hn : (as.map ai_wd).sum ≤ m_L M) : ai_CT l D E M as σ d r := by
  intro ws sz av hav
  obtain ⟨k1, k2, k3, k4, k5, k6, k7, k8, k9, k10, k11, k12⟩ := K
  have hlen : (lg_sl av).length ≤ m_L M := by rw [ai_sl_len, ai_S_sum hav]; exact hn
  have key : ∀ (p : Program) (e : Env) (s : State) (m : MethodId) (args : Array Value) (below : List Frame) (meth : Method) (c : Code) (s₁ : State), BodyLoose p l (m_y M) (headSpec (m_ws M) (ai_rm d r.2.2.1 r.2.2.2)) (m_cc M) (m_L M) (m_ret M) e s m args below meth c s₁ → c.maxLocals = m_L M → c.exceptionTable.toList = tableOf (m_hh M) → ai_Pc D E σ ws sz av args s →
      W p l e (headSpec (m_ws M) (ai_rm d r.2.2.1 r.2.2.2)).room s m args below meth c s.heap [] 0 0 (vx_MQ below (ai_Q E D r.1 r.2.1 ws (va_A ws sz)) (ai_X E D r.1 r.2.1 ws (va_A ws sz)) args s r.2.2.1 r.2.2.2 (va_A ws sz)) (entryFrame m args (m_L M)) := by
    intro p e s m args below meth c s₁ B hml htab hP
    obtain ⟨rfl, hsz, hW, hPP, hD, hG, hZ⟩ := hP
    subst hsz
    have hts := atoms_spec (ws := m_ws M) B.pre
    rw [lg_entry_eq]
    refine S none d M 0 (ai_args 0 as) [] σ r hM h p e _ s m _ below meth c ws (va_A ws s.heap.size) ws s.heap [] _ (lv_args 0 av) [] 0 0 r.2.2.1 r.2.2.2 ?_ ?_ ?_ hZ ai_Ext.rf hW hPP hD.self va_S.rf (lv_entry av hlen) (ai_args_ok 0 hav) trivial (Nat.le_refl _) (Nat.le_refl _) (by omega) (by omega) (Nat.le_refl _) (Nat.le_refl _)
    · refine ⟨B.exec, B.bytes, hml, ?_, B.returns, B.notSynchronized, ?_, htab, fun w hw hg => hts w (List.mem_cons_of_mem _ (m_G_in hw hg)), hG, hl⟩
      · have := findClass_of_methodNamed B.named
        rw [k2] at this
        exact this
      · intro hk
        exact (name_of_methodNamed B.named B.method).1.trans (k12 hk).2.1
    · intro q hq; cases hq
    · intro q hq; exact Or.inr hq
  by_cases hh : m_hh M = []
  · refine vx_ofW (cc := m_cc M) (maxL := m_L M) (ret := m_ret M) (ws' := m_G) (by rw [k2]; exact k1) (by unfold m_ws m_head; rw [if_pos hh]) ?_
    intro p e s m args below meth c s₁ B hml hempty hP
    exact key p e s m args below meth c s₁ B hml (by rw [hh]; exact List.eq_nil_iff_forall_not_mem.mpr hempty) hP
  · refine vx_ofWH (cc := m_cc M) (maxL := m_L M) (ret := m_ret M) (hh := m_hh M) (ws' := m_G) (by rw [k2]; exact k1) (by unfold m_ws m_head; rw [if_neg hh]) ?_
    intro p e s m args below meth c s₁ B hml hP
    have hts := atoms_spec (ws := m_ws M) B.pre
    have hc := hts (m_head M) List.mem_cons_self
    unfold m_head at hc
    rw [if_neg hh] at hc
    exact key p e s m args below meth c s₁ B hml (vx_table (x := m_y M) B hc) hP
end ACT
section ACR
variable {mt : List AM} {l : Launch} {D : va_G} {E : AE}
variable {p : Program} {e : Env} {R : Room} {s : State} {m : MethodId} {args : Array Value} {below : List Frame} {meth : Method} {c : Code} {H : Heap} {locs : List Loc} {cells slots : Nat} {pc : Nat} {ls : Array Slot} {i : Instr} {len : Nat} {aux : List Nat} {ws : va_W} {st : List AV} {vs : List Value} {σ : List AC} {A : Nat → Prop} {lv : List (Nat × Value)}
theorem ai_pre (hG : ai_G D s) (hZ : ai_Z A s s.heap) (hA : ∀ q, s.heap.size ≤ q → A q) (hW : ai_W E s σ ws) (hP : va_P D vwCl ws H) (hD : va_D A ws) (hS : va_S A s.heap H locs) (av : List Value) : ∀ U : State, U.heap = H → s.WarmedH U.vm → ai_Pc D E σ ws H.size av av.toArray U := by
  intro U hU hw
  exact ⟨rfl, by rw [hU], hW.moved hw.alike, by rw [hU]; exact hP, hD.weaken (fun _ _ _ _ => trivial), hG.warm hw, by rw [hU]; exact ((hZ.kept hS.2.1).moved hw.alike).narrow (ai_mono (σ := σ) (D := D) hD hS hA)⟩
theorem ai_split {n : Nat} {x : AV} {rr : List AV} (hS : ai_S E ws st vs) (h : st.drop n = x :: rr) : ∃ (v : Value) (vr : List Value), vs = (vs.take n).reverse.reverse ++ v :: vr ∧ (vs.take n).reverse.length = n ∧ ai_V E ws x v ∧ ai_S E ws rr vr ∧ ai_S E ws (st.take n).reverse (vs.take n).reverse := by
  have h1 := ai_S_drop n hS
  rw [h] at h1
  have hl : n < vs.length := by
    rw [← ai_S_len hS]
    rcases Nat.lt_or_ge n st.length with g | g
    · exact g
    · rw [List.drop_eq_nil_of_le g] at h; cases h
  cases hd : vs.drop n with
  | nil => rw [hd] at h1; exact h1.elim
  | cons v vr =>
    rw [hd] at h1
    refine ⟨v, vr, ?_, ?_, h1.1, h1.2, ai_S_rev (ai_S_take n hS)⟩
    · rw [List.reverse_reverse, ← hd, List.take_append_drop]
    · rw [List.length_reverse, List.length_take]; omega
set_option maxHeartbeats 4000000 in
theorem ai_callrun {M M' : AM} {as rest : List AV} {d' : Nat} {r : AR} (F : ai_Fr M D l p s m args meth c) (hZ : ai_Z A s s.heap) (hA : ∀ q, s.heap.size ≤ q → A q) (hW : ai_W E s σ ws) (hP : va_P D vwCl ws H) (hD : va_D A ws) (hS : va_S A s.heap H locs) (hl : lv_has ls (m_L M) lv) (hSt : ai_S E ws st vs)
    (hd : decode (m_cc M) pc = .ok (i, len)) (hck : ai_ck2 mt (m_own M) (m_cc M) (pc, i, len, aux) = true) (hcall : ai_call mt i len aux st σ = some (M', as, rest)) (hMs : ∀ M ∈ mt, ai_Mk M) (ct : ai_CT l D E M' as σ d' r) (hk2 : m_kind M' = 2 → ∃ ov, r.1 = .inl ov)
    (hfr : d' + 1 ≤ R.frames) (hlo : 36 * (d' + 1) ≤ R.locals) (hc : cells + r.2.2.1 ≤ R.cells) (hs : slots + r.2.2.2 ≤ R.slots) :
    len = 3 ∧ M' ∈ mt ∧ ∃ (vr : List Value) (av : Array Value), ai_S E ws rest vr ∧ vx_Run p l e R s m args below meth c H locs cells slots r.2.2.1 r.2.2.2 (F0 m pc ls vs) vr (ai_Q E D r.1 r.2.1 ws (va_A ws H.size) av) (ai_X E D r.1 r.2.1 ws (va_A ws H.size)) (va_A ws H.size) := by
  obtain ⟨hx, hb, hml, hown, hr, hlocks, hini, htab, hT, hG, htr⟩ := F
  have hts : ∀ w ∈ m_G, w.before args s = true := fun w hw => hT w (m_G_of hw).1 (m_G_of hw).2
  have hRoom : ∀ M' : AM, m_L M' ≤ 16 → (ai_rm d' r.2.2.1 r.2.2.2).frames + 1 ≤ R.frames ∧ 8 + (m_L M' + 11) + (ai_rm d' r.2.2.1 r.2.2.2).locals ≤ R.locals := fun M' h => ⟨hfr, by show 8 + (m_L M' + 11) + 36 * d' ≤ R.locals; omega⟩
  unfold ai_call at hcall
  split at hcall
  · next x k t =>
    split at hcall
    · next Mc hMc =>
      split at hcall
      · next xo rr hdrop =>
        split at hcall
        · next ob hob =>
          split at hcall
          · next hcond =>
            cases hcall
            have hmem : M' ∈ mt := List.mem_of_getElem? hMc
            obtain ⟨k1, k2, k3, k4, k5, k6, k7, k8, k9, k10, -, -⟩ := hMs M' hmem
            obtain ⟨q1, q2, q3, q4⟩ := k10 hcond.1
            obtain ⟨v, vr, e1, e2, e3, e4, e5⟩ := ai_split hSt hdrop
            obtain ⟨oi, ofs⟩ := ob
            obtain ⟨a, us, rfl, hw, -⟩ := ai_ob_ok hob hW e3
            have hck : (match mt[k]? with
              | some M => ai_w t (.methodLink (m_own _) x (m_y M))
              | none => false) = true := hck
            rw [hMc] at hck
            cases hrow : vwCl[m_ci M']? with
            | none => rw [hrow] at q3; cases q3
            | some row =>
              rw [hrow] at q3
              have q3 : row.1 = m_own M' := Option.some.inj q3
              refine ⟨rfl, hmem, vr, (Value.ref a :: (vs.take (m_n M')).reverse).toArray, e4, ?_⟩
              refine vx_runV (Ts := m_G) (C := m_own M') (ws := m_ws M') (rm := ai_rm d' r.2.2.1 r.2.2.2) (Pc := ai_Pc D E σ ws H.size (.ref a :: (vs.take (m_n M')).reverse)) (n := m_n M') ⟨hx, hb, hml, hown, hts⟩ (ct ws H.size _ ⟨e3, e5⟩)
                (cwV (m_n M') hts (m_good ?_) (by unfold m_ws m_head; rw [if_pos q4]) rfl rfl ⟨k2, by rw [k2]; exact k3, by rw [k2]; exact k4, k5⟩ (hRoom M' k6))
                ⟨ai_Pc_blind, ?_, ai_pre hG hZ hA hW hP hD hS _⟩ rfl e2 hl.1 e1 (lv_room (by rw [ai_S_sum e4]; exact hcond.2)) hd ⟨hc, hs⟩
              · intro w hw
                unfold wsV at hw
                rcases List.mem_append.mp hw with hw | hw
                · simp only [List.mem_cons, List.not_mem_nil, or_false] at hw
                  rcases hw with rfl | rfl | rfl | rfl
                  · exact ai_w_G hck
                  · exact q1
                  · exact q2
                  · exact k8
                · rcases List.mem_cons.mp hw with rfl | hw
                  · exact k7
                  · exact hw
              · obtain ⟨cell, g1, g2, g3⟩ := va_recv hG.1 hP hrow hw
                exact ⟨cell, g1, g2, by rw [← q3]; exact g3⟩
          · cases hcall
        · cases hcall
      · cases hcall
    · cases hcall
  · next x k t =>
    split at hcall
    · next Mc hMc =>
      split at hcall
      · next hcond =>
        cases hcall
        have hmem : M' ∈ mt := List.mem_of_getElem? hMc
        obtain ⟨k1, k2, k3, k4, k5, k6, k7, k8, k9, -, k11, -⟩ := hMs M' hmem
        have q1 := k11 hcond.1
        have e5 := ai_S_rev (ai_S_take (m_n M') hSt)
        have e4 := ai_S_drop (m_n M') hSt
        have e1 : vs = (vs.take (m_n M')).reverse.reverse ++ vs.drop (m_n M') := by rw [List.reverse_reverse, List.take_append_drop]
        have e2 : (vs.take (m_n M')).reverse.length = m_n M' := by
          rw [List.length_reverse, List.length_take, ← ai_S_len hSt]
          exact Nat.min_eq_left hcond.2.1
        have hck : (match mt[k]? with
          | some M => ai_w t (.methodLink (m_own _) x (m_y M))
          | none => false) = true := hck
        rw [hMc] at hck
        have hgood : GoodIn m_G (va_wsS (m_own M) x (m_y M') (m_ws M')) := m_good (by
          intro w hw
          unfold va_wsS at hw
          rcases List.mem_append.mp hw with hw | hw
          · simp only [List.mem_cons, List.not_mem_nil, or_false] at hw
            rcases hw with rfl | rfl | rfl
            · exact ai_w_G hck
            · exact q1
            · rw [k2]; exact k8
          · rcases List.mem_cons.mp hw with rfl | hw
            · exact k7
            · exact hw)
        refine ⟨rfl, hmem, vs.drop (m_n M'), ((vs.take (m_n M')).reverse).toArray, e4, ?_⟩
        by_cases hh : m_hh M' = []
        · exact vx_runS (Ts := m_G) (ws := m_ws M') (rm := ai_rm d' r.2.2.1 r.2.2.2) (Pc := ai_Pc D E σ ws H.size (vs.take (m_n M')).reverse) (n := m_n M') ⟨hx, hb, hml, hown, hts⟩ (ct ws H.size _ e5)
            (va_cwS (m_n M') hts hgood (by unfold m_ws m_head; rw [if_pos hh]) rfl rfl ⟨by rw [k2]; exact k3, by rw [k2]; exact k4, k5⟩ (hRoom M' k6))
            ⟨ai_Pc_blind, ai_pre hG hZ hA hW hP hD hS _⟩ rfl e2 hl.1 e1 (lv_room (by rw [ai_S_sum e4]; exact hcond.2.2)) hd ⟨hc, hs⟩
        · exact vx_runSX (hh := m_hh M') (Ts := m_G) (ws := m_ws M') (rm := ai_rm d' r.2.2.1 r.2.2.2) (Pc := ai_Pc D E σ ws H.size (vs.take (m_n M')).reverse) (n := m_n M') ⟨hx, hb, hml, hown, hts⟩ (ct ws H.size _ e5)
            (vx_cwSW (m_n M') hts hgood (by unfold m_ws m_head; rw [if_neg hh]) rfl rfl ⟨by rw [k2]; exact k3, by rw [k2]; exact k4, k5⟩ (hRoom M' k6))
            ⟨ai_Pc_blind, ai_pre hG hZ hA hW hP hD hS _⟩ rfl e2 hl.1 e1 (lv_room (by rw [ai_S_sum e4]; exact hcond.2.2)) hd ⟨hc, hs⟩
      · cases hcall
    · cases hcall
  · next x k t =>
    split at hcall
    · next Mc hMc =>
      split at hcall
      · next xo rr hdrop =>
        split at hcall
        · next ob hob =>
          split at hcall
          · next hcond =>
            cases hcall
            have hmem : M' ∈ mt := List.mem_of_getElem? hMc
            obtain ⟨k1, k2, k3, k4, k5, k6, k7, k8, k9, -, -, k12⟩ := hMs M' hmem
            obtain ⟨q1, q2, q3, q4⟩ := k12 hcond.1
            obtain ⟨v, vr, e1, e2, e3, e4, e5⟩ := ai_split hSt hdrop
            obtain ⟨a, rfl, -⟩ := ai_rf_ok hob e3
            obtain ⟨ov, hov⟩ := hk2 hcond.1
            have hck : (match mt[k]? with
              | some M => ai_w t (.methodLink (m_own _) x (m_y M))
              | none => false) = true := hck
            rw [hMc] at hck
            refine ⟨rfl, hmem, vr, (Value.ref a :: (vs.take (m_n M')).reverse).toArray, e4, ?_⟩
            have run := va_runI (b := a) (As := (vs.take (m_n M')).reverse) (rest := vr) (bytes := m_cc M') (maxL := m_L M') (Ts := m_G) (ws := m_ws M') (rm := ai_rm d' r.2.2.1 r.2.2.2) (Pc := ai_Pc D E σ ws H.size (.ref a :: (vs.take (m_n M')).reverse)) (n := m_n M') (below := below) (meth := meth) (cells := cells) (slots := slots) (locs := locs) (e := e) (g := F0 m pc ls vs) ⟨hx, hb, hml, hown, hts⟩ (ai_toMet (ct ws H.size _ ⟨e3, e5⟩) (fun N st t hX => by obtain ⟨n, w9, hn, -⟩ := hX; rw [hov] at hn; cases hn))
              (cwI (m_n M') hts (m_good (fun w hw => by
                rcases List.mem_cons.mp hw with rfl | hw
                · exact k7
                · exact hw)) (by unfold m_ws m_head; rw [if_pos q4, q3]) rfl rfl (hts _ (by rw [k2]; exact k8)) (hts _ (ai_w_G hck)) (hts _ q1) q2 ⟨by rw [k2]; exact k3, by rw [k2]; exact k4, k5⟩ (hRoom M' k6))
              ⟨ai_Pc_blind, ai_pre hG hZ hA hW hP hD hS _⟩ rfl e2 hl.1 e1 (lv_room (by rw [ai_S_sum e4]; exact hcond.2)) hd ⟨hc, hs⟩
            exact fun T hT X => Or.inl (run T hT X)
          · cases hcall
        · cases hcall
      · cases hcall
    · cases hcall
  · next x k t z1 z2 =>
    split at hcall
    · next Mc hMc =>
      split at hcall
      · next xo rr hdrop =>
        split at hcall
        · next ob hob =>
          split at hcall
          · next hcond =>
            cases hcall
            have hmem : M' ∈ mt := List.mem_of_getElem? hMc
            obtain ⟨k1, k2, k3, k4, k5, k6, k7, k8, k9, -, -, k12⟩ := hMs M' hmem
            obtain ⟨q1, q2, q3, q4⟩ := k12 hcond.1
            obtain ⟨v, vr, e1, e2, e3, e4, e5⟩ := ai_split hSt hdrop
            obtain ⟨a, rfl, -⟩ := ai_rf_ok hob e3
            obtain ⟨ov, hov⟩ := hk2 hcond.1
            have hck : (match mt[k]? with
              | some M' => ai_wb t (.methodLinkNest (m_own M) x (m_y M') "MountYard")
              | none => false) = true := hck
            rw [hMc] at hck
            have hnw : va_Nw (.methodLinkNest (m_own M) x (m_y M') "MountYard") s := hG.2.2.1 _ (ai_wb_ok hck) rfl
            refine ⟨rfl, hmem, vr, (Value.ref a :: (vs.take (m_n M')).reverse).toArray, e4, ?_⟩
            have run := va_runIN (host := "MountYard") (b := a) (As := (vs.take (m_n M')).reverse) (rest := vr) (bytes := m_cc M') (maxL := m_L M') (Ts := m_G) (ws := m_ws M') (rm := ai_rm d' r.2.2.1 r.2.2.2) (Pc := ai_Pc D E σ ws H.size (.ref a :: (vs.take (m_n M')).reverse)) (n := m_n M') (below := below) (meth := meth) (cells := cells) (slots := slots) (locs := locs) (e := e) (g := F0 m pc ls vs) ⟨hx, hb, hml, hown, hts⟩ (ai_toMet (ct ws H.size _ ⟨e3, e5⟩) (fun N st t hX => by obtain ⟨n, w9, hn, -⟩ := hX; rw [hov] at hn; cases hn))
              ⟨va_cnB (m_n M') hts (m_good (fun w hw => by
                rcases List.mem_cons.mp hw with rfl | hw
                · exact k7
                · exact hw)) (by unfold m_ws m_head; rw [if_pos q4, q3]) rfl rfl hnw (hts _ (by rw [k2]; exact k8)) ⟨by rw [k2]; exact k3, by rw [k2]; exact k4, k5⟩ (hRoom M' k6), q2, hts _ q1⟩
              ⟨ai_Pc_blind, ai_pre hG hZ hA hW hP hD hS _⟩ rfl e2 hl.1 e1 (lv_room (by rw [ai_S_sum e4]; exact hcond.2)) hd ⟨hc, hs⟩
            exact fun T hT X => Or.inl (run T hT X)
          · cases hcall
        · cases hcall
      · cases hcall
    · cases hcall
  · cases hcall
end ACR
end
section
/-! ===== the whole run ===== -/
section AMN
variable {mt : List AM} {l : Launch} {D : va_G} {E : AE}
variable {p : Program} {e : Env} {R : Room} {s : State} {m : MethodId} {args : Array Value} {below : List Frame} {meth : Method} {c : Code} {H : Heap} {locs : List Loc} {cells slots : Nat} {pc : Nat} {ls : Array Slot} {i : Instr} {len : Nat} {aux : List Nat} {ws ws0 : va_W} {st st' : List AV} {vs : List Value} {σ : List AC} {A : Nat → Prop} {lv : List (Nat × Value)} {mc ms : Nat}
theorem ai_end {t : State} (hW : ai_W E s σ ws) (hE : ai_Ext ws0 ws) (hP : va_P D vwCl ws H) (hD : va_D A ws) (hS : va_S A s.heap H locs) (ht : t.heap = H) (ha : s.vm.Alike t.vm) : ai_Ev E D σ ws0 A s t ws :=
  ⟨hW.moved ha, hE, by rw [ht]; exact hP, hD, hS.F ht⟩
set_option maxHeartbeats 1000000 in
theorem ai_ret_ok {M : AM} {ov : Option AV} (F : ai_Fr M D l p s m args meth c) (hW : ai_W E s σ ws) (hE : ai_Ext ws0 ws) (hP : va_P D vwCl ws H) (hD : va_D A ws) (hS : va_S A s.heap H locs) (hSt : ai_S E ws st vs) (hd : decode (m_cc M) pc = .ok (i, len)) (h : ai_ret M i len st = some ov) (hc : cells ≤ mc) (hs : slots ≤ ms) :
    W p l e R s m args below meth c H locs cells slots (vx_MQ below (ai_Q E D (.inl ov) σ ws0 A) (ai_X E D (.inl ov) σ ws0 A) args s mc ms A) (F0 m pc ls vs) := by
  obtain ⟨hx, hb, hml, hown, hr, hlocks, hini, htab, hT, hG, htr⟩ := F
  refine W.widen hc hs (vx_ret ?_)
  have fin : ∀ (v : Option Value), ai_O E ws ov v → ∀ t : State, t.heap = H → s.WarmedH t.vm → ai_Q E D (.inl ov) σ ws0 A args s (.returned v) t := fun v hv t ht hw => ⟨ov, v, ws, rfl, rfl, hv, ai_end hW hE hP hD hS ht hw.alike⟩
  unfold ai_ret at h
  split at h
  · next x =>
    match vs, hSt with
    | [], hSt => exact hSt.elim
    | _ :: _ :: _, ⟨_, hSt⟩ => exact hSt.elim
    | [v], ⟨hv, _⟩ =>
      split at h
      · next t hret =>
        split at h
        · next hcond =>
          cases h
          obtain ⟨n1, -⟩ := ai_fit_ok hcond.2 hv
          have hi : ∃ y : Int32, v = .int y := by
            rcases hcond.1 with rfl | rfl
            · exact ai_V_int (of_decide_eq_true hcond.2) hv
            · have h2 : (match ai_iv x with
                | some q => decide (0 ≤ q.1 ∧ q.2 ≤ 1)
                | none => false) = true := hcond.2
              split at h2
              · next q hq => obtain ⟨y, hy, -⟩ := ai_iv_ok hq hv; exact ⟨y, hy⟩
              · cases h2
          obtain ⟨y, rfl⟩ := hi
          exact W.zret hx hb (hr.trans hret) n1 (fin _ hv) hS.2.2 hd hlocks
        · cases h
      · cases h
  · next x =>
    match vs, hSt with
    | [], hSt => exact hSt.elim
    | _ :: _ :: _, ⟨_, hSt⟩ => exact hSt.elim
    | [v], ⟨hv, _⟩ =>
      split at h
      · next hcond =>
        cases h
        obtain ⟨y, rfl⟩ := ai_V_long hcond.2 hv
        exact W.lret hx hb (hr.trans hcond.1) (fin _ hv) hS.2.2 hd hlocks
      · cases h
  · next x =>
    match vs, hSt with
    | [], hSt => exact hSt.elim
    | _ :: _ :: _, ⟨_, hSt⟩ => exact hSt.elim
    | [v], ⟨hv, _⟩ =>
      split at h
      · next C hret =>
        split at h
        · next hcond =>
          cases h
          exact W.aret hx hb (hr.trans hret) (Or.inl ⟨C, rfl⟩) (ai_V_ref hcond hv) (fin _ hv) hS.2.2 hd hlocks
        · cases h
      · cases h
  · match vs, hSt with
    | _ :: _, hSt => exact hSt.elim
    | [], _ =>
      split at h
      · next hcond =>
        cases h
        exact W.vret hx hb (hr.trans hcond) (fin none trivial) hS.2.2 hd hlocks
      · cases h
  · cases h
set_option maxHeartbeats 1000000 in
theorem ai_th_ok {M : AM} {d n : Nat} (F : ai_Fr M D l p s m args meth c) (hZ : ai_Z A s s.heap) (hW : ai_W E s σ ws) (hE : ai_Ext ws0 ws) (hP : va_P D vwCl ws H) (hD : va_D A ws) (hS : va_S A s.heap H locs) (hl : lv_has ls (m_L M) lv) (hSt : ai_S E ws st vs) (hd : decode (m_cc M) pc = .ok (i, len)) (hck : ai_ck2 mt (m_own M) (m_cc M) (pc, i, len, aux) = true) (h : ai_th d M i len aux st = some n)
    (hfr : d ≤ R.frames) (hlo : 36 * d ≤ R.locals) (hc : cells + 1 ≤ mc) (hs : slots + 6 ≤ ms) (hRc : mc ≤ R.cells) (hRs : ms ≤ R.slots) :
    n < 5 ∧ W p l e R s m args below meth c H locs cells slots (vx_MQ below (ai_Q E D (.inr n) σ ws0 A) (ai_X E D (.inr n) σ ws0 A) args s mc ms A) (F0 m pc ls vs) := by
  obtain ⟨hx, hb, hml, hown, hr, hlocks, hini, htab, hT, hG, htr⟩ := F
  unfold ai_th at h
  split at h
  · next x n' t1 t2 ic z =>
    split at h
    · next hcond =>
      cases h
      have hck : ax_ck (m_own M) (m_cc M) pc x n t1 t2 ic z = true := hck
      unfold ax_ck at hck
      simp only [Bool.and_eq_true, decide_eq_true_eq] at hck
      obtain ⟨⟨⟨⟨⟨⟨c0, c1⟩, c2⟩, c3⟩, c4⟩, c5⟩, c7⟩ := hck
      have c6 := ax_all (own := m_own M) (ic := ic) c0 (ai_w_ok c7).1
      refine ⟨c0, ?_⟩
      have hk := hT _ (ai_w_ok c1).1 (ai_w_ok c1).2
      have hi := hT _ (ai_w_ok c2).1 (ai_w_ok c2).2
      have hcls : Bundle.fit (ax_n n) = true := by
        match n, c0 with
        | 0, _ => decide +kernel
        | 1, _ => decide +kernel
        | 2, _ => decide +kernel
        | 3, _ => decide +kernel
        | 4, _ => decide +kernel
      refine vx_throw0 (cls := ax_n n) (names := ax_up) hx hb htr hown hcls (by decide +kernel) hk hi (fun w hw => ?_) (fun w hw => ?_) hZ.1 hZ.2 hS (hl.1.trans hml.symm) hd c3 c4 c5 ?_ ?_ ?_ (by omega) (by omega) hlocks ?_ hS.2.2 hc hs
      · obtain ⟨g1, g2, g3⟩ := c6 w hw
        rcases g3 with g3 | g3
        · exact hT w g1 g3
        · exact va_Nw.use (ax_kw_on g3) (hG.2.2.1 w g1 g3)
      · rcases List.mem_cons.mp hw with rfl | hw
        · rfl
        · rcases List.mem_cons.mp hw with rfl | hw
          · rfl
          · exact (c6 w hw).2.1
      · intro y hy
        rw [htab, hcond.2.1] at hy
        cases hy
      · show 2 + 3 < R.frames
        omega
      · have := ai_S_sum hSt
        have h8 := hcond.2.2
        show _ + (13 * (2 + 1) + 42) ≤ R.locals
        omega
      · intro t ha h1 h2
        refine ⟨n, ws, rfl, rfl, hW.moved ha, hE, hP.kept (fun k q hk => h2 q.1 ((hP k q hk).lt)), hD, Nat.le_trans hS.1 h1, fun q g1 g2 => ?_⟩
        rw [h2 q (Nat.lt_of_lt_of_le g1 hS.1)]
        exact hS.2.1 q g1 g2
    · cases h
  · cases h
theorem ai_sc_ok {M : AM} {sc : Option (Nat × (Nat → AV))} (F : ai_Fr M D l p s m args meth c) (hsc : ai_Sc sc E A s) (hS : va_S A s.heap H locs) (hSt : ai_S E ws st vs) (hd : decode (m_cc M) pc = .ok (i, len)) (h : ai_sc sc i len st = some st') {Q : State → Prop}
    (k : ∀ vs' : List Value, ai_S E ws st' vs' → W p l e R s m args below meth c H locs cells slots Q (F0 m (pc + len) ls vs')) : W p l e R s m args below meth c H locs cells slots Q (F0 m pc ls vs) := by
  obtain ⟨hx, hb, hml, hown, hr, hlocks, hini, htab, hT, hG, htr⟩ := F
  unfold ai_sc at h
  split at h
  · next q j x r =>
    obtain ⟨xs, hX, hbl, hbA, hval⟩ := hsc q rfl
    match vs, hSt with
    | [], hSt => exact hSt.elim
    | [_], ⟨_, hSt⟩ => exact hSt.elim
    | vj :: v :: vs, ⟨hvj, hv, hSt2⟩ =>
      split at h
      · next hx5 =>
        subst hx5
        have hv : v = .ref (e_b E) := (ai_VX (by decide)).mp hv
        subst hv
        split at h
        · next kk hk =>
          cases h
          obtain ⟨b, rfl, hin, rfl⟩ := ai_ix_ok hk hvj
          exact va_sld hx hb hX hbl hbA hS hin hd (k (_ :: vs) ⟨hval _ _ (ai_in_lt hin), hSt2⟩)
        · cases h
      · cases h
  · next q x r =>
    obtain ⟨xs, hX, hbl, hbA, hval⟩ := hsc q rfl
    match vs, hSt with
    | [], hSt => exact hSt.elim
    | v :: vs, ⟨hv, hSt2⟩ =>
      split at h
      · next hx5 =>
        subst hx5
        have hv : v = .ref (e_b E) := (ai_VX (by decide)).mp hv
        subst hv
        cases h
        exact va_slen hx hb hX hbl hbA hS hd (k (_ :: vs) ⟨rfl, hSt2⟩)
      · cases h
  · cases h
theorem ai_oi_ok {M : AM} {d : Nat} (F : ai_Fr M D l p s m args meth c) (hl : lv_has ls (m_L M) lv) (hSt : ai_S E ws st vs) (hd : decode (m_cc M) pc = .ok (i, len)) (hck : ai_ck2 mt (m_own M) (m_cc M) (pc, i, len, aux) = true) (h : ai_oi i len aux st = some st') (h1 : 1 ≤ d) (hfr : d ≤ R.frames) (hlo : 36 * d ≤ R.locals) {Q : State → Prop}
    (k : ∀ vs' : List Value, ai_S E ws st' vs' → W p l e R s m args below meth c H locs cells slots Q (F0 m (pc + len) ls vs')) : W p l e R s m args below meth c H locs cells slots Q (F0 m pc ls vs) := by
  obtain ⟨hx, hb, hml, hown, hr, hlocks, hini, htab, hT, hG, htr⟩ := F
  unfold ai_oi at h
  split at h
  · next ix t1 t2 t3 x r =>
    match vs, hSt with
    | [], hSt => exact hSt.elim
    | v :: vs, ⟨hv, hSt⟩ =>
      split at h
      · next o ho =>
        obtain ⟨a, rfl, -⟩ := ai_rf_ok ho hv
        split at h
        · next h8 =>
          cases h
          have hck : (ai_w t1 (.methodLink (m_own M) ix Lib.objectInit) && ai_w t2 (.instanceMethod Lib.objectInit) && ai_w t3 (.code Lib.objectInit ⟨#[0xb1]⟩ 1 none)) = true := hck
          simp only [Bool.and_eq_true] at hck
          obtain ⟨⟨c1, c2⟩, c3⟩ := hck
          have hsum := ai_S_sum hSt
          refine W.objInit hx hb hown (hT _ (ai_w_ok c1).1 (ai_w_ok c1).2) (hT _ (ai_w_ok c2).1 (ai_w_ok c2).2) (hT _ (ai_w_ok c3).1 (ai_w_ok c3).2) (g := F0 m pc ls (.ref a :: vs)) rfl (hl.1.trans hml.symm) rfl hd (by omega) ?_ (k vs hSt)
          have := lv_room (m := m) (pc := pc) (ls := ls) (rest := .ref a :: vs) (st := vs) (by omega)
          omega
        · cases h
      · cases h
  · cases h
end AMN
end
section
/-! ===== every run is sound ===== -/
theorem ai_add_ok {c s : Nat} {x : Option AR} {r : AR} (h : ai_add c s x = some r) : ∃ y : AR, x = some y ∧ r.1 = y.1 ∧ r.2.1 = y.2.1 ∧ r.2.2.1 = c + y.2.2.1 ∧ r.2.2.2 = s + y.2.2.2 := by
  unfold ai_add at h
  split at h
  · next y => cases h; exact ⟨y, rfl, rfl, rfl, rfl, rfl⟩
  · cases h
theorem ai_call_mem {mt : List AM} {i : Instr} {len : Nat} {aux : List Nat} {st : List AV} {σ : List AC} {r : AM × List AV × List AV} (h : ai_call mt i len aux st σ = some r) : r.1 ∈ mt := by
  unfold ai_call at h
  split at h
  · split at h
    · next M hM =>
      split at h
      · split at h
        · split at h
          · cases h; exact List.mem_of_getElem? hM
          · cases h
        · cases h
      · cases h
    · cases h
  · split at h
    · next M hM =>
      split at h
      · cases h; exact List.mem_of_getElem? hM
      · cases h
    · cases h
  · split at h
    · next M hM =>
      split at h
      · split at h
        · split at h
          · cases h; exact List.mem_of_getElem? hM
          · cases h
        · cases h
      · cases h
    · cases h
  · split at h
    · next M hM =>
      split at h
      · split at h
        · split at h
          · cases h; exact List.mem_of_getElem? hM
          · cases h
        · cases h
      · cases h
    · cases h
  · cases h
section ASD
variable {mt : List AM} {l : Launch} {D : va_G} {E : AE}
variable {p : Program} {e : Env} {R : Room} {s : State} {m : MethodId} {args : Array Value} {below : List Frame} {meth : Method} {c : Code} {H : Heap} {locs : List Loc} {cells slots : Nat} {pc : Nat} {ls : Array Slot} {ws ws0 : va_W} {vs : List Value} {σ : List AC} {A : Nat → Prop} {Q : State → Prop}
theorem ai_after {dc ds : Nat} {vr : List Value} {o : Option AV ⊕ Nat} {σ' : List AC} {av : Array Value} (run : vx_Run p l e R s m args below meth c H locs cells slots dc ds (F0 m pc ls vs) vr (ai_Q E D o σ' ws (va_A ws H.size) av) (ai_X E D o σ' ws (va_A ws H.size)) (va_A ws H.size)) (hA : ∀ q, s.heap.size ≤ q → A q) (hD : va_D A ws) (hS : va_S A s.heap H locs)
    (kr : ∀ (ov : Option AV) (v : Option Value) (ws' : va_W) (H' : Heap) (locs' : List Loc), o = .inl ov → ai_O E ws' ov v → ai_W E s σ' ws' → ai_Ext ws ws' → va_P D vwCl ws' H' → va_D A ws' → va_S A s.heap H' locs' → W p l e R s m args below meth c H' locs' (cells + dc) (slots + ds) Q (F0 m (pc + 3) ls (v.toList ++ vr)))
    (kx : ∀ (n : Nat) (ws' : va_W) (H' : Heap) (locs' : List Loc) (q : Addr) (ce : Cell), o = .inr n → ai_W E s σ' ws' → ai_Ext ws ws' → va_P D vwCl ws' H' → va_D A ws' → va_S A s.heap H' locs' → H'[q]? = some ce → ce.vm = .none → s.vm.findClass (ax_n n) = some ce.cls → vx_W p l e R s m args below meth c H' locs' (cells + dc) (slots + ds) Q (F0 m pc ls vr) q) :
    W p l e R s m args below meth c H locs cells slots Q (F0 m pc ls vs) := by
  have mono := ai_mono (σ := []) (D := D) hD hS hA
  intro T hT X
  rcases run T hT X with ⟨v, st₀, t, T', L, h0, X', hL, e1, e2, hq, st⟩ | ⟨q, st₀, t, T', L, En, ce, h0, X', hL, e1, e2, hx, hce, hcv, hcl, st⟩
  · obtain ⟨ov, v', ws', ho, hv, hO, hW, hEx, hP, hD', hF⟩ := hq
    cases hv
    obtain ⟨k1, k2, k3⟩ := vx_keep h0 e1 hS (fun q _ h => mono q h) mono hL hF
    have ha : s.vm.Alike t.vm := by rw [← e2]; exact X'.warmed.alike
    obtain ⟨t2, a1, b1⟩ := kr ov v ws' T'.heap (locs ++ L) ho hO (hW.moved ha.symm) hEx (by rw [e1]; exact hP) (hD'.weaken (fun _ _ _ h => mono _ h)) k3 T' rfl X'
    exact ⟨t2, st t2 a1, b1⟩
  · obtain ⟨n, ws', ho, rfl, hW, hEx, hP, hD', hF⟩ := hx
    obtain ⟨k1, k2, k3⟩ := vx_keep h0 e1 hS (fun q _ h => mono q h) mono hL hF
    have ha : s.vm.Alike t.vm := by rw [← e2]; exact X'.warmed.alike
    obtain ⟨t2, a1, b1⟩ := kx n ws' T'.heap (locs ++ L) q ce ho (hW.moved ha.symm) hEx (by rw [e1]; exact hP) (hD'.weaken (fun _ _ _ h => mono _ h)) k3 (by rw [e1]; exact hce) hcv hcl T' rfl X'
    exact ⟨t2, st.trans a1, b1⟩
end ASD
theorem ai_toS {E : AE} {ws : va_W} {o : Option AV} {v : Option Value} {a : List AV} {x : List Value} (h : ai_O E ws o v) (k : ai_S E ws a x) : ai_S E ws (o.toList ++ a) (v.toList ++ x) := by
  match o, v, h with
  | none, none, _ => exact k
  | some _, some _, h => exact ⟨h, k⟩
set_option maxHeartbeats 4000000 in
/-- one step of the run is sound, if what it goes on with is -/
theorem ai_body_ok {mt : List AM} {l : Launch} {D : va_G} {E : AE} {ext : AXT} {op : Option Int32} {ih : AIH} (htr : l.stackTraces = false) (hop : ∀ k, op = some k → e_0 E &&& 15 = k) (hM1 : ∀ M ∈ mt, ai_Mk M) (hM2 : ∀ M ∈ mt, ai_mok2 mt M = true)
    (hext : ∀ (M : AM) (as : List AV) (σ : List AC) (d : Nat) (r : AR), M ∈ mt → ext d M as σ = some r → ai_CT l D E M as σ d r ∧ ∀ n, r.1 = .inr n → n < 5) (hih5 : ∀ sc d M pc lo st σ (r : AR), ai_Wk mt M → ih sc d M pc lo st σ = some r → ∀ n, r.1 = .inr n → n < 5) (S : ai_SND mt l D E ih) :
    ai_SND mt l D E (ai_body ext mt op ih) := by
  intro sc d M pc lo st σ r hMm hrun p e R s m args below meth c ws0 A ws H locs ls lv vs cells slots mc ms F hsc hA hZ hE hW hP hD hS hl hL hSt hfr hlo hc hs hRc hRs
  obtain ⟨hx, hb, hml, hown, hr, hlocks, hini, htab, hT, hG, -⟩ := id F
  unfold ai_body at hrun
  split at hrun
  · cases hrun
  next q hq =>
  have hmem : q ∈ m_code M := List.mem_of_find?_eq_some hq
  have hpc : q.1 = pc := by have := List.find?_some hq; exact beq_iff_eq.mp this
  obtain ⟨qpc, i, len, aux⟩ := q
  have hpc : qpc = pc := hpc
  subst hpc
  have hrow := List.all_eq_true.mp hMm.1 _ hmem
  unfold ai_row at hrow
  simp only [Bool.and_eq_true, decide_eq_true_eq] at hrow
  obtain ⟨⟨hd, hchk⟩, hck2⟩ := hrow
  dsimp only at hrun hd hchk
  split at hrun
  · next r1 h1 =>
    exact ai_pu_ok hop hx hb hd hl hL hSt h1 (fun ls' lv' vs' hl' hL' hS' => S sc d M r1.1 r1.2.1 r1.2.2 σ r hMm hrun p e R s m args below meth c ws0 A ws H locs ls' lv' vs' cells slots mc ms F hsc hA hZ hE hW hP hD hS hl' hL' hS' hfr hlo hc hs hRc hRs)
  split at hrun
  · next st' h1 =>
    exact ai_h1_ok hx hb hown hT hG.1 hd hchk hW hP hSt h1 (fun vs' hS' => S sc d M _ lo st' σ r hMm hrun p e R s m args below meth c ws0 A ws H locs ls lv vs' cells slots mc ms F hsc hA hZ hE hW hP hD hS hl hL hS' hfr hlo hc hs hRc hRs)
  split at hrun
  · next r2 h2 =>
    exact ai_h2_ok (st' := r2.1) (σ' := r2.2) (fun hi => hini (of_decide_eq_true hi)) hx hb hown hT hG.1 hd hchk hW hP hD hS hSt h2 (fun ws' H' locs' vs' hE' hW' hP' hD' hS' hSt' => S sc d M _ lo r2.1 r2.2 r hMm hrun p e R s m args below meth c ws0 A ws' H' locs' ls lv vs' cells slots mc ms F hsc hA hZ (hE.tr hE') hW' hP' hD' hS' hl (hL.mono hE') hSt' hfr hlo hc hs hRc hRs)
  split at hrun
  · next r3 h3 =>
    obtain ⟨y, hy, y1, y2, y3, y4⟩ := ai_add_ok hrun
    rw [y1, y2]
    exact ai_h3_ok (st' := r3.1) (ce := r3.2.1) (ds := r3.2.2) hx hb hown hT hG.2.1 hG.1 hd hchk hW hP hD hS hA hSt h3 (by omega) (by omega) (fun ws' H' vs' hE' hW' hP' hD' hS' hSt' => S sc d M _ lo _ _ y hMm hy p e R s m args below meth c ws0 A ws' H' locs ls lv vs' (cells + 1) (slots + r3.2.2) mc ms F hsc hA hZ (hE.tr hE') hW' hP' hD' hS' hl (hL.mono hE') hSt' hfr hlo (by omega) (by omega) hRc hRs)
  split at hrun
  · next st' h1 =>
    exact ai_sc_ok F hsc hS hSt hd h1 (fun vs' hS' => S sc d M _ lo st' σ r hMm hrun p e R s m args below meth c ws0 A ws H locs ls lv vs' cells slots mc ms F hsc hA hZ hE hW hP hD hS hl hL hS' hfr hlo hc hs hRc hRs)
  split at hrun
  · next v h1 =>
    cases hrun
    exact ai_ret_ok F hW hE hP hD hS hSt hd h1 (by omega) (by omega)
  split at hrun
  · next n h1 =>
    cases hrun
    exact (ai_th_ok (mt := mt) F hZ hW hE hP hD hS hl hSt hd hck2 h1 hfr hlo hc hs hRc hRs).2
  split at hrun
  · next st' h1 =>
    split at hrun
    · next hd1 =>
      exact ai_oi_ok (mt := mt) F hl hSt hd hck2 h1 hd1 hfr hlo (fun vs' hS' => S sc d M _ lo st' σ r hMm hrun p e R s m args below meth c ws0 A ws H locs ls lv vs' cells slots mc ms F hsc hA hZ hE hW hP hD hS hl hL hS' hfr hlo hc hs hRc hRs)
    · cases hrun
  split at hrun
  · cases hrun
  next rc hcall =>
  have hmem' := ai_call_mem hcall
  obtain ⟨M', as, rest⟩ := rc
  obtain ⟨d', rfl⟩ : ∃ d', d = d' + 1 := by
    cases d with
    | zero => cases hrun
    | succ k => exact ⟨k, rfl⟩
  dsimp only at hrun
  split at hrun
  case isFalse => cases hrun
  next hn =>
  have got : ∀ y : AR, ai_or (ext d' M' as σ) (ih none d' M' 0 (ai_args 0 as) [] σ) = some y → ai_CT l D E M' as σ d' y ∧ ∀ n, y.1 = .inr n → n < 5 := by
    intro y hy
    rcases ai_or_ok hy with hy | hy
    · exact hext M' as σ d' y hmem' hy
    · exact ⟨ai_ct htr S ⟨hM2 M' hmem', (hM1 M' hmem').2.2.2.2.2.2.2.2.1⟩ (hM1 M' hmem') hy hn, hih5 none d' M' 0 _ _ _ y ⟨hM2 M' hmem', (hM1 M' hmem').2.2.2.2.2.2.2.2.1⟩ hy⟩
  split at hrun
  · cases hrun
  · next v σ1 dc ds hy =>
    obtain ⟨ct, -⟩ := got _ hy
    obtain ⟨y, hy2, y1, y2, y3, y4⟩ := ai_add_ok hrun
    obtain ⟨hlen, -, vr, av, hvr, run⟩ := ai_callrun (below := below) (R := R) (cells := cells) (slots := slots) (e := e) F hZ hA hW hP hD hS hl hSt hd hck2 hcall hM1 ct (fun _ => ⟨v, rfl⟩) hfr hlo (by dsimp only; omega) (by dsimp only; omega)
    have hlen : len = 3 := hlen
    subst hlen
    rw [y1, y2]
    refine ai_after run hA hD hS (fun ov v' ws' H' locs' ho hO hW' hE' hP' hD' hS' => ?_) (fun n ws' H' locs' q ce ho => by cases ho)
    cases ho
    exact S sc (d' + 1) M _ lo _ σ1 y hMm hy2 p e R s m args below meth c ws0 A ws' H' locs' ls lv _ (cells + dc) (slots + ds) mc ms F hsc hA hZ (hE.tr hE') hW' hP' hD' hS' hl (hL.mono hE') (ai_toS hO (hvr.mono hE')) hfr hlo (by omega) (by omega) hRc hRs
  · next n σ1 dc ds hy =>
    obtain ⟨ct, h5⟩ := got _ hy
    have h5 := h5 n rfl
    split at hrun
    · cases hrun
    next hk2 =>
    split at hrun
    · next h hh =>
      obtain ⟨y, hy2, y1, y2, y3, y4⟩ := ai_add_ok hrun
      obtain ⟨hlen, -, vr, av, hvr, run⟩ := ai_callrun (below := below) (R := R) (cells := cells) (slots := slots) (e := e) F hZ hA hW hP hD hS hl hSt hd hck2 hcall hM1 ct (fun z => absurd z hk2) hfr hlo (by dsimp only; omega) (by dsimp only; omega)
      rw [y1, y2]
      refine ai_after run hA hD hS (fun ov v' ws' H' locs' ho => by cases ho) (fun n2 ws' H' locs' q ce ho hW' hE' hP' hD' hS' hcell hcv hcl => ?_)
      cases ho
      obtain ⟨pre, x, suf, g1, g2, g3, g4, g5, g6⟩ := ai_hnd_ok hT hG.2.2.2 h5 hMm.2 hh
      refine vx_catch hown pre x suf (htab.trans g1) g2 g3 g4 g5 (va_Nw.use rfl (hG.2.2.1 _ (ai_cast n h5) rfl)) hcell hcv hcl ?_
      rw [g6]
      exact S sc (d' + 1) M h lo _ σ1 y hMm hy2 p e R s m args below meth c ws0 A ws' H' locs' ls lv _ (cells + dc) (slots + ds) mc ms F hsc hA hZ (hE.tr hE') hW' hP' hD' hS' hl (hL.mono hE') ⟨⟨q, rfl⟩, trivial⟩ hfr hlo (by omega) (by omega) hRc hRs
    · next hh =>
      split at hrun
      · next hnil =>
        cases hrun
        dsimp only at hc hs
        obtain ⟨hlen, -, vr, av, hvr, run⟩ := ai_callrun (below := below) (R := R) (cells := cells) (slots := slots) (e := e) F hZ hA hW hP hD hS hl hSt hd hck2 hcall hM1 ct (fun z => absurd z hk2) hfr hlo (by dsimp only; omega) (by dsimp only; omega)
        refine ai_after run hA hD hS (fun ov v' ws' H' locs' ho => by cases ho) (fun n2 ws' H' locs' q ce ho hW' hE' hP' hD' hS' hcell hcv hcl => ?_)
        cases ho
        refine vx_out (by intro z hz; rw [htab, hnil] at hz; cases hz) hlocks hcell hcv hcl (fun t ht ha => ⟨n, ws', rfl, rfl, ai_end hW' (hE.tr hE') hP' hD' hS' ht ha⟩) hS'.2.2 hc hs
      · cases hrun
theorem ai_body5 {mt : List AM} {ext : AXT} {op : Option Int32} {ih : AIH} (hM2 : ∀ M ∈ mt, ai_Wk mt M) (hext : ∀ (d : Nat) (M : AM) (as : List AV) (σ : List AC) (r : AR), M ∈ mt → ext d M as σ = some r → ∀ n, r.1 = .inr n → n < 5) (hih5 : ∀ sc d M pc lo st σ (r : AR), ai_Wk mt M → ih sc d M pc lo st σ = some r → ∀ n, r.1 = .inr n → n < 5) :
    ∀ sc d M pc lo st σ (r : AR), ai_Wk mt M → ai_body ext mt op ih sc d M pc lo st σ = some r → ∀ n, r.1 = .inr n → n < 5 := by
  intro sc d M pc lo st σ r hMm hrun n hn
  unfold ai_body at hrun
  split at hrun
  · cases hrun
  next q hq =>
  have hmem : q ∈ m_code M := List.mem_of_find?_eq_some hq
  have hrow := List.all_eq_true.mp hMm.1 _ hmem
  unfold ai_row at hrow
  simp only [Bool.and_eq_true, decide_eq_true_eq] at hrow
  obtain ⟨⟨hd, hchk⟩, hck2⟩ := hrow
  split at hrun
  · exact hih5 _ _ _ _ _ _ _ r hMm hrun n hn
  split at hrun
  · exact hih5 _ _ _ _ _ _ _ r hMm hrun n hn
  split at hrun
  · exact hih5 _ _ _ _ _ _ _ r hMm hrun n hn
  split at hrun
  · obtain ⟨y, hy, y1, -⟩ := ai_add_ok hrun
    exact hih5 _ _ _ _ _ _ _ y hMm hy n (y1.symm.trans hn)
  split at hrun
  · exact hih5 _ _ _ _ _ _ _ r hMm hrun n hn
  split at hrun
  · cases hrun; cases hn
  split at hrun
  · next n' h1 =>
    cases hrun
    cases hn
    unfold ai_th at h1
    split at h1
    · next x n2 t1 t2 ic z e1 e2 e3 =>
      split at h1
      · cases h1
        unfold ai_ck2 at hck2
        rw [e1, e3] at hck2
        have hck2 : ax_ck (m_own M) (m_cc M) q.1 x n t1 t2 ic z = true := hck2
        unfold ax_ck at hck2
        simp only [Bool.and_eq_true, decide_eq_true_eq] at hck2
        exact hck2.1.1.1.1.1.1
      · cases h1
    · cases h1
  split at hrun
  · split at hrun
    · exact hih5 _ _ _ _ _ _ _ r hMm hrun n hn
    · cases hrun
  split at hrun
  · cases hrun
  next rc hcall =>
  have hmem' := ai_call_mem hcall
  cases d with
  | zero => cases hrun
  | succ d' =>
    dsimp only at hrun
    split at hrun
    case isFalse => cases hrun
    split at hrun
    · cases hrun
    · obtain ⟨y, hy, y1, -⟩ := ai_add_ok hrun
      exact hih5 _ _ _ _ _ _ _ y hMm hy n (y1.symm.trans hn)
    · next n' σ1 dc ds hy =>
      split at hrun
      · cases hrun
      split at hrun
      · obtain ⟨y, hy, y1, -⟩ := ai_add_ok hrun
        exact hih5 _ _ _ _ _ _ _ y hMm hy n (y1.symm.trans hn)
      · split at hrun
        · cases hrun
          cases hn
          rcases ai_or_ok hy with hy | hy
          · exact hext _ _ _ _ _ hmem' hy n rfl
          · exact hih5 _ _ _ _ _ _ _ _ (hM2 _ hmem') hy n rfl
        · cases hrun
theorem ai_run_ok {mt : List AM} {l : Launch} {D : va_G} {E : AE} {ext : AXT} {op : Option Int32} (htr : l.stackTraces = false) (hop : ∀ k, op = some k → e_0 E &&& 15 = k) (hM1 : ∀ M ∈ mt, ai_Mk M) (hM2 : ∀ M ∈ mt, ai_mok2 mt M = true)
    (hext : ∀ (M : AM) (as : List AV) (σ : List AC) (d : Nat) (r : AR), M ∈ mt → ext d M as σ = some r → ai_CT l D E M as σ d r ∧ ∀ n, r.1 = .inr n → n < 5) : ∀ fuel : Nat, ai_SND mt l D E (ai_run ext mt op fuel) ∧ ∀ sc d M pc lo st σ (r : AR), ai_Wk mt M → ai_run ext mt op fuel sc d M pc lo st σ = some r → ∀ n, r.1 = .inr n → n < 5
  | 0 => ⟨(fun sc d M pc lo st σ r _ h => by have h : none = some r := h; cases h), (fun sc d M pc lo st σ r _ h => by have h : none = some r := h; cases h)⟩
  | f + 1 => by
    obtain ⟨h1, h2⟩ := ai_run_ok htr hop hM1 hM2 hext f
    exact ⟨ai_body_ok htr hop hM1 hM2 hext h2 h1, ai_body5 (fun M hM => ⟨hM2 M hM, (hM1 M hM).2.2.2.2.2.2.2.2.1⟩) (fun d M as σ r hM h => (hext M as σ d r hM h).2) h2⟩
end
section
/-! ===== machine B: linear forms over named unknowns, their bounds and facts ===== -/
abbrev LT : Type := List (Nat × Int)
abbrev Li : Type := Int × LT
def li_t (nu : List Int) : LT → Option Int
  | [] => some 0
  | q :: r => match nu[q.1]?, li_t nu r with
    | some x, some y => some (q.2 * x + y)
    | _, _ => none
def li_e (nu : List Int) (a : Li) : Option Int := match li_t nu a.2 with
  | some y => some (a.1 + y)
  | none => none
def li_c (c : Int) : Li := (c, [])
def li_n (n : Nat) : Li := (0, [(n, 1)])
def li_in (n : Nat) (c : Int) : LT → LT
  | [] => [(n, c)]
  | q :: r => if q.1 = n then (if c + q.2 = 0 then r else (n, c + q.2) :: r) else if n < q.1 then (n, c) :: q :: r else q :: li_in n c r
def li_addt (a b : LT) : LT := match a with
  | [] => b
  | q :: r => li_in q.1 q.2 (li_addt r b)
def li_add (a b : Li) : Li := (a.1 + b.1, li_addt a.2 b.2)
def li_mult (k : Int) : LT → LT
  | [] => []
  | q :: r => (q.1, k * q.2) :: li_mult k r
def li_mul (k : Int) (a : Li) : Li := if k = 0 then (0, []) else (k * a.1, li_mult k a.2)
def li_sub (a b : Li) : Li := li_add a (li_mul (-1) b)
def li_sh (k : Int) (a : Li) : Li := (a.1 + k, a.2)
/-- the later naming knows all that the earlier knew -/
def nu_le (nu nv : List Int) : Prop := ∀ (n : Nat) (x : Int), nu[n]? = some x → nv[n]? = some x
theorem nu_le.rf {nu : List Int} : nu_le nu nu := fun _ _ h => h
theorem nu_le.tr {a b c : List Int} (h : nu_le a b) (k : nu_le b c) : nu_le a c := fun n x q => k n x (h n x q)
theorem nu_le.ap {nu ys : List Int} : nu_le nu (nu ++ ys) := fun n x h => by
  rw [List.getElem?_append_left (List.getElem?_eq_some_iff.mp h).1]; exact h
theorem li_t_cons {nu : List Int} {q : Nat × Int} {r : LT} {z : Int} (h : li_t nu (q :: r) = some z) : ∃ x y, nu[q.1]? = some x ∧ li_t nu r = some y ∧ z = q.2 * x + y := by
  have h : (match nu[q.1]?, li_t nu r with
    | some x, some y => some (q.2 * x + y)
    | _, _ => none) = some z := h
  split at h
  · next x y h1 h2 => cases h; exact ⟨x, y, h1, h2, rfl⟩
  · cases h
theorem li_t_mk {nu : List Int} {q : Nat × Int} {r : LT} {x y : Int} (h1 : nu[q.1]? = some x) (h2 : li_t nu r = some y) : li_t nu (q :: r) = some (q.2 * x + y) := by
  show (match nu[q.1]?, li_t nu r with
    | some x, some y => some (q.2 * x + y)
    | _, _ => none) = _
  rw [h1, h2]
theorem li_e_of {nu : List Int} {a : Li} {z : Int} (h : li_e nu a = some z) : ∃ y, li_t nu a.2 = some y ∧ z = a.1 + y := by
  unfold li_e at h
  split at h
  · next y hy => cases h; exact ⟨y, hy, rfl⟩
  · cases h
theorem li_e_mk {nu : List Int} {a : Li} {y : Int} (h : li_t nu a.2 = some y) : li_e nu a = some (a.1 + y) := by unfold li_e; rw [h]
theorem li_t_mono {nu nv : List Int} (h : nu_le nu nv) : ∀ {a : LT} {z : Int}, li_t nu a = some z → li_t nv a = some z
  | [], _, k => k
  | q :: r, z, k => by
    obtain ⟨x, y, h1, h2, rfl⟩ := li_t_cons k
    exact li_t_mk (h _ _ h1) (li_t_mono h h2)
theorem li_e_mono {nu nv : List Int} (h : nu_le nu nv) {a : Li} {z : Int} (k : li_e nu a = some z) : li_e nv a = some z := by
  obtain ⟨y, h1, rfl⟩ := li_e_of k
  exact li_e_mk (li_t_mono h h1)
theorem li_e_c (nu : List Int) (c : Int) : li_e nu (li_c c) = some c := by
  show some (c + 0) = some c
  rw [Int.add_zero]
theorem li_e_n {nu : List Int} {n : Nat} {x : Int} (h : nu[n]? = some x) : li_e nu (li_n n) = some x := by
  have := li_e_mk (a := li_n n) (li_t_mk (q := (n, 1)) (r := []) h rfl)
  rw [this]
  exact congrArg some (by show (0 : Int) + (1 * x + 0) = x; omega)
theorem li_t_in {nu : List Int} {n : Nat} {c x : Int} (hx : nu[n]? = some x) : ∀ {l : LT} {y : Int}, li_t nu l = some y → li_t nu (li_in n c l) = some (c * x + y)
  | [], y, k => by
    cases k
    exact li_t_mk hx rfl
  | q :: r, z, k => by
    obtain ⟨u, y, h1, h2, rfl⟩ := li_t_cons k
    show li_t nu (if q.1 = n then (if c + q.2 = 0 then r else (n, c + q.2) :: r) else if n < q.1 then (n, c) :: q :: r else q :: li_in n c r) = _
    split
    · next e =>
      rw [e, hx] at h1
      cases h1
      split
      · next e0 =>
        rw [h2]
        have : c * x + (q.2 * x + y) = (c + q.2) * x + y := by rw [Int.add_mul]; omega
        rw [this, e0]
        exact congrArg some (by omega)
      · have := li_t_mk (q := (n, c + q.2)) hx h2
        rw [this]
        exact congrArg some (by show (c + q.2) * x + y = _; rw [Int.add_mul]; omega)
    · split
      · exact li_t_mk hx (li_t_mk h1 h2)
      · have := li_t_mk (q := q) h1 (li_t_in (c := c) hx h2)
        rw [this]
        exact congrArg some (by omega)
theorem li_t_add {nu : List Int} : ∀ {a b : LT} {x y : Int}, li_t nu a = some x → li_t nu b = some y → li_t nu (li_addt a b) = some (x + y)
  | [], b, x, y, h, k => by
    cases h
    rw [Int.zero_add]; exact k
  | q :: r, b, x, y, h, k => by
    obtain ⟨u, w, h1, h2, rfl⟩ := li_t_cons h
    have := li_t_in (c := q.2) h1 (li_t_add h2 k)
    show li_t nu (li_in q.1 q.2 (li_addt r b)) = _
    rw [this]
    exact congrArg some (by omega)
theorem li_e_add {nu : List Int} {a b : Li} {x y : Int} (h : li_e nu a = some x) (k : li_e nu b = some y) : li_e nu (li_add a b) = some (x + y) := by
  obtain ⟨u, h1, rfl⟩ := li_e_of h
  obtain ⟨v, h2, rfl⟩ := li_e_of k
  have := li_e_mk (a := li_add a b) (li_t_add h1 h2)
  rw [this]
  exact congrArg some (by show a.1 + b.1 + (u + v) = _; omega)
theorem li_t_mul {nu : List Int} (k : Int) : ∀ {a : LT} {x : Int}, li_t nu a = some x → li_t nu (li_mult k a) = some (k * x)
  | [], x, h => by
    cases h
    show some (0 : Int) = _
    rw [Int.mul_zero]
  | q :: r, x, h => by
    obtain ⟨u, y, h1, h2, rfl⟩ := li_t_cons h
    have := li_t_mk (q := (q.1, k * q.2)) h1 (li_t_mul k h2)
    show li_t nu ((q.1, k * q.2) :: li_mult k r) = _
    rw [this]
    exact congrArg some (by show k * q.2 * u + k * y = _; rw [Int.mul_add, Int.mul_assoc])
theorem li_e_mul {nu : List Int} (k : Int) {a : Li} {x : Int} (h : li_e nu a = some x) : li_e nu (li_mul k a) = some (k * x) := by
  unfold li_mul
  split
  · next e => rw [e, Int.zero_mul]; rfl
  · obtain ⟨u, h1, rfl⟩ := li_e_of h
    have := li_e_mk (a := (k * a.1, li_mult k a.2)) (li_t_mul k h1)
    rw [this]
    exact congrArg some (by show k * a.1 + k * u = _; rw [Int.mul_add])
theorem li_e_sub {nu : List Int} {a b : Li} {x y : Int} (h : li_e nu a = some x) (k : li_e nu b = some y) : li_e nu (li_sub a b) = some (x - y) := by
  have := li_e_add h (li_e_mul (-1) k)
  unfold li_sub
  rw [this]
  exact congrArg some (by omega)
theorem li_e_sh {nu : List Int} (k : Int) {a : Li} {x : Int} (h : li_e nu a = some x) : li_e nu (li_sh k a) = some (x + k) := by
  obtain ⟨u, h1, rfl⟩ := li_e_of h
  have := li_e_mk (a := li_sh k a) h1
  rw [this]
  exact congrArg some (by show a.1 + k + u = _; omega)
/-! bounds of the names -/
abbrev LB : Type := List (Int × Int)
def lb_ok (nu : List Int) (be : LB) : Prop := be.length = nu.length ∧ ∀ (n : Nat) (x : Int), nu[n]? = some x → ∃ q, be[n]? = some q ∧ q.1 ≤ x ∧ x ≤ q.2
def li_vt (be : LB) : LT → Int × Int
  | [] => (0, 0)
  | q :: r => match be[q.1]?, li_vt be r with
    | some b, w => if 0 ≤ q.2 then (q.2 * b.1 + w.1, q.2 * b.2 + w.2) else (q.2 * b.2 + w.1, q.2 * b.1 + w.2)
    | none, w => w
def li_v (be : LB) (a : Li) : Int × Int := match li_vt be a.2 with
  | w => (a.1 + w.1, a.1 + w.2)
theorem li_vt_ok {nu : List Int} {be : LB} (hb : lb_ok nu be) : ∀ {a : LT} {x : Int}, li_t nu a = some x → (li_vt be a).1 ≤ x ∧ x ≤ (li_vt be a).2
  | [], x, h => by cases h; exact ⟨Int.le_refl _, Int.le_refl _⟩
  | q :: r, x, h => by
    obtain ⟨u, y, h1, h2, rfl⟩ := li_t_cons h
    obtain ⟨b, hb1, hb2, hb3⟩ := hb.2 _ _ h1
    obtain ⟨i1, i2⟩ := li_vt_ok hb h2
    have e : li_vt be (q :: r) = if 0 ≤ q.2 then (q.2 * b.1 + (li_vt be r).1, q.2 * b.2 + (li_vt be r).2) else (q.2 * b.2 + (li_vt be r).1, q.2 * b.1 + (li_vt be r).2) := by
      show (match be[q.1]?, li_vt be r with
        | some b, w => if 0 ≤ q.2 then (q.2 * b.1 + w.1, q.2 * b.2 + w.2) else (q.2 * b.2 + w.1, q.2 * b.1 + w.2)
        | none, w => w) = _
      rw [hb1]
    rw [e]
    split
    · next hc =>
      have l1 := Int.mul_le_mul_of_nonneg_left hb2 hc
      have l2 := Int.mul_le_mul_of_nonneg_left hb3 hc
      exact ⟨by show q.2 * b.1 + _ ≤ _; omega, by show _ ≤ q.2 * b.2 + _; omega⟩
    · next hc =>
      have l1 := Int.mul_le_mul_of_nonpos_left (a := q.2) (by omega) hb2
      have l2 := Int.mul_le_mul_of_nonpos_left (a := q.2) (by omega) hb3
      exact ⟨by show q.2 * b.2 + _ ≤ _; omega, by show _ ≤ q.2 * b.1 + _; omega⟩
theorem li_v_ok {nu : List Int} {be : LB} (hb : lb_ok nu be) {a : Li} {x : Int} (h : li_e nu a = some x) : (li_v be a).1 ≤ x ∧ x ≤ (li_v be a).2 := by
  obtain ⟨u, h1, rfl⟩ := li_e_of h
  obtain ⟨i1, i2⟩ := li_vt_ok hb h1
  exact ⟨by show a.1 + (li_vt be a.2).1 ≤ _; omega, by show _ ≤ a.1 + (li_vt be a.2).2; omega⟩
theorem lb_ok.new {nu : List Int} {be : LB} (hb : lb_ok nu be) {x : Int} {q : Int × Int} (h1 : q.1 ≤ x) (h2 : x ≤ q.2) : lb_ok (nu ++ [x]) (be ++ [q]) := by
  refine ⟨by rw [List.length_append, List.length_append, hb.1]; rfl, fun n y h => ?_⟩
  by_cases hn : n < nu.length
  · rw [List.getElem?_append_left hn] at h
    obtain ⟨p, k1, k2⟩ := hb.2 n y h
    exact ⟨p, by rw [List.getElem?_append_left (by rw [hb.1]; exact hn)]; exact k1, k2⟩
  · rw [List.getElem?_append_right (by omega)] at h
    have hz : n - nu.length < 1 := (List.getElem?_eq_some_iff.mp h).1
    rw [show n - nu.length = 0 by omega] at h
    cases h
    refine ⟨q, ?_, h1, h2⟩
    rw [List.getElem?_append_right (by rw [hb.1]; omega), hb.1, show n - nu.length = 0 by omega]
    rfl
theorem nu_new {nu : List Int} {be : LB} (hb : lb_ok nu be) (x : Int) : (nu ++ [x])[be.length]? = some x := by
  rw [hb.1, List.getElem?_append_right (Nat.le_refl _), Nat.sub_self]
  rfl
theorem lb_ok.set {nu : List Int} {be : LB} (hb : lb_ok nu be) {n : Nat} {x : Int} (hx : nu[n]? = some x) {q : Int × Int} (h1 : q.1 ≤ x) (h2 : x ≤ q.2) : lb_ok nu (be.set n q) := by
  refine ⟨by rw [List.length_set]; exact hb.1, fun m y h => ?_⟩
  rw [List.getElem?_set]
  by_cases e : n = m
  · subst e
    rw [hx] at h
    cases h
    have : n < be.length := by rw [hb.1]; exact (List.getElem?_eq_some_iff.mp hx).1
    rw [if_pos rfl, if_pos this]
    exact ⟨q, rfl, h1, h2⟩
  · rw [if_neg e]
    exact hb.2 m y h
/-! facts -/
def lf_ok (nu : List Int) (fs : List Li) : Prop := ∀ f, f ∈ fs → ∃ x, li_e nu f = some x ∧ 0 ≤ x
theorem lf_ok.mono {nu nv : List Int} (h : nu_le nu nv) {fs : List Li} (k : lf_ok nu fs) : lf_ok nv fs := fun f hf => by
  obtain ⟨x, h1, h2⟩ := k f hf
  exact ⟨x, li_e_mono h h1, h2⟩
theorem lf_ok.cons {nu : List Int} {f : Li} {fs : List Li} {x : Int} (h : li_e nu f = some x) (hx : 0 ≤ x) (k : lf_ok nu fs) : lf_ok nu (f :: fs) := fun g hg => by
  rcases List.mem_cons.mp hg with rfl | hg
  · exact ⟨x, h, hx⟩
  · exact k g hg
def le_0 (be : LB) (a : Li) : Bool := decide (0 ≤ (li_v be a).1)
/-- how many times a fact is taken -/
def li_ra (a f : Li) : Int := match f.2 with
  | [] => 1
  | q :: _ => match a.2.find? (fun r => r.1 == q.1) with
    | some r => if 1 < r.2 / q.2 then r.2 / q.2 else 1
    | none => 1
theorem li_ra_pos (a f : Li) : 0 ≤ li_ra a f := by
  unfold li_ra
  split
  · omega
  · split
    · split <;> omega
    · omega
def le_1 (be : LB) (fs : List Li) (a : Li) : Bool := fs.any (fun f => le_0 be (li_sub a f) || (decide (li_ra a f ≠ 1) && le_0 be (li_sub a (li_mul (li_ra a f) f))))
/-- a form that is never below 0 -/
def le_f (be : LB) (fs : List Li) (a : Li) : Bool := le_0 be a || (le_1 be fs a || fs.any (fun f => le_1 be fs (li_sub a f)))
theorem le_0_ok {nu : List Int} {be : LB} (hb : lb_ok nu be) {a : Li} (h : le_0 be a = true) {x : Int} (hx : li_e nu a = some x) : 0 ≤ x := by
  have := (li_v_ok hb hx).1
  have h := of_decide_eq_true h
  omega
theorem le_1_ok {nu : List Int} {be : LB} (hb : lb_ok nu be) {fs : List Li} (hf : lf_ok nu fs) {a : Li} (h : le_1 be fs a = true) {x : Int} (hx : li_e nu a = some x) : 0 ≤ x := by
  obtain ⟨f, hm, h⟩ := List.any_eq_true.mp h
  obtain ⟨y, h1, h2⟩ := hf f hm
  rw [Bool.or_eq_true, Bool.and_eq_true] at h
  rcases h with h | h
  · have := le_0_ok hb h (li_e_sub hx h1)
    omega
  · have h3 := le_0_ok hb h.2 (li_e_sub hx (li_e_mul (li_ra a f) h1))
    have h4 := Int.mul_nonneg (li_ra_pos a f) h2
    omega
theorem le_f_ok {nu : List Int} {be : LB} (hb : lb_ok nu be) {fs : List Li} (hf : lf_ok nu fs) {a : Li} (h : le_f be fs a = true) {x : Int} (hx : li_e nu a = some x) : 0 ≤ x := by
  unfold le_f at h
  rw [Bool.or_eq_true, Bool.or_eq_true] at h
  rcases h with h | h | h
  · exact le_0_ok hb h hx
  · exact le_1_ok hb hf h hx
  · obtain ⟨f, hm, h⟩ := List.any_eq_true.mp h
    obtain ⟨y, h1, h2⟩ := hf f hm
    have := le_1_ok hb hf h (li_e_sub hx h1)
    omega
/-- narrower bounds of a name, by a form that is not below 0 and never above hi -/
def lt_nb (b : Int × Int) (c hi : Int) : Int × Int := if 0 < c then (max b.1 (-((hi - c * b.2) / c)), b.2) else if c < 0 then (b.1, min b.2 ((hi - c * b.1) / (-c))) else b
def lt_nl (be0 : LB) (hi : Int) : LT → LB → LB
  | [], be => be
  | q :: r, be => match be0[q.1]? with
    | some b => lt_nl be0 hi r (be.set q.1 (lt_nb b q.2 hi))
    | none => lt_nl be0 hi r be
def lt_cm (c : Int) (b : Int × Int) : Int := if 0 ≤ c then c * b.2 else c * b.1
theorem lt_cm_ok {c z : Int} {b : Int × Int} (h1 : b.1 ≤ z) (h2 : z ≤ b.2) : c * z ≤ lt_cm c b := by
  unfold lt_cm
  split
  · next hc => exact Int.mul_le_mul_of_nonneg_left h2 hc
  · next hc => exact Int.mul_le_mul_of_nonpos_left (a := c) (by omega) h1
theorem li_vt_cons {be : LB} {q : Nat × Int} {r : LT} {b : Int × Int} (hb : be[q.1]? = some b) : (li_vt be (q :: r)).2 = lt_cm q.2 b + (li_vt be r).2 := by
  have e : li_vt be (q :: r) = if 0 ≤ q.2 then (q.2 * b.1 + (li_vt be r).1, q.2 * b.2 + (li_vt be r).2) else (q.2 * b.2 + (li_vt be r).1, q.2 * b.1 + (li_vt be r).2) := by
    show (match be[q.1]?, li_vt be r with
      | some b, w => if 0 ≤ q.2 then (q.2 * b.1 + w.1, q.2 * b.2 + w.2) else (q.2 * b.2 + w.1, q.2 * b.1 + w.2)
      | none, w => w) = _
    rw [hb]
  rw [e]
  unfold lt_cm
  split <;> rfl
theorem lt_rest {nu : List Int} {be : LB} (hb : lb_ok nu be) : ∀ {a : LT} {y : Int}, li_t nu a = some y → ∀ q, q ∈ a → ∃ z b, nu[q.1]? = some z ∧ be[q.1]? = some b ∧ b.1 ≤ z ∧ z ≤ b.2 ∧ y - q.2 * z ≤ (li_vt be a).2 - lt_cm q.2 b
  | [], y, h, q, hq => by cases hq
  | p :: r, y, h, q, hq => by
    obtain ⟨u, w, h1, h2, rfl⟩ := li_t_cons h
    obtain ⟨b, hb1, hb2, hb3⟩ := hb.2 _ _ h1
    have e := li_vt_cons (r := r) hb1
    rcases List.mem_cons.mp hq with rfl | hq
    · refine ⟨u, b, h1, hb1, hb2, hb3, ?_⟩
      have := (li_vt_ok hb h2).2
      omega
    · obtain ⟨z, c, z1, z2, z3, z4, z5⟩ := lt_rest hb h2 q hq
      refine ⟨z, c, z1, z2, z3, z4, ?_⟩
      have := lt_cm_ok (c := p.2) hb2 hb3
      omega
theorem lt_nb_ok {z c hi : Int} {b : Int × Int} (h1 : b.1 ≤ z) (h2 : z ≤ b.2) (h : 0 ≤ c * z + (hi - lt_cm c b)) : (lt_nb b c hi).1 ≤ z ∧ z ≤ (lt_nb b c hi).2 := by
  unfold lt_nb
  split
  · next hc =>
    have e : lt_cm c b = c * b.2 := if_pos (by omega)
    rw [e] at h
    refine ⟨?_, h2⟩
    show max b.1 (-((hi - c * b.2) / c)) ≤ z
    have h3 : -((hi - c * b.2) / c) ≤ z := by
      have e1 := Int.mul_ediv_add_emod (hi - c * b.2) c
      have e2 := Int.emod_lt_of_pos (hi - c * b.2) hc
      have h4 : 0 ≤ c * (z + (hi - c * b.2) / c) + (hi - c * b.2) % c := by rw [Int.mul_add]; omega
      have h5 : -1 < z + (hi - c * b.2) / c := by
        rcases Int.lt_or_le (-1) (z + (hi - c * b.2) / c) with g | g
        · exact g
        · have := Int.mul_le_mul_of_nonneg_left g (Int.le_of_lt hc)
          omega
      omega
    omega
  · split
    · next hn hc =>
      have e : lt_cm c b = c * b.1 := if_neg (by omega)
      rw [e] at h
      refine ⟨h1, ?_⟩
      show z ≤ min b.2 ((hi - c * b.1) / (-c))
      have h3 : z ≤ (hi - c * b.1) / (-c) := by
        rw [Int.le_ediv_iff_mul_le (by omega), Int.mul_comm, Int.neg_mul]
        omega
      omega
    · exact ⟨h1, h2⟩
theorem lt_nl_ok {nu : List Int} {be0 : LB} {hi : Int} : ∀ {r : LT} {be : LB}, (∀ q, q ∈ r → ∃ z b, nu[q.1]? = some z ∧ be0[q.1]? = some b ∧ (lt_nb b q.2 hi).1 ≤ z ∧ z ≤ (lt_nb b q.2 hi).2) → lb_ok nu be → lb_ok nu (lt_nl be0 hi r be)
  | [], be, _, h => h
  | q :: r, be, k, h => by
    obtain ⟨z, b, z1, z2, z3, z4⟩ := k q List.mem_cons_self
    show lb_ok nu (match be0[q.1]? with
      | some b => lt_nl be0 hi r (be.set q.1 (lt_nb b q.2 hi))
      | none => lt_nl be0 hi r be)
    rw [z2]
    exact lt_nl_ok (fun p hp => k p (List.mem_cons_of_mem _ hp)) (h.set z1 z3 z4)
/-- what is known more when a form is not below 0; none: it is always below -/
def lt_as (be : LB) (fs : List Li) (a : Li) : Option (LB × List Li) :=
  if (li_v be a).2 < 0 then none
  else if 0 ≤ (li_v be a).1 then some (be, fs)
  else match a.2 with
    | [q] => some (lt_nl be (li_v be a).2 [q] be, fs)
    | l => some (lt_nl be (li_v be a).2 l be, a :: fs)
theorem lt_as_ok {nu : List Int} {be : LB} (hb : lb_ok nu be) {fs : List Li} (hf : lf_ok nu fs) {a : Li} {x : Int} (hx : li_e nu a = some x) (h0 : 0 ≤ x) : ∃ r, lt_as be fs a = some r ∧ lb_ok nu r.1 ∧ lf_ok nu r.2 := by
  unfold lt_as
  have hv := li_v_ok hb hx
  rw [if_neg (by omega)]
  split
  · exact ⟨_, rfl, hb, hf⟩
  · obtain ⟨u, h1, h2⟩ := li_e_of hx
    have key : ∀ q, q ∈ a.2 → ∃ z b, nu[q.1]? = some z ∧ be[q.1]? = some b ∧ (lt_nb b q.2 (li_v be a).2).1 ≤ z ∧ z ≤ (lt_nb b q.2 (li_v be a).2).2 := by
      intro q hq
      obtain ⟨z, b, z1, z2, z3, z4, z5⟩ := lt_rest hb h1 q hq
      refine ⟨z, b, z1, z2, lt_nb_ok z3 z4 ?_⟩
      have e : (li_v be a).2 = a.1 + (li_vt be a.2).2 := rfl
      omega
    split
    · next q hq => exact ⟨_, rfl, lt_nl_ok (fun p hp => key p (by rw [hq]; exact hp)) hb, hf⟩
    · exact ⟨_, rfl, lt_nl_ok key hb, hf.cons hx h0⟩
end
section
/-! ===== machine B: kinds of cells, and the world as a function of numbers ===== -/
theorem fb_rng (x : Int32) : -2147483648 ≤ x.toInt ∧ x.toInt < 2147483648 := by
  have h1 := Int32.le_toInt x
  have h2 := Int32.toInt_lt x
  omega
theorem fb_bmod {z : Int} (h1 : -2147483648 ≤ z) (h2 : z < 2147483648) : z.bmod (2 ^ 32) = z := by
  rw [Int.bmod_eq_of_le (by omega) (by omega)]
theorem fb_addI {x y : Int32} (h1 : -2147483648 ≤ x.toInt + y.toInt) (h2 : x.toInt + y.toInt < 2147483648) : (x + y).toInt = x.toInt + y.toInt := by
  rw [Int32.toInt_add, fb_bmod h1 h2]
theorem fb_subI {x y : Int32} (h1 : -2147483648 ≤ x.toInt - y.toInt) (h2 : x.toInt - y.toInt < 2147483648) : (x - y).toInt = x.toInt - y.toInt := by
  rw [Int32.toInt_sub, fb_bmod h1 h2]
theorem fb_mulI {x y : Int32} (h1 : -2147483648 ≤ x.toInt * y.toInt) (h2 : x.toInt * y.toInt < 2147483648) : (x * y).toInt = x.toInt * y.toInt := by
  rw [Int32.toInt_mul, fb_bmod h1 h2]
theorem fb_ofI {z : Int} (h1 : -2147483648 ≤ z) (h2 : z < 2147483648) : (Int32.ofInt z).toInt = z := by
  rw [Int32.toInt_ofInt, fb_bmod h1 h2]
theorem fb_asI (x : Int32) : Int32.ofInt x.toInt = x := Int32.ofInt_toInt x
theorem fb_rngL (x : Int64) : -9223372036854775808 ≤ x.toInt ∧ x.toInt < 9223372036854775808 := by
  have h1 := Int64.le_toInt x
  have h2 := Int64.toInt_lt x
  omega
theorem fb_bmodL {z : Int} (h1 : -9223372036854775808 ≤ z) (h2 : z < 9223372036854775808) : z.bmod (2 ^ 64) = z := by
  rw [Int.bmod_eq_of_le (by omega) (by omega)]
theorem fb_addL {x y : Int64} (h1 : -9223372036854775808 ≤ x.toInt + y.toInt) (h2 : x.toInt + y.toInt < 9223372036854775808) : (x + y).toInt = x.toInt + y.toInt := by
  rw [Int64.toInt_add, fb_bmodL h1 h2]
theorem fb_subL {x y : Int64} (h1 : -9223372036854775808 ≤ x.toInt - y.toInt) (h2 : x.toInt - y.toInt < 9223372036854775808) : (x - y).toInt = x.toInt - y.toInt := by
  rw [Int64.toInt_sub, fb_bmodL h1 h2]
theorem fb_ofL {z : Int} (h1 : -9223372036854775808 ≤ z) (h2 : z < 9223372036854775808) : (Int64.ofInt z).toInt = z := by
  rw [Int64.toInt_ofInt, fb_bmodL h1 h2]
theorem fb_asL (x : Int64) : Int64.ofInt x.toInt = x := Int64.ofInt_toInt x
theorem fb_byte {x : Int32} (h1 : -128 ≤ x.toInt) (h2 : x.toInt < 128) : x.toInt8.toInt32 = x := by
  apply Int32.toInt_inj.1
  rw [Int8.toInt_toInt32, Int32.toInt_toInt8, Int.bmod_eq_of_le (by omega) (by omega)]
theorem fb_byte_rng (x : Int32) : -128 ≤ x.toInt8.toInt32.toInt ∧ x.toInt8.toInt32.toInt < 128 := by
  rw [Int8.toInt_toInt32]
  have h1 := Int8.le_toInt x.toInt8
  have h2 := Int8.toInt_lt x.toInt8
  omega
/-- an int (0) or a long (1) between two; a reference: the kind, and the place c0 + c1 * own place + c2 * index -/
abbrev BF : Type := (Nat × Int × Int) ⊕ (Nat × Int × Int × Int)
/-- an object (class, fields) or an array (its kind as in ai_ty, its length, its places) -/
abbrev BK : Type := (Nat × List BF) ⊕ (Nat × Nat × BF)
def bk_tab : List BK := [
  .inl (11, [.inr (1, 1, 0, 0), .inr (3, 3, 0, 0), .inr (5, 5, 0, 0), .inr (7, 7, 0, 0), .inr (12, 129, 0, 0), .inr (21, 145, 0, 0)]),
  .inl (0, [.inr (2, 1, 1, 0), .inl (0, 0, 320)]),
  .inr (0, 320, .inl (0, (-128), 127)),
  .inl (0, [.inr (4, 1, 1, 0), .inl (0, 0, 400)]),
  .inr (0, 400, .inl (0, (-128), 127)),
  .inl (0, [.inr (6, 1, 1, 0), .inl (0, 0, 60)]),
  .inr (0, 60, .inl (0, (-128), 127)),
  .inl (10, [.inr (8, 8, 0, 0), .inl (0, 1, 40)]),
  .inr (9, 40, .inr (9, 9, 0, 3)),
  .inl (5, [.inl (0, 0, 39), .inr (10, 1, 1, 0), .inl (0, (-2147483648), 2147483647), .inl (0, (-2147483648), 2147483647), .inl (0, (-2147483648), 2147483647), .inl (0, (-2147483648), 2147483647), .inl (0, 0, 1), .inl (0, 0, 1)]),
  .inl (0, [.inr (11, 1, 1, 0), .inl (0, 0, 24)]),
  .inr (0, 24, .inl (0, (-128), 127)),
  .inl (9, [.inr (7, 7, 0, 0), .inr (13, 130, 0, 0), .inr (16, 140, 0, 0), .inr (19, 143, 0, 0), .inl (0, 0, 1), .inl (0, 64, 160)]),
  .inl (4, [.inr (14, 131, 0, 0)]),
  .inr (7, 8, .inr (15, 132, 0, 1)),
  .inl (3, [.inl (0, 0, 1), .inl (0, (-2147483648), 2147483647), .inl (0, (-2147483648), 2147483647), .inl (0, 0, 1), .inl (0, 0, 1), .inl (1, (-9223372036854775808), 9223372036854775807), .inl (0, (-1), 39)]),
  .inl (2, [.inr (17, 141, 0, 0)]),
  .inl (0, [.inr (18, 1, 1, 0), .inl (0, 0, 160)]),
  .inr (0, 160, .inl (0, (-128), 127)),
  .inl (0, [.inr (20, 1, 1, 0), .inl (0, 0, 160)]),
  .inr (0, 160, .inl (0, (-128), 127)),
  .inl (6, [.inr (7, 7, 0, 0), .inr (22, 146, 0, 0), .inr (23, 147, 0, 0), .inr (29, 192, 0, 0), .inr (29, 196, 0, 0), .inr (33, 200, 0, 0)]),
  .inr (12, 4, .inr (24, 148, 0, 11)),
  .inr (1, 4, .inl (0, 0, 3)),
  .inl (8, [.inr (25, 1, 1, 0), .inr (26, 2, 1, 0), .inl (0, 0, 4)]),
  .inr (1, 4, .inl (0, (-2147483648), 2147483647)),
  .inr (5, 4, .inr (27, 1, 1, 2)),
  .inl (1, [.inr (28, 1, 1, 0), .inl (0, 0, 4)]),
  .inr (1, 4, .inl (0, (-2147483648), 2147483647)),
  .inl (7, [.inr (30, 1, 1, 0), .inr (32, 3, 1, 0), .inl (0, 0, 60), .inl (0, (-2147483648), 2147483647), .inl (0, 0, 1)]),
  .inl (1, [.inr (31, 1, 1, 0), .inl (0, 0, 4)]),
  .inr (1, 4, .inl (0, (-2147483648), 2147483647)),
  .inr (1, 60, .inl (0, (-2147483648), 2147483647)),
  .inl (1, [.inr (34, 1, 1, 0), .inl (0, 0, 8)]),
  .inr (1, 8, .inl (0, (-2147483648), 2147483647)),
  .inl (12, [.inl (0, 0, 4), .inl (0, 1, 40), .inr (36, 203, 0, 0), .inr (37, 204, 0, 0), .inr (38, 205, 0, 0), .inr (39, 206, 0, 0), .inr (40, 207, 0, 0), .inr (41, 208, 0, 0), .inr (42, 209, 0, 0), .inr (43, 210, 0, 0), .inr (44, 211, 0, 0), .inl (0, 0, 8), .inr (45, 212, 0, 0), .inr (46, 213, 0, 0), .inr (47, 214, 0, 0), .inr (48, 215, 0, 0), .inr (49, 216, 0, 0), .inl (0, 0, 320), .inr (50, 217, 0, 0), .inl (0, 0, 400), .inr (51, 218, 0, 0), .inl (0, 64, 160), .inl (0, 0, 1), .inl (0, 0, 160), .inl (0, 0, 255), .inl (0, 0, 240), .inl (0, 0, 60), .inr (52, 219, 0, 0), .inl (0, 0, 60), .inr (53, 220, 0, 0), .inr (54, 221, 0, 0), .inl (0, 0, 4), .inr (55, 222, 0, 0), .inl (0, 0, 39), .inr (56, 223, 0, 0), .inr (57, 224, 0, 0), .inr (58, 225, 0, 0), .inr (59, 226, 0, 0), .inr (60, 227, 0, 0), .inr (61, 228, 0, 0)]),
  .inr (1, 40, .inl (0, 0, 39)),
  .inr (1, 40, .inl (0, (-2147483648), 2147483647)),
  .inr (1, 40, .inl (0, 0, 24)),
  .inr (1, 40, .inl (0, (-2147483648), 2147483647)),
  .inr (3, 40, .inl (0, 0, 1)),
  .inr (3, 40, .inl (0, 0, 1)),
  .inr (1, 40, .inl (0, 0, 4)),
  .inr (1, 160, .inl (0, (-2147483648), 2147483647)),
  .inr (1, 960, .inl (0, (-2147483648), 2147483647)),
  .inr (1, 8, .inl (0, (-2147483648), 2147483647)),
  .inr (1, 8, .inl (0, 0, 39)),
  .inr (1, 8, .inl (0, (-2147483648), 2147483647)),
  .inr (2, 8, .inl (1, (-9223372036854775808), 9223372036854775807)),
  .inr (1, 8, .inl (0, 0, 39)),
  .inr (1, 320, .inl (0, 0, 255)),
  .inr (1, 400, .inl (0, (-2147483648), 2147483647)),
  .inr (1, 60, .inl (0, (-2147483648), 2147483647)),
  .inr (1, 60, .inl (0, 0, 60)),
  .inr (1, 60, .inl (0, 0, 60)),
  .inr (1, 4, .inl (0, 0, 39)),
  .inr (1, 4, .inl (0, 0, 3)),
  .inr (1, 4, .inl (0, 0, 4)),
  .inr (1, 16, .inl (0, (-2147483648), 2147483647)),
  .inr (1, 16, .inl (0, 0, 4)),
  .inr (1, 64, .inl (0, 0, 39)),
  .inr (1, 8, .inl (0, 0, 39)),
  .inr (2, 1, .inl (1, (-9223372036854775808), 9223372036854775807))]
def bk_pos : List Nat := [0, 1, 2, 3, 4, 5, 6, 7, 8, 9, 10, 11, 9, 10, 11, 9, 10, 11, 9, 10, 11, 9, 10, 11, 9, 10, 11, 9, 10, 11, 9, 10, 11, 9, 10, 11, 9, 10, 11, 9, 10, 11, 9, 10, 11, 9, 10, 11, 9, 10, 11, 9, 10, 11, 9, 10, 11, 9, 10, 11, 9, 10, 11, 9, 10, 11, 9, 10, 11, 9, 10, 11, 9, 10, 11, 9, 10, 11, 9, 10, 11, 9, 10, 11, 9, 10, 11, 9, 10, 11, 9, 10, 11, 9, 10, 11, 9, 10, 11, 9, 10, 11, 9, 10, 11, 9, 10, 11, 9, 10, 11, 9, 10, 11, 9, 10, 11, 9, 10, 11, 9, 10, 11, 9, 10, 11, 9, 10, 11, 12, 13, 14, 15, 15, 15, 15, 15, 15, 15, 15, 16, 17, 18, 19, 20, 21, 22, 23, 24, 25, 26, 27, 28, 27, 28, 27, 28, 27, 28, 24, 25, 26, 27, 28, 27, 28, 27, 28, 27, 28, 24, 25, 26, 27, 28, 27, 28, 27, 28, 27, 28, 24, 25, 26, 27, 28, 27, 28, 27, 28, 27, 28, 29, 30, 31, 32, 29, 30, 31, 32, 33, 34, 35, 36, 37, 38, 39, 40, 41, 42, 43, 44, 45, 46, 47, 48, 49, 50, 51, 52, 53, 54, 55, 56, 57, 58, 59, 60, 61, 62]
def bk_at (P : Nat) : Nat := bk_pos.getD P 999
def bk_spec (k j : Nat) : Option BF := match bk_tab[k]? with
  | some (.inl q) => q.2[j]?
  | some (.inr q) => if j < q.2.1 then some q.2.2 else none
  | none => none
def bk_to (q : Nat × Int × Int × Int) (P j : Nat) : Int := q.2.1 + q.2.2.1 * (P : Int) + q.2.2.2 * (j : Int)
def bk_rok (P j : Nat) (f : BF) : Bool := match f with
  | .inl _ => true
  | .inr q => decide (0 ≤ bk_to q P j) && (decide ((bk_to q P j).toNat < 230) && decide (bk_at (bk_to q P j).toNat = q.1))
def bk_c1 (P : Nat) : Bool := match bk_tab[bk_at P]? with
  | some (.inl q) => (List.range q.2.length).all (fun j => match q.2[j]? with
    | some f => bk_rok P j f
    | none => false)
  | some (.inr q) => match q.2.2 with
    | .inl _ => true
    | .inr r => (List.range q.2.1).all (fun j => bk_rok P j (.inr r))
  | none => false
set_option maxRecDepth 100000 in
theorem bk_c1_all : (List.range 230).all bk_c1 = true := by decide +kernel
def bk_i32 (lo hi : Int) : Bool := decide (-2147483648 ≤ lo) && decide (hi < 2147483648)
def bk_i64 (lo hi : Int) : Bool := decide (-9223372036854775808 ≤ lo) && decide (hi < 9223372036854775808)
def bk_tf (t : FieldType) (f : BF) : Bool := match t, f with
  | .int, .inl q => decide (q.1 = 0) && bk_i32 q.2.1 q.2.2
  | .boolean, .inl q => decide (q.1 = 0) && (decide (0 ≤ q.2.1) && decide (q.2.2 ≤ 1))
  | .long, .inl q => decide (q.1 = 1) && bk_i64 q.2.1 q.2.2
  | .object _, .inr _ => true
  | .array _, .inr _ => true
  | _, _ => false
def bk_ta (t : Nat) (f : BF) : Bool := match t, f with
  | 0, .inl q => decide (q.1 = 0) && (decide (-128 ≤ q.2.1) && decide (q.2.2 ≤ 127))
  | 1, .inl q => decide (q.1 = 0) && bk_i32 q.2.1 q.2.2
  | 2, .inl q => decide (q.1 = 1) && bk_i64 q.2.1 q.2.2
  | 3, .inl q => decide (q.1 = 0) && (decide (0 ≤ q.2.1) && decide (q.2.2 ≤ 1))
  | _ + 4, .inr _ => true
  | _, _ => false
def bk_c2 (k : BK) : Bool := match k with
  | .inl q => match vwCl[q.1]? with
    | some r => decide (r.2.2 = q.2.length) && (List.range q.2.length).all (fun j => match q.2[j]? with
      | some f => bk_tf (ai_tf q.1 j) f
      | none => false)
    | none => false
  | .inr q => bk_ta q.1 q.2.2 && decide (q.2.1 < 2147483648)
set_option maxRecDepth 100000 in
theorem bk_c2_all : bk_tab.all bk_c2 = true := by decide +kernel
theorem bk_in {P : Nat} (h : P < 230) : bk_c1 P = true := List.all_eq_true.mp bk_c1_all P (List.mem_range.mpr h)
theorem bk_of {k : Nat} {q : BK} (h : bk_tab[k]? = some q) : bk_c2 q = true := List.all_eq_true.mp bk_c2_all q (List.mem_of_getElem? h)
theorem bk_obj {k ci : Nat} {fs : List BF} (h : bk_tab[k]? = some (.inl (ci, fs))) : ∃ r, vwCl[ci]? = some r ∧ r.2.2 = fs.length ∧ ∀ (j : Nat) (f : BF), fs[j]? = some f → bk_tf (ai_tf ci j) f = true := by
  have h2 := bk_of h
  unfold bk_c2 at h2
  dsimp only at h2
  split at h2
  · next r hr =>
    rw [Bool.and_eq_true] at h2
    refine ⟨r, hr, of_decide_eq_true h2.1, fun j f hf => ?_⟩
    have := List.all_eq_true.mp h2.2 j (List.mem_range.mpr (List.getElem?_eq_some_iff.mp hf).1)
    rw [hf] at this
    exact this
  · cases h2
theorem bk_arr {k t n : Nat} {f : BF} (h : bk_tab[k]? = some (.inr (t, n, f))) : bk_ta t f = true ∧ n < 2147483648 := by
  have h2 := bk_of h
  unfold bk_c2 at h2
  dsimp only at h2
  rw [Bool.and_eq_true] at h2
  exact ⟨h2.1, of_decide_eq_true h2.2⟩
theorem bk_ref {P j : Nat} (hP : P < 230) {q : Nat × Int × Int × Int} (h : bk_spec (bk_at P) j = some (.inr q)) : 0 ≤ bk_to q P j ∧ (bk_to q P j).toNat < 230 ∧ bk_at (bk_to q P j).toNat = q.1 := by
  have h1 := bk_in hP
  unfold bk_spec at h
  unfold bk_c1 at h1
  have fin : bk_rok P j (.inr q) = true → 0 ≤ bk_to q P j ∧ (bk_to q P j).toNat < 230 ∧ bk_at (bk_to q P j).toNat = q.1 := by
    intro h2
    unfold bk_rok at h2
    simp only [Bool.and_eq_true, decide_eq_true_eq] at h2
    exact h2
  split at h
  · next o ho =>
    rw [ho] at h1
    have h2 := List.all_eq_true.mp h1 j (List.mem_range.mpr (List.getElem?_eq_some_iff.mp h).1)
    rw [h] at h2
    exact fin h2
  · next o ho =>
    rw [ho] at h1
    dsimp only at h1
    split at h
    · next hj =>
      cases hf : o.2.2 with
      | inl z => rw [hf] at h; cases h
      | inr z =>
        rw [hf] at h h1
        cases h
        exact fin (List.all_eq_true.mp h1 j (List.mem_range.mpr hj))
    · cases h
  · cases h
/-! the world -/
/-- addresses of the places; classes of the arrays; what arrays of references hold; addresses of other things -/
abbrev BE : Type := (Nat → Nat) × (Nat → ClassId) × (Nat → Nat → Option Nat) × (Nat → Nat)
def b_ad (B : BE) : Nat → Nat := B.1
def b_ac (B : BE) : Nat → ClassId := B.2.1
def b_rr (B : BE) : Nat → Nat → Option Nat := B.2.2.1
def b_xo (B : BE) : Nat → Nat := B.2.2.2
abbrev BG : Type := Nat → Nat → Int
def bg_up (g : BG) (P j : Nat) (z : Int) : BG := fun a b => if a = P ∧ b = j then z else g a b
def bw_f (B : BE) (r : Nat → Int) (P j : Nat) (f : BF) : Value := match f with
  | .inl q => if q.1 = 0 then .int (Int32.ofInt (r j)) else .long (Int64.ofInt (r j))
  | .inr q => .ref (b_ad B (bk_to q P j).toNat)
def bw_fs (B : BE) (r : Nat → Int) (P : Nat) (fs : List BF) : List Value := fs.mapIdx (fun j f => bw_f B r P j f)
def bw_ar (B : BE) (r : Nat → Int) (P t : Nat) : (Nat → Int32) ⊕ (Nat → Int64) ⊕ (Nat → UInt32) ⊕ (Nat → UInt64) ⊕ (Nat → Option Nat) :=
  if ai_kd t = 0 then .inl (fun j => Int32.ofInt (r j)) else if ai_kd t = 1 then .inr (.inl (fun j => Int64.ofInt (r j))) else .inr (.inr (.inr (.inr (b_rr B P))))
def bw_cell (B : BE) (r : Nat → Int) (P : Nat) : va_E := match bk_tab[bk_at P]? with
  | some (.inl q) => .inr (q.1, bw_fs B r P q.2)
  | some (.inr q) => .inl (b_ac B P, q.2.1, bw_ar B r P q.1)
  | none => .inr (0, [])
def bw (B : BE) (g : BG) : va_W := (List.range 230).map (fun P => (b_ad B P, bw_cell B (g P) P))
theorem bw_get (B : BE) (g : BG) {P : Nat} (h : P < 230) : (bw B g)[P]? = some (b_ad B P, bw_cell B (g P) P) := by
  unfold bw
  rw [List.getElem?_map, List.getElem?_range h]
  rfl
theorem bw_lt {B : BE} {g : BG} {P : Nat} {q : Nat × va_E} (h : (bw B g)[P]? = some q) : P < 230 := by
  have := (List.getElem?_eq_some_iff.mp h).1
  unfold bw at this
  rw [List.length_map, List.length_range] at this
  exact this
theorem bw_set {B : BE} {g g' : BG} {P : Nat} (hP : P < 230) {x : va_E} (h1 : ∀ a, a ≠ P → g' a = g a) (h2 : bw_cell B (g' P) P = x) : (bw B g).set P (b_ad B P, x) = bw B g' := by
  apply List.ext_getElem?
  intro i
  rw [List.getElem?_set]
  by_cases hi : P = i
  · subst hi
    rw [if_pos rfl, if_pos (by unfold bw; rw [List.length_map, List.length_range]; exact hP), bw_get B g' hP, h2]
  · rw [if_neg hi]
    unfold bw
    rw [List.getElem?_map, List.getElem?_map]
    by_cases hl : i < 230
    · rw [List.getElem?_range hl]
      show some (b_ad B i, bw_cell B (g i) i) = some (b_ad B i, bw_cell B (g' i) i)
      rw [h1 i (fun e => hi e.symm)]
    · rw [List.getElem?_eq_none (by rw [List.length_range]; omega)]
      rfl
theorem bg_ne {g : BG} {P j a : Nat} {z : Int} (h : a ≠ P) : bg_up g P j z a = g a := by
  funext b
  show (if a = P ∧ b = j then z else g a b) = g a b
  rw [if_neg (fun e => h e.1)]
theorem bg_row {g : BG} {P j : Nat} {z : Int} : bg_up g P j z P = fun b => if b = j then z else g P b := by
  funext b
  show (if P = P ∧ b = j then z else g P b) = _
  by_cases h : b = j
  · rw [if_pos ⟨rfl, h⟩, if_pos h]
  · rw [if_neg (fun e => h e.2), if_neg h]
theorem bw_o {B : BE} {r : Nat → Int} {P ci : Nat} {fs : List BF} (h : bk_tab[bk_at P]? = some (.inl (ci, fs))) : bw_cell B r P = .inr (ci, bw_fs B r P fs) := by
  unfold bw_cell; rw [h]
theorem bw_a {B : BE} {r : Nat → Int} {P t n : Nat} {f : BF} (h : bk_tab[bk_at P]? = some (.inr (t, n, f))) : bw_cell B r P = .inl (b_ac B P, n, bw_ar B r P t) := by
  unfold bw_cell; rw [h]
theorem bw_fs_get {B : BE} {r : Nat → Int} {P k : Nat} {fs : List BF} {f : BF} (h : fs[k]? = some f) : (bw_fs B r P fs)[k]? = some (bw_f B r P k f) := by
  unfold bw_fs
  rw [List.getElem?_mapIdx, h]
  rfl
theorem bw_fs_len {B : BE} {r : Nat → Int} {P : Nat} {fs : List BF} : (bw_fs B r P fs).length = fs.length := by
  unfold bw_fs
  rw [List.length_mapIdx]
theorem bw_fs_set {B : BE} {r : Nat → Int} {P k : Nat} {fs : List BF} {z : Int} {q : Nat × Int × Int} (h : fs[k]? = some (.inl q)) : bw_fs B (fun b => if b = k then z else r b) P fs = (bw_fs B r P fs).set k (if q.1 = 0 then .int (Int32.ofInt z) else .long (Int64.ofInt z)) := by
  apply List.ext_getElem?
  intro i
  rw [List.getElem?_set]
  by_cases hi : k = i
  · subst hi
    rw [if_pos rfl, if_pos (by rw [bw_fs_len]; exact (List.getElem?_eq_some_iff.mp h).1), bw_fs_get h]
    show some (if q.1 = 0 then Value.int (Int32.ofInt (if k = k then z else r k)) else .long (Int64.ofInt (if k = k then z else r k))) = _
    rw [if_pos rfl]
  · rw [if_neg hi]
    cases hf : fs[i]? with
    | none => rw [List.getElem?_eq_none (by rw [bw_fs_len]; exact List.getElem?_eq_none_iff.mp hf), List.getElem?_eq_none (by rw [bw_fs_len]; exact List.getElem?_eq_none_iff.mp hf)]
    | some f =>
      rw [bw_fs_get hf, bw_fs_get hf]
      have e : (fun b => if b = k then z else r b) i = r i := if_neg (fun e => hi e.symm)
      cases f with
      | inl p =>
        show some (if p.1 = 0 then Value.int (Int32.ofInt ((fun b => if b = k then z else r b) i)) else .long (Int64.ofInt ((fun b => if b = k then z else r b) i))) = some (if p.1 = 0 then Value.int (Int32.ofInt (r i)) else .long (Int64.ofInt (r i)))
        rw [e]
      | inr p => rfl
theorem bw_setO {B : BE} {g : BG} {P ci k : Nat} {fs : List BF} {q : Nat × Int × Int} (hP : P < 230) (hk : bk_tab[bk_at P]? = some (.inl (ci, fs))) (hf : fs[k]? = some (.inl q)) (z : Int) : (bw B g).set P (b_ad B P, .inr (ci, (bw_fs B (g P) P fs).set k (if q.1 = 0 then .int (Int32.ofInt z) else .long (Int64.ofInt z)))) = bw B (bg_up g P k z) :=
  bw_set hP (fun _ h => bg_ne h) (by rw [bg_row, bw_o hk, bw_fs_set hf])
theorem bw_setI {B : BE} {g : BG} {P t n k : Nat} {f : BF} (hP : P < 230) (hk : bk_tab[bk_at P]? = some (.inr (t, n, f))) (ht : ai_kd t = 0) (x : Int32) : (bw B g).set P (b_ad B P, .inl (b_ac B P, n, .inl (upd (fun j => Int32.ofInt (g P j)) k x))) = bw B (bg_up g P k x.toInt) :=
  bw_set hP (fun _ h => bg_ne h) (by
    rw [bg_row, bw_a hk]
    unfold bw_ar
    rw [if_pos ht]
    have e : (fun j => Int32.ofInt ((fun b => if b = k then x.toInt else g P b) j)) = upd (fun j => Int32.ofInt (g P j)) k x := by
      funext j
      show Int32.ofInt (if j = k then x.toInt else g P j) = if j = k then x else Int32.ofInt (g P j)
      by_cases h : j = k
      · rw [if_pos h, if_pos h, fb_asI]
      · rw [if_neg h, if_neg h]
    rw [e])
theorem bw_setL {B : BE} {g : BG} {P t n k : Nat} {f : BF} (hP : P < 230) (hk : bk_tab[bk_at P]? = some (.inr (t, n, f))) (ht : ai_kd t = 1) (x : Int64) : (bw B g).set P (b_ad B P, .inl (b_ac B P, n, .inr (.inl (vp_updL (fun j => Int64.ofInt (g P j)) k x)))) = bw B (bg_up g P k x.toInt) :=
  bw_set hP (fun _ h => bg_ne h) (by
    rw [bg_row, bw_a hk]
    unfold bw_ar
    rw [if_neg (by rw [ht]; decide), if_pos ht]
    have e : (fun j => Int64.ofInt ((fun b => if b = k then x.toInt else g P b) j)) = vp_updL (fun j => Int64.ofInt (g P j)) k x := by
      funext j
      show Int64.ofInt (if j = k then x.toInt else g P j) = if j = k then x else Int64.ofInt (g P j)
      by_cases h : j = k
      · rw [if_pos h, if_pos h, fb_asL]
      · rw [if_neg h, if_neg h]
    rw [e])
/-- every number lies where its kind says -/
def bw_ok (g : BG) : Prop := ∀ (P j : Nat) (q : Nat × Int × Int), P < 230 → bk_spec (bk_at P) j = some (.inl q) → q.2.1 ≤ g P j ∧ g P j ≤ q.2.2
theorem bw_ok.up {g : BG} (h : bw_ok g) {P j : Nat} {z : Int} (k : ∀ q : Nat × Int × Int, bk_spec (bk_at P) j = some (.inl q) → q.2.1 ≤ z ∧ z ≤ q.2.2) : bw_ok (bg_up g P j z) := by
  intro a b q ha hq
  show q.2.1 ≤ (if a = P ∧ b = j then z else g a b) ∧ (if a = P ∧ b = j then z else g a b) ≤ q.2.2
  by_cases e : a = P ∧ b = j
  · rw [if_pos e]
    obtain ⟨rfl, rfl⟩ := e
    exact k q hq
  · rw [if_neg e]
    exact h a b q ha hq
/-- what is fixed of the world in a state -/
def bb_ok (B : BE) (s : State) : Prop := ∀ (P t n : Nat) (f : BF), P < 230 → bk_tab[bk_at P]? = some (.inr (t, n, f)) → ArrOfT s (b_ac B P) (ai_ty t) ∧ va_RA s (b_ac B P) (ai_ty t) ∧ ∀ q : Nat × Int × Int × Int, f = .inr q → ∀ j, j < n → b_rr B P j = some (b_ad B (bk_to q P j).toNat)
theorem bb_ok.moved {B : BE} {s u : State} (h : s.vm.Alike u.vm) (a : bb_ok B s) : bb_ok B u := fun P t n f hP hk => by
  obtain ⟨h1, h2, h3⟩ := a P t n f hP hk
  exact ⟨arrOfT_moved h h1, h2.moved h, h3⟩
/-- what a method's writes may touch: the codes of kinds' fields and places -/
def bk_code (k j : Nat) : Nat := match bk_tab[k]? with
  | some (.inl _) => k * 64 + j
  | _ => k * 64
def bg_same (md : List Nat) (g g' : BG) : Prop := ∀ P j : Nat, (P < 230 → bk_code (bk_at P) j ∉ md) → g' P j = g P j
theorem bg_same.rf {md : List Nat} {g : BG} : bg_same md g g := fun _ _ _ => rfl
theorem bg_same.tr {md : List Nat} {a b c : BG} (h : bg_same md a b) (k : bg_same md b c) : bg_same md a c := fun P j hn => (k P j hn).trans (h P j hn)
theorem bg_same.sub {md mf : List Nat} {a b : BG} (h : bg_same mf a b) (k : ∀ c ∈ mf, c ∈ md) : bg_same md a b := fun P j hn => h P j (fun hP z => hn hP (k _ z))
theorem bg_same.up {md : List Nat} {g : BG} {P j : Nat} {z : Int} (hP : P < 230) (h : bk_code (bk_at P) j ∈ md) : bg_same md g (bg_up g P j z) := fun a b hn => by
  show (if a = P ∧ b = j then z else g a b) = g a b
  rw [if_neg]
  rintro ⟨rfl, rfl⟩
  exact hn hP h
theorem bg_same.out {md : List Nat} {g g' : BG} (h : bg_same md g g') {P : Nat} (hP : 230 ≤ P) : g' P = g P := by
  funext j
  exact h P j (fun z => by omega)
end
section
/-! ===== machine B: values, states, numbers ===== -/
/-- a number (0 an int, 1 a long, 2 an int with the form's sign) with its form; a reference to a place of a kind; null (0), a reference (1), another thing -/
abbrev BV : Type := (Nat × Li) ⊕ (Nat × Li) ⊕ Nat
abbrev BLo : Type := List (Nat × BV)
/-- kind, place, index, what is there -/
abbrev BCA : Type := List (Nat × Li × Li × Li)
/-- bounds of the names, facts, what is known of the world -/
abbrev BS : Type := LB × List Li × BCA
def bv_N (nu : List Int) (q : Nat × Li) (v : Value) : Prop := if q.1 = 0 then ∃ x : Int32, v = .int x ∧ li_e nu q.2 = some x.toInt else if q.1 = 1 then ∃ x : Int64, v = .long x ∧ li_e nu q.2 = some x.toInt else ∃ (x : Int32) (z : Int), v = .int x ∧ li_e nu q.2 = some z ∧ (x.toInt < 0 ↔ z < 0) ∧ (0 < x.toInt ↔ 0 < z)
def bv_X (B : BE) (n : Nat) (v : Value) : Prop := if n = 0 then v = .null else if n = 1 then ∃ a, v = .ref a else v = .ref (b_xo B n)
def bv_V (B : BE) (nu : List Int) : BV → Value → Prop
  | .inl q, v => bv_N nu q v
  | .inr (.inl q), v => ∃ P : Nat, v = .ref (b_ad B P) ∧ li_e nu q.2 = some (P : Int) ∧ P < 230 ∧ bk_at P = q.1
  | .inr (.inr n), v => bv_X B n v
def bv_cat : BV → Nat
  | .inl q => if q.1 = 1 then 2 else 1
  | .inr _ => 3
def bv_wd (a : BV) : Nat := if bv_cat a = 2 then 2 else 1
theorem bv_V.mono {B : BE} {nu nv : List Int} (h : nu_le nu nv) : ∀ {a : BV} {v : Value}, bv_V B nu a v → bv_V B nv a v
  | .inl q, v, k => by
    have k : bv_N nu q v := k
    show bv_N nv q v
    unfold bv_N at k ⊢
    split
    · next e =>
      rw [if_pos e] at k
      obtain ⟨x, k1, k2⟩ := k
      exact ⟨x, k1, li_e_mono h k2⟩
    · next e =>
      rw [if_neg e] at k
      split
      · next e2 =>
        rw [if_pos e2] at k
        obtain ⟨x, k1, k2⟩ := k
        exact ⟨x, k1, li_e_mono h k2⟩
      · next e2 =>
        rw [if_neg e2] at k
        obtain ⟨x, z, k1, k2, k3⟩ := k
        exact ⟨x, z, k1, li_e_mono h k2, k3⟩
  | .inr (.inl _), _, ⟨P, k1, k2, k3⟩ => ⟨P, k1, li_e_mono h k2, k3⟩
  | .inr (.inr _), _, k => k
theorem bv_i {B : BE} {nu : List Int} {f : Li} {v : Value} : bv_V B nu (.inl (0, f)) v ↔ ∃ x : Int32, v = .int x ∧ li_e nu f = some x.toInt := Iff.rfl
theorem bv_l {B : BE} {nu : List Int} {f : Li} {v : Value} : bv_V B nu (.inl (1, f)) v ↔ ∃ x : Int64, v = .long x ∧ li_e nu f = some x.toInt := Iff.rfl
/-- what the rows of the first machine want to know of a value -/
theorem bv_av {B : BE} {nu : List Int} (E : AE) (ws : va_W) : ∀ {b : BV} {v : Value}, bv_V B nu b v → ∃ a : AV, ai_cat a = bv_cat b ∧ ai_V E ws a v
  | .inl q, v, k => by
    have k : bv_N nu q v := k
    show ∃ a : AV, ai_cat a = (if q.1 = 1 then 2 else 1) ∧ ai_V E ws a v
    unfold bv_N at k
    split at k
    · next e =>
      obtain ⟨x, rfl, -⟩ := k
      exact ⟨.inl x, by rw [if_neg (by omega)]; rfl, rfl⟩
    · split at k
      · next e2 =>
        obtain ⟨x, rfl, -⟩ := k
        exact ⟨.inr (.inr (.inl (some x))), by rw [if_pos e2]; rfl, rfl⟩
      · next e2 =>
        obtain ⟨x, z, rfl, -⟩ := k
        exact ⟨.inl x, by rw [if_neg e2]; rfl, rfl⟩
  | .inr (.inl _), v, ⟨P, k1, _⟩ => ⟨.inr (.inr (.inr (.inr 0))), rfl, ⟨_, k1⟩⟩
  | .inr (.inr n), v, k => by
    have k : bv_X B n v := k
    unfold bv_X at k
    split at k
    · exact ⟨.inr (.inr (.inr (.inl none))), rfl, k⟩
    · split at k
      · exact ⟨.inr (.inr (.inr (.inr 0))), rfl, k⟩
      · exact ⟨.inr (.inr (.inr (.inr 0))), rfl, ⟨_, k⟩⟩
theorem bv_V_wd {B : BE} {nu : List Int} {b : BV} {v : Value} (k : bv_V B nu b v) : v.category = bv_wd b := by
  obtain ⟨a, h1, h2⟩ := bv_av (0, 0, 0, 0, fun _ => 0) [] k
  rw [ai_V_wd h2]
  unfold ai_wd bv_wd
  rw [h1]
theorem bv_V_ref {B : BE} {nu : List Int} {b : BV} {v : Value} (h : bv_cat b = 3) (k : bv_V B nu b v) : v = .null ∨ ∃ x : Nat, v = .ref x := by
  obtain ⟨a, h1, h2⟩ := bv_av (0, 0, 0, 0, fun _ => 0) [] k
  exact ai_V_ref (h1.trans h) h2
def b_S (B : BE) (nu : List Int) : List BV → List Value → Prop
  | [], [] => True
  | a :: as, v :: vs => bv_V B nu a v ∧ b_S B nu as vs
  | _, _ => False
def b_L (B : BE) (nu : List Int) : BLo → List (Nat × Value) → Prop
  | [], [] => True
  | a :: as, v :: vs => (a.1 = v.1 ∧ bv_V B nu a.2 v.2) ∧ b_L B nu as vs
  | _, _ => False
theorem b_S.mono {B : BE} {nu nv : List Int} (h : nu_le nu nv) : ∀ {a : List BV} {v : List Value}, b_S B nu a v → b_S B nv a v
  | [], [], k => k
  | _ :: _, _ :: _, ⟨k, r⟩ => ⟨k.mono h, b_S.mono h r⟩
  | [], _ :: _, k => k
  | _ :: _, [], k => k
theorem b_L.mono {B : BE} {nu nv : List Int} (h : nu_le nu nv) : ∀ {a : BLo} {v : List (Nat × Value)}, b_L B nu a v → b_L B nv a v
  | [], [], k => k
  | _ :: _, _ :: _, ⟨⟨e, k⟩, r⟩ => ⟨⟨e, k.mono h⟩, b_L.mono h r⟩
  | [], _ :: _, k => k
  | _ :: _, [], k => k
theorem b_find {B : BE} {nu : List Int} (j : Nat) : ∀ {lo : BLo} {lv : List (Nat × Value)}, b_L B nu lo lv → ∀ {q : Nat × BV}, lo.find? (fun q => q.1 == j) = some q → ∃ (k : Nat) (v : Value), lv[k]? = some (j, v) ∧ bv_V B nu q.2 v
  | [], _, _, _, h => by cases h
  | a :: as, [], k, _, _ => k.elim
  | a :: as, v :: vs, ⟨⟨e, k⟩, r⟩, q, h => by
    rw [List.find?_cons] at h
    by_cases c : (a.1 == j) = true
    · rw [c] at h
      cases h
      exact ⟨0, v.2, by rw [show j = v.1 from (beq_iff_eq.mp c).symm.trans e]; rfl, k⟩
    · rw [Bool.not_eq_true] at c
      rw [c] at h
      obtain ⟨k2, w, h1, h2⟩ := b_find j r h
      exact ⟨k2 + 1, w, h1, h2⟩
def b_fl (j c : Nat) (q : Nat × BV) : Bool := if c = 2 then !(q.1 == j) && (!(q.1 == j + 1) && !(q.1 + 1 == j && bv_wd q.2 == 2)) else !(q.1 == j) && !(q.1 + 1 == j && bv_wd q.2 == 2)
theorem b_filter {B : BE} {nu : List Int} (j c : Nat) : ∀ {lo : BLo} {lv : List (Nat × Value)}, b_L B nu lo lv → b_L B nu (lo.filter (b_fl j c)) (lv.filter (ai_fv j c))
  | [], [], _ => trivial
  | [], _ :: _, k => k.elim
  | _ :: _, [], k => k.elim
  | a :: as, v :: vs, ⟨⟨e, k⟩, r⟩ => by
    have hs : b_fl j c a = ai_fv j c v := by unfold b_fl ai_fv; rw [bv_V_wd k, e]
    rw [List.filter_cons, List.filter_cons, hs]
    by_cases h : ai_fv j c v = true
    · rw [if_pos h, if_pos h]; exact ⟨⟨e, k⟩, b_filter j c r⟩
    · rw [if_neg h, if_neg h]; exact b_filter j c r
theorem b_S_len {B : BE} {nu : List Int} : ∀ {fs : List BV} {vs : List Value}, b_S B nu fs vs → fs.length = vs.length
  | [], [], _ => rfl
  | [], _ :: _, h => h.elim
  | _ :: _, [], h => h.elim
  | _ :: _, _ :: _, h => by rw [List.length_cons, List.length_cons, b_S_len h.2]
/-! states -/
/-- numbers that are known by name only: shifts, masks, bytes of a long, and whether they are signs of a text -/
def bq_b (w s : Int) : Int := ((Int64.ofInt w >>> ((Int32.ofInt s).toInt64 &&& 63)) &&& 255).toInt
def bq_g (c : Int) : Bool := (decide (97 ≤ c) && decide (c ≤ 122)) || (decide (c = 46) || (decide (c = 47) || decide (c = 32)))
def bq_all (w : Int) : Nat → Bool
  | 0 => true
  | n + 1 => bq_all w n && bq_g (bq_b w (8 * (n : Int)))
def bq_F (k : Nat) (a b : Int) : Int :=
  if k = 1000 then (Int64.ofInt a <<< ((Int32.ofInt b).toInt64 &&& 63)).toInt
  else if k = 1001 then (Int64.ofInt a &&& Int64.ofInt b).toInt
  else if k = 1002 then (Int64.ofInt a ||| Int64.ofInt b).toInt
  else if k = 1003 then bq_b a b
  else if k = 1004 then (if bq_g (bq_b a b) then 1 else 0)
  else if k = 1005 then (if bq_all a b.toNat then 1 else 0)
  else if k = 1006 then (Int64.ofInt a >>> ((Int32.ofInt b).toInt64 &&& 63)).toInt
  else if k = 1007 then ((Int64.ofInt a).toUInt64 >>> ((Int32.ofInt b).toInt64.toUInt64 &&& Int64.toUInt64 63)).toInt64.toInt
  else if k = 1011 then (Int64.ofInt a).toInt32.toInt
  else 0
/-- the law's script lies at the place 300 -/
def bq_G (g : BG) (k : Nat) (a b : Int) : Int := if k = 1010 then g 300 b.toNat else bq_F k a b
theorem bq_G_F {g : BG} {k : Nat} (h : k ≠ 1010) (a b : Int) : bq_G g k a b = bq_F k a b := if_neg h
theorem bq_G_eq {g g' : BG} (h : g' 300 = g 300) (k : Nat) (a b : Int) : bq_G g' k a b = bq_G g k a b := by
  unfold bq_G
  rw [h]
def bc_e (nu : List Int) (g : BG) (e : Nat × Li × Li × Li) : Prop := if e.1 < 1000 then ∃ (P X : Nat), li_e nu e.2.1 = some (P : Int) ∧ li_e nu e.2.2.1 = some (X : Int) ∧ P < 230 ∧ bk_at P = e.1 ∧ li_e nu e.2.2.2 = some (g P X)
  else ∃ a b : Int, li_e nu e.2.1 = some a ∧ li_e nu e.2.2.1 = some b ∧ li_e nu e.2.2.2 = some (bq_G g e.1 a b)
def bc_ok (nu : List Int) (g : BG) (ca : BCA) : Prop := ∀ e, e ∈ ca → bc_e nu g e
def bs_ok (nu : List Int) (g : BG) (s : BS) : Prop := lb_ok nu s.1 ∧ lf_ok nu s.2.1 ∧ bc_ok nu g s.2.2
theorem bc_e.mono {nu nv : List Int} (h : nu_le nu nv) {g : BG} {e : Nat × Li × Li × Li} (k : bc_e nu g e) : bc_e nv g e := by
  unfold bc_e at k ⊢
  split
  · next c =>
    rw [if_pos c] at k
    obtain ⟨P, X, h1, h2, h3, h4, h5⟩ := k
    exact ⟨P, X, li_e_mono h h1, li_e_mono h h2, h3, h4, li_e_mono h h5⟩
  · next c =>
    rw [if_neg c] at k
    obtain ⟨a, b, h1, h2, h3⟩ := k
    exact ⟨a, b, li_e_mono h h1, li_e_mono h h2, li_e_mono h h3⟩
theorem bc_ok.mono {nu nv : List Int} (h : nu_le nu nv) {g : BG} {ca : BCA} (k : bc_ok nu g ca) : bc_ok nv g ca := fun e he => (k e he).mono h
def bs_new (s : BS) (lo hi : Int) : BS × Li := ((s.1 ++ [(lo, hi)], s.2.1, s.2.2), li_n s.1.length)
theorem bs_new_ok {nu : List Int} {g : BG} {s : BS} (h : bs_ok nu g s) {lo hi x : Int} (h1 : lo ≤ x) (h2 : x ≤ hi) : bs_ok (nu ++ [x]) g (bs_new s lo hi).1 ∧ li_e (nu ++ [x]) (bs_new s lo hi).2 = some x :=
  ⟨⟨h.1.new (q := (lo, hi)) h1 h2, h.2.1.mono nu_le.ap, h.2.2.mono nu_le.ap⟩, li_e_n (nu_new h.1 x)⟩
def bs_ge (s : BS) (a : Li) : Bool := le_f s.1 s.2.1 a
theorem bs_ge_ok {nu : List Int} {g : BG} {s : BS} (h : bs_ok nu g s) {a : Li} (k : bs_ge s a = true) {x : Int} (hx : li_e nu a = some x) : 0 ≤ x := le_f_ok h.1 h.2.1 k hx
def bs_fit (s : BS) (lo hi : Int) (a : Li) : Bool := bs_ge s (li_sh (-lo) a) && bs_ge s (li_sub (li_c hi) a)
theorem bs_fit_ok {nu : List Int} {g : BG} {s : BS} (h : bs_ok nu g s) {lo hi : Int} {a : Li} (k : bs_fit s lo hi a = true) {x : Int} (hx : li_e nu a = some x) : lo ≤ x ∧ x ≤ hi := by
  unfold bs_fit at k
  rw [Bool.and_eq_true] at k
  have h1 := bs_ge_ok h k.1 (li_e_sh (-lo) hx)
  have h2 := bs_ge_ok h k.2 (li_e_sub (li_e_c nu hi) hx)
  omega
def bs_eq (s : BS) (a b : Li) : Bool := decide (a = b) || (bs_ge s (li_sub a b) && bs_ge s (li_sub b a))
theorem bs_eq_ok {nu : List Int} {g : BG} {s : BS} (h : bs_ok nu g s) {a b : Li} (k : bs_eq s a b = true) {x y : Int} (hx : li_e nu a = some x) (hy : li_e nu b = some y) : x = y := by
  unfold bs_eq at k
  rw [Bool.or_eq_true, Bool.and_eq_true] at k
  rcases k with k | k
  · rw [of_decide_eq_true k, hy] at hx
    exact (Option.some.inj hx).symm
  · have h1 := bs_ge_ok h k.1 (li_e_sub hx hy)
    have h2 := bs_ge_ok h k.2 (li_e_sub hy hx)
    omega
/-- a cheaper question where there are many facts -/
def bs_g1 (s : BS) (a : Li) : Bool := if s.2.1.length ≤ 6 then bs_ge s a else le_0 s.1 a || le_1 s.1 s.2.1 a
theorem bs_g1_ok {nu : List Int} {g : BG} {s : BS} (h : bs_ok nu g s) {a : Li} (k : bs_g1 s a = true) {x : Int} (hx : li_e nu a = some x) : 0 ≤ x := by
  unfold bs_g1 at k
  split at k
  · exact bs_ge_ok h k hx
  · rw [Bool.or_eq_true] at k
    rcases k with k | k
    · exact le_0_ok h.1 k hx
    · exact le_1_ok h.1 h.2.1 k hx
/-- what is known more when a form is not below 0 -/
def bs_as (s : BS) (a : Li) : Option BS := if bs_g1 s (li_sub (li_c (-1)) a) then none else if a ∈ s.2.1 then some s else match lt_as s.1 s.2.1 a with
  | some r => some (r.1, r.2, s.2.2)
  | none => none
theorem bs_as_ok {nu : List Int} {g : BG} {s : BS} (h : bs_ok nu g s) {a : Li} {x : Int} (hx : li_e nu a = some x) (h0 : 0 ≤ x) : ∃ t, bs_as s a = some t ∧ bs_ok nu g t := by
  unfold bs_as
  rw [if_neg (by
    intro k
    have := bs_g1_ok h k (li_e_sub (li_e_c nu (-1)) hx)
    omega)]
  split
  · exact ⟨s, rfl, h⟩
  · obtain ⟨r, h1, h2, h3⟩ := lt_as_ok h.1 h.2.1 hx h0
    rw [h1]
    exact ⟨_, rfl, h2, h3, h.2.2⟩
def b_rel (k : Jvm.ClassFile.Cond) (z : Int) : Prop := match k with
  | .eq => z = 0
  | .ne => z ≠ 0
  | .lt => z < 0
  | .ge => 0 ≤ z
  | .gt => 0 < z
  | .le => z ≤ 0
def b_neg (k : Jvm.ClassFile.Cond) : Jvm.ClassFile.Cond := match k with
  | .eq => .ne
  | .ne => .eq
  | .lt => .ge
  | .ge => .lt
  | .gt => .le
  | .le => .gt
theorem b_rel_neg {k : Jvm.ClassFile.Cond} {z : Int} (h : ¬ b_rel k z) : b_rel (b_neg k) z := by
  cases k <;> simp only [b_rel, b_neg] at h ⊢ <;> omega
def b_tl (o : Option BS) : List BS := match o with
  | some s => [s]
  | none => []
theorem b_tl_in {o : Option BS} {s : BS} (h : o = some s) : s ∈ b_tl o := by subst h; exact List.mem_singleton.mpr rfl
/-- the states in which a form is in a relation to 0 -/
def b_cnd (spl : Bool) (k : Jvm.ClassFile.Cond) (s : BS) (d : Li) : List BS := match k with
  | .lt => b_tl (bs_as s (li_sub (li_c (-1)) d))
  | .ge => b_tl (bs_as s d)
  | .gt => b_tl (bs_as s (li_sh (-1) d))
  | .le => b_tl (bs_as s (li_sub (li_c 0) d))
  | .eq => match bs_as s d with
    | some t => b_tl (bs_as t (li_sub (li_c 0) d))
    | none => []
  | .ne => if bs_g1 s d then b_tl (bs_as s (li_sh (-1) d)) else if bs_g1 s (li_sub (li_c 0) d) then b_tl (bs_as s (li_sub (li_c (-1)) d)) else if spl then b_tl (bs_as s (li_sh (-1) d)) ++ b_tl (bs_as s (li_sub (li_c (-1)) d)) else [s]
theorem b_cnd_ok {nu : List Int} {g : BG} {s : BS} (h : bs_ok nu g s) {spl : Bool} {k : Jvm.ClassFile.Cond} {d : Li} {z : Int} (hz : li_e nu d = some z) (hr : b_rel k z) : ∃ t, t ∈ b_cnd spl k s d ∧ bs_ok nu g t := by
  have hlt : z < 0 → ∃ t, bs_as s (li_sub (li_c (-1)) d) = some t ∧ bs_ok nu g t := fun q => bs_as_ok h (li_e_sub (li_e_c nu (-1)) hz) (by omega)
  have hgt : 0 < z → ∃ t, bs_as s (li_sh (-1) d) = some t ∧ bs_ok nu g t := fun q => bs_as_ok h (li_e_sh (-1) hz) (by omega)
  cases k with
  | lt =>
    obtain ⟨t, h1, h2⟩ := hlt hr
    exact ⟨t, b_tl_in h1, h2⟩
  | gt =>
    obtain ⟨t, h1, h2⟩ := hgt hr
    exact ⟨t, b_tl_in h1, h2⟩
  | ge =>
    obtain ⟨t, h1, h2⟩ := bs_as_ok h hz hr
    exact ⟨t, b_tl_in h1, h2⟩
  | le =>
    have hr : z ≤ 0 := hr
    obtain ⟨t, h1, h2⟩ := bs_as_ok h (li_e_sub (li_e_c nu 0) hz) (by omega)
    exact ⟨t, b_tl_in h1, h2⟩
  | eq =>
    have hr : z = 0 := hr
    obtain ⟨t, h1, h2⟩ := bs_as_ok h hz (by omega)
    obtain ⟨u, h3, h4⟩ := bs_as_ok h2 (li_e_sub (li_e_c nu 0) hz) (by omega)
    refine ⟨u, ?_, h4⟩
    show u ∈ (match bs_as s d with
      | some t => b_tl (bs_as t (li_sub (li_c 0) d))
      | none => [])
    rw [h1]
    exact b_tl_in h3
  | ne =>
    have hr : z ≠ 0 := hr
    show ∃ t, t ∈ (if bs_g1 s d then b_tl (bs_as s (li_sh (-1) d)) else if bs_g1 s (li_sub (li_c 0) d) then b_tl (bs_as s (li_sub (li_c (-1)) d)) else if spl then b_tl (bs_as s (li_sh (-1) d)) ++ b_tl (bs_as s (li_sub (li_c (-1)) d)) else [s]) ∧ bs_ok nu g t
    split
    · next c =>
      have := bs_g1_ok h c hz
      obtain ⟨t, h1, h2⟩ := hgt (by omega)
      exact ⟨t, b_tl_in h1, h2⟩
    · split
      · next c =>
        have := bs_g1_ok h c (li_e_sub (li_e_c nu 0) hz)
        obtain ⟨t, h1, h2⟩ := hlt (by omega)
        exact ⟨t, b_tl_in h1, h2⟩
      · split
        · rcases Int.lt_or_gt_of_ne hr with q | q
          · obtain ⟨t, h1, h2⟩ := hlt q
            exact ⟨t, List.mem_append_right _ (b_tl_in h1), h2⟩
          · obtain ⟨t, h1, h2⟩ := hgt q
            exact ⟨t, List.mem_append_left _ (b_tl_in h1), h2⟩
        · exact ⟨s, List.mem_singleton.mpr rfl, h⟩
/-! numbers that fit, or new names -/
def bs_ti (s : BS) : BS × Li := bs_new s (-2147483648) 2147483647
def bs_tj (s : BS) : BS × Li := bs_new s (-9223372036854775808) 9223372036854775807
def bs_i (s : BS) (a : Li) : BS × Li := if bs_fit s (-2147483648) 2147483647 a then (s, a) else bs_ti s
def bs_j (s : BS) (a : Li) : BS × Li := if bs_fit s (-9223372036854775808) 9223372036854775807 a then (s, a) else bs_tj s
/-- a form for a number, perhaps with a new name -/
def bs_R (nu : List Int) (g : BG) (r : BS × Li) (x : Int) : Prop := ∃ nv, nu_le nu nv ∧ bs_ok nv g r.1 ∧ li_e nv r.2 = some x
theorem bs_new_R {nu : List Int} {g : BG} {s : BS} (h : bs_ok nu g s) {lo hi x : Int} (h1 : lo ≤ x) (h2 : x ≤ hi) : bs_R nu g (bs_new s lo hi) x := ⟨nu ++ [x], nu_le.ap, bs_new_ok h h1 h2⟩
theorem bs_ti_R {nu : List Int} {g : BG} {s : BS} (h : bs_ok nu g s) (x : Int32) : bs_R nu g (bs_ti s) x.toInt := bs_new_R h (fb_rng x).1 (by have := (fb_rng x).2; omega)
theorem bs_tj_R {nu : List Int} {g : BG} {s : BS} (h : bs_ok nu g s) (x : Int64) : bs_R nu g (bs_tj s) x.toInt := bs_new_R h (fb_rngL x).1 (by have := (fb_rngL x).2; omega)
theorem bs_i_R {nu : List Int} {g : BG} {s : BS} (h : bs_ok nu g s) {a : Li} {z : Int} (hz : li_e nu a = some z) {x : Int32} (hx : -2147483648 ≤ z → z < 2147483648 → x.toInt = z) : bs_R nu g (bs_i s a) x.toInt := by
  unfold bs_i
  split
  · next c =>
    have := bs_fit_ok h c hz
    rw [hx this.1 (by omega)]
    exact ⟨nu, nu_le.rf, h, hz⟩
  · exact bs_ti_R h x
theorem bs_j_R {nu : List Int} {g : BG} {s : BS} (h : bs_ok nu g s) {a : Li} {z : Int} (hz : li_e nu a = some z) {x : Int64} (hx : -9223372036854775808 ≤ z → z < 9223372036854775808 → x.toInt = z) : bs_R nu g (bs_j s a) x.toInt := by
  unfold bs_j
  split
  · next c =>
    have := bs_fit_ok h c hz
    rw [hx this.1 (by omega)]
    exact ⟨nu, nu_le.rf, h, hz⟩
  · exact bs_tj_R h x
def li_k (s : BS) (a : Li) : Option Int := if (li_v s.1 a).1 = (li_v s.1 a).2 then some (li_v s.1 a).1 else none
theorem li_k_ok {nu : List Int} {g : BG} {s : BS} (h : bs_ok nu g s) {a : Li} {c : Int} (k : li_k s a = some c) {x : Int} (hx : li_e nu a = some x) : x = c := by
  unfold li_k at k
  split at k
  · next e =>
    cases k
    have := li_v_ok h.1 hx
    omega
  · cases k
end
section
/-! ===== machine B: the instructions that move a frame alone ===== -/
theorem b_and32 (x y : Int32) (h : 0 ≤ y.toInt) : 0 ≤ (x &&& y).toInt ∧ (x &&& y).toInt ≤ y.toInt := by
  have h1 : y.toInt = y.toBitVec.toInt := rfl
  have h2 : (x &&& y).toInt = (x.toBitVec &&& y.toBitVec).toInt := rfl
  rw [h1] at h ⊢
  rw [h2]
  have h3 := BitVec.toNat_and x.toBitVec y.toBitVec
  have h4 : x.toBitVec.toNat &&& y.toBitVec.toNat ≤ y.toBitVec.toNat := Nat.and_le_right
  have h5 := y.toBitVec.isLt
  rw [BitVec.toInt_eq_toNat_cond] at h ⊢
  rw [BitVec.toInt_eq_toNat_cond]
  split at h
  · next c =>
    rw [if_pos c, if_pos (by omega)]
    omega
  · omega
theorem b_and32' (x y : Int32) (h : 0 ≤ x.toInt) : 0 ≤ (x &&& y).toInt ∧ (x &&& y).toInt ≤ x.toInt := by
  rw [Int32.and_comm]; exact b_and32 y x h
theorem b_and64 (x y : Int64) (h : 0 ≤ y.toInt) : 0 ≤ (x &&& y).toInt ∧ (x &&& y).toInt ≤ y.toInt := by
  have h1 : y.toInt = y.toBitVec.toInt := rfl
  have h2 : (x &&& y).toInt = (x.toBitVec &&& y.toBitVec).toInt := rfl
  rw [h1] at h ⊢
  rw [h2]
  have h3 := BitVec.toNat_and x.toBitVec y.toBitVec
  have h4 : x.toBitVec.toNat &&& y.toBitVec.toNat ≤ y.toBitVec.toNat := Nat.and_le_right
  have h5 := y.toBitVec.isLt
  rw [BitVec.toInt_eq_toNat_cond] at h ⊢
  rw [BitVec.toInt_eq_toNat_cond]
  split at h
  · next c =>
    rw [if_pos c, if_pos (by omega)]
    omega
  · omega
theorem b_and64' (x y : Int64) (h : 0 ≤ x.toInt) : 0 ≤ (x &&& y).toInt ∧ (x &&& y).toInt ≤ x.toInt := by
  rw [Int64.and_comm]; exact b_and64 y x h
theorem b_pos64 {x : Int64} (h : 0 ≤ x.toInt) : x.toInt = (x.toBitVec.toNat : Int) ∧ x.toBitVec.toNat < 2 ^ 63 := by
  have h1 : x.toInt = x.toBitVec.toInt := rfl
  rw [h1] at h ⊢
  rw [BitVec.toInt_eq_toNat_cond] at h ⊢
  have h5 := x.toBitVec.isLt
  split at h
  · next c => rw [if_pos c]; omega
  · omega
theorem b_of64 {x : Int64} {n : Nat} (h : x.toBitVec.toNat = n) (hn : n < 2 ^ 63) : x.toInt = (n : Int) := by
  have h1 : x.toInt = x.toBitVec.toInt := rfl
  rw [h1, BitVec.toInt_eq_toNat_cond, if_pos (by omega), h]
theorem b_or64 {x y : Int64} {q : Int} (hx : x.toInt = 256 * q) (h0 : 0 ≤ x.toInt) (hy0 : 0 ≤ y.toInt) (hy : y.toInt ≤ 255) : (x ||| y).toInt = x.toInt + y.toInt := by
  obtain ⟨a1, a2⟩ := b_pos64 h0
  obtain ⟨b1, b2⟩ := b_pos64 hy0
  have e : (x ||| y).toBitVec.toNat = x.toBitVec.toNat + y.toBitVec.toNat := by
    show (x.toBitVec ||| y.toBitVec).toNat = _
    rw [BitVec.toNat_or]
    have hq : x.toBitVec.toNat = 2 ^ 8 * (x.toBitVec.toNat / 256) := by omega
    rw [hq]
    exact (Nat.two_pow_add_eq_or_of_lt (i := 8) (b := y.toBitVec.toNat) (by omega) _).symm
  rw [b_of64 e (by omega)]
  omega
theorem b_shl64 {x : Int64} {y : Int32} (hy : y.toInt = 8) (h0 : 0 ≤ x.toInt) (h1 : 256 * x.toInt < 2 ^ 63) : (x <<< (y.toInt64 &&& 63)).toInt = 256 * x.toInt := by
  have e0 : y = 8 := Int32.toInt_inj.mp hy
  subst e0
  obtain ⟨a1, a2⟩ := b_pos64 h0
  have e : (x <<< ((8 : Int32).toInt64 &&& 63)).toBitVec.toNat = 256 * x.toBitVec.toNat := by
    show (x.toBitVec <<< (((8 : Int32).toInt64 &&& 63).toBitVec.smod 64)).toNat = _
    rw [show ((8 : Int32).toInt64 &&& 63).toBitVec.smod 64 = 8#64 by decide, BitVec.shiftLeft_eq', BitVec.toNat_shiftLeft, Nat.shiftLeft_eq]
    show x.toBitVec.toNat * 2 ^ 8 % 2 ^ 64 = _
    omega
  rw [b_of64 e (by omega)]
  omega
/-! a byte of a long, two ways -/
theorem t_255 (n i : Nat) (h : ¬ i < 8) : (255#n).getLsbD i = false := by
  rw [BitVec.getLsbD_ofNat]
  have : Nat.testBit 255 i = false := Nat.testBit_lt_two_pow (Nat.lt_of_lt_of_le (show 255 < 2 ^ 8 by decide) (Nat.pow_le_pow_right (by decide) (by omega)))
  rw [this, Bool.and_false]
theorem t_255' (n i : Nat) (h : i < 8) (hn : 8 ≤ n) : (255#n).getLsbD i = true := by
  rw [BitVec.getLsbD_ofNat]
  have : Nat.testBit 255 i = true := by
    match i, h with
    | 0, _ => rfl
    | 1, _ => rfl
    | 2, _ => rfl
    | 3, _ => rfl
    | 4, _ => rfl
    | 5, _ => rfl
    | 6, _ => rfl
    | 7, _ => rfl
  rw [this, Bool.and_true, decide_eq_true_eq]
  omega
theorem t_bit (w : BitVec 64) (s : Nat) (hs : s ≤ 56) : ((w >>> s).signExtend 32) &&& 255#32 = ((w.sshiftRight s) &&& 255#64).signExtend 32 := by
  apply BitVec.eq_of_getLsbD_eq
  intro i hi
  have hi64 : i < 64 := by omega
  rw [BitVec.getLsbD_and, BitVec.getLsbD_signExtend, BitVec.getLsbD_signExtend, if_pos hi64, if_pos hi64, BitVec.getLsbD_and]
  by_cases h8 : i < 8
  · have hsi : s + i < 64 := by omega
    rw [t_255' 32 i h8 (by decide), t_255' 64 i h8 (by decide), BitVec.getLsbD_ushiftRight, BitVec.getLsbD_sshiftRight, if_pos hsi]
    simp only [Bool.and_true, show decide (64 ≤ i) = false from decide_eq_false (by omega), Bool.not_false, Bool.true_and]
  · rw [t_255 32 i h8, t_255 64 i h8]
    simp only [Bool.and_false]
theorem t_eqk (w : Int64) (k : Nat) (hk : k ≤ 56) (a : UInt64) (b : Int64) (ha : (a.toBitVec % 64).toNat = k) (hb : (b.toBitVec.smod 64).toNat = k) : ((w.toUInt64 >>> a).toInt64).toInt32 &&& 255 = ((w >>> b) &&& 255).toInt32 := by
  apply Int32.toBitVec_inj.mp
  have e1 : (w.toUInt64 >>> a).toInt64.toBitVec = w.toBitVec >>> k := by
    show (w.toUInt64 >>> a).toBitVec = _
    rw [UInt64.toBitVec_shiftRight, BitVec.ushiftRight_eq', ha]
    rfl
  have e2 : (w >>> b).toBitVec = w.toBitVec.sshiftRight k := by
    rw [Int64.toBitVec_shiftRight, BitVec.sshiftRight_eq', hb]
  rw [Int32.toBitVec_and, Int64.toBitVec_toInt32, Int64.toBitVec_toInt32, Int64.toBitVec_and, e1, e2]
  exact t_bit _ _ hk
theorem t_sh1 : ∀ n : Fin 57, (((Int32.ofInt (n.val : Int)).toInt64.toUInt64 &&& Int64.toUInt64 63).toBitVec % 64).toNat = n.val := by decide +kernel
theorem t_sh2 : ∀ n : Fin 57, (((Int32.ofInt (n.val : Int)).toInt64 &&& 63).toBitVec.smod 64).toNat = n.val := by decide +kernel
theorem bq_b_rng (w s : Int) : 0 ≤ bq_b w s ∧ bq_b w s ≤ 255 := b_and64 _ 255 (by decide)
theorem bq_F11 (a b : Int) : bq_F 1011 a b = (Int64.ofInt a).toInt32.toInt := by
  unfold bq_F
  rw [if_neg (by decide), if_neg (by decide), if_neg (by decide), if_neg (by decide), if_neg (by decide), if_neg (by decide), if_neg (by decide), if_neg (by decide), if_pos rfl]
theorem bq_F6 (a b : Int) : bq_F 1006 a b = (Int64.ofInt a >>> ((Int32.ofInt b).toInt64 &&& 63)).toInt := by
  unfold bq_F
  rw [if_neg (by decide), if_neg (by decide), if_neg (by decide), if_neg (by decide), if_neg (by decide), if_neg (by decide), if_pos rfl]
theorem bq_F7 (a b : Int) : bq_F 1007 a b = ((Int64.ofInt a).toUInt64 >>> ((Int32.ofInt b).toInt64.toUInt64 &&& Int64.toUInt64 63)).toInt64.toInt := by
  unfold bq_F
  rw [if_neg (by decide), if_neg (by decide), if_neg (by decide), if_neg (by decide), if_neg (by decide), if_neg (by decide), if_neg (by decide), if_pos rfl]
theorem bq_F3 (a b : Int) : bq_F 1003 a b = bq_b a b := by
  unfold bq_F
  rw [if_neg (by decide), if_neg (by decide), if_neg (by decide), if_pos rfl]
theorem bq_F5 (a b : Int) : bq_F 1005 a b = if bq_all a b.toNat then 1 else 0 := by
  unfold bq_F
  rw [if_neg (by decide), if_neg (by decide), if_neg (by decide), if_neg (by decide), if_neg (by decide), if_pos rfl]
theorem bq_b_i {w s : Int} (h0 : 0 ≤ s) (h1 : s ≤ 56) : ((Int64.ofInt (bq_F 1007 w s)).toInt32 &&& 255).toInt = bq_b w s := by
  obtain ⟨n, rfl⟩ := Int.eq_ofNat_of_zero_le h0
  have hn : n < 57 := by omega
  rw [bq_F7, fb_asL, t_eqk (Int64.ofInt w) n (by omega) _ _ (t_sh1 ⟨n, hn⟩) (t_sh2 ⟨n, hn⟩)]
  have h2 := bq_b_rng w n
  show (((Int64.ofInt w >>> ((Int32.ofInt (n : Int)).toInt64 &&& 63)) &&& 255).toInt32).toInt = bq_b w n
  rw [Int64.toInt_toInt32]
  exact fb_bmod (by unfold bq_b at h2; omega) (by unfold bq_b at h2; omega)
/-- a number known by name: found, or new -/
def bs_q (s : BS) (k : Nat) (a b : Li) (lo hi : Int) : BS × Li := match s.2.2.find? (fun e => decide (e.1 = k ∧ e.2.1 = a ∧ e.2.2.1 = b)) with
  | some e => (s, e.2.2.2)
  | none => ((s.1 ++ [(lo, hi)], s.2.1, (k, a, b, li_n s.1.length) :: s.2.2), li_n s.1.length)
theorem bs_q_G {nu : List Int} {g : BG} {s : BS} (h : bs_ok nu g s) {k : Nat} (hk : ¬ k < 1000) {a b : Li} {x y lo hi : Int} (hx : li_e nu a = some x) (hy : li_e nu b = some y) (h1 : lo ≤ bq_G g k x y) (h2 : bq_G g k x y ≤ hi) : bs_R nu g (bs_q s k a b lo hi) (bq_G g k x y) := by
  unfold bs_q
  split
  · next e he =>
    have hc0 := List.find?_some he
    have hc : e.1 = k ∧ e.2.1 = a ∧ e.2.2.1 = b := of_decide_eq_true hc0
    obtain ⟨c1, c2, c3⟩ := hc
    have hm := h.2.2 e (List.mem_of_find?_eq_some he)
    unfold bc_e at hm
    rw [c1, if_neg hk, c2, c3] at hm
    obtain ⟨x', y', m1, m2, m3⟩ := hm
    rw [hx] at m1
    rw [hy] at m2
    cases m1
    cases m2
    exact ⟨nu, nu_le.rf, h, m3⟩
  · obtain ⟨n1, n2⟩ := bs_new_ok h h1 h2
    refine ⟨_, nu_le.ap, ⟨n1.1, n1.2.1, fun e he => ?_⟩, n2⟩
    rcases List.mem_cons.mp he with rfl | he
    · unfold bc_e
      rw [if_neg hk]
      exact ⟨x, y, li_e_mono nu_le.ap hx, li_e_mono nu_le.ap hy, n2⟩
    · exact n1.2.2 e he
theorem bs_q_R {nu : List Int} {g : BG} {s : BS} (h : bs_ok nu g s) {k : Nat} (hk : ¬ k < 1000) (hn : k ≠ 1010) {a b : Li} {x y lo hi : Int} (hx : li_e nu a = some x) (hy : li_e nu b = some y) (h1 : lo ≤ bq_F k x y) (h2 : bq_F k x y ≤ hi) : bs_R nu g (bs_q s k a b lo hi) (bq_F k x y) := by
  rw [← bq_G_F (g := g) hn] at h1 h2 ⊢
  exact bs_q_G h hk hx hy h1 h2
/-! numbers -/
/-- the int is a byte of a long -/
def b_by (s : BS) (a b : Li) : Option (Li × Li) := if li_k s b = some 255 then (match s.2.2.find? (fun e => decide (e.1 = 1011 ∧ e.2.2.2 = a)) with
  | some e => (match s.2.2.find? (fun q => decide (q.1 = 1007 ∧ q.2.2.2 = e.2.1)) with
    | some q => if bs_fit s 0 56 q.2.2.1 then some (q.2.1, q.2.2.1) else none
    | none => none)
  | none => none) else none
theorem b_by_ok {nu : List Int} {g : BG} {s : BS} (h : bs_ok nu g s) {a b : Li} {q : Li × Li} (c : b_by s a b = some q) {x y : Int32} (hx : li_e nu a = some x.toInt) (hy : li_e nu b = some y.toInt) : ∃ w z : Int, li_e nu q.1 = some w ∧ li_e nu q.2 = some z ∧ (x &&& y).toInt = bq_b w z := by
  unfold b_by at c
  split at c
  · next hk =>
    have e0 : y = 255 := Int32.toInt_inj.mp (li_k_ok h hk hy)
    subst e0
    split at c
    · next e he =>
      split at c
      · next q1 hq =>
        split at c
        · next hf =>
          cases c
          have ce := List.find?_some he
          have ce : e.1 = 1011 ∧ e.2.2.2 = a := of_decide_eq_true ce
          have cq := List.find?_some hq
          have cq : q1.1 = 1007 ∧ q1.2.2.2 = e.2.1 := of_decide_eq_true cq
          obtain ⟨c1, c2⟩ := ce
          obtain ⟨d1, d2⟩ := cq
          have m := h.2.2 e (List.mem_of_find?_eq_some he)
          have n := h.2.2 q1 (List.mem_of_find?_eq_some hq)
          unfold bc_e at m n
          rw [c1, if_neg (by decide), c2] at m
          rw [d1, if_neg (by decide), d2] at n
          obtain ⟨u, u', m1, -, m3⟩ := m
          obtain ⟨w, z, n1, n2, n3⟩ := n
          rw [m1, bq_G_F (by decide)] at n3
          have eu : u = bq_F 1007 w z := Option.some.inj n3
          rw [hx, bq_G_F (by decide), bq_F11] at m3
          have ex : x.toInt = (Int64.ofInt u).toInt32.toInt := Option.some.inj m3
          obtain ⟨f1, f2⟩ := bs_fit_ok h hf n2
          refine ⟨w, z, n1, n2, ?_⟩
          rw [Int32.toInt_inj.mp ex, eu]
          exact bq_b_i f1 f2
        · cases c
      · cases c
    · cases c
  · cases c
/-- the long is a byte of a long -/
def b_bj (s : BS) (a b : Li) : Option (Li × Li) := if li_k s b = some 255 then (match s.2.2.find? (fun e => decide (e.1 = 1006 ∧ e.2.2.2 = a)) with
  | some e => some (e.2.1, e.2.2.1)
  | none => none) else none
theorem b_bj_ok {nu : List Int} {g : BG} {s : BS} (h : bs_ok nu g s) {a b : Li} {q : Li × Li} (c : b_bj s a b = some q) {x y : Int64} (hx : li_e nu a = some x.toInt) (hy : li_e nu b = some y.toInt) : ∃ w z : Int, li_e nu q.1 = some w ∧ li_e nu q.2 = some z ∧ (x &&& y).toInt = bq_b w z := by
  unfold b_bj at c
  split at c
  · next hk =>
    have e0 : y = 255 := Int64.toInt_inj.mp (li_k_ok h hk hy)
    subst e0
    split at c
    · next e he =>
      cases c
      have ce := List.find?_some he
      have ce : e.1 = 1006 ∧ e.2.2.2 = a := of_decide_eq_true ce
      obtain ⟨c1, c2⟩ := ce
      have m := h.2.2 e (List.mem_of_find?_eq_some he)
      unfold bc_e at m
      rw [c1, if_neg (by decide), c2] at m
      obtain ⟨w, z, n1, n2, n3⟩ := m
      rw [hx, bq_G_F (by decide), bq_F6] at n3
      have ex : x.toInt = (Int64.ofInt w >>> ((Int32.ofInt z).toInt64 &&& 63)).toInt := Option.some.inj n3
      refine ⟨w, z, n1, n2, ?_⟩
      rw [Int64.toInt_inj.mp ex]
      rfl
    · cases c
  · cases c
def b_md (a b : Int × Int) : Option Int := if 0 ≤ a.1 then (if 0 ≤ b.1 then some (min a.2 b.2) else some a.2) else if 0 ≤ b.1 then some b.2 else none
def b_bi (i : Instr) (s : BS) (a b : Li) : BS × Li := match i with
  | .iadd => bs_i s (li_add a b)
  | .isub => bs_i s (li_sub a b)
  | .imul => match li_k s a, li_k s b with
    | some c, _ => bs_i s (li_mul c b)
    | none, some c => bs_i s (li_mul c a)
    | none, none => bs_ti s
  | .iand => match b_by s a b with
    | some q => bs_q s 1003 q.1 q.2 0 255
    | none => match b_md (li_v s.1 a) (li_v s.1 b) with
    | some h => bs_new s 0 h
    | none => bs_ti s
  | .ishr => if li_k s b = some 0 then (s, a) else bs_ti s
  | _ => bs_ti s
theorem b_bi_ok {nu : List Int} {g : BG} {s : BS} (h : bs_ok nu g s) {i : Instr} {len : Nat} {f : Int32 → Int32 → Int32} (hf : ai_bi i len = some f) {a b : Li} {x y : Int32} (hx : li_e nu a = some x.toInt) (hy : li_e nu b = some y.toInt) : bs_R nu g (b_bi i s a b) (f x y).toInt := by
  unfold b_bi
  split
  · rw [ai_bi_iadd hf]
    exact bs_i_R h (li_e_add hx hy) (fun h1 h2 => fb_addI h1 h2)
  · rw [ai_bi_isub hf]
    exact bs_i_R h (li_e_sub hx hy) (fun h1 h2 => fb_subI h1 h2)
  · have ef : f = fun x y => x * y := by
      match len, hf with
      | 1, hf => exact (Option.some.inj hf).symm
    rw [ef]
    split
    · next c hc =>
      have := li_k_ok h hc hx
      exact bs_i_R h (li_e_mul c hy) (fun h1 h2 => by rw [← this] at h1 h2 ⊢; exact fb_mulI h1 h2)
    · next c _ hc =>
      have := li_k_ok h hc hy
      exact bs_i_R h (li_e_mul c hx) (fun h1 h2 => by rw [← this, Int.mul_comm] at h1 h2 ⊢; exact fb_mulI h1 h2)
    · exact bs_ti_R h _
  · rw [ai_bi_iand hf]
    have v1 := li_v_ok h.1 hx
    have v2 := li_v_ok h.1 hy
    split
    · next q hq =>
      obtain ⟨w, z, w1, w2, w3⟩ := b_by_ok h hq hx hy
      show bs_R nu g (bs_q s 1003 q.1 q.2 0 255) (x &&& y).toInt
      rw [w3]
      rw [← bq_F3]
      exact bs_q_R h (k := 1003) (by decide) (by decide) w1 w2 (by rw [bq_F3]; exact (bq_b_rng w z).1) (by rw [bq_F3]; exact (bq_b_rng w z).2)
    split
    · next t ht =>
      unfold b_md at ht
      split at ht
      · next c1 =>
        have := b_and32' x y (by omega)
        split at ht
        · next c2 =>
          have := b_and32 x y (by omega)
          cases ht
          exact bs_new_R h (by show 0 ≤ (x &&& y).toInt; omega) (by show (x &&& y).toInt ≤ _; omega)
        · cases ht
          exact bs_new_R h (by show 0 ≤ (x &&& y).toInt; omega) (by show (x &&& y).toInt ≤ _; omega)
      · split at ht
        · next c2 =>
          have := b_and32 x y (by omega)
          cases ht
          exact bs_new_R h (by show 0 ≤ (x &&& y).toInt; omega) (by show (x &&& y).toInt ≤ _; omega)
        · cases ht
    · exact bs_ti_R h _
  · have ef : f = fun (x y : Int32) => x >>> (y &&& 31) := by
      match len, hf with
      | 1, hf => exact (Option.some.inj hf).symm
    rw [ef]
    split
    · next c =>
      have e0 : y = 0 := Int32.toInt_inj.mp (li_k_ok h c hy)
      subst e0
      refine ⟨nu, nu_le.rf, h, ?_⟩
      show li_e nu a = some (x >>> ((0 : Int32) &&& 31)).toInt
      rw [show x >>> ((0 : Int32) &&& 31) = x by simp]
      exact hx
    · exact bs_ti_R h _
  · exact bs_ti_R h _
def b_z (a : Int × Int) : Bool := decide (0 ≤ a.1) && decide (a.2 ≤ 255)
def li_256 (a : Li) : Bool := decide (a.1 % 256 = 0) && a.2.all (fun q => decide (q.2 % 256 = 0))
theorem li_256_t {nu : List Int} : ∀ {a : LT} {x : Int}, li_t nu a = some x → a.all (fun q => decide (q.2 % 256 = 0)) = true → ∃ y, x = 256 * y
  | [], x, h, _ => by cases h; exact ⟨0, rfl⟩
  | q :: r, x, h, k => by
    obtain ⟨u, y, h1, h2, rfl⟩ := li_t_cons h
    rw [List.all_cons, Bool.and_eq_true] at k
    obtain ⟨z, rfl⟩ := li_256_t h2 k.2
    have k1 := of_decide_eq_true k.1
    refine ⟨q.2 / 256 * u + z, ?_⟩
    have e : q.2 = 256 * (q.2 / 256) := by omega
    rw [Int.mul_add, ← Int.mul_assoc, ← e]
theorem li_256_ok {nu : List Int} {a : Li} {x : Int} (h : li_e nu a = some x) (k : li_256 a = true) : ∃ y, x = 256 * y := by
  unfold li_256 at k
  rw [Bool.and_eq_true] at k
  obtain ⟨u, h1, rfl⟩ := li_e_of h
  obtain ⟨y, rfl⟩ := li_256_t h1 k.2
  have := of_decide_eq_true k.1
  exact ⟨a.1 / 256 + y, by omega⟩
def b_bl (i : Instr) (s : BS) (a b : Li) : BS × Li := match i with
  | .ladd => bs_j s (li_add a b)
  | .lsub => bs_j s (li_sub a b)
  | .land => match b_bj s a b with
    | some q => bs_q s 1003 q.1 q.2 0 255
    | none => match b_md (li_v s.1 a) (li_v s.1 b) with
    | some h => bs_q s 1001 a b 0 h
    | none => bs_q s 1001 a b (-9223372036854775808) 9223372036854775807
  | .lor => if li_256 a && (b_z (li_v s.1 b) && decide (0 ≤ (li_v s.1 a).1)) then (s, li_add a b) else bs_q s 1002 a b (-9223372036854775808) 9223372036854775807
  | _ => bs_tj s
theorem b_bl_ok {nu : List Int} {g : BG} {s : BS} (h : bs_ok nu g s) {i : Instr} {len : Nat} {f : Int64 → Int64 → Int64} (hf : ai_bl i len = some f) {a b : Li} {x y : Int64} (hx : li_e nu a = some x.toInt) (hy : li_e nu b = some y.toInt) : bs_R nu g (b_bl i s a b) (f x y).toInt := by
  have big : ∀ z : Int64, z.toInt ≤ 9223372036854775807 := fun z => by have := (fb_rngL z).2; omega
  unfold b_bl
  split
  · have ef : f = fun x y => x + y := by
      match len, hf with
      | 1, hf => exact (Option.some.inj hf).symm
    rw [ef]
    exact bs_j_R h (li_e_add hx hy) (fun h1 h2 => fb_addL h1 h2)
  · have ef : f = fun x y => x - y := by
      match len, hf with
      | 1, hf => exact (Option.some.inj hf).symm
    rw [ef]
    exact bs_j_R h (li_e_sub hx hy) (fun h1 h2 => fb_subL h1 h2)
  · rw [ai_bl_land hf]
    have v1 := li_v_ok h.1 hx
    have v2 := li_v_ok h.1 hy
    have eF : bq_F 1001 x.toInt y.toInt = (x &&& y).toInt := by
      show (Int64.ofInt x.toInt &&& Int64.ofInt y.toInt).toInt = _
      rw [fb_asL, fb_asL]
    split
    · next q hq =>
      obtain ⟨w, z, w1, w2, w3⟩ := b_bj_ok h hq hx hy
      show bs_R nu g (bs_q s 1003 q.1 q.2 0 255) (x &&& y).toInt
      rw [w3]
      rw [← bq_F3]
      exact bs_q_R h (k := 1003) (by decide) (by decide) w1 w2 (by rw [bq_F3]; exact (bq_b_rng w z).1) (by rw [bq_F3]; exact (bq_b_rng w z).2)
    split
    · next t ht =>
      show bs_R nu g (bs_q s 1001 a b 0 t) (x &&& y).toInt
      rw [← eF]
      refine bs_q_R h (by decide) (by decide) hx hy ?_ ?_
      all_goals
        rw [eF]
        unfold b_md at ht
        split at ht
        · next c1 =>
          have := b_and64' x y (by omega)
          split at ht
          · next c2 =>
            have := b_and64 x y (by omega)
            cases ht
            omega
          · cases ht
            omega
        · split at ht
          · next c2 =>
            have := b_and64 x y (by omega)
            cases ht
            omega
          · cases ht
    · show bs_R nu g (bs_q s 1001 a b _ _) (x &&& y).toInt
      rw [← eF]
      exact bs_q_R h (by decide) (by decide) hx hy (by rw [eF]; exact (fb_rngL _).1) (by rw [eF]; exact big _)
  · rw [ai_bl_lor hf]
    split
    · next c =>
      simp only [Bool.and_eq_true, decide_eq_true_eq] at c
      obtain ⟨c1, c2, c3⟩ := c
      unfold b_z at c2
      simp only [Bool.and_eq_true, decide_eq_true_eq] at c2
      have v1 := li_v_ok h.1 hx
      have v2 := li_v_ok h.1 hy
      obtain ⟨q, hq⟩ := li_256_ok hx c1
      refine ⟨nu, nu_le.rf, h, ?_⟩
      show _ = some (x ||| y).toInt
      rw [b_or64 hq (by omega) (by omega) (by omega)]
      exact li_e_add hx hy
    · have eF : bq_F 1002 x.toInt y.toInt = (x ||| y).toInt := by
        show (Int64.ofInt x.toInt ||| Int64.ofInt y.toInt).toInt = _
        rw [fb_asL, fb_asL]
      show bs_R nu g (bs_q s 1002 a b _ _) (x ||| y).toInt
      rw [← eF]
      exact bs_q_R h (by decide) (by decide) hx hy (by rw [eF]; exact (fb_rngL _).1) (by rw [eF]; exact big _)
  · exact bs_tj_R h _
def b_bs (i : Instr) (s : BS) (a b : Li) : BS × Li := match i with
  | .lshl => if decide (li_k s b = some 8) && (decide (0 ≤ (li_v s.1 a).1) && decide ((li_v s.1 (li_mul 256 a)).2 < 9223372036854775808)) then (s, li_mul 256 a) else bs_q s 1000 a b (-9223372036854775808) 9223372036854775807
  | .lshr => bs_q s 1006 a b (-9223372036854775808) 9223372036854775807
  | .lushr => bs_q s 1007 a b (-9223372036854775808) 9223372036854775807
  | _ => bs_tj s
theorem b_bs_ok {nu : List Int} {g : BG} {s : BS} (h : bs_ok nu g s) {i : Instr} {len : Nat} {f : Int64 → Int32 → Int64} (hf : ai_bs i len = some f) {a b : Li} {x : Int64} {y : Int32} (hx : li_e nu a = some x.toInt) (hy : li_e nu b = some y.toInt) : bs_R nu g (b_bs i s a b) (f x y).toInt := by
  have big : ∀ z : Int64, z.toInt ≤ 9223372036854775807 := fun z => by have := (fb_rngL z).2; omega
  unfold b_bs
  split
  · rw [ai_bs_lshl hf]
    split
    · next c =>
      simp only [Bool.and_eq_true, decide_eq_true_eq] at c
      obtain ⟨c1, c2, c3⟩ := c
      have v1 := li_v_ok h.1 hx
      have v2 := li_v_ok h.1 (li_e_mul 256 hx)
      refine ⟨nu, nu_le.rf, h, ?_⟩
      show _ = some (x <<< (y.toInt64 &&& 63)).toInt
      rw [b_shl64 (li_k_ok h c1 hy) (by omega) (by omega)]
      exact li_e_mul 256 hx
    · have eF : bq_F 1000 x.toInt y.toInt = (x <<< (y.toInt64 &&& 63)).toInt := by
        show (Int64.ofInt x.toInt <<< ((Int32.ofInt y.toInt).toInt64 &&& 63)).toInt = _
        rw [fb_asL, fb_asI]
      show bs_R nu g (bs_q s 1000 a b _ _) (x <<< (y.toInt64 &&& 63)).toInt
      rw [← eF]
      exact bs_q_R h (by decide) (by decide) hx hy (by rw [eF]; exact (fb_rngL _).1) (by rw [eF]; exact big _)
  · rw [ai_bs_lshr hf]
    have eF : bq_F 1006 x.toInt y.toInt = (x >>> (y.toInt64 &&& 63)).toInt := by
      show (Int64.ofInt x.toInt >>> ((Int32.ofInt y.toInt).toInt64 &&& 63)).toInt = _
      rw [fb_asL, fb_asI]
    show bs_R nu g (bs_q s 1006 a b _ _) (x >>> (y.toInt64 &&& 63)).toInt
    rw [← eF]
    exact bs_q_R h (by decide) (by decide) hx hy (by rw [eF]; exact (fb_rngL _).1) (by rw [eF]; exact big _)
  · have ef : f = fun (x : Int64) (y : Int32) => (x.toUInt64 >>> (y.toInt64.toUInt64 &&& Int64.toUInt64 63)).toInt64 := by
      match len, hf with
      | 1, hf => exact (Option.some.inj hf).symm
    rw [ef]
    have eF : bq_F 1007 x.toInt y.toInt = (x.toUInt64 >>> (y.toInt64.toUInt64 &&& Int64.toUInt64 63)).toInt64.toInt := by
      show ((Int64.ofInt x.toInt).toUInt64 >>> ((Int32.ofInt y.toInt).toInt64.toUInt64 &&& Int64.toUInt64 63)).toInt64.toInt = _
      rw [fb_asL, fb_asI]
    show bs_R nu g (bs_q s 1007 a b _ _) (x.toUInt64 >>> (y.toInt64.toUInt64 &&& Int64.toUInt64 63)).toInt64.toInt
    rw [← eF]
    exact bs_q_R h (by decide) (by decide) hx hy (by rw [eF]; exact (fb_rngL _).1) (by rw [eF]; exact big _)
  · exact bs_tj_R h _
end
section
/-! ===== machine B: groups of instructions, and what they do to a frame ===== -/
abbrev BN : Type := Nat × BLo × List BV × BS
def b_i2l (x : BV) : Option BV := match x with
  | .inl q => if q.1 = 0 then some (.inl (1, q.2)) else none
  | _ => none
/-- constants and loads -/
def b_cv (a : AV) : Option BV := match a with
  | .inl c => some (.inl (0, li_c c.toInt))
  | .inr (.inr (.inl (some c))) => some (.inl (1, li_c c.toInt))
  | .inr (.inr (.inr (.inl none))) => some (.inr (.inr 0))
  | _ => none
def b_g1 (nL : Nat) (i : Instr) (len : Nat) (lo : BLo) (st : List BV) : Option (BLo × List BV) := match ai_cs i len with
  | some a => match b_cv a with
    | some b => some (lo, b :: st)
    | none => none
  | none => match ai_ld i len with
    | some r => match lo.find? (fun q => q.1 == r.1) with
      | some q => if bv_cat q.2 = r.2 then some (lo, q.2 :: st) else none
      | none => none
    | none => match ai_sr i len, st with
      | some r, x :: st' => if bv_cat x = r.2 ∧ r.1 < nL ∧ (r.2 = 2 → r.1 + 1 < nL) then some ((r.1, x) :: lo.filter (b_fl r.1 r.2), st') else none
      | _, _ => none
/-- stack and conversions that keep the names -/
def b_g2 (i : Instr) (len : Nat) (st : List BV) : Option (List BV) := match i, len, st with
  | .i2l, 1, .inl q :: st' => if q.1 = 0 then some (.inl (1, q.2) :: st') else none
  | .lcmp, 1, .inl y :: .inl x :: st' => if x.1 = 1 ∧ y.1 = 1 then some (.inl (2, li_sub x.2 y.2) :: st') else none
  | .dup, 1, x :: st' => if bv_wd x = 1 then some (x :: x :: st') else none
  | .dup2, 1, x :: y :: st' => if bv_wd x = 1 ∧ bv_wd y = 1 then some (x :: y :: x :: y :: st') else none
  | .pop, 1, x :: st' => if bv_wd x = 1 then some st' else none
  | _, _, _ => none
def b_l2i (s : BS) (a : Li) : BS × Li := if bs_fit s (-2147483648) 2147483647 a then (s, a) else bs_q s 1011 a (li_c 0) (-2147483648) 2147483647
theorem b_l2i_R {nu : List Int} {g : BG} {s : BS} (h : bs_ok nu g s) {a : Li} {x : Int64} (hx : li_e nu a = some x.toInt) : bs_R nu g (b_l2i s a) x.toInt32.toInt := by
  unfold b_l2i
  split
  · next hf =>
    obtain ⟨f1, f2⟩ := bs_fit_ok h hf hx
    refine ⟨nu, nu_le.rf, h, ?_⟩
    rw [Int64.toInt_toInt32, fb_bmod f1 (by omega)]
    exact hx
  · have eF : bq_F 1011 x.toInt 0 = x.toInt32.toInt := by
      rw [bq_F11, fb_asL]
    rw [← eF]
    refine bs_q_R h (by decide) (by decide) hx (li_e_c nu 0) ?_ ?_
    · rw [eF]; exact (fb_rng _).1
    · rw [eF]; have := (fb_rng x.toInt32).2; omega
def b_i2b (s : BS) (a : Li) : BS × Li := if bs_fit s (-128) 127 a then (s, a) else bs_new s (-128) 127
def b_i2c (s : BS) (a : Li) : BS × Li := if bs_fit s 0 65535 a then (s, a) else bs_new s 0 65535
def b_rem (s : BS) (a : Li) (c : Int) : BS × Li := if 0 ≤ (li_v s.1 a).1 then bs_new s 0 (c - 1) else bs_new s (1 - c) (c - 1)
/-- arithmetic -/
def b_g3 (i : Instr) (len : Nat) (st : List BV) (s : BS) : Option (List BV × BS) := match i, st with
  | .l2i, .inl q :: st' => if len = 1 ∧ q.1 = 1 then some (.inl (0, (b_l2i s q.2).2) :: st', (b_l2i s q.2).1) else none
  | .i2b, .inl q :: st' => if len = 1 ∧ q.1 = 0 then some (.inl (0, (b_i2b s q.2).2) :: st', (b_i2b s q.2).1) else none
  | .i2c, .inl q :: st' => if len = 1 ∧ q.1 = 0 then some (.inl (0, (b_i2c s q.2).2) :: st', (b_i2c s q.2).1) else none
  | .irem, .inl y :: .inl x :: st' => match li_k s y.2 with
    | some c => if len = 1 ∧ x.1 = 0 ∧ y.1 = 0 ∧ 0 < c ∧ 0 ≤ (li_v s.1 x.2).1 then some (.inl (0, (b_rem s x.2 c).2) :: st', (b_rem s x.2 c).1) else none
    | none => none
  | i, .inl y :: .inl x :: st' => match ai_bi i len with
    | some _ => if x.1 = 0 ∧ y.1 = 0 then some (.inl (0, (b_bi i s x.2 y.2).2) :: st', (b_bi i s x.2 y.2).1) else none
    | none => match ai_bl i len with
      | some _ => if x.1 = 1 ∧ y.1 = 1 then some (.inl (1, (b_bl i s x.2 y.2).2) :: st', (b_bl i s x.2 y.2).1) else none
      | none => match ai_bs i len with
        | some _ => if x.1 = 1 ∧ y.1 = 0 then some (.inl (1, (b_bs i s x.2 y.2).2) :: st', (b_bs i s x.2 y.2).1) else none
        | none => none
  | _, _ => none
def b_inc (nL : Nat) (i : Instr) (len : Nat) (lo : BLo) (s : BS) : Option (BLo × BS) := match i with
  | .iinc j n => match lo.find? (fun q => q.1 == j) with
    | some q => match q.2 with
      | .inl r => if len = 3 ∧ r.1 = 0 ∧ j < nL ∧ -1000 ≤ n ∧ n ≤ 1000 then some ((j, .inl (0, (bs_i s (li_sh n r.2)).2)) :: lo.filter (b_fl j 1), (bs_i s (li_sh n r.2)).1) else none
      | _ => none
    | none => none
  | _ => none
def b_tb (pc : Nat) (lo : BLo) (st : List BV) (s : BS) (f : Li) (a : Int) (offs : List Int) : Nat → List BN
  | 0 => []
  | n + 1 => match offs with
    | [] => []
    | o :: offs => (b_cnd false .eq s (li_sh (-a) f)).map (fun t => (((pc : Int) + o).toNat, lo, st, t)) ++ b_tb pc lo st s f (a + 1) offs n
/-- branches -/
def b_g4 (spl : Bool) (i : Instr) (len pc : Nat) (lo : BLo) (st : List BV) (s : BS) : Option (List BN) := match i, st with
  | .goto off, st => if len = 3 ∧ 0 ≤ (pc : Int) + off then some [(((pc : Int) + off).toNat, lo, st, s)] else none
  | .if_icmp k off, .inl y :: .inl x :: st' => if len = 3 ∧ x.1 = 0 ∧ y.1 = 0 ∧ 0 ≤ (pc : Int) + off then some ((b_cnd spl k s (li_sub x.2 y.2)).map (fun t => (((pc : Int) + off).toNat, lo, st', t)) ++ (b_cnd spl (b_neg k) s (li_sub x.2 y.2)).map (fun t => (pc + 3, lo, st', t))) else none
  | .ifCond k off, .inl x :: st' => if len = 3 ∧ x.1 ≠ 1 ∧ 0 ≤ (pc : Int) + off then some ((b_cnd spl k s x.2).map (fun t => (((pc : Int) + off).toNat, lo, st', t)) ++ (b_cnd spl (b_neg k) s x.2).map (fun t => (pc + 3, lo, st', t))) else none
  | .ifnonnull off, x :: st' => match x with
    | .inr (.inl _) => if len = 3 ∧ 0 ≤ (pc : Int) + off then some [(((pc : Int) + off).toNat, lo, st', s)] else none
    | .inr (.inr 0) => if len = 3 then some [(pc + 3, lo, st', s)] else none
    | _ => none
  | .tableswitch d a b offs, .inl x :: st' => if x.1 = 0 ∧ 0 ≤ (pc : Int) + d ∧ (offs.size : Int) = b - a + 1 ∧ offs.toList.all (fun o => decide (0 ≤ (pc : Int) + o)) = true then
      some (b_tb pc lo st' s x.2 a offs.toList offs.size ++ ((b_cnd false .lt s (li_sh (-a) x.2)).map (fun t => (((pc : Int) + d).toNat, lo, st', t)) ++ (b_cnd false .gt s (li_sh (-b) x.2)).map (fun t => (((pc : Int) + d).toNat, lo, st', t)))) else none
  | _, _ => none
def bm_pu (spl : Bool) (nL : Nat) (i : Instr) (len pc : Nat) (lo : BLo) (st : List BV) (s : BS) : Option (List BN) := match b_g1 nL i len lo st with
  | some r => some [(pc + len, r.1, r.2, s)]
  | none => match b_g2 i len st with
    | some r => some [(pc + len, lo, r, s)]
    | none => match b_g3 i len st s with
      | some r => some [(pc + len, lo, r.1, r.2)]
      | none => match b_inc nL i len lo s with
        | some r => some [(pc + len, r.1, st, r.2)]
        | none => b_g4 spl i len pc lo st s
def b_KW (p : Program) (l : Launch) (e : Env) (R : Room) (s : State) (m : MethodId) (args : Array Value) (below : List Frame) (meth : Method) (c : Code) (H : Heap) (locs : List Loc) (cells slots : Nat) (Q : State → Prop) (B : BE) (nL : Nat) (nu : List Int) (g : BG) (r : BN) : Prop :=
  ∀ (nv : List Int) (ls' : Array Slot) (lv' : List (Nat × Value)) (vs' : List Value), nu_le nu nv → bs_ok nv g r.2.2.2 → lv_has ls' nL lv' → b_L B nv r.2.1 lv' → b_S B nv r.2.2.1 vs' → W p l e R s m args below meth c H locs cells slots Q (F0 m r.1 ls' vs')
theorem b_cv_ok {B : BE} {nu : List Int} {E : AE} {ws : va_W} {a : AV} {b : BV} (h : b_cv a = some b) {v : Value} (hv : ai_V E ws a v) : bv_V B nu b v := by
  unfold b_cv at h
  split at h
  · next c =>
    cases h
    have hv : v = .int c := hv
    exact ⟨c, hv, li_e_c nu _⟩
  · next c =>
    cases h
    have hv : v = .long c := hv
    exact ⟨c, hv, li_e_c nu _⟩
  · cases h
    exact hv
  · cases h
theorem bv_N0 {nu : List Int} {q : Nat × Li} {v : Value} (h : q.1 = 0) (k : bv_N nu q v) : ∃ x : Int32, v = .int x ∧ li_e nu q.2 = some x.toInt := by
  unfold bv_N at k
  rw [if_pos h] at k
  exact k
theorem bv_N1 {nu : List Int} {q : Nat × Li} {v : Value} (h : q.1 = 1) (k : bv_N nu q v) : ∃ x : Int64, v = .long x ∧ li_e nu q.2 = some x.toInt := by
  unfold bv_N at k
  rw [if_neg (by omega), if_pos h] at k
  exact k
theorem bv_Nz {nu : List Int} {q : Nat × Li} {v : Value} (h : q.1 ≠ 1) (k : bv_N nu q v) : ∃ (x : Int32) (z : Int), v = .int x ∧ li_e nu q.2 = some z ∧ (x.toInt < 0 ↔ z < 0) ∧ (0 < x.toInt ↔ 0 < z) := by
  unfold bv_N at k
  split at k
  · obtain ⟨x, h1, h2⟩ := k
    exact ⟨x, x.toInt, h1, h2, Iff.rfl, Iff.rfl⟩
  · exact k
theorem b_rel_cmp {k : Jvm.ClassFile.Cond} {x y : Int32} : ai_rel k x y ↔ b_rel k (x.toInt - y.toInt) := by
  cases k <;> simp only [ai_rel, b_rel, Int32.lt_iff_toInt_lt, Int32.le_iff_toInt_le, ← Int32.toInt_inj, ne_eq] <;> omega
theorem b_rel_0 {k : Jvm.ClassFile.Cond} {x : Int32} {z : Int} (h1 : x.toInt < 0 ↔ z < 0) (h2 : 0 < x.toInt ↔ 0 < z) : ai_rel k x 0 ↔ b_rel k z := by
  have e : (0 : Int32).toInt = 0 := rfl
  cases k <;> simp only [ai_rel, b_rel, Int32.lt_iff_toInt_lt, Int32.le_iff_toInt_le, ← Int32.toInt_inj, ne_eq, e] <;> omega
theorem b_tb_ok {pc : Nat} {lo : BLo} {st : List BV} {s : BS} {f : Li} {nu : List Int} {g : BG} (h : bs_ok nu g s) {z : Int} (hz : li_e nu f = some z) : ∀ (n : Nat) (a : Int) (offs : List Int) (o : Int), a ≤ z → z < a + n → offs[(z - a).toNat]? = some o → ∃ t, bs_ok nu g t ∧ ((((pc : Int) + o).toNat, lo, st, t) : BN) ∈ b_tb pc lo st s f a offs n
  | 0, a, offs, o, h1, h2, h3 => by omega
  | n + 1, a, [], o, h1, h2, h3 => by cases h3
  | n + 1, a, x :: offs, o, h1, h2, h3 => by
    unfold b_tb
    by_cases e : z = a
    · subst e
      rw [show (z - z).toNat = 0 by omega] at h3
      cases h3
      obtain ⟨t, t1, t2⟩ := b_cnd_ok (spl := false) (k := .eq) h (li_e_sh (-z) hz) (by show z + -z = 0; omega)
      exact ⟨t, t2, List.mem_append_left _ (List.mem_map.mpr ⟨t, t1, rfl⟩)⟩
    · obtain ⟨t, t1, t2⟩ := b_tb_ok h hz n (a + 1) offs o (by omega) (by omega) (by
        rw [show (z - a).toNat = (z - (a + 1)).toNat + 1 by omega] at h3
        exact h3)
      exact ⟨t, t1, List.mem_append_right _ t2⟩
section BPU
variable {p : Program} {l : Launch} {e : Env} {R : Room} {s : State} {m : MethodId} {args : Array Value} {below : List Frame} {meth : Method} {c : Code} {H : Heap} {locs : List Loc} {cells slots : Nat} {Q : State → Prop}
variable {cc : ByteArray} {pc : Nat} {ls : Array Slot} {i : Instr} {len nL : Nat} {B : BE} {nu : List Int} {g : BG} {lo : BLo} {lv : List (Nat × Value)} {st : List BV} {vs : List Value} {t : BS} {spl : Bool}
theorem b_g1_ok (hx : p.tables.exec = Jvm.exec) (hb : c.code = cc) (hd : decode cc pc = .ok (i, len)) (hl : lv_has ls nL lv) (hL : b_L B nu lo lv) (hS : b_S B nu st vs) {r : BLo × List BV} (h : b_g1 nL i len lo st = some r)
    (k : ∀ (ls' : Array Slot) (lv' : List (Nat × Value)) (vs' : List Value), lv_has ls' nL lv' → b_L B nu r.1 lv' → b_S B nu r.2 vs' → W p l e R s m args below meth c H locs cells slots Q (F0 m (pc + len) ls' vs')) : W p l e R s m args below meth c H locs cells slots Q (F0 m pc ls vs) := by
  unfold b_g1 at h
  split at h
  · next a ha =>
    split at h
    · next b hb2 =>
      cases h
      exact ai_cs_ok hx hb ha hd (0, 0, 0, 0, fun _ => 0) [] (fun v hv => k ls lv (v :: vs) hl hL ⟨b_cv_ok hb2 hv, hS⟩)
    · cases h
  · split at h
    · next r1 hr =>
      obtain ⟨j, t⟩ := r1
      split at h
      · next q hq =>
        split at h
        · next hc =>
          cases h
          obtain ⟨k2, v, h1, h2⟩ := b_find j hL hq
          obtain ⟨a, a1, a2⟩ := bv_av (0, 0, 0, 0, fun _ => 0) [] h2
          exact ai_ld_ok hx hb hr hd (lv_at hl k2 h1) (a1.trans hc) a2 (k ls lv (v :: vs) hl hL ⟨h2, hS⟩)
        · cases h
      · cases h
    · split at h
      · next r1 x st' hr =>
        obtain ⟨j, t⟩ := r1
        match vs, hS with
        | [], hS => exact hS.elim
        | v :: vs, ⟨hv, hS⟩ =>
          split at h
          · next hc =>
            cases h
            obtain ⟨a, a1, a2⟩ := bv_av (0, 0, 0, 0, fun _ => 0) [] hv
            exact ai_sr_ok hx hb hr hd hl hc.2.1 hc.2.2 (a1.trans hc.1) a2 (fun ls' hl' => k ls' _ vs hl' ⟨⟨rfl, hv⟩, b_filter j t hL⟩ hS)
          · cases h
      · cases h
theorem b_g2_ok (hx : p.tables.exec = Jvm.exec) (hb : c.code = cc) (hd : decode cc pc = .ok (i, len)) (hS : b_S B nu st vs) {r : List BV} (h : b_g2 i len st = some r)
    (k : ∀ (vs' : List Value), b_S B nu r vs' → W p l e R s m args below meth c H locs cells slots Q (F0 m (pc + len) ls vs')) : W p l e R s m args below meth c H locs cells slots Q (F0 m pc ls vs) := by
  unfold b_g2 at h
  split at h
  · next q st' =>
    match vs, hS with
    | [], hS => exact hS.elim
    | v :: vs, ⟨hv, hS⟩ =>
      split at h
      · next hc =>
        cases h
        obtain ⟨x, rfl, h2⟩ := bv_N0 hc hv
        exact lv_i2l hx hb hd rfl (k (_ :: vs) ⟨bv_l.mpr ⟨_, rfl, by rw [Int32.toInt_toInt64]; exact h2⟩, hS⟩)
      · cases h
  · next y x st' =>
    match vs, hS with
    | [], hS => exact hS.elim
    | [_], ⟨_, hS⟩ => exact hS.elim
    | w :: v :: vs, ⟨hw, hv, hS⟩ =>
      split at h
      · next hc =>
        cases h
        obtain ⟨a, rfl, h2⟩ := bv_N1 hc.1 hv
        obtain ⟨b, rfl, h3⟩ := bv_N1 hc.2 hw
        refine W.lcmp hx hb hd (k (_ :: vs) ⟨?_, hS⟩)
        refine ⟨lg_cmp a b, a.toInt - b.toInt, rfl, li_e_sub h2 h3, ?_⟩
        unfold lg_cmp
        have e1 : (1 : Int32).toInt = 1 := rfl
        have e2 : (0 : Int32).toInt = 0 := rfl
        have e3 : (-1 : Int32).toInt = -1 := rfl
        split
        · next q =>
          have q : b.toInt < a.toInt := Int64.lt_iff_toInt_lt.mp q
          rw [e1]
          omega
        · next q =>
          have q : ¬ b.toInt < a.toInt := fun z => q (Int64.lt_iff_toInt_lt.mpr z)
          split
          · next q2 =>
            rw [e2, q2]
            omega
          · next q2 =>
            have q2 : ¬ a.toInt = b.toInt := fun z => q2 (Int64.toInt_inj.mp z)
            rw [e3]
            omega
      · cases h
  · next x st' =>
    match vs, hS with
    | [], hS => exact hS.elim
    | v :: vs, ⟨hv, hS⟩ =>
      split at h
      · next hc =>
        cases h
        exact lv_dup hx hb hd ((bv_V_wd hv).trans hc) (k (v :: v :: vs) ⟨hv, hv, hS⟩)
      · cases h
  · next x y st' =>
    match vs, hS with
    | [], hS => exact hS.elim
    | [_], ⟨_, hS⟩ => exact hS.elim
    | v :: w :: vs, ⟨hv, hw, hS⟩ =>
      split at h
      · next hc =>
        cases h
        exact lv_dup2_11 hx hb hd ((bv_V_wd hv).trans hc.1) ((bv_V_wd hw).trans hc.2) (k (v :: w :: v :: w :: vs) ⟨hv, hw, hv, hw, hS⟩)
      · cases h
  · next x st' =>
    match vs, hS with
    | [], hS => exact hS.elim
    | v :: vs, ⟨hv, hS⟩ =>
      split at h
      · next hc =>
        cases h
        exact lv_pop hx hb hd ((bv_V_wd hv).trans hc) (k vs hS)
      · cases h
  · cases h
theorem b_chr (x : Int32) : 0 ≤ ((x.toUInt32 % 65536).toInt32).toInt ∧ ((x.toUInt32 % 65536).toInt32).toInt ≤ 65535 ∧ (0 ≤ x.toInt → x.toInt ≤ 65535 → ((x.toUInt32 % 65536).toInt32).toInt = x.toInt) := by
  have hm := Nat.mod_lt x.toBitVec.toNat (show 0 < 65536 by decide)
  rw [pk_char, nI_toInt (by omega)]
  refine ⟨by omega, by omega, fun h1 h2 => ?_⟩
  have e : x.toInt = x.toBitVec.toInt := rfl
  rw [e] at h1 h2 ⊢
  have h5 := x.toBitVec.isLt
  rw [BitVec.toInt_eq_toNat_cond] at h1 h2 ⊢
  split at h1
  · next c =>
    rw [if_pos c] at h2 ⊢
    omega
  · omega
theorem b_remI {x y : Int32} {c : Int} (hy : y.toInt = c) (hc : 0 < c) (hx : 0 ≤ x.toInt) : 0 ≤ (x - x / y * y).toInt ∧ (x - x / y * y).toInt ≤ c - 1 := by
  obtain ⟨a, ha, rfl⟩ := nI_of (x := x) (fun z => by have := Int32.lt_iff_toInt_lt.mp z; have e2 : (0 : Int32).toInt = 0 := rfl; omega)
  obtain ⟨d, hd, rfl⟩ := nI_of (x := y) (fun z => by have := Int32.lt_iff_toInt_lt.mp z; have e2 : (0 : Int32).toInt = 0 := rfl; omega)
  rw [nI_toInt hd] at hy
  have hd0 : 0 < d := by omega
  rw [pk_rem ha hd0 hd, nI_toInt (by have := Nat.mod_lt a hd0; omega)]
  have := Nat.mod_lt a hd0
  omega
set_option maxHeartbeats 1000000 in
theorem b_g3_ok (hx : p.tables.exec = Jvm.exec) (hb : c.code = cc) (hd : decode cc pc = .ok (i, len)) (ht : bs_ok nu g t) (hS : b_S B nu st vs) {r : List BV × BS} (h : b_g3 i len st t = some r)
    (k : ∀ (nv : List Int) (vs' : List Value), nu_le nu nv → bs_ok nv g r.2 → b_S B nv r.1 vs' → W p l e R s m args below meth c H locs cells slots Q (F0 m (pc + len) ls vs')) : W p l e R s m args below meth c H locs cells slots Q (F0 m pc ls vs) := by
  unfold b_g3 at h
  split at h
  · next q st' =>
    match vs, hS with
    | [], hS => exact hS.elim
    | v :: vs, ⟨hv, hS⟩ =>
      split at h
      · next hc =>
        cases h
        obtain ⟨rfl, hc⟩ := hc
        obtain ⟨x, rfl, h2⟩ := bv_N1 hc hv
        obtain ⟨nv, n1, n2, n3⟩ := b_l2i_R ht h2
        exact lv_l2i hx hb hd rfl (k nv (_ :: vs) n1 n2 ⟨bv_i.mpr ⟨_, rfl, n3⟩, hS.mono n1⟩)
      · cases h
  · next q st' =>
    match vs, hS with
    | [], hS => exact hS.elim
    | v :: vs, ⟨hv, hS⟩ =>
      split at h
      · next hc =>
        cases h
        obtain ⟨rfl, hc⟩ := hc
        obtain ⟨x, rfl, h2⟩ := bv_N0 hc hv
        have hR : bs_R nu g (b_i2b t q.2) x.toInt8.toInt32.toInt := by
          unfold b_i2b
          split
          · next c2 =>
            have := bs_fit_ok ht c2 h2
            rw [fb_byte this.1 (by omega)]
            exact ⟨nu, nu_le.rf, ht, h2⟩
          · exact bs_new_R ht (fb_byte_rng x).1 (by have := (fb_byte_rng x).2; omega)
        obtain ⟨nv, n1, n2, n3⟩ := hR
        exact lv_i2b hx hb hd rfl (k nv (_ :: vs) n1 n2 ⟨bv_i.mpr ⟨_, rfl, n3⟩, hS.mono n1⟩)
      · cases h
  · next q st' =>
    match vs, hS with
    | [], hS => exact hS.elim
    | v :: vs, ⟨hv, hS⟩ =>
      split at h
      · next hc =>
        cases h
        obtain ⟨rfl, hc⟩ := hc
        obtain ⟨x, rfl, h2⟩ := bv_N0 hc hv
        obtain ⟨c1, c3, c4⟩ := b_chr x
        have hR : bs_R nu g (b_i2c t q.2) ((x.toUInt32 % 65536).toInt32).toInt := by
          unfold b_i2c
          split
          · next c2 =>
            have := bs_fit_ok ht c2 h2
            rw [c4 this.1 this.2]
            exact ⟨nu, nu_le.rf, ht, h2⟩
          · exact bs_new_R ht c1 c3
        obtain ⟨nv, n1, n2, n3⟩ := hR
        exact lv_i2c hx hb hd rfl (k nv (_ :: vs) n1 n2 ⟨bv_i.mpr ⟨_, rfl, n3⟩, hS.mono n1⟩)
      · cases h
  · next y x st' =>
    match vs, hS with
    | [], hS => exact hS.elim
    | [_], ⟨_, hS⟩ => exact hS.elim
    | w :: v :: vs, ⟨hw, hv, hS⟩ =>
      split at h
      · next cst hk =>
        split at h
        · next hc =>
          cases h
          obtain ⟨rfl, hc1, hc2, hc3, hc4⟩ := hc
          obtain ⟨a, rfl, h2⟩ := bv_N0 hc1 hv
          obtain ⟨b, rfl, h3⟩ := bv_N0 hc2 hw
          have e := li_k_ok ht hk h3
          have v1 := li_v_ok ht.1 h2
          have e2 : (0 : Int32).toInt = 0 := rfl
          have hr := b_remI e hc3 (show 0 ≤ a.toInt by omega)
          have hR : bs_R nu g (b_rem t x.2 cst) (a - a / b * b).toInt := by
            unfold b_rem
            rw [if_pos hc4]
            exact bs_new_R ht hr.1 hr.2
          obtain ⟨nv, n1, n2, n3⟩ := hR
          exact lv_irem hx hb hd (fun z => by rw [z] at e; omega) (k nv (_ :: vs) n1 n2 ⟨bv_i.mpr ⟨_, rfl, n3⟩, hS.mono n1⟩)
        · cases h
      · cases h
  · next y x st' _ =>
    match vs, hS with
    | [], hS => exact hS.elim
    | [_], ⟨_, hS⟩ => exact hS.elim
    | w :: v :: vs, ⟨hw, hv, hS⟩ =>
      split at h
      · next f hf =>
        split at h
        · next hc =>
          cases h
          obtain ⟨a, rfl, h2⟩ := bv_N0 hc.1 hv
          obtain ⟨b, rfl, h3⟩ := bv_N0 hc.2 hw
          obtain ⟨nv, n1, n2, n3⟩ := b_bi_ok ht hf h2 h3
          exact ai_bi_ok hx hb hf hd (k nv (_ :: vs) n1 n2 ⟨bv_i.mpr ⟨_, rfl, n3⟩, hS.mono n1⟩)
        · cases h
      · split at h
        · next f hf =>
          split at h
          · next hc =>
            cases h
            obtain ⟨a, rfl, h2⟩ := bv_N1 hc.1 hv
            obtain ⟨b, rfl, h3⟩ := bv_N1 hc.2 hw
            obtain ⟨nv, n1, n2, n3⟩ := b_bl_ok ht hf h2 h3
            exact ai_bl_ok hx hb hf hd (k nv (_ :: vs) n1 n2 ⟨bv_l.mpr ⟨_, rfl, n3⟩, hS.mono n1⟩)
          · cases h
        · split at h
          · next f hf =>
            split at h
            · next hc =>
              cases h
              obtain ⟨a, rfl, h2⟩ := bv_N1 hc.1 hv
              obtain ⟨b, rfl, h3⟩ := bv_N0 hc.2 hw
              obtain ⟨nv, n1, n2, n3⟩ := b_bs_ok ht hf h2 h3
              exact ai_bs_ok hx hb hf hd (k nv (_ :: vs) n1 n2 ⟨bv_l.mpr ⟨_, rfl, n3⟩, hS.mono n1⟩)
            · cases h
          · cases h
  · cases h
theorem b_inc_ok (hx : p.tables.exec = Jvm.exec) (hb : c.code = cc) (hd : decode cc pc = .ok (i, len)) (hl : lv_has ls nL lv) (hL : b_L B nu lo lv) (ht : bs_ok nu g t) {r : BLo × BS} (h : b_inc nL i len lo t = some r)
    (k : ∀ (nv : List Int) (ls' : Array Slot) (lv' : List (Nat × Value)), nu_le nu nv → bs_ok nv g r.2 → lv_has ls' nL lv' → b_L B nv r.1 lv' → W p l e R s m args below meth c H locs cells slots Q (F0 m (pc + len) ls' vs)) : W p l e R s m args below meth c H locs cells slots Q (F0 m pc ls vs) := by
  unfold b_inc at h
  split at h
  · next j n =>
    split at h
    · next q hq =>
      split at h
      · next r2 hr =>
        split at h
        · next hc =>
          cases h
          obtain ⟨rfl, hc1, hc2, hc3, hc4⟩ := hc
          obtain ⟨k2, v, h1, h2⟩ := b_find j hL hq
          rw [hr] at h2
          obtain ⟨x, rfl, h3⟩ := bv_N0 hc1 h2
          have en : (Int32.ofInt n).toInt = n := fb_ofI (by omega) (by omega)
          obtain ⟨nv, n1, n2, n3⟩ := bs_i_R ht (li_e_sh n h3) (x := x + Int32.ofInt n) (fun g1 g2 => by rw [fb_addI (by rw [en]; exact g1) (by rw [en]; exact g2), en])
          exact lv_iinc hx hb hd hl h1 rfl hc2 rfl (fun ls' hl' => k nv ls' _ n1 n2 hl' ⟨⟨rfl, bv_i.mpr ⟨_, rfl, n3⟩⟩, b_filter j 1 (hL.mono n1)⟩)
        · cases h
      · cases h
    · cases h
  · cases h
set_option maxHeartbeats 1000000 in
theorem b_g4_ok (hx : p.tables.exec = Jvm.exec) (hb : c.code = cc) (hd : decode cc pc = .ok (i, len)) (hl : lv_has ls nL lv) (hL : b_L B nu lo lv) (ht : bs_ok nu g t) (hS : b_S B nu st vs) {rs : List BN} (h : b_g4 spl i len pc lo st t = some rs)
    (k : ∀ r ∈ rs, b_KW p l e R s m args below meth c H locs cells slots Q B nL nu g r) : W p l e R s m args below meth c H locs cells slots Q (F0 m pc ls vs) := by
  unfold b_g4 at h
  split at h
  · next off st' =>
    split at h
    · next hc =>
      cases h
      obtain ⟨rfl, hz⟩ := hc
      exact lv_goto hx hb hd (by omega) (k _ (List.mem_singleton.mpr rfl) nu ls lv vs nu_le.rf ht hl hL hS)
    · cases h
  · next q off y x st' =>
    match vs, hS with
    | [], hS => exact hS.elim
    | [_], ⟨_, hS⟩ => exact hS.elim
    | w :: v :: vs, ⟨hw, hv, hS⟩ =>
      split at h
      · next hc =>
        cases h
        obtain ⟨rfl, hc1, hc2, hz⟩ := hc
        obtain ⟨a, rfl, h2⟩ := bv_N0 hc1 hv
        obtain ⟨b, rfl, h3⟩ := bv_N0 hc2 hw
        by_cases hr : b_rel q (a.toInt - b.toInt)
        · obtain ⟨u, u1, u2⟩ := b_cnd_ok (spl := spl) ht (li_e_sub h2 h3) hr
          refine ai_icmp_ok hx hb hd (t := true) ⟨fun _ => rfl, fun _ => b_rel_cmp.mpr hr⟩ (by unfold ai_to; rw [if_pos hz]) ?_
          exact k _ (List.mem_append_left _ (List.mem_map.mpr ⟨u, u1, rfl⟩)) nu ls lv vs nu_le.rf u2 hl hL hS
        · obtain ⟨u, u1, u2⟩ := b_cnd_ok (spl := spl) ht (li_e_sub h2 h3) (b_rel_neg hr)
          refine ai_icmp_ok hx hb hd (t := false) ⟨fun z => absurd (b_rel_cmp.mp z) hr, fun z => by cases z⟩ (by unfold ai_to; rw [if_pos hz]) ?_
          exact k _ (List.mem_append_right _ (List.mem_map.mpr ⟨u, u1, rfl⟩)) nu ls lv vs nu_le.rf u2 hl hL hS
      · cases h
  · next q off x st' =>
    match vs, hS with
    | [], hS => exact hS.elim
    | v :: vs, ⟨hv, hS⟩ =>
      split at h
      · next hc =>
        cases h
        obtain ⟨rfl, hc1, hz⟩ := hc
        obtain ⟨a, z, rfl, h2, h3, h4⟩ := bv_Nz hc1 hv
        by_cases hr : b_rel q z
        · obtain ⟨u, u1, u2⟩ := b_cnd_ok (spl := spl) ht h2 hr
          refine ai_ifc_ok hx hb hd (t := true) ⟨fun _ => rfl, fun _ => (b_rel_0 h3 h4).mpr hr⟩ (by unfold ai_to; rw [if_pos hz]) ?_
          exact k _ (List.mem_append_left _ (List.mem_map.mpr ⟨u, u1, rfl⟩)) nu ls lv vs nu_le.rf u2 hl hL hS
        · obtain ⟨u, u1, u2⟩ := b_cnd_ok (spl := spl) ht h2 (b_rel_neg hr)
          refine ai_ifc_ok hx hb hd (t := false) ⟨fun z => absurd ((b_rel_0 h3 h4).mp z) hr, fun z => by cases z⟩ (by unfold ai_to; rw [if_pos hz]) ?_
          exact k _ (List.mem_append_right _ (List.mem_map.mpr ⟨u, u1, rfl⟩)) nu ls lv vs nu_le.rf u2 hl hL hS
      · cases h
  · next off x st' =>
    match vs, hS with
    | [], hS => exact hS.elim
    | v :: vs, ⟨hv, hS2⟩ =>
      split at h
      · split at h
        · next hc =>
          cases h
          obtain ⟨rfl, hz⟩ := hc
          obtain ⟨P, rfl, -⟩ := hv
          exact lv_ifnonnull hx hb hd (by omega) (k _ (List.mem_singleton.mpr rfl) nu ls lv vs nu_le.rf ht hl hL hS2)
        · cases h
      · split at h
        · next hc =>
          cases h
          subst hc
          have hv : v = .null := hv
          subst hv
          exact lv_ifnonnullN hx hb hd (k _ (List.mem_singleton.mpr rfl) nu ls lv vs nu_le.rf ht hl hL hS2)
        · cases h
      · cases h
  · next d a b offs x st' =>
    match vs, hS with
    | [], hS => exact hS.elim
    | v :: vs, ⟨hv, hS⟩ =>
      split at h
      · next hc =>
        cases h
        obtain ⟨hc1, hz, hsz, hall⟩ := hc
        obtain ⟨y, rfl, h2⟩ := bv_N0 hc1 hv
        by_cases hlt : y.toInt < a
        · obtain ⟨u, u1, u2⟩ := b_cnd_ok (spl := false) (k := .lt) ht (li_e_sh (-a) h2) (by show y.toInt + -a < 0; omega)
          exact lv_tableOut (tgt := ((pc : Int) + d).toNat) hx hb hd (Or.inl hlt) (by omega) (k _ (List.mem_append_right _ (List.mem_append_left _ (List.mem_map.mpr ⟨u, u1, rfl⟩))) nu ls lv vs nu_le.rf u2 hl hL hS)
        · by_cases hgt : b < y.toInt
          · obtain ⟨u, u1, u2⟩ := b_cnd_ok (spl := false) (k := .gt) ht (li_e_sh (-b) h2) (by show 0 < y.toInt + -b; omega)
            exact lv_tableOut (tgt := ((pc : Int) + d).toNat) hx hb hd (Or.inr hgt) (by omega) (k _ (List.mem_append_right _ (List.mem_append_right _ (List.mem_map.mpr ⟨u, u1, rfl⟩))) nu ls lv vs nu_le.rf u2 hl hL hS)
          · have hlen : (y.toInt - a).toNat < offs.toList.length := by rw [Array.length_toList]; omega
            have ho : offs.toList[(y.toInt - a).toNat]? = some (offs.toList[(y.toInt - a).toNat]'hlen) := List.getElem?_eq_getElem hlen
            have hpos := of_decide_eq_true (List.all_eq_true.mp hall _ (List.getElem_mem hlen))
            obtain ⟨u, u1, u2⟩ := b_tb_ok (pc := pc) (lo := lo) (st := st') ht h2 offs.size a offs.toList _ (by omega) (by omega) ho
            refine lv_tableIn (tgt := ((pc : Int) + offs.toList[(y.toInt - a).toNat]'hlen).toNat) hx hb hd (by omega) (by omega) (by rw [← Array.getElem?_toList]; exact ho) (by omega) (k _ (List.mem_append_left _ u2) nu ls lv vs nu_le.rf u1 hl hL hS)
      · cases h
  · cases h
theorem bm_pu_ok (hx : p.tables.exec = Jvm.exec) (hb : c.code = cc) (hd : decode cc pc = .ok (i, len)) (hl : lv_has ls nL lv) (hL : b_L B nu lo lv) (ht : bs_ok nu g t) (hS : b_S B nu st vs) {rs : List BN} (h : bm_pu spl nL i len pc lo st t = some rs)
    (k : ∀ r ∈ rs, b_KW p l e R s m args below meth c H locs cells slots Q B nL nu g r) : W p l e R s m args below meth c H locs cells slots Q (F0 m pc ls vs) := by
  unfold bm_pu at h
  split at h
  · next r hr =>
    cases h
    exact b_g1_ok hx hb hd hl hL hS hr (fun ls' lv' vs' a1 a2 a3 => k _ (List.mem_singleton.mpr rfl) nu ls' lv' vs' nu_le.rf ht a1 a2 a3)
  · split at h
    · next r hr =>
      cases h
      exact b_g2_ok hx hb hd hS hr (fun vs' a3 => k _ (List.mem_singleton.mpr rfl) nu ls lv vs' nu_le.rf ht hl hL a3)
    · split at h
      · next r hr =>
        cases h
        exact b_g3_ok hx hb hd ht hS hr (fun nv vs' a1 a2 a3 => k _ (List.mem_singleton.mpr rfl) nv ls lv vs' a1 a2 hl (hL.mono a1) a3)
      · split at h
        · next r hr =>
          cases h
          exact b_inc_ok hx hb hd hl hL ht hr (fun nv ls' lv' a1 a2 a3 a4 => k _ (List.mem_singleton.mpr rfl) nv ls' lv' vs a1 a2 a3 a4 (hS.mono a1))
        · exact b_g4_ok hx hb hd hl hL ht hS h k
end BPU
end
section
/-! ===== machine B: the instructions that use the world ===== -/
theorem bk_lt {k j : Nat} {f : BF} (h : bk_spec k j = some f) : k < 1000 := by
  unfold bk_spec at h
  split at h
  · next q hq =>
    have := (List.getElem?_eq_some_iff.mp hq).1
    have e : bk_tab.length ≤ 1000 := by decide +kernel
    omega
  · next q hq =>
    have := (List.getElem?_eq_some_iff.mp hq).1
    have e : bk_tab.length ≤ 1000 := by decide +kernel
    omega
  · cases h
theorem bk_sO {k ci j : Nat} {fs : List BF} (h : bk_tab[k]? = some (.inl (ci, fs))) : bk_spec k j = fs[j]? := by
  unfold bk_spec; rw [h]
theorem bk_sA {k t n j : Nat} {f : BF} (h : bk_tab[k]? = some (.inr (t, n, f))) (hj : j < n) : bk_spec k j = some f := by
  unfold bk_spec; rw [h]; exact if_pos hj
theorem bs_rd {nu : List Int} {g : BG} {s : BS} (h : bs_ok nu g s) (hg : bw_ok g) {k : Nat} {p x : Li} {P X : Nat} {q : Nat × Int × Int} (hP : P < 230) (hk : bk_at P = k) (hp : li_e nu p = some (P : Int)) (hx : li_e nu x = some (X : Int)) (hq : bk_spec k X = some (.inl q)) : bs_R nu g (bs_q s k p x q.2.1 q.2.2) (g P X) := by
  have hlt := bk_lt hq
  subst hk
  have hb := hg P X q hP hq
  unfold bs_q
  split
  · next e he =>
    have hc0 := List.find?_some he
    have hc : e.1 = bk_at P ∧ e.2.1 = p ∧ e.2.2.1 = x := of_decide_eq_true hc0
    obtain ⟨c1, c2, c3⟩ := hc
    have hm := h.2.2 e (List.mem_of_find?_eq_some he)
    unfold bc_e at hm
    rw [c1, if_pos hlt, c2, c3] at hm
    obtain ⟨P', X', m1, m2, m3, m4, m5⟩ := hm
    rw [hp] at m1
    rw [hx] at m2
    have e1 : P' = P := by have := Option.some.inj m1; omega
    have e2 : X' = X := by have := Option.some.inj m2; omega
    subst e1
    subst e2
    exact ⟨nu, nu_le.rf, h, m5⟩
  · obtain ⟨n1, n2⟩ := bs_new_ok h hb.1 hb.2
    refine ⟨_, nu_le.ap, ⟨n1.1, n1.2.1, fun e he => ?_⟩, n2⟩
    rcases List.mem_cons.mp he with rfl | he
    · unfold bc_e
      rw [if_pos hlt]
      exact ⟨P, X, li_e_mono nu_le.ap hp, li_e_mono nu_le.ap hx, hP, rfl, n2⟩
    · exact n1.2.2 e he
def b_ap (s : BS) (a b : Li) : Bool := match li_v s.1 (li_sub a b) with
  | w => decide (0 < w.1) || decide (w.2 < 0)
theorem b_ap_ok {nu : List Int} {g : BG} {s : BS} (h : bs_ok nu g s) {a b : Li} (k : b_ap s a b = true) {x y : Int} (hx : li_e nu a = some x) (hy : li_e nu b = some y) : x ≠ y := by
  have v := li_v_ok h.1 (li_e_sub hx hy)
  have k : (decide (0 < (li_v s.1 (li_sub a b)).1) || decide ((li_v s.1 (li_sub a b)).2 < 0)) = true := k
  rw [Bool.or_eq_true, decide_eq_true_eq, decide_eq_true_eq] at k
  omega
def b_keep (s : BS) (k : Nat) (p x : Li) (e : Nat × Li × Li × Li) : Bool := decide (e.1 ≠ k) || (b_ap s e.2.1 p || b_ap s e.2.2.1 x)
def b_wr (s : BS) (k : Nat) (p x v : Li) : BS := (s.1, s.2.1, (k, p, x, v) :: s.2.2.filter (b_keep s k p x))
theorem b_wr_ok {nu : List Int} {g : BG} {s : BS} (h : bs_ok nu g s) {k : Nat} {p x v : Li} {P X : Nat} {z : Int} (hP : P < 230) (hk : bk_at P = k) (hlt : k < 1000) (hp : li_e nu p = some (P : Int)) (hx : li_e nu x = some (X : Int)) (hv : li_e nu v = some z) : bs_ok nu (bg_up g P X z) (b_wr s k p x v) := by
  refine ⟨h.1, h.2.1, fun e he => ?_⟩
  rcases List.mem_cons.mp he with rfl | he
  · unfold bc_e
    rw [if_pos hlt]
    refine ⟨P, X, hp, hx, hP, hk, ?_⟩
    show li_e nu v = some (if P = P ∧ X = X then z else g P X)
    rw [if_pos ⟨rfl, rfl⟩]
    exact hv
  · obtain ⟨h1, h2⟩ := List.mem_filter.mp he
    have hm := h.2.2 e h1
    unfold bc_e at hm ⊢
    split
    · next c =>
      rw [if_pos c] at hm
      obtain ⟨P', X', m1, m2, m3, m4, m5⟩ := hm
      refine ⟨P', X', m1, m2, m3, m4, ?_⟩
      show _ = some (if P' = P ∧ X' = X then z else g P' X')
      rw [if_neg]
      · exact m5
      rintro ⟨rfl, rfl⟩
      unfold b_keep at h2
      rw [Bool.or_eq_true, Bool.or_eq_true, decide_eq_true_eq] at h2
      rcases h2 with h2 | h2 | h2
      · exact h2 (m4.symm.trans hk)
      · exact b_ap_ok h h2 m1 hp rfl
      · exact b_ap_ok h h2 m2 hx rfl
    · next c =>
      rw [if_neg c] at hm
      obtain ⟨a, b, m1, m2, m3⟩ := hm
      exact ⟨a, b, m1, m2, by rw [bq_G_eq (bg_ne (by omega))]; exact m3⟩
/-- a reference that is read -/
def b_rt (f : Nat × Int × Int × Int) (p x : Li) : BV := .inr (.inl (f.1, li_add (li_c f.2.1) (li_add (li_mul f.2.2.1 p) (li_mul f.2.2.2 x))))
theorem b_rt_ok {B : BE} {nu : List Int} {f : Nat × Int × Int × Int} {p x : Li} {P X : Nat} (hP : P < 230) (hp : li_e nu p = some (P : Int)) (hx : li_e nu x = some (X : Int)) (hq : bk_spec (bk_at P) X = some (.inr f)) : bv_V B nu (b_rt f p x) (.ref (b_ad B (bk_to f P X).toNat)) := by
  obtain ⟨h1, h2, h3⟩ := bk_ref hP hq
  refine ⟨(bk_to f P X).toNat, rfl, ?_, h2, h3⟩
  have e := li_e_add (li_e_c nu f.2.1) (li_e_add (li_e_mul f.2.2.1 hp) (li_e_mul f.2.2.2 hx))
  have e2 : f.2.1 + (f.2.2.1 * (P : Int) + f.2.2.2 * (X : Int)) = ((bk_to f P X).toNat : Int) := by
    have : bk_to f P X = f.2.1 + f.2.2.1 * (P : Int) + f.2.2.2 * (X : Int) := rfl
    omega
  rw [e2] at e
  exact e
def b_in (s : BS) (n : Nat) (x : Li) : Bool := bs_ge s x && bs_ge s (li_sub (li_c ((n : Int) - 1)) x)
theorem b_in_ok {nu : List Int} {g : BG} {s : BS} (h : bs_ok nu g s) {n : Nat} {x : Li} (k : b_in s n x = true) {c : Int32} (hx : li_e nu x = some c.toInt) : vp_in c n ∧ li_e nu x = some (c.toNatClampNeg : Int) ∧ c.toNatClampNeg < n := by
  unfold b_in at k
  rw [Bool.and_eq_true] at k
  have h1 := bs_ge_ok h k.1 hx
  have h2 := bs_ge_ok h k.2 (li_e_sub (li_e_c nu _) hx)
  have e : (c.toNatClampNeg : Int) = c.toInt := by
    show (c.toInt.toNat : Int) = c.toInt
    omega
  refine ⟨vp_in_iff.mpr ⟨h1, by omega⟩, by rw [e]; exact hx, by omega⟩
def b_tg (i : Instr) (t : Nat) : Bool := match i with
  | .iaload => decide (t = 1)
  | .baload => decide (t = 0 ∨ t = 3)
  | .laload => decide (t = 2)
  | .aaload => decide (4 ≤ t)
  | _ => false
def b_ts (i : Instr) (t : Nat) : Bool := match i with
  | .iastore => decide (t = 1)
  | .bastore => decide (t = 0 ∨ t = 3)
  | .lastore => decide (t = 2)
  | _ => false
/-- reads -/
def b_h1 (i : Instr) (len : Nat) (aux : List Nat) (st : List BV) (s : BS) : Option (List BV × BS) := match i, aux, st with
  | .getfield _, [ci, j, _], .inr (.inl o) :: r => match bk_tab[o.1]? with
    | some (.inl q) => if len = 3 ∧ q.1 = ci then (match q.2[j]? with
      | some (.inl f) => some (.inl (f.1, (bs_q s o.1 o.2 (li_c (j : Int)) f.2.1 f.2.2).2) :: r, (bs_q s o.1 o.2 (li_c (j : Int)) f.2.1 f.2.2).1)
      | some (.inr f) => some (b_rt f o.2 (li_c (j : Int)) :: r, s)
      | none => none) else none
    | _ => none
  | .ldc2_w _, [n, _], r => if len = 3 then some (.inl (1, li_c (Int64.ofNat n).toInt) :: r, s) else none
  | .arraylength, _, .inr (.inl o) :: r => match bk_tab[o.1]? with
    | some (.inr q) => if len = 1 then some (.inl (0, li_c (q.2.1 : Int)) :: r, s) else none
    | _ => none
  | i, _, .inl x :: .inr (.inl o) :: r => match bk_tab[o.1]? with
    | some (.inr q) => if len = 1 ∧ x.1 = 0 ∧ b_in s q.2.1 x.2 = true ∧ b_tg i q.1 = true then (match q.2.2 with
      | .inl f => some (.inl (f.1, (bs_q s o.1 o.2 x.2 f.2.1 f.2.2).2) :: r, (bs_q s o.1 o.2 x.2 f.2.1 f.2.2).1)
      | .inr f => some (b_rt f o.2 x.2 :: r, s)) else none
    | _ => none
  | _, _, _ => none
/-- writes -/
def b_h2 (md : List Nat) (i : Instr) (len : Nat) (aux : List Nat) (st : List BV) (s : BS) : Option (List BV × BS) := match i, aux, st with
  | .putfield _, [ci, j, _], .inl v :: .inr (.inl o) :: r => match bk_tab[o.1]? with
    | some (.inl q) => match q.2[j]?, vwCl[ci]? with
      | some (.inl f), some row => if len = 3 ∧ q.1 = ci ∧ v.1 = f.1 ∧ bs_fit s f.2.1 f.2.2 v.2 = true ∧ (row.2.1 j).2.2.2 = false ∧ bk_code o.1 j ∈ md then some (r, b_wr s o.1 o.2 (li_c (j : Int)) v.2) else none
      | _, _ => none
    | _ => none
  | i, _, .inl v :: .inl x :: .inr (.inl o) :: r => match bk_tab[o.1]? with
    | some (.inr q) => match q.2.2 with
      | .inl f => if len = 1 ∧ x.1 = 0 ∧ v.1 = f.1 ∧ b_in s q.2.1 x.2 = true ∧ b_ts i q.1 = true ∧ bs_fit s f.2.1 f.2.2 v.2 = true ∧ bk_code o.1 0 ∈ md then some (r, b_wr s o.1 o.2 x.2 v.2) else none
      | .inr _ => none
    | _ => none
  | _, _, _ => none
theorem bw_f0 {B : BE} {r : Nat → Int} {P j : Nat} {f : Nat × Int × Int} (h : f.1 = 0) : bw_f B r P j (.inl f) = .int (Int32.ofInt (r j)) := by
  show (if f.1 = 0 then _ else _) = _
  rw [if_pos h]
theorem bw_f1 {B : BE} {r : Nat → Int} {P j : Nat} {f : Nat × Int × Int} (h : f.1 = 1) : bw_f B r P j (.inl f) = .long (Int64.ofInt (r j)) := by
  show (if f.1 = 0 then _ else _) = _
  rw [if_neg (by omega)]
/-- a number that is read has its kind's width -/
theorem bw_fv {B : BE} {nu : List Int} {g : BG} {P j : Nat} {f : Nat × Int × Int} {a : Li} (hf : f.1 = 0 ∧ bk_i32 f.2.1 f.2.2 = true ∨ f.1 = 1 ∧ bk_i64 f.2.1 f.2.2 = true) (h1 : f.2.1 ≤ g P j) (h2 : g P j ≤ f.2.2) (ha : li_e nu a = some (g P j)) : bv_V B nu (.inl (f.1, a)) (bw_f B (g P) P j (.inl f)) := by
  rcases hf with ⟨e, k⟩ | ⟨e, k⟩
  · rw [bw_f0 e, e]
    unfold bk_i32 at k
    rw [Bool.and_eq_true, decide_eq_true_eq, decide_eq_true_eq] at k
    exact bv_i.mpr ⟨_, rfl, by rw [fb_ofI (by omega) (by omega)]; exact ha⟩
  · rw [bw_f1 e, e]
    unfold bk_i64 at k
    rw [Bool.and_eq_true, decide_eq_true_eq, decide_eq_true_eq] at k
    exact bv_l.mpr ⟨_, rfl, by rw [fb_ofL (by omega) (by omega)]; exact ha⟩
theorem bk_tf_w {t : FieldType} {f : Nat × Int × Int} (h : bk_tf t (.inl f) = true) : f.1 = 0 ∧ bk_i32 f.2.1 f.2.2 = true ∨ f.1 = 1 ∧ bk_i64 f.2.1 f.2.2 = true := by
  unfold bk_tf at h
  split at h
  · next q e =>
    cases e
    rw [Bool.and_eq_true, decide_eq_true_eq] at h
    exact Or.inl h
  · next q e =>
    cases e
    rw [Bool.and_eq_true, Bool.and_eq_true, decide_eq_true_eq, decide_eq_true_eq, decide_eq_true_eq] at h
    refine Or.inl ⟨h.1, ?_⟩
    unfold bk_i32
    rw [Bool.and_eq_true, decide_eq_true_eq, decide_eq_true_eq]
    omega
  · next q e =>
    cases e
    rw [Bool.and_eq_true, decide_eq_true_eq] at h
    exact Or.inr h
  · next e => cases e
  · next e => cases e
  · cases h
theorem bk_ta_w {t : Nat} {f : Nat × Int × Int} (h : bk_ta t (.inl f) = true) : (f.1 = 0 ∧ bk_i32 f.2.1 f.2.2 = true ∨ f.1 = 1 ∧ bk_i64 f.2.1 f.2.2 = true) ∧ (f.1 = 0 → ai_kd t = 0 ∧ (t = 0 → -128 ≤ f.2.1 ∧ f.2.2 ≤ 127) ∧ (t = 3 → 0 ≤ f.2.1 ∧ f.2.2 ≤ 1) ∧ t ≤ 3) ∧ (f.1 = 1 → t = 2) := by
  unfold bk_ta at h
  split at h
  · next q e =>
    cases e
    rw [Bool.and_eq_true, Bool.and_eq_true, decide_eq_true_eq, decide_eq_true_eq, decide_eq_true_eq] at h
    refine ⟨Or.inl ⟨h.1, ?_⟩, fun _ => ⟨rfl, fun _ => h.2, fun z => by omega, by omega⟩, fun z => by omega⟩
    unfold bk_i32
    rw [Bool.and_eq_true, decide_eq_true_eq, decide_eq_true_eq]
    omega
  · next q e =>
    cases e
    rw [Bool.and_eq_true, decide_eq_true_eq] at h
    exact ⟨Or.inl h, fun _ => ⟨rfl, fun z => by omega, fun z => by omega, by omega⟩, fun z => by omega⟩
  · next q e =>
    cases e
    rw [Bool.and_eq_true, decide_eq_true_eq] at h
    exact ⟨Or.inr h, fun z => by omega, fun _ => rfl⟩
  · next q e =>
    cases e
    rw [Bool.and_eq_true, Bool.and_eq_true, decide_eq_true_eq, decide_eq_true_eq, decide_eq_true_eq] at h
    refine ⟨Or.inl ⟨h.1, ?_⟩, fun _ => ⟨rfl, fun z => by omega, fun _ => h.2, by omega⟩, fun z => by omega⟩
    unfold bk_i32
    rw [Bool.and_eq_true, decide_eq_true_eq, decide_eq_true_eq]
    omega
  · next e => cases e
  · cases h
section BH1
variable {p : Program} {l : Launch} {e : Env} {R : Room} {s : State} {m : MethodId} {args : Array Value} {below : List Frame} {meth : Method} {c : Code} {H : Heap} {locs : List Loc} {cells slots : Nat} {Q : State → Prop}
variable {cc : ByteArray} {pc : Nat} {ls : Array Slot} {i : Instr} {len : Nat} {aux : List Nat} {B : BE} {nu : List Int} {g : BG} {st : List BV} {vs : List Value} {t : BS} {own : String} {D : va_G} {A : Nat → Prop} {H0 : Heap}
set_option maxHeartbeats 2000000 in
theorem b_h1_ok (hx : p.tables.exec = Jvm.exec) (hb : c.code = cc) (hown : s.vm.findClass own = some m.cls) (hT : ∀ w, w ∈ lw_tbl → goodWord w = true → w.before args s = true) (hK : va_K D vwCl [] s) (hd : decode cc pc = .ok (i, len)) (hchk : ai_chk own i aux = true)
    (hB : bb_ok B s) (hg : bw_ok g) (ht : bs_ok nu g t) (hP : va_P D vwCl (bw B g) H) (hS : b_S B nu st vs) {r : List BV × BS} (h : b_h1 i len aux st t = some r)
    (k : ∀ (nv : List Int) (vs' : List Value), nu_le nu nv → bs_ok nv g r.2 → b_S B nv r.1 vs' → W p l e R s m args below meth c H locs cells slots Q (F0 m (pc + len) ls vs')) : W p l e R s m args below meth c H locs cells slots Q (F0 m pc ls vs) := by
  unfold b_h1 at h
  split at h
  · next ix ci j z o r2 =>
    match vs, hS with
    | [], hS => exact hS.elim
    | v :: vs, ⟨hv, hS⟩ =>
      obtain ⟨P, rfl, hp, hP2, hat⟩ := hv
      split at h
      · next q hq =>
        obtain ⟨ci', fs⟩ := q
        split at h
        · next hc =>
          obtain ⟨rfl, hc⟩ := hc
          have hc : ci' = ci := hc
          subst hc
          have hq2 : bk_tab[bk_at P]? = some (.inl (ci', fs)) := by rw [hat]; exact hq
          have hw : (bw B g)[P]? = some (b_ad B P, .inr (ci', bw_fs B (g P) P fs)) := by rw [bw_get B g hP2, bw_o hq2]
          obtain ⟨row, hr, -, hty⟩ := bk_obj hq
          have hchk : (match vwCl[ci']? with
            | some r => decide (j < r.2.2) && ai_w z (.fieldLink own ix r.1 (r.2.1 j).2.1 (r.2.1 j).2.2.1) && decide ((r.2.1 j).1 = r.1)
            | none => false) = true := hchk
          rw [hr] at hchk
          simp only [Bool.and_eq_true, decide_eq_true_eq] at hchk
          obtain ⟨⟨c1, c2⟩, c3⟩ := hchk
          obtain ⟨f1, f2, f3⟩ := ai_F_all ci' row hr
          obtain ⟨g1, g2⟩ := ai_w_ok c2
          have go : ∀ f : BF, fs[j]? = some f → W p l e R s m args below meth c H locs cells slots Q (F0 m (pc + 3) ls (bw_f B (g P) P j f :: vs)) → W p l e R s m args below meth c H locs cells slots Q (F0 m pc ls (.ref (b_ad B P) :: vs)) := fun f hf kk =>
            va_get (own := own) (ref := row.1) (C := row.1) (T := row.2.1) (N := row.2.2) (Ts := u_ws row.1 row.2.1 row.2.2) hx hb (fun w hw => hT w (f3 w hw) (ai_u_good _ _ _ w hw)) (fun w hw => hw) hown hK hP P hw hr j c1 (hT _ g1 g2) (fun x hx => by rw [c3] at hx; exact hx) (bw_fs_get hf) hd kk
          split at h
          · next f hf =>
            cases h
            have hsp : bk_spec (bk_at P) j = some (.inl f) := by rw [bk_sO hq2]; exact hf
            have hb1 := hg P j f hP2 hsp
            obtain ⟨nv, n1, n2, n3⟩ := bs_rd ht hg hP2 hat hp (li_e_c nu (j : Int)) (by rw [← hat]; exact hsp)
            exact go _ hf (k nv (_ :: vs) n1 n2 ⟨bw_fv (bk_tf_w (hty j _ hf)) hb1.1 hb1.2 n3, hS.mono n1⟩)
          · next f hf =>
            cases h
            have hsp : bk_spec (bk_at P) j = some (.inr f) := by rw [bk_sO hq2]; exact hf
            exact go _ hf (k nu (_ :: vs) nu_le.rf ht ⟨b_rt_ok hP2 hp (li_e_c nu (j : Int)) hsp, hS⟩)
          · cases h
        · cases h
      · cases h
  · next r2 ix n z =>
    split at h
    · next hc =>
      cases h
      subst hc
      have hchk : ai_w z (.constantLong own ix (Int64.ofNat n)) = true := hchk
      obtain ⟨g1, g2⟩ := ai_w_ok hchk
      exact lv_ldc2 hx hb hown (hT _ g1 g2) hd (k nu (_ :: vs) nu_le.rf ht ⟨bv_l.mpr ⟨_, rfl, li_e_c nu _⟩, hS⟩)
    · cases h
  · next o r2 =>
    match vs, hS with
    | [], hS => exact hS.elim
    | v :: vs, ⟨hv, hS⟩ =>
      obtain ⟨P, rfl, hp, hP2, hat⟩ := hv
      split at h
      · next q hq =>
        obtain ⟨tt, n, f⟩ := q
        split at h
        · next hc =>
          cases h
          subst hc
          have hq2 : bk_tab[bk_at P]? = some (.inr (tt, n, f)) := by rw [hat]; exact hq
          have hw : (bw B g)[P]? = some (b_ad B P, .inl (b_ac B P, n, bw_ar B (g P) P tt)) := by rw [bw_get B g hP2, bw_a hq2]
          obtain ⟨b1, b2, -⟩ := hB P tt n f hP2 hq2
          obtain ⟨-, hn⟩ := bk_arr hq
          refine va_alen hx hb (ai_K1 hK b1 b2) hP P 0 hw rfl rfl hd (k nu (_ :: vs) nu_le.rf ht ⟨bv_i.mpr ⟨_, rfl, ?_⟩, hS⟩)
          show li_e nu (li_c (n : Int)) = some (nI n).toInt
          rw [li_e_c, nI_toInt (by omega)]
        · cases h
      · cases h
  · next x o r2 _ =>
    match vs, hS with
    | [], hS => exact hS.elim
    | [_], ⟨_, hS⟩ => exact hS.elim
    | vj :: v :: vs, ⟨hvj, hv, hS⟩ =>
      obtain ⟨P, rfl, hp, hP2, hat⟩ := hv
      split at h
      · next q hq =>
        obtain ⟨tt, n, f⟩ := q
        split at h
        · next hc =>
          obtain ⟨rfl, hc1, hc2, hc3⟩ := hc
          obtain ⟨b, rfl, hxj⟩ := bv_N0 hc1 hvj
          obtain ⟨hin, hxn, hlt⟩ := b_in_ok ht hc2 hxj
          have hq2 : bk_tab[bk_at P]? = some (.inr (tt, n, f)) := by rw [hat]; exact hq
          have hw : (bw B g)[P]? = some (b_ad B P, .inl (b_ac B P, n, bw_ar B (g P) P tt)) := by rw [bw_get B g hP2, bw_a hq2]
          obtain ⟨b1, b2, b3⟩ := hB P tt n f hP2 hq2
          obtain ⟨hta, hn⟩ := bk_arr hq
          split at h
          · next f' hf' =>
            have hf' : f = .inl f' := hf'
            subst hf'
            cases h
            have hsp : bk_spec (bk_at P) b.toNatClampNeg = some (.inl f') := bk_sA hq2 hlt
            have hb1 := hg P _ f' hP2 hsp
            obtain ⟨nv, n1, n2, n3⟩ := bs_rd ht hg hP2 hat hp hxn (by rw [← hat]; exact hsp)
            obtain ⟨w1, w2, w3⟩ := bk_ta_w hta
            have hv1 : bv_V B nv (.inl (f'.1, (bs_q t o.1 o.2 x.2 f'.2.1 f'.2.2).2)) (bw_f B (g P) P b.toNatClampNeg (.inl f')) := bw_fv w1 hb1.1 hb1.2 n3
            rcases w1 with ⟨e0, -⟩ | ⟨e0, -⟩
            · obtain ⟨u1, u2, u3, u4⟩ := w2 e0
              have hw2 : (bw B g)[P]? = some (b_ad B P, .inl (b_ac B P, n, .inl (fun j => Int32.ofInt (g P j)))) := by
                rw [hw]; unfold bw_ar; rw [if_pos u1]
              rw [bw_f0 e0] at hv1
              unfold b_tg at hc3
              split at hc3
              · have e1 : tt = 1 := of_decide_eq_true hc3
                subst e1
                exact va_iald hx hb (ai_K1 hK b1 b2) hP P 0 hw2 rfl hin hd (k nv (_ :: vs) n1 n2 ⟨hv1, hS.mono n1⟩)
              · rcases (of_decide_eq_true hc3 : tt = 0 ∨ tt = 3) with e1 | e1
                · subst e1
                  exact va_bald hx hb (ai_K1 hK b1 b2) hP P 0 hw2 rfl hin hd (k nv (_ :: vs) n1 n2 ⟨hv1, hS.mono n1⟩)
                · subst e1
                  exact va_zald hx hb (ai_K1 hK b1 b2) hP P 0 hw2 rfl hin hd (k nv (_ :: vs) n1 n2 ⟨hv1, hS.mono n1⟩)
              · have e1 : tt = 2 := of_decide_eq_true hc3
                subst e1
                cases u1
              · have e1 : 4 ≤ tt := of_decide_eq_true hc3
                exact absurd u4 (by omega)
              · cases hc3
            · have e2 := w3 e0
              subst e2
              have hw2 : (bw B g)[P]? = some (b_ad B P, .inl (b_ac B P, n, .inr (.inl (fun j => Int64.ofInt (g P j))))) := by rw [hw]; rfl
              rw [bw_f1 e0] at hv1
              unfold b_tg at hc3
              split at hc3
              · cases (of_decide_eq_true hc3 : (2 : Nat) = 1)
              · rcases (of_decide_eq_true hc3 : (2 : Nat) = 0 ∨ (2 : Nat) = 3) with e1 | e1 <;> cases e1
              · exact va_lald hx hb (ai_K1 hK b1 b2) hP P 0 hw2 rfl hin hd (k nv (_ :: vs) n1 n2 ⟨hv1, hS.mono n1⟩)
              · exact absurd (of_decide_eq_true hc3 : 4 ≤ 2) (by omega)
              · cases hc3
          · next f' hf' =>
            have hf' : f = .inr f' := hf'
            subst hf'
            cases h
            have hsp : bk_spec (bk_at P) b.toNatClampNeg = some (.inr f') := bk_sA hq2 hlt
            have h4 : ∃ t4, tt = t4 + 4 := by
              unfold bk_ta at hta
              split at hta
              · next e => cases e
              · next e => cases e
              · next e => cases e
              · next e => cases e
              · next t4 _ _ => exact ⟨t4, rfl⟩
              · cases hta
            obtain ⟨t4, rfl⟩ := h4
            have hw2 : (bw B g)[P]? = some (b_ad B P, .inl (b_ac B P, n, .inr (.inr (.inr (.inr (b_rr B P)))))) := by rw [hw]; rfl
            unfold b_tg at hc3
            split at hc3
            · exact absurd (of_decide_eq_true hc3) (by omega)
            · exact absurd (of_decide_eq_true hc3) (by omega)
            · exact absurd (of_decide_eq_true hc3) (by omega)
            · refine va_aldq (C := ai_cl t4) hx hb (ai_K1 hK b1 b2) hP P 0 hw2 rfl hin hd (k nu (_ :: vs) nu_le.rf ht ⟨?_, hS⟩)
              rw [b3 f' rfl _ hlt]
              exact b_rt_ok hP2 hp hxn hsp
            · cases hc3
        · cases h
      · cases h
  · cases h
set_option maxHeartbeats 2000000 in
theorem b_h2_ok {md : List Nat} (hx : p.tables.exec = Jvm.exec) (hb : c.code = cc) (hown : s.vm.findClass own = some m.cls) (hT : ∀ w, w ∈ lw_tbl → goodWord w = true → w.before args s = true) (hK : va_K D vwCl [] s) (hd : decode cc pc = .ok (i, len)) (hchk : ai_chk own i aux = true)
    (hB : bb_ok B s) (hg : bw_ok g) (ht : bs_ok nu g t) (hP : va_P D vwCl (bw B g) H) (hD : va_D A (bw B g)) (hSs : va_S A H0 H locs) (hS : b_S B nu st vs) {r : List BV × BS} (h : b_h2 md i len aux st t = some r)
    (k : ∀ (g' : BG) (H' : Heap) (locs' : List Loc) (vs' : List Value), bg_same md g g' → bw_ok g' → bs_ok nu g' r.2 → va_P D vwCl (bw B g') H' → va_D A (bw B g') → va_S A H0 H' locs' → b_S B nu r.1 vs' → W p l e R s m args below meth c H' locs' cells slots Q (F0 m (pc + len) ls vs')) : W p l e R s m args below meth c H locs cells slots Q (F0 m pc ls vs) := by
  unfold b_h2 at h
  split at h
  · next ix ci j z v0 o r2 =>
    match vs, hS with
    | [], hS => exact hS.elim
    | [_], ⟨_, hS⟩ => exact hS.elim
    | u :: v :: vs, ⟨hu, hv, hS⟩ =>
      obtain ⟨P, rfl, hp, hP2, hat⟩ := hv
      split at h
      · next q hq =>
        obtain ⟨ci', fs⟩ := q
        split at h
        · next f row hf hr =>
          split at h
          · next hc =>
            cases h
            obtain ⟨rfl, hc1, hc2, hc3, hc4, hc5⟩ := hc
            have hc1 : ci' = ci := hc1
            subst hc1
            have hf : fs[j]? = some (.inl f) := hf
            have hq2 : bk_tab[bk_at P]? = some (.inl (ci', fs)) := by rw [hat]; exact hq
            have hw : (bw B g)[P]? = some (b_ad B P, .inr (ci', bw_fs B (g P) P fs)) := by rw [bw_get B g hP2, bw_o hq2]
            obtain ⟨row2, hr2, -, hty⟩ := bk_obj hq
            rw [hr] at hr2
            cases hr2
            have hchk : (match vwCl[ci']? with
              | some r => decide (j < r.2.2) && ai_w z (.fieldLink own ix r.1 (r.2.1 j).2.1 (r.2.1 j).2.2.1) && decide ((r.2.1 j).1 = r.1) && (!(r.2.1 j).2.2.2 || decide (r.1 = own))
              | none => false) = true := hchk
            rw [hr] at hchk
            simp only [Bool.and_eq_true, decide_eq_true_eq, Bool.or_eq_true, Bool.not_eq_true'] at hchk
            obtain ⟨⟨⟨c1, c2⟩, c3⟩, -⟩ := hchk
            obtain ⟨f1, f2, f3⟩ := ai_F_all ci' row hr
            obtain ⟨g1, g2⟩ := ai_w_ok c2
            have hlen : j < (bw_fs B (g P) P fs).length := by rw [bw_fs_len]; exact (List.getElem?_eq_some_iff.mp hf).1
            have hsp : bk_spec (bk_at P) j = some (.inl f) := by rw [bk_sO hq2]; exact hf
            have tfw := hty j _ hf
            have key : ∃ zz : Int, li_e nu v0.2 = some zz ∧ u = (if f.1 = 0 then Value.int (Int32.ofInt zz) else .long (Int64.ofInt zz)) ∧ narrow (ai_tf ci' j) u = u ∧ fits (ai_tf ci' j) u = true := by
              rcases bk_tf_w tfw with ⟨e0, -⟩ | ⟨e0, -⟩
              · obtain ⟨x, rfl, hx2⟩ := bv_N0 (hc2.trans e0) hu
                have hfit := bs_fit_ok ht hc3 hx2
                refine ⟨x.toInt, hx2, by rw [if_pos e0, fb_asI], ?_⟩
                unfold bk_tf at tfw
                split at tfw
                · next q e1 e2 => rw [e1]; exact ⟨rfl, rfl⟩
                · next q e1 e2 =>
                  cases e2
                  rw [Bool.and_eq_true, Bool.and_eq_true, decide_eq_true_eq, decide_eq_true_eq, decide_eq_true_eq] at tfw
                  rw [e1]
                  rcases ai_bool (x := x) (by omega) (by omega) with rfl | rfl
                  · exact ⟨rfl, rfl⟩
                  · exact ⟨rfl, rfl⟩
                · next q e1 e2 =>
                  cases e2
                  rw [Bool.and_eq_true, decide_eq_true_eq] at tfw
                  exact absurd (e0.symm.trans tfw.1) (by decide)
                · next e => cases e
                · next e => cases e
                · cases tfw
              · obtain ⟨x, rfl, hx2⟩ := bv_N1 (hc2.trans e0) hu
                refine ⟨x.toInt, hx2, by rw [if_neg (by omega), fb_asL], ?_⟩
                unfold bk_tf at tfw
                split at tfw
                · next q e1 e2 =>
                  cases e2
                  rw [Bool.and_eq_true, decide_eq_true_eq] at tfw
                  exact absurd (e0.symm.trans tfw.1) (by decide)
                · next q e1 e2 =>
                  cases e2
                  rw [Bool.and_eq_true, decide_eq_true_eq] at tfw
                  exact absurd (e0.symm.trans tfw.1) (by decide)
                · next q e1 e2 => rw [e1]; exact ⟨rfl, rfl⟩
                · next e => cases e
                · next e => cases e
                · cases tfw
            obtain ⟨zz, z1, z2, z3, z4⟩ := key
            have hfit := bs_fit_ok ht hc3 z1
            refine va_put (own := own) (ref := row.1) (C := row.1) (T := row.2.1) (N := row.2.2) (Ts := u_ws row.1 row.2.1 row.2.2) hx hb (fun w hw => hT w (f3 w hw) (ai_u_good _ _ _ w hw)) (fun w hw => hw) (ai_tf ci') f1 f2 hown hK hP hD hSs P hw hr j c1 (hT _ g1 g2) (fun x hx => by rw [c3] at hx; exact hx) hc4 (f1 j c1) z3 z4 hlen hd (fun H1 locs1 p1 d1 s1 => ?_)
            rw [z2, bw_setO hP2 hq2 hf zz] at p1 d1
            exact k _ H1 locs1 vs (bg_same.up hP2 (by rw [hat]; exact hc5)) (hg.up (fun q hq3 => by rw [hsp] at hq3; cases hq3; exact hfit)) (b_wr_ok ht hP2 hat (bk_lt (by rw [hat] at hsp; exact hsp)) hp (li_e_c nu (j : Int)) z1) p1 d1 s1 hS
          · cases h
        · cases h
      · cases h
  · next v0 x o r2 =>
    match vs, hS with
    | [], hS => exact hS.elim
    | [_], ⟨_, hS⟩ => exact hS.elim
    | [_, _], ⟨_, _, hS⟩ => exact hS.elim
    | u :: vj :: v :: vs, ⟨hu, hvj, hv, hS⟩ =>
      obtain ⟨P, rfl, hp, hP2, hat⟩ := hv
      split at h
      · next q hq =>
        obtain ⟨tt, n, f0⟩ := q
        split at h
        · next f hf =>
          have hf : f0 = .inl f := hf
          subst hf
          split at h
          · next hc =>
            cases h
            obtain ⟨rfl, hc1, hc2, hc3, hc4, hc5, hc6⟩ := hc
            obtain ⟨b, rfl, hxj⟩ := bv_N0 hc1 hvj
            obtain ⟨hin, hxn, hlt⟩ := b_in_ok ht hc3 hxj
            have hq2 : bk_tab[bk_at P]? = some (.inr (tt, n, .inl f)) := by rw [hat]; exact hq
            have hw : (bw B g)[P]? = some (b_ad B P, .inl (b_ac B P, n, bw_ar B (g P) P tt)) := by rw [bw_get B g hP2, bw_a hq2]
            obtain ⟨b1, b2, -⟩ := hB P tt n _ hP2 hq2
            obtain ⟨hta, hn⟩ := bk_arr hq
            have hsp : bk_spec (bk_at P) b.toNatClampNeg = some (.inl f) := bk_sA hq2 hlt
            obtain ⟨w1, w2, w3⟩ := bk_ta_w hta
            have hcode : ∀ j, bk_code (bk_at P) j ∈ md := fun j => by
              unfold bk_code at hc6 ⊢
              rw [hq2]
              rw [hq] at hc6
              rw [hat]
              exact hc6
            have fin : ∀ (zz : Int) (H1 : Heap) (locs1 : List Loc), li_e nu v0.2 = some zz → va_P D vwCl (bw B (bg_up g P b.toNatClampNeg zz)) H1 → va_D A (bw B (bg_up g P b.toNatClampNeg zz)) → va_S A H0 H1 locs1 → W p l e R s m args below meth c H1 locs1 cells slots Q (F0 m (pc + 1) ls vs) := fun zz H1 locs1 z1 p1 d1 s1 => by
              have hfit := bs_fit_ok ht hc5 z1
              exact k _ H1 locs1 vs (bg_same.up hP2 (hcode _)) (hg.up (fun q hq3 => by rw [hsp] at hq3; cases hq3; exact hfit)) (b_wr_ok ht hP2 hat (bk_lt (by rw [hat] at hsp; exact hsp)) hp hxn z1) p1 d1 s1 hS
            rcases w1 with ⟨e0, -⟩ | ⟨e0, -⟩
            · obtain ⟨u1, u2, u3, u4⟩ := w2 e0
              obtain ⟨y, rfl, hy⟩ := bv_N0 (hc2.trans e0) hu
              have hfit := bs_fit_ok ht hc5 hy
              have hw2 : (bw B g)[P]? = some (b_ad B P, .inl (b_ac B P, n, .inl (fun j => Int32.ofInt (g P j)))) := by
                rw [hw]; unfold bw_ar; rw [if_pos u1]
              unfold b_ts at hc4
              split at hc4
              · have e1 : tt = 1 := of_decide_eq_true hc4
                subst e1
                refine va_iast hx hb (ai_K1 hK b1 b2) hP hD hSs P 0 hw2 rfl hin hd (fun H1 locs1 p1 d1 s1 => ?_)
                rw [bw_setI hP2 hq2 u1] at p1 d1
                exact fin _ H1 locs1 hy p1 d1 s1
              · rcases (of_decide_eq_true hc4 : tt = 0 ∨ tt = 3) with e1 | e1
                · subst e1
                  have hb3 := u2 rfl
                  refine va_bast hx hb (ai_K1 hK b1 b2) hP hD hSs P 0 hw2 rfl hin hd (fun H1 locs1 p1 d1 s1 => ?_)
                  rw [vp_nar_byte, fb_byte (x := y) (by omega) (by omega), bw_setI hP2 hq2 u1] at p1 d1
                  exact fin _ H1 locs1 hy p1 d1 s1
                · subst e1
                  have hb3 := u3 rfl
                  have hbo : vp_nar .boolean y = y := by
                    rcases ai_bool (x := y) (by omega) (by omega) with rfl | rfl <;> rfl
                  refine va_zast hx hb (ai_K1 hK b1 b2) hP hD hSs P 0 hw2 rfl hin hd (fun H1 locs1 p1 d1 s1 => ?_)
                  rw [hbo, bw_setI hP2 hq2 u1] at p1 d1
                  exact fin _ H1 locs1 hy p1 d1 s1
              · have e1 : tt = 2 := of_decide_eq_true hc4
                subst e1
                cases u1
              · cases hc4
            · have e2 := w3 e0
              subst e2
              obtain ⟨y, rfl, hy⟩ := bv_N1 (hc2.trans e0) hu
              have hw2 : (bw B g)[P]? = some (b_ad B P, .inl (b_ac B P, n, .inr (.inl (fun j => Int64.ofInt (g P j))))) := by rw [hw]; rfl
              unfold b_ts at hc4
              split at hc4
              · cases (of_decide_eq_true hc4 : (2 : Nat) = 1)
              · rcases (of_decide_eq_true hc4 : (2 : Nat) = 0 ∨ (2 : Nat) = 3) with e1 | e1 <;> cases e1
              · refine va_last hx hb (ai_K1 hK b1 b2) hP hD hSs P 0 hw2 rfl hin hd (fun H1 locs1 p1 d1 s1 => ?_)
                rw [bw_setL hP2 hq2 rfl] at p1 d1
                exact fin _ H1 locs1 hy p1 d1 s1
              · cases hc4
          · cases h
        · cases h
      · cases h
  · cases h
end BH1
end
section
/-! ===== machine B: a pattern's names matched with forms ===== -/
def li_st (th : List Li) : LT → Option Li
  | [] => some (li_c 0)
  | q :: r => match th[q.1]?, li_st th r with
    | some a, some b => some (li_add (li_mul q.2 a) b)
    | _, _ => none
def li_s (th : List Li) (a : Li) : Option Li := match li_st th a.2 with
  | some b => some (li_sh a.1 b)
  | none => none
/-- what the forms of a pattern's names are worth -/
def li_T (nu : List Int) (th : List Li) (np : List Int) : Prop := th.length = np.length ∧ ∀ (i : Nat) (a : Li), th[i]? = some a → ∃ x, np[i]? = some x ∧ li_e nu a = some x
theorem li_T.mono {nu nv : List Int} (h : nu_le nu nv) {th : List Li} {np : List Int} (k : li_T nu th np) : li_T nv th np := ⟨k.1, fun i a ha => by
  obtain ⟨x, h1, h2⟩ := k.2 i a ha
  exact ⟨x, h1, li_e_mono h h2⟩⟩
theorem li_T.nil {nu : List Int} : li_T nu [] [] := ⟨rfl, fun i a h => by cases h⟩
theorem li_T.push {nu : List Int} {th : List Li} {np : List Int} (k : li_T nu th np) {a : Li} {x : Int} (h : li_e nu a = some x) : li_T nu (th ++ [a]) (np ++ [x]) := by
  refine ⟨by rw [List.length_append, List.length_append, k.1]; rfl, fun i b hb => ?_⟩
  by_cases hi : i < th.length
  · rw [List.getElem?_append_left hi] at hb
    obtain ⟨y, h1, h2⟩ := k.2 i b hb
    exact ⟨y, by rw [List.getElem?_append_left (by rw [← k.1]; exact hi)]; exact h1, h2⟩
  · rw [List.getElem?_append_right (by omega)] at hb
    have hz : i - th.length < 1 := (List.getElem?_eq_some_iff.mp hb).1
    rw [show i - th.length = 0 by omega] at hb
    cases hb
    refine ⟨x, ?_, h⟩
    rw [List.getElem?_append_right (by rw [← k.1]; omega), ← k.1, show i - th.length = 0 by omega]
    rfl
theorem li_st_ok {nu : List Int} {th : List Li} {np : List Int} (k : li_T nu th np) : ∀ {a : LT} {b : Li}, li_st th a = some b → ∃ x, li_t np a = some x ∧ li_e nu b = some x
  | [], b, h => by cases h; exact ⟨0, rfl, li_e_c nu 0⟩
  | q :: r, b, h => by
    have h : (match th[q.1]?, li_st th r with
      | some a, some b => some (li_add (li_mul q.2 a) b)
      | _, _ => none) = some b := h
    split at h
    · next a b' h1 h2 =>
      cases h
      obtain ⟨x, x1, x2⟩ := k.2 _ _ h1
      obtain ⟨y, y1, y2⟩ := li_st_ok k h2
      exact ⟨_, li_t_mk x1 y1, li_e_add (li_e_mul q.2 x2) y2⟩
    · cases h
theorem li_s_ok {nu : List Int} {th : List Li} {np : List Int} (k : li_T nu th np) {a b : Li} (h : li_s th a = some b) : ∃ x, li_e np a = some x ∧ li_e nu b = some x := by
  unfold li_s at h
  split at h
  · next b' hb =>
    cases h
    obtain ⟨y, y1, y2⟩ := li_st_ok k hb
    refine ⟨a.1 + y, li_e_mk y1, ?_⟩
    rw [Int.add_comm]
    exact li_e_sh a.1 y2
  · cases h
def bu_f (s : BS) (th : List Li) (f a : Li) : Option (List Li) := if f = li_n th.length then some (th ++ [a]) else match li_s th f with
  | some b => if bs_eq s b a then some th else none
  | none => none
theorem bu_f_ok {nu : List Int} {g : BG} {s : BS} (h : bs_ok nu g s) {th th' : List Li} {np : List Int} (k : li_T nu th np) {f a : Li} (hu : bu_f s th f a = some th') {x : Int} (hx : li_e nu a = some x) : ∃ nq, li_T nu th' nq ∧ nu_le np nq ∧ li_e nq f = some x := by
  unfold bu_f at hu
  split at hu
  · next e =>
    cases hu
    refine ⟨np ++ [x], k.push hx, nu_le.ap, ?_⟩
    rw [e, k.1]
    exact li_e_n (by rw [List.getElem?_append_right (Nat.le_refl _), Nat.sub_self]; rfl)
  · split at hu
    · next b hb =>
      split at hu
      · next c =>
        cases hu
        obtain ⟨y, y1, y2⟩ := li_s_ok k hb
        rw [bs_eq_ok h c y2 hx] at y1
        exact ⟨np, k, nu_le.rf, y1⟩
      · cases hu
    · cases hu
def bu_v (s : BS) (th : List Li) (p a : BV) : Option (List Li) := match p, a with
  | .inl p, .inl a => if p.1 = a.1 then bu_f s th p.2 a.2 else none
  | .inr (.inl p), .inr (.inl a) => if p.1 = a.1 then bu_f s th p.2 a.2 else none
  | .inr (.inr m), .inr (.inr n) => if m = n then some th else none
  | _, _ => none
theorem bu_v_ok {B : BE} {nu : List Int} {g : BG} {s : BS} (h : bs_ok nu g s) {th th' : List Li} {np : List Int} (k : li_T nu th np) {p a : BV} (hu : bu_v s th p a = some th') {v : Value} (hv : bv_V B nu a v) : ∃ nq, li_T nu th' nq ∧ nu_le np nq ∧ bv_V B nq p v := by
  unfold bu_v at hu
  split at hu
  · next p a =>
    split at hu
    · next e =>
      have hv : bv_N nu a v := hv
      unfold bv_N at hv
      split at hv
      · next c =>
        obtain ⟨x, rfl, hx⟩ := hv
        obtain ⟨nq, q1, q2, q3⟩ := bu_f_ok h k hu hx
        refine ⟨nq, q1, q2, ?_⟩
        show bv_N nq p _
        unfold bv_N
        rw [if_pos (e.trans c)]
        exact ⟨x, rfl, q3⟩
      · next c =>
        split at hv
        · next c2 =>
          obtain ⟨x, rfl, hx⟩ := hv
          obtain ⟨nq, q1, q2, q3⟩ := bu_f_ok h k hu hx
          refine ⟨nq, q1, q2, ?_⟩
          show bv_N nq p _
          unfold bv_N
          rw [if_neg (fun z => c (e.symm.trans z)), if_pos (e.trans c2)]
          exact ⟨x, rfl, q3⟩
        · next c2 =>
          obtain ⟨x, z, rfl, hx, hs⟩ := hv
          obtain ⟨nq, q1, q2, q3⟩ := bu_f_ok h k hu hx
          refine ⟨nq, q1, q2, ?_⟩
          show bv_N nq p _
          unfold bv_N
          rw [if_neg (fun z => c (e.symm.trans z)), if_neg (fun z => c2 (e.symm.trans z))]
          exact ⟨x, z, rfl, q3, hs⟩
    · cases hu
  · next p a =>
    split at hu
    · next e =>
      obtain ⟨P, rfl, h1, h2, h3⟩ := hv
      obtain ⟨nq, q1, q2, q3⟩ := bu_f_ok h k hu h1
      exact ⟨nq, q1, q2, P, rfl, q3, h2, h3.trans e.symm⟩
    · cases hu
  · split at hu
    · next e =>
      cases hu
      subst e
      exact ⟨np, k, nu_le.rf, hv⟩
    · cases hu
  · cases hu
def bu_S (s : BS) (th : List Li) : List BV → List BV → Option (List Li)
  | [], [] => some th
  | p :: ps, a :: as => match bu_v s th p a with
    | some th' => bu_S s th' ps as
    | none => none
  | _, _ => none
theorem bu_S_ok {B : BE} {nu : List Int} {g : BG} {s : BS} (h : bs_ok nu g s) : ∀ {ps as : List BV} {th th' : List Li} {np : List Int} {vs : List Value}, li_T nu th np → bu_S s th ps as = some th' → b_S B nu as vs → ∃ nq, li_T nu th' nq ∧ nu_le np nq ∧ b_S B nq ps vs
  | [], [], th, th', np, vs, k, hu, hv => by
    cases hu
    match vs, hv with
    | [], _ => exact ⟨np, k, nu_le.rf, trivial⟩
    | _ :: _, hv => exact hv.elim
  | [], _ :: _, th, th', np, vs, k, hu, hv => by cases hu
  | _ :: _, [], th, th', np, vs, k, hu, hv => by cases hu
  | p :: ps, a :: as, th, th', np, vs, k, hu, hv => by
    match vs, hv with
    | [], hv => exact hv.elim
    | v :: vs, hv =>
      have hu : (match bu_v s th p a with
        | some th' => bu_S s th' ps as
        | none => none) = some th' := hu
      split at hu
      · next t1 h1 =>
        obtain ⟨n1, q1, q2, q3⟩ := bu_v_ok h k h1 hv.1
        obtain ⟨n2, r1, r2, r3⟩ := bu_S_ok h q1 hu hv.2
        exact ⟨n2, r1, q2.tr r2, q3.mono r2, r3⟩
      · cases hu
/-- what is known to be a place of a kind -/
def b_rf : List BV → List (Nat × Li)
  | [] => []
  | .inr (.inl q) :: r => q :: b_rf r
  | _ :: r => b_rf r
def rf_ok (nu : List Int) (rf : List (Nat × Li)) : Prop := ∀ q, q ∈ rf → ∃ P : Nat, li_e nu q.2 = some (P : Int) ∧ P < 230 ∧ bk_at P = q.1
theorem rf_ok.mono {nu nv : List Int} (h : nu_le nu nv) {rf : List (Nat × Li)} (k : rf_ok nu rf) : rf_ok nv rf := fun q hq => by
  obtain ⟨P, h1, h2⟩ := k q hq
  exact ⟨P, li_e_mono h h1, h2⟩
theorem b_rf_ok {B : BE} {nu : List Int} : ∀ {as : List BV} {vs : List Value}, b_S B nu as vs → rf_ok nu (b_rf as)
  | [], _, _ => fun q hq => by cases hq
  | _ :: _, [], h => h.elim
  | .inl _ :: as, _ :: _, h => b_rf_ok (as := as) h.2
  | .inr (.inr _) :: as, _ :: _, h => b_rf_ok (as := as) h.2
  | .inr (.inl p) :: as, _ :: _, h => fun q hq => by
    rcases List.mem_cons.mp hq with rfl | hq
    · obtain ⟨P, -, h1, h2⟩ := h.1
      exact ⟨P, h1, h2⟩
    · exact b_rf_ok (as := as) h.2 q hq
def b_kn (s : BS) (rf : List (Nat × Li)) (k : Nat) (p : Li) : Bool := (decide (p.2 = []) && (decide (0 ≤ p.1) && (decide (p.1 < 230) && decide (bk_at p.1.toNat = k)))) || (decide ((k, p) ∈ rf) || s.2.2.any (fun e => decide (e.1 = k) && decide (e.2.1 = p)))
theorem b_kn_ok {nu : List Int} {g : BG} {s : BS} (h : bs_ok nu g s) {rf : List (Nat × Li)} (hr : rf_ok nu rf) {k : Nat} (hk : k < 1000) {p : Li} (c : b_kn s rf k p = true) : ∃ P : Nat, li_e nu p = some (P : Int) ∧ P < 230 ∧ bk_at P = k := by
  unfold b_kn at c
  rw [Bool.or_eq_true, Bool.or_eq_true] at c
  rcases c with c | c | c
  · simp only [Bool.and_eq_true, decide_eq_true_eq] at c
    obtain ⟨c1, c2, c3, c4⟩ := c
    obtain ⟨p1, p2⟩ := p
    have c1 : p2 = [] := c1
    subst c1
    have c2 : 0 ≤ p1 := c2
    have c3 : p1 < 230 := c3
    refine ⟨p1.toNat, ?_, by omega, c4⟩
    rw [show ((p1.toNat : Nat) : Int) = p1 by omega]
    exact li_e_c nu p1
  · exact hr _ (of_decide_eq_true c)
  · obtain ⟨e, he, c⟩ := List.any_eq_true.mp c
    rw [Bool.and_eq_true, decide_eq_true_eq, decide_eq_true_eq] at c
    have hm := h.2.2 e he
    unfold bc_e at hm
    rw [c.1, if_pos hk, c.2] at hm
    obtain ⟨P, X, m1, m2, m3, m4, -⟩ := hm
    exact ⟨P, m1, m3, m4⟩
/-- the index of a field or place, and its bounds -/
def b_ix (s : BS) (k : Nat) (x : Li) : Option (Nat × Int × Int) := match bk_tab[k]? with
  | some (.inl q) => if x.2 = [] ∧ 0 ≤ x.1 then (match q.2[x.1.toNat]? with
    | some (.inl f) => some f
    | _ => none) else none
  | some (.inr q) => if b_in s q.2.1 x then (match q.2.2 with
    | .inl f => some f
    | .inr _ => none) else none
  | none => none
theorem b_ix_ok {nu : List Int} {g : BG} {s : BS} (h : bs_ok nu g s) {k : Nat} {x : Li} {f : Nat × Int × Int} (c : b_ix s k x = some f) {z : Int} (hx : li_e nu x = some z) : ∃ X : Nat, li_e nu x = some (X : Int) ∧ bk_spec k X = some (.inl f) := by
  unfold b_ix at c
  split at c
  · next q hq =>
    split at c
    · next hc =>
      split at c
      · next f' hf =>
        cases c
        obtain ⟨x1, x2⟩ := x
        obtain ⟨c1, c2⟩ := hc
        have c1 : x2 = [] := c1
        subst c1
        have c2 : 0 ≤ x1 := c2
        refine ⟨x1.toNat, ?_, ?_⟩
        · rw [show ((x1.toNat : Nat) : Int) = x1 by omega]
          exact li_e_c nu x1
        · rw [bk_sO hq]; exact hf
      · cases c
    · cases c
  · next q hq =>
    split at c
    · next hc =>
      split at c
      · next f' hf =>
        cases c
        unfold b_in at hc
        rw [Bool.and_eq_true] at hc
        have h1 := bs_ge_ok h hc.1 hx
        have h2 := bs_ge_ok h hc.2 (li_e_sub (li_e_c nu _) hx)
        refine ⟨z.toNat, by rw [show ((z.toNat : Nat) : Int) = z by omega]; exact hx, ?_⟩
        obtain ⟨q1, q2, q3⟩ := q
        have hf : q3 = .inl f := hf
        subst hf
        have h2 : 0 ≤ (q2 : Int) - 1 - z := h2
        exact bk_sA hq (by omega)
      · cases c
    · cases c
  · cases c
def bq_B (k : Nat) : Int × Int := if k = 1003 then (0, 255) else if k = 1004 ∨ k = 1005 then (0, 1) else (-9223372036854775808, 9223372036854775807)
theorem bq_B_ok (k : Nat) (a b : Int) : (bq_B k).1 ≤ bq_F k a b ∧ bq_F k a b ≤ (bq_B k).2 := by
  have big : ∀ z : Int64, -9223372036854775808 ≤ z.toInt ∧ z.toInt ≤ 9223372036854775807 := fun z => by have := fb_rngL z; omega
  unfold bq_B bq_F
  by_cases h3 : k = 1003
  · subst h3
    simp only [if_true]
    rw [if_neg (by decide), if_neg (by decide), if_neg (by decide)]
    exact bq_b_rng a b
  · rw [if_neg h3]
    by_cases h4 : k = 1004
    · subst h4
      rw [if_pos (Or.inl rfl), if_neg (by decide), if_neg (by decide), if_neg (by decide), if_neg (by decide), if_pos rfl]
      split <;> (show (0 : Int) ≤ _ ∧ _ ≤ (1 : Int); omega)
    · by_cases h5 : k = 1005
      · subst h5
        rw [if_pos (Or.inr rfl), if_neg (by decide), if_neg (by decide), if_neg (by decide), if_neg (by decide), if_neg (by decide), if_pos rfl]
        split <;> (show (0 : Int) ≤ _ ∧ _ ≤ (1 : Int); omega)
      · rw [if_neg (by omega)]
        split
        · exact big _
        · split
          · exact big _
          · split
            · exact big _
            · split
              · exact big _
              · split
                · exact big _
                · split
                  · have := fb_rng (Int64.ofInt a).toInt32
                    show (-9223372036854775808 : Int) ≤ _ ∧ _ ≤ (9223372036854775807 : Int)
                    omega
                  · show (-9223372036854775808 : Int) ≤ 0 ∧ (0 : Int) ≤ 9223372036854775807
                    omega
/-! the signs of a text: whether all of the first x bytes of a long are -/
def sg_y (q : Int × Int) : Bool := (decide (97 ≤ q.1) && decide (q.2 ≤ 122)) || ((decide (46 ≤ q.1) && decide (q.2 ≤ 47)) || (decide (32 ≤ q.1) && decide (q.2 ≤ 32)))
def sg_n (q : Int × Int) : Bool := decide (q.2 ≤ 31) || ((decide (33 ≤ q.1) && decide (q.2 ≤ 45)) || ((decide (48 ≤ q.1) && decide (q.2 ≤ 96)) || decide (123 ≤ q.1)))
theorem sg_y_ok {q : Int × Int} (h : sg_y q = true) {z : Int} (h1 : q.1 ≤ z) (h2 : z ≤ q.2) : bq_g z = true := by
  unfold sg_y at h
  unfold bq_g
  simp only [Bool.or_eq_true, Bool.and_eq_true, decide_eq_true_eq] at h ⊢
  omega
theorem sg_n_ok {q : Int × Int} (h : sg_n q = true) {z : Int} (h1 : q.1 ≤ z) (h2 : z ≤ q.2) : bq_g z = false := by
  unfold sg_n at h
  simp only [Bool.or_eq_true, Bool.and_eq_true, decide_eq_true_eq] at h
  rw [← Bool.not_eq_true]
  unfold bq_g
  simp only [Bool.or_eq_true, Bool.and_eq_true, decide_eq_true_eq]
  omega
theorem bq_all_f {w : Int} {j : Nat} (hj : bq_g (bq_b w (8 * (j : Int))) = false) : ∀ n, j < n → bq_all w n = false
  | 0, h => by omega
  | n + 1, h => by
    show (bq_all w n && bq_g (bq_b w (8 * (n : Int)))) = false
    by_cases e : j = n
    · subst e
      rw [hj, Bool.and_false]
    · rw [bq_all_f hj n (by omega), Bool.false_and]
def bs_8 (s : BS) (p x : Li) (f : Int × Int → Bool) : Bool := s.2.2.any (fun q => decide (q.1 = 1003 ∧ q.2.1 = p ∧ q.2.2.1 = li_mul 8 x) && f (li_v s.1 q.2.2.2))
theorem bs_8_ok {nu : List Int} {g : BG} {s : BS} (h : bs_ok nu g s) {p x : Li} {f : Int × Int → Bool} (c : bs_8 s p x f = true) {zp zx : Int} (hp : li_e nu p = some zp) (hx : li_e nu x = some zx) : ∃ q : Int × Int, f q = true ∧ q.1 ≤ bq_b zp (8 * zx) ∧ bq_b zp (8 * zx) ≤ q.2 := by
  unfold bs_8 at c
  obtain ⟨q, q1, q2⟩ := List.any_eq_true.mp c
  rw [Bool.and_eq_true, decide_eq_true_eq] at q2
  obtain ⟨⟨c1, c2, c3⟩, c4⟩ := q2
  have m := h.2.2 q q1
  unfold bc_e at m
  rw [c1, if_neg (by decide), c2, c3] at m
  obtain ⟨a, b, m1, m2, m3⟩ := m
  rw [hp] at m1
  cases m1
  rw [li_e_mul 8 hx] at m2
  cases m2
  rw [bq_G_F (by decide), bq_F3] at m3
  have v := li_v_ok h.1 m3
  exact ⟨_, c4, v.1, v.2⟩
def bs_5 (s : BS) (p x : Li) : Option Li := if li_k s x = some 0 then some (li_c 1) else match s.2.2.find? (fun e => decide (e.1 = 1005 ∧ e.2.1 = p) && bs_eq s e.2.2.1 x) with
  | some e => some e.2.2.2
  | none => if s.2.2.any (fun e => decide (e.1 = 1005 ∧ e.2.1 = p ∧ li_k s e.2.2.2 = some 1) && (bs_eq s (li_sh 1 e.2.2.1) x && (bs_ge s e.2.2.1 && bs_8 s p e.2.2.1 sg_y))) then some (li_c 1)
    else if s.2.2.any (fun e => decide (e.1 = 1005 ∧ e.2.1 = p) && (bs_ge s e.2.2.1 && (bs_ge s (li_sh (-1) (li_sub x e.2.2.1)) && bs_8 s p e.2.2.1 sg_n))) then some (li_c 0) else none
theorem bs_5_ok {nu : List Int} {g : BG} {s : BS} (h : bs_ok nu g s) {p x v : Li} (c : bs_5 s p x = some v) {zp zx : Int} (hp : li_e nu p = some zp) (hx : li_e nu x = some zx) : li_e nu v = some (bq_F 1005 zp zx) := by
  have e5 : ∀ a b, bq_F 1005 a b = if bq_all a b.toNat then 1 else 0 := bq_F5
  have get : ∀ e, e ∈ s.2.2 → e.1 = 1005 → e.2.1 = p → ∃ b, li_e nu e.2.2.1 = some b ∧ li_e nu e.2.2.2 = some (bq_F 1005 zp b) := by
    intro e he c1 c2
    have m := h.2.2 e he
    unfold bc_e at m
    rw [c1, if_neg (by decide), c2] at m
    obtain ⟨a, b, m1, m2, m3⟩ := m
    rw [hp] at m1
    cases m1
    rw [bq_G_F (by decide)] at m3
    exact ⟨b, m2, m3⟩
  unfold bs_5 at c
  split at c
  · next hk =>
    cases c
    have := li_k_ok h hk hx
    subst this
    rw [e5]
    exact li_e_c nu 1
  split at c
  · next e he =>
    cases c
    have h0 := List.find?_some he
    rw [Bool.and_eq_true, decide_eq_true_eq] at h0
    obtain ⟨b, b1, b2⟩ := get e (List.mem_of_find?_eq_some he) h0.1.1 h0.1.2
    have := bs_eq_ok h h0.2 b1 hx
    subst this
    exact b2
  split at c
  · next ha =>
    cases c
    obtain ⟨e, he, h0⟩ := List.any_eq_true.mp ha
    rw [Bool.and_eq_true, Bool.and_eq_true, Bool.and_eq_true, decide_eq_true_eq] at h0
    obtain ⟨⟨c1, c2, c3⟩, c4, c5, c6⟩ := h0
    obtain ⟨b, b1, b2⟩ := get e he c1 c2
    have b0 := bs_ge_ok h c5 b1
    have b3 := li_k_ok h c3 b2
    obtain ⟨q, q1, q2, q3⟩ := bs_8_ok h c6 hp b1
    have hg := sg_y_ok q1 q2 q3
    have hz := bs_eq_ok h c4 (li_e_sh 1 b1) hx
    obtain ⟨n, rfl⟩ := Int.eq_ofNat_of_zero_le b0
    rw [e5] at b3
    have hall : bq_all zp n = true := by
      split at b3
      · next k => exact k
      · omega
    rw [e5, show zx.toNat = n + 1 by omega]
    have : bq_all zp (n + 1) = true := by
      show (bq_all zp n && bq_g (bq_b zp (8 * (n : Int)))) = true
      rw [hall, hg]
      rfl
    rw [if_pos this]
    exact li_e_c nu 1
  split at c
  · next ha =>
    cases c
    obtain ⟨e, he, h0⟩ := List.any_eq_true.mp ha
    rw [Bool.and_eq_true, Bool.and_eq_true, Bool.and_eq_true, decide_eq_true_eq] at h0
    obtain ⟨⟨c1, c2⟩, c5, c7, c6⟩ := h0
    obtain ⟨b, b1, b2⟩ := get e he c1 c2
    have b0 := bs_ge_ok h c5 b1
    have b4 := bs_ge_ok h c7 (li_e_sh (-1) (li_e_sub hx b1))
    obtain ⟨q, q1, q2, q3⟩ := bs_8_ok h c6 hp b1
    have hg := sg_n_ok q1 q2 q3
    obtain ⟨n, rfl⟩ := Int.eq_ofNat_of_zero_le b0
    have := bq_all_f (w := zp) (j := n) hg zx.toNat (by omega)
    rw [e5, if_neg (by rw [this]; decide)]
    exact li_e_c nu 0
  · cases c
/-- what is at a place now: known, or a new name -/
def bu_1 (s : BS) (rf : List (Nat × Li)) (k : Nat) (p x : Li) : Option (BS × Li) := match s.2.2.find? (fun e => decide (e.1 = k ∧ e.2.1 = p ∧ e.2.2.1 = x)) with
  | some e => some (s, e.2.2.2)
  | none => match (if k < 1000 then s.2.2.find? (fun e => decide (e.1 = k) && (bs_eq s e.2.1 p && bs_eq s e.2.2.1 x)) else none) with
  | some e => some (s, e.2.2.2)
  | none => if k < 1000 then (match b_ix s k x with
    | some f => if b_kn s rf k p then some (bs_q s k p x f.2.1 f.2.2) else none
    | none => none) else if k = 1010 then none else match (if k = 1005 then bs_5 s p x else none) with
    | some v => some (s, v)
    | none => some (bs_q s k p x (bq_B k).1 (bq_B k).2)
def bc_at (nu : List Int) (g : BG) (k : Nat) (p x : Li) (y : Int) : Prop := if k < 1000 then ∃ (P X : Nat), li_e nu p = some (P : Int) ∧ li_e nu x = some (X : Int) ∧ P < 230 ∧ bk_at P = k ∧ y = g P X else ∃ a b : Int, li_e nu p = some a ∧ li_e nu x = some b ∧ y = bq_G g k a b
theorem bu_1_ok {nu : List Int} {g : BG} {s : BS} (h : bs_ok nu g s) (hg : bw_ok g) {rf : List (Nat × Li)} (hr : rf_ok nu rf) {k : Nat} {p x : Li} {r : BS × Li} (c : bu_1 s rf k p x = some r) {zp zx : Int} (hp : li_e nu p = some zp) (hx : li_e nu x = some zx) : ∃ (nv : List Int) (y : Int), nu_le nu nv ∧ bs_ok nv g r.1 ∧ li_e nv r.2 = some y ∧ bc_at nv g k p x y := by
  unfold bu_1 at c
  split at c
  · next e he =>
    cases c
    have hc0 := List.find?_some he
    have hc : e.1 = k ∧ e.2.1 = p ∧ e.2.2.1 = x := of_decide_eq_true hc0
    obtain ⟨c1, c2, c3⟩ := hc
    have hm := h.2.2 e (List.mem_of_find?_eq_some he)
    unfold bc_e at hm
    unfold bc_at
    rw [c1, c2, c3] at hm
    split
    · next hk =>
      rw [if_pos hk] at hm
      obtain ⟨P, X, m1, m2, m3, m4, m5⟩ := hm
      exact ⟨nu, _, nu_le.rf, h, m5, P, X, m1, m2, m3, m4, rfl⟩
    · next hk =>
      rw [if_neg hk] at hm
      obtain ⟨a, b, m1, m2, m3⟩ := hm
      exact ⟨nu, _, nu_le.rf, h, m3, a, b, m1, m2, rfl⟩
  · split at c
    · next e he =>
      cases c
      split at he
      · next hk =>
        have hc0 := List.find?_some he
        rw [Bool.and_eq_true, Bool.and_eq_true, decide_eq_true_eq] at hc0
        obtain ⟨c1, c2, c3⟩ := hc0
        have hm := h.2.2 e (List.mem_of_find?_eq_some he)
        unfold bc_e at hm
        rw [c1, if_pos hk] at hm
        obtain ⟨P, X, m1, m2, m3, m4, m5⟩ := hm
        have e1 := bs_eq_ok h c2 m1 hp
        have e2 := bs_eq_ok h c3 m2 hx
        refine ⟨nu, _, nu_le.rf, h, m5, ?_⟩
        unfold bc_at
        rw [if_pos hk]
        exact ⟨P, X, by rw [e1]; exact hp, by rw [e2]; exact hx, m3, m4, rfl⟩
      · cases he
    split at c
    · next hk =>
      split at c
      · next f hf =>
        split at c
        · next hkn =>
          cases c
          obtain ⟨P, p1, p2, p3⟩ := b_kn_ok h hr hk hkn
          obtain ⟨X, x1, x2⟩ := b_ix_ok h hf hx
          obtain ⟨nv, n1, n2, n3⟩ := bs_rd h hg p2 p3 p1 x1 x2
          refine ⟨nv, g P X, n1, n2, n3, ?_⟩
          unfold bc_at
          rw [if_pos hk]
          exact ⟨P, X, li_e_mono n1 p1, li_e_mono n1 x1, p2, p3, rfl⟩
        · cases c
      · cases c
    · next hk =>
      split at c
      · cases c
      next hn =>
      split at c
      · next v hv =>
        cases c
        split at hv
        · next h5 =>
          subst h5
          refine ⟨nu, _, nu_le.rf, h, bs_5_ok h hv hp hx, ?_⟩
          unfold bc_at
          rw [if_neg hk]
          exact ⟨zp, zx, hp, hx, (bq_G_F hn _ _).symm⟩
        · cases hv
      cases c
      obtain ⟨nv, n1, n2, n3⟩ := bs_q_R h hk hn hp hx (bq_B_ok k zp zx).1 (bq_B_ok k zp zx).2
      refine ⟨nv, _, n1, n2, n3, ?_⟩
      unfold bc_at
      rw [if_neg hk]
      exact ⟨zp, zx, li_e_mono n1 hp, li_e_mono n1 hx, (bq_G_F hn _ _).symm⟩
def bu_C (rf : List (Nat × Li)) : BS → List Li → BCA → Option (List Li × BS)
  | s, th, [] => some (th, s)
  | s, th, e :: ca => match li_s th e.2.1 with
    | none => none
    | some p => if e.1 < 1000 ∧ e.2.2.1 = li_n th.length then (match s.2.2.find? (fun q => decide (q.1 = e.1 ∧ q.2.1 = p)) with
      | some q => (match bu_f s (th ++ [q.2.2.1]) e.2.2.2 q.2.2.2 with
        | some th' => bu_C rf s th' ca
        | none => none)
      | none => none) else match li_s th e.2.2.1 with
      | some x => (match bu_1 s rf e.1 p x with
        | some r => (match bu_f r.1 th e.2.2.2 r.2 with
          | some th' => bu_C rf r.1 th' ca
          | none => none)
        | none => none)
      | none => none
theorem bc_at_e {nu np : List Int} {g : BG} {k : Nat} {p x p' x' v : Li} {y zp zx : Int} (h : bc_at nu g k p' x' y) (hp : li_e np p = some zp) (hp' : li_e nu p' = some zp) (hx : li_e np x = some zx) (hx' : li_e nu x' = some zx) (hv : li_e np v = some y) : bc_e np g (k, p, x, v) := by
  unfold bc_at at h
  unfold bc_e
  split
  · next hk =>
    have hk : k < 1000 := hk
    rw [if_pos hk] at h
    obtain ⟨P, X, h1, h2, h3, h4, rfl⟩ := h
    rw [hp'] at h1
    rw [hx'] at h2
    cases h1
    cases h2
    exact ⟨P, X, hp, hx, h3, h4, hv⟩
  · next hk =>
    have hk : ¬ k < 1000 := hk
    rw [if_neg hk] at h
    obtain ⟨a, b, h1, h2, rfl⟩ := h
    rw [hp'] at h1
    rw [hx'] at h2
    cases h1
    cases h2
    exact ⟨zp, zx, hp, hx, hv⟩
theorem bu_C_ok {g : BG} (hg : bw_ok g) {rf : List (Nat × Li)} : ∀ {ca : BCA} {nu : List Int} {s : BS} {th : List Li} {np : List Int} {r : List Li × BS}, bs_ok nu g s → rf_ok nu rf → li_T nu th np → bu_C rf s th ca = some r → ∃ nv nq, nu_le nu nv ∧ bs_ok nv g r.2 ∧ li_T nv r.1 nq ∧ nu_le np nq ∧ bc_ok nq g ca
  | [], nu, s, th, np, r, h, hr, k, c => by
    cases c
    exact ⟨nu, np, nu_le.rf, h, k, nu_le.rf, fun e he => by cases he⟩
  | e :: ca, nu, s, th, np, r, h, hr, k, c => by
    unfold bu_C at c
    split at c
    · cases c
    next p h1 =>
    obtain ⟨zp, a1, a2⟩ := li_s_ok k h1
    split at c
    · next hnew =>
      split at c
      · next q hq =>
        have hc0 := List.find?_some hq
        have hc1 : q.1 = e.1 ∧ q.2.1 = p := of_decide_eq_true hc0
        have hm := h.2.2 q (List.mem_of_find?_eq_some hq)
        unfold bc_e at hm
        rw [hc1.1, if_pos hnew.1, hc1.2] at hm
        obtain ⟨P, X, m1, m2, m3, m4, m5⟩ := hm
        split at c
        · next th' ht =>
          obtain ⟨nq, q1, q2, q3⟩ := bu_f_ok h (k.push m2) ht m5
          obtain ⟨nw, nr, r1', r2, r3, r4, r5⟩ := bu_C_ok hg h hr q1 c
          have hpx : li_e (np ++ [(X : Int)]) e.2.2.1 = some (X : Int) := by
            rw [hnew.2, k.1]
            exact li_e_n (by rw [List.getElem?_append_right (Nat.le_refl _), Nat.sub_self]; rfl)
          refine ⟨nw, nr, r1', r2, r3, (nu_le.ap.tr q2).tr r4, fun e' he' => ?_⟩
          rcases List.mem_cons.mp he' with rfl | he'
          · unfold bc_e
            rw [if_pos hnew.1]
            rw [a2] at m1
            cases m1
            exact ⟨P, X, li_e_mono ((nu_le.ap.tr q2).tr r4) a1, li_e_mono (q2.tr r4) hpx, m3, m4, li_e_mono r4 q3⟩
          · exact r5 e' he'
        · cases c
      · cases c
    · split at c
      · next x h2 =>
        obtain ⟨zx, b1, b2⟩ := li_s_ok k h2
        split at c
        · next r1 hr1 =>
          obtain ⟨nv, y, n1, n2, n3, n4⟩ := bu_1_ok h hg hr hr1 a2 b2
          split at c
          · next th' ht =>
            obtain ⟨nq, q1, q2, q3⟩ := bu_f_ok n2 (k.mono n1) ht n3
            obtain ⟨nw, nr, r1', r2, r3, r4, r5⟩ := bu_C_ok hg n2 (hr.mono n1) q1 c
            refine ⟨nw, nr, n1.tr r1', r2, r3, q2.tr r4, fun e' he' => ?_⟩
            rcases List.mem_cons.mp he' with rfl | he'
            · exact (bc_at_e n4 (li_e_mono q2 a1) (li_e_mono n1 a2) (li_e_mono q2 b1) (li_e_mono n1 b2) q3).mono r4
            · exact r5 e' he'
          · cases c
        · cases c
      · cases c
def bu_be (s : BS) : LB → List Li → Bool
  | [], [] => true
  | q :: be, a :: th => bs_fit s q.1 q.2 a && bu_be s be th
  | _, _ => false
theorem bu_be_get {s : BS} : ∀ {be : LB} {th : List Li}, bu_be s be th = true → be.length = th.length ∧ ∀ (i : Nat) (a : Li), th[i]? = some a → ∃ q, be[i]? = some q ∧ bs_fit s q.1 q.2 a = true
  | [], [], _ => ⟨rfl, fun i a h => by cases h⟩
  | [], _ :: _, h => by cases h
  | _ :: _, [], h => by cases h
  | q :: be, a :: th, h => by
    have h : (bs_fit s q.1 q.2 a && bu_be s be th) = true := h
    rw [Bool.and_eq_true] at h
    obtain ⟨g1, g2⟩ := bu_be_get h.2
    refine ⟨by rw [List.length_cons, List.length_cons, g1], fun i b hb => ?_⟩
    match i, hb with
    | 0, hb => cases hb; exact ⟨q, rfl, h.1⟩
    | i + 1, hb => exact g2 i b hb
theorem bu_be_ok {nu : List Int} {g : BG} {s : BS} (h : bs_ok nu g s) {be : LB} {th : List Li} {np : List Int} (k : li_T nu th np) (c : bu_be s be th = true) : lb_ok np be := by
  obtain ⟨g1, g2⟩ := bu_be_get c
  refine ⟨g1.trans k.1, fun n x hx => ?_⟩
  have hn : n < th.length := by rw [k.1]; exact (List.getElem?_eq_some_iff.mp hx).1
  obtain ⟨q, q1, q2⟩ := g2 n _ (List.getElem?_eq_getElem hn)
  obtain ⟨y, y1, y2⟩ := k.2 n _ (List.getElem?_eq_getElem hn)
  rw [hx] at y1
  cases y1
  exact ⟨q, q1, bs_fit_ok h q2 y2⟩
def bu_fs (s : BS) (th : List Li) (fs : List Li) : Bool := fs.all (fun f => match li_s th f with
  | some b => bs_ge s b
  | none => false)
theorem bu_fs_ok {nu : List Int} {g : BG} {s : BS} (h : bs_ok nu g s) {fs : List Li} {th : List Li} {np : List Int} (k : li_T nu th np) (c : bu_fs s th fs = true) : lf_ok np fs := fun f hf => by
  have c := List.all_eq_true.mp c f hf
  split at c
  · next b hb =>
    obtain ⟨x, x1, x2⟩ := li_s_ok k hb
    exact ⟨x, x1, bs_ge_ok h c x2⟩
  · cases c
/-- a pattern (values, state) met by values in a state -/
def bu_all (s : BS) (th : List Li) (ps as : List BV) (rf : List (Nat × Li)) (pt : BS) : Option (List Li × BS) := match bu_S s th ps as with
  | some th1 => match bu_C rf s th1 pt.2.2 with
    | some r => if bu_be r.2 pt.1 r.1 && bu_fs r.2 r.1 pt.2.1 then some r else none
    | none => none
  | none => none
theorem bu_all_ok {B : BE} {nu : List Int} {g : BG} {s : BS} (h : bs_ok nu g s) (hg : bw_ok g) {th : List Li} {np : List Int} (k : li_T nu th np) {ps as : List BV} {rf : List (Nat × Li)} (hr : rf_ok nu rf) {pt : BS} {r : List Li × BS} (c : bu_all s th ps as rf pt = some r) {vs : List Value} (hv : b_S B nu as vs) :
    ∃ nv nq, nu_le nu nv ∧ bs_ok nv g r.2 ∧ li_T nv r.1 nq ∧ nu_le np nq ∧ b_S B nq ps vs ∧ bs_ok nq g pt := by
  unfold bu_all at c
  split at c
  · next th1 h1 =>
    obtain ⟨n1, a1, a2, a3⟩ := bu_S_ok h k h1 hv
    split at c
    · next r1 hr1 =>
      obtain ⟨nv, nq, b1, b2, b3, b4, b5⟩ := bu_C_ok hg h hr a1 hr1
      split at c
      · next hc =>
        cases c
        rw [Bool.and_eq_true] at hc
        exact ⟨nv, nq, b1, b2, b3, a2.tr b4, a3.mono b4, bu_be_ok b2 b3 hc.1, bu_fs_ok b2 b3 hc.2, b5⟩
      · cases c
    · cases c
  · cases c
def li_ids (n : Nat) : List Li := (List.range n).map li_n
theorem li_ids_ok {nu n0 : List Int} (h : nu_le n0 nu) : li_T nu (li_ids n0.length) n0 := by
  refine ⟨by unfold li_ids; rw [List.length_map, List.length_range], fun i a ha => ?_⟩
  unfold li_ids at ha
  rw [List.getElem?_map] at ha
  by_cases hi : i < n0.length
  · rw [List.getElem?_range hi] at ha
    cases ha
    exact ⟨n0[i], List.getElem?_eq_getElem hi, li_e_n (h i _ (List.getElem?_eq_getElem hi))⟩
  · rw [List.getElem?_eq_none (by rw [List.length_range]; omega)] at ha
    cases ha
/-- locals of a loop's head -/
def b_pick (lo : BLo) : List (Nat × BV) → Option (List BV)
  | [] => some []
  | q :: r => match lo.find? (fun x => x.1 == q.1), b_pick lo r with
    | some x, some as => some (x.2 :: as)
    | _, _ => none
theorem b_pick_ok {B : BE} {nu : List Int} {lo : BLo} {lv : List (Nat × Value)} (hL : b_L B nu lo lv) : ∀ {ps : List (Nat × BV)} {as : List BV}, b_pick lo ps = some as → ∃ lw : List (Nat × Value), (∀ q ∈ lw, q ∈ lv) ∧ lw.map Prod.fst = ps.map Prod.fst ∧ b_S B nu as (lw.map Prod.snd)
  | [], as, h => by cases h; exact ⟨[], (fun q hq => by cases hq), rfl, trivial⟩
  | q :: r, as, h => by
    have h : (match lo.find? (fun x => x.1 == q.1), b_pick lo r with
      | some x, some as => some (x.2 :: as)
      | _, _ => none) = some as := h
    split at h
    · next x as' h1 h2 =>
      cases h
      obtain ⟨k, v, k1, k2⟩ := b_find q.1 hL h1
      obtain ⟨lw, w1, w2, w3⟩ := b_pick_ok hL h2
      refine ⟨(q.1, v) :: lw, fun z hz => ?_, by rw [List.map_cons, List.map_cons, w2], k2, w3⟩
      rcases List.mem_cons.mp hz with rfl | hz
      · exact List.mem_of_getElem? k1
      · exact w1 z hz
    · cases h
theorem b_S_L {B : BE} {nu : List Int} : ∀ {ps : List (Nat × BV)} {lw : List (Nat × Value)}, lw.map Prod.fst = ps.map Prod.fst → b_S B nu (ps.map Prod.snd) (lw.map Prod.snd) → b_L B nu ps lw
  | [], [], _, _ => trivial
  | [], _ :: _, h, _ => by cases h
  | _ :: _, [], h, _ => by cases h
  | p :: ps, w :: lw, h, k => by
    rw [List.map_cons, List.map_cons] at h
    obtain ⟨h1, h2⟩ := List.cons.inj h
    exact ⟨⟨h1.symm, k.1⟩, b_S_L h2 k.2⟩
/-! outcomes -/
def b_cd (e : Nat × Li × Li × Li) : Option Nat := match bk_tab[e.1]? with
  | some (.inl _) => if e.2.2.1.2 = [] ∧ 0 ≤ e.2.2.1.1 then some (e.1 * 64 + e.2.2.1.1.toNat) else none
  | some (.inr _) => some (e.1 * 64)
  | none => none
def b_kp (md : List Nat) (e : Nat × Li × Li × Li) : Bool := decide (1000 ≤ e.1) || (match b_cd e with
  | some c => decide (c ∉ md)
  | none => false)
theorem b_kp_ok {md : List Nat} {g g' : BG} (hs : bg_same md g g') {nu : List Int} {ca : BCA} (h : bc_ok nu g ca) : bc_ok nu g' (ca.filter (b_kp md)) := fun e he => by
  obtain ⟨h1, h2⟩ := List.mem_filter.mp he
  have hm := h e h1
  unfold bc_e at hm ⊢
  split
  · next hk =>
    rw [if_pos hk] at hm
    obtain ⟨P, X, m1, m2, m3, m4, m5⟩ := hm
    refine ⟨P, X, m1, m2, m3, m4, ?_⟩
    rw [hs P X (fun _ => ?_)]
    · exact m5
    unfold b_kp at h2
    rw [Bool.or_eq_true, decide_eq_true_eq] at h2
    rcases h2 with h2 | h2
    · omega
    split at h2
    · next c hc =>
      have h2 : c ∉ md := of_decide_eq_true h2
      unfold b_cd at hc
      unfold bk_code
      rw [m4]
      split at hc
      · next q hq =>
        rw [hq]
        split at hc
        · next hx =>
          cases hc
          obtain ⟨e1, e2, ⟨x1, x2⟩, e4⟩ := e
          obtain ⟨y1, y2⟩ := hx
          have y1 : x2 = [] := y1
          subst y1
          have y2 : 0 ≤ x1 := y2
          have m2 : li_e nu (li_c x1) = some (X : Int) := m2
          rw [li_e_c] at m2
          have m2 := Option.some.inj m2
          show e1 * 64 + X ∉ md
          rw [show X = x1.toNat by omega]
          exact h2
        · cases hc
      · next q hq =>
        rw [hq]
        cases hc
        exact h2
      · cases hc
    · cases h2
  · next hk =>
    rw [if_neg hk] at hm
    obtain ⟨a, b, m1, m2, m3⟩ := hm
    exact ⟨a, b, m1, m2, by rw [bq_G_eq (hs.out (by omega))]; exact m3⟩
def bu_sv (th : List Li) (v : BV) : Option BV := match v with
  | .inl q => match li_s th q.2 with
    | some b => some (.inl (q.1, b))
    | none => none
  | .inr (.inl q) => match li_s th q.2 with
    | some b => some (.inr (.inl (q.1, b)))
    | none => none
  | .inr (.inr n) => some (.inr (.inr n))
theorem bu_sv_ok {B : BE} {nu : List Int} {th : List Li} {np : List Int} (k : li_T nu th np) {a b : BV} (h : bu_sv th a = some b) {v : Value} (hv : bv_V B np a v) : bv_V B nu b v := by
  unfold bu_sv at h
  split at h
  · next q =>
    split at h
    · next f hf =>
      cases h
      obtain ⟨x, x1, x2⟩ := li_s_ok k hf
      have hv : bv_N np q v := hv
      show bv_N nu (q.1, f) v
      unfold bv_N at hv ⊢
      dsimp only
      split
      · next c =>
        rw [if_pos c] at hv
        obtain ⟨y, y1, y2⟩ := hv
        rw [x1] at y2
        cases y2
        exact ⟨y, y1, x2⟩
      · next c =>
        rw [if_neg c] at hv
        split
        · next c2 =>
          rw [if_pos c2] at hv
          obtain ⟨y, y1, y2⟩ := hv
          rw [x1] at y2
          cases y2
          exact ⟨y, y1, x2⟩
        · next c2 =>
          rw [if_neg c2] at hv
          obtain ⟨y, z, y1, y2, y3⟩ := hv
          rw [x1] at y2
          cases y2
          exact ⟨y, x, y1, x2, y3⟩
    · cases h
  · next q =>
    split at h
    · next f hf =>
      cases h
      obtain ⟨x, x1, x2⟩ := li_s_ok k hf
      obtain ⟨P, h1, h2, h3, h4⟩ := hv
      rw [x1] at h2
      cases h2
      exact ⟨P, h1, x2, h3, h4⟩
    · cases h
  · cases h
    exact hv
def bu_sc (th : List Li) : BCA → Option BCA
  | [] => some []
  | e :: ca => match li_s th e.2.1, li_s th e.2.2.1, li_s th e.2.2.2, bu_sc th ca with
    | some p, some x, some v, some r => some ((e.1, p, x, v) :: r)
    | _, _, _, _ => none
theorem bu_sc_ok {nu : List Int} {g : BG} {th : List Li} {np : List Int} (k : li_T nu th np) : ∀ {ca cb : BCA}, bu_sc th ca = some cb → bc_ok np g ca → bc_ok nu g cb
  | [], cb, h, _ => by cases h; exact fun e he => by cases he
  | e :: ca, cb, h, hc => by
    have h : (match li_s th e.2.1, li_s th e.2.2.1, li_s th e.2.2.2, bu_sc th ca with
      | some p, some x, some v, some r => some ((e.1, p, x, v) :: r)
      | _, _, _, _ => none) = some cb := h
    split at h
    · next p x v r h1 h2 h3 h4 =>
      cases h
      obtain ⟨zp, p1, p2⟩ := li_s_ok k h1
      obtain ⟨zx, x1, x2⟩ := li_s_ok k h2
      obtain ⟨zv, v1, v2⟩ := li_s_ok k h3
      intro e' he'
      rcases List.mem_cons.mp he' with rfl | he'
      · have hm := hc e List.mem_cons_self
        unfold bc_e at hm ⊢
        split
        · next hk =>
          have hk : e.1 < 1000 := hk
          rw [if_pos hk] at hm
          obtain ⟨P, X, m1, m2, m3, m4, m5⟩ := hm
          rw [p1] at m1
          rw [x1] at m2
          rw [v1] at m5
          cases m1
          cases m2
          cases m5
          exact ⟨P, X, p2, x2, m3, m4, v2⟩
        · next hk =>
          have hk : ¬ e.1 < 1000 := hk
          rw [if_neg hk] at hm
          obtain ⟨a, b, m1, m2, m3⟩ := hm
          rw [p1] at m1
          rw [x1] at m2
          rw [v1] at m3
          cases m1
          cases m2
          cases m3
          exact ⟨zp, zx, p2, x2, v2⟩
      · exact bu_sc_ok k h4 (fun z hz => hc z (List.mem_cons_of_mem _ hz)) e' he'
    · cases h
/-- facts put in; a state that cannot be: the empty list; a fact that cannot be read: none -/
def bu_as (th : List Li) : BS → List Li → Option (List BS)
  | s, [] => some [s]
  | s, f :: fs => match li_s th f with
    | some b => match bs_as s b with
      | some t => bu_as th t fs
      | none => some []
    | none => none
theorem bu_as_ok {nu : List Int} {g : BG} {th : List Li} {np : List Int} (k : li_T nu th np) : ∀ {fs : List Li} {s : BS} {r : List BS}, bu_as th s fs = some r → bs_ok nu g s → lf_ok np fs → ∃ t, t ∈ r ∧ bs_ok nu g t
  | [], s, r, h, hs, _ => by cases h; exact ⟨s, List.mem_singleton.mpr rfl, hs⟩
  | f :: fs, s, r, h, hs, hf => by
    have h : (match li_s th f with
      | some b => match bs_as s b with
        | some t => bu_as th t fs
        | none => some []
      | none => none) = some r := h
    split at h
    · next b hb =>
      obtain ⟨x, x1, x2⟩ := li_s_ok k hb
      obtain ⟨y, y1, y2⟩ := hf f List.mem_cons_self
      rw [x1] at y1
      cases y1
      obtain ⟨t, t1, t2⟩ := bs_as_ok hs x2 y2
      rw [t1] at h
      exact bu_as_ok k h t2 (fun z hz => hf z (List.mem_cons_of_mem _ hz))
    · cases h
/-- an outcome: what is returned, or the exception; its state (names: those of the start, and new ones) -/
abbrev BO : Type := (Option BV ⊕ Nat) × BS
def bo_th (s : BS) (th : List Li) (o : BO) : List Li := th ++ (List.range (o.2.1.length - th.length)).map (fun i => li_n (s.1.length + i))
/-- two entries of one key hold the same -/
def bo_eqs (ca od : BCA) : List Li := ca.flatMap (fun e => if e.1 = 1005 then od.flatMap (fun q => if q.1 = 1005 ∧ q.2.1 = e.2.1 ∧ q.2.2.1 = e.2.2.1 then [li_sub e.2.2.2 q.2.2.2, li_sub q.2.2.2 e.2.2.2] else []) else [])
theorem bo_eqs_ok {nu : List Int} {g g' : BG} {ca od : BCA} (h1 : bc_ok nu g' ca) (h2 : bc_ok nu g od) : ∀ f ∈ bo_eqs ca od, ∃ y, li_e nu f = some y ∧ 0 ≤ y := by
  intro f hf
  obtain ⟨e, he, hf⟩ := List.mem_flatMap.mp hf
  split at hf
  · next k1 =>
    obtain ⟨q, hq, hf⟩ := List.mem_flatMap.mp hf
    split at hf
    · next k2 =>
      obtain ⟨k2, k3, k4⟩ := k2
      have m := h1 e he
      have n := h2 q hq
      unfold bc_e at m n
      rw [k1, if_neg (by decide)] at m
      rw [k2, if_neg (by decide), k3, k4] at n
      obtain ⟨a, b, m1, m2, m3⟩ := m
      obtain ⟨a', b', n1, n2, n3⟩ := n
      rw [m1] at n1
      rw [m2] at n2
      cases n1
      cases n2
      rw [bq_G_F (by decide)] at m3 n3
      simp only [List.mem_cons, List.not_mem_nil, or_false] at hf
      rcases hf with rfl | rfl
      · exact ⟨_, li_e_sub m3 n3, by omega⟩
      · exact ⟨_, li_e_sub n3 m3, by omega⟩
    · cases hf
  · cases hf
def bo_as : BS → List Li → List BS
  | s, [] => [s]
  | s, f :: fs => match bs_as s f with
    | some t => bo_as t fs
    | none => []
theorem bo_as_ok {nu : List Int} {g : BG} : ∀ {fs : List Li} {s : BS}, bs_ok nu g s → (∀ f ∈ fs, ∃ y, li_e nu f = some y ∧ 0 ≤ y) → ∃ t, t ∈ bo_as s fs ∧ bs_ok nu g t
  | [], s, h, _ => ⟨s, List.mem_singleton.mpr rfl, h⟩
  | f :: fs, s, h, k => by
    obtain ⟨y, y1, y2⟩ := k f List.mem_cons_self
    obtain ⟨t, t1, t2⟩ := bs_as_ok h y1 y2
    obtain ⟨r, r1, r2⟩ := bo_as_ok (fs := fs) t2 (fun z hz => k z (List.mem_cons_of_mem _ hz))
    refine ⟨r, ?_, r2⟩
    show r ∈ (match bs_as s f with
      | some t => bo_as t fs
      | none => [])
    rw [t1]
    exact r1
def bo_st (md : List Nat) (s : BS) (th : List Li) (o : BO) : Option (List BS) := match bu_sc (bo_th s th o) o.2.2.2 with
  | some ca => match bu_as (bo_th s th o) (s.1 ++ o.2.1.drop th.length, s.2.1, ca ++ s.2.2.filter (b_kp md)) o.2.2.1 with
    | some r => some (r.flatMap (fun t => bo_as t (bo_eqs ca s.2.2)))
    | none => none
  | none => none
def bo_vl (s : BS) (th : List Li) (o : BO) : Option (List BV ⊕ Nat) := match o.1 with
  | .inl none => some (.inl [])
  | .inl (some v) => match bu_sv (bo_th s th o) v with
    | some w => some (.inl [w])
    | none => none
  | .inr n => some (.inr n)
theorem nu_drop {a b : List Int} (h : nu_le a b) : b = a ++ b.drop a.length := by
  apply List.ext_getElem?
  intro i
  by_cases hi : i < a.length
  · rw [List.getElem?_append_left hi, List.getElem?_eq_getElem hi, h i _ (List.getElem?_eq_getElem hi)]
  · rw [List.getElem?_append_right (by omega), List.getElem?_drop, show a.length + (i - a.length) = i by omega]
theorem bo_ok {md : List Nat} {nu np nq : List Int} {g g' : BG} {s : BS} (hs : bs_ok nu g s) {th : List Li} (k : li_T nu th np) {o : BO} (hq : nu_le np nq) (ho : bs_ok nq g' o.2) (hm : bg_same md g g') : ∃ nv, nu_le nu nv ∧ li_T nv (bo_th s th o) nq ∧ ∀ r, bo_st md s th o = some r → ∃ t, t ∈ r ∧ bs_ok nv g' t := by
  have hlen : np.length ≤ nq.length := by
    rw [nu_drop hq, List.length_append]
    omega
  have hol : o.2.1.length = nq.length := ho.1.1
  have hsl : s.1.length = nu.length := hs.1.1
  have htl := k.1
  have hT : li_T (nu ++ nq.drop np.length) (bo_th s th o) nq := by
    refine ⟨?_, fun i a ha => ?_⟩
    · unfold bo_th
      rw [List.length_append, List.length_map, List.length_range]
      omega
    · unfold bo_th at ha
      by_cases hi : i < th.length
      · rw [List.getElem?_append_left hi] at ha
        obtain ⟨x, x1, x2⟩ := k.2 i a ha
        exact ⟨x, hq i x x1, li_e_mono nu_le.ap x2⟩
      · rw [List.getElem?_append_right (by omega), List.getElem?_map] at ha
        by_cases hi2 : i - th.length < o.2.1.length - th.length
        · rw [List.getElem?_range hi2] at ha
          cases ha
          have hi3 : i < nq.length := by omega
          refine ⟨nq[i], List.getElem?_eq_getElem hi3, li_e_n ?_⟩
          rw [List.getElem?_append_right (by omega), List.getElem?_drop, show np.length + (s.1.length + (i - th.length) - nu.length) = i by omega]
          exact List.getElem?_eq_getElem hi3
        · rw [List.getElem?_eq_none (by rw [List.length_range]; omega)] at ha
          cases ha
  refine ⟨nu ++ nq.drop np.length, nu_le.ap, hT, fun r hr => ?_⟩
  unfold bo_st at hr
  split at hr
  · next ca hca =>
    split at hr
    case h_2 => cases hr
    next r0 hr0 =>
    cases hr
    suffices key : ∃ t, t ∈ r0 ∧ bs_ok (nu ++ nq.drop np.length) g' t by
      obtain ⟨t, t1, t2⟩ := key
      obtain ⟨r, r1, r2⟩ := bo_as_ok t2 (bo_eqs_ok (bu_sc_ok hT hca ho.2.2) (hs.2.2.mono nu_le.ap))
      exact ⟨r, List.mem_flatMap.mpr ⟨t, t1, r1⟩, r2⟩
    refine bu_as_ok hT hr0 ⟨?_, hs.2.1.mono nu_le.ap, ?_⟩ ho.2.1
    · refine ⟨by rw [List.length_append, List.length_append, List.length_drop, List.length_drop]; omega, fun n x hx => ?_⟩
      dsimp only
      by_cases hn : n < nu.length
      · rw [List.getElem?_append_left hn] at hx
        rw [List.getElem?_append_left (by omega)]
        exact hs.1.2 n x hx
      · rw [List.getElem?_append_right (by omega), List.getElem?_drop] at hx
        rw [List.getElem?_append_right (by omega), List.getElem?_drop, show th.length + (n - s.1.length) = np.length + (n - nu.length) by omega]
        exact ho.1.2 _ x hx
    · intro e he
      rcases List.mem_append.mp he with he | he
      · exact bu_sc_ok hT hca ho.2.2 e he
      · exact b_kp_ok hm (hs.2.2.mono nu_le.ap) e he
  · cases hr
end
section
/-! ===== machine B: text constants, statics, arraycopy ===== -/
def bj_len : List Nat := [6, 7]
def bj_byt : List (List Int32) := [[57, 80, 50, 48, 48, 48], [117, 110, 107, 110, 111, 119, 110]]
def b_Zs (B : BE) (A : Nat → Prop) (s : State) (H : Heap) : Prop := vk_S 2 bj_len bj_byt (fun i => b_xo B (100 + i)) (fun i => b_xo B (200 + i)) A s H ∧ va_Z "java/lang/String" "COMPACT_STRINGS" "Z" (.int 1) A s H ∧ va_Zq "jdk/internal/util/Preconditions" "SIOOBE_FORMATTER" "Ljava/util/function/BiFunction;" A s H
theorem b_Zs.moved {B : BE} {A : Nat → Prop} {s U : State} {H : Heap} (e : s.vm.Alike U.vm) (h : b_Zs B A s H) : b_Zs B A U H := ⟨h.1.moved e, h.2.1.moved e, h.2.2.moved e⟩
theorem b_Zs.kept {B : BE} {A : Nat → Prop} {s : State} {H H1 : Heap} (h : b_Zs B A s H) (k : ∀ a : Nat, a < H.size → ¬ A a → H1[a]? = H[a]?) : b_Zs B A s H1 := ⟨h.1.kept k, h.2.1.kept k, h.2.2.kept k⟩
theorem b_Zs.narrow {B : BE} {A A' : Nat → Prop} {s : State} {H : Heap} (h : b_Zs B A s H) (k : ∀ q, A' q → A q) : b_Zs B A' s H := ⟨h.1.narrow k, h.2.1.narrow k, h.2.2.narrow k⟩
def b_Rs (B : BE) (s : State) : Prop := vk_R "MountYard$Talk" 140 "9P2000" (b_xo B 100) s ∧ vk_R "MountYard$Talk" 146 "unknown" (b_xo B 101) s
theorem b_Rs.warm {B : BE} {s U : State} (hW : s.WarmedH U.vm) (h : b_Rs B s) : b_Rs B U := ⟨vk_R.warm hW h.1, vk_R.warm hW h.2⟩
theorem b_Rs.same {B : BE} {s U : State} (e : U.vm = s.vm) (h : b_Rs B s) : b_Rs B U := ⟨vk_R.same e h.1, vk_R.same e h.2⟩
/-- what these instructions look up in the tables -/
def b_ck3 (own : String) (i : Instr) (aux : List Nat) : Bool := match i, aux with
  | .ldc x, [0, n, t] => ai_w t (.constant own x (Int32.ofNat n)) && decide (n < 2147483648)
  | .ldc x, [1, i] => decide (own = "MountYard$Talk") && (decide (i = 0 ∧ x = 140) || decide (i = 1 ∧ x = 146))
  | .getstatic x, [0, t] => ai_w t (.fieldLink own x "java/lang/String" "COMPACT_STRINGS" "Z")
  | .getstatic x, [1, t] => ai_w t (.fieldLink own x "jdk/internal/util/Preconditions" "SIOOBE_FORMATTER" "Ljava/util/function/BiFunction;")
  | .getfield x, [t] => ai_w t (.fieldLink own x "java/lang/String" "value" "[B")
  | .getfield x, [t, 0] => ai_w t (.fieldLink own x "java/lang/String" "coder" "B")
  | .invokestatic x, [t1, t2, t3, t4] => ai_w t1 (.methodLink own x arraycopyName) && (ai_w t2 (.native arraycopyName) && (ai_w t3 (.static arraycopyName) && ai_w t4 (.initialized "java/lang/System")))
  | .invokestatic x, [w, t1, t2, t3, t4] => ai_w t3 (.initialized "java/lang/Math") && (if w = 0 then ai_w t1 (.methodLink own x Lib.Math.max.name) && (ai_w t2 (.static Lib.Math.max.name) && ai_w t4 (.code Lib.Math.max.name Lib.Math.max.code 2 (some .int)))
    else if w = 1 then ai_w t1 (.methodLink own x Lib.Math.min.name) && (ai_w t2 (.static Lib.Math.min.name) && ai_w t4 (.code Lib.Math.min.name Lib.Math.min.code 2 (some .int)))
    else ai_w t1 (.methodLink own x Lib.MathLoose.min_long.x) && (ai_w t2 (.static Lib.MathLoose.min_long.x) && ai_w t4 (.code Lib.MathLoose.min_long.x Lib.MathLoose.min_long.code 4 (some .long))))
  | _, _ => true
/-- the greater or the lesser of two numbers -/
def b_j3 (d : Nat) (i : Instr) (len : Nat) (aux : List Nat) (st : List BV) (s : BS) : Option (List (List BV × BS)) := match i, aux, st with
  | .invokestatic _, [w, _, _, _, _], .inl y :: .inl x :: r => if len = 3 ∧ 1 ≤ d ∧ (r.map bv_wd).sum ≤ 8 ∧ x.1 = y.1 ∧ x.1 = (if w = 0 ∨ w = 1 then 0 else 1) then
      some (if w = 0 then (b_cnd false .lt s (li_sub x.2 y.2)).map (fun t => (.inl y :: r, t)) ++ (b_cnd false .ge s (li_sub x.2 y.2)).map (fun t => (.inl x :: r, t))
        else (b_cnd false .gt s (li_sub x.2 y.2)).map (fun t => (.inl y :: r, t)) ++ (b_cnd false .le s (li_sub x.2 y.2)).map (fun t => (.inl x :: r, t))) else none
  | _, _, _ => none
def bj_n (n : Nat) : Option Nat := if n = 0 then some 6 else if n = 1 then some 7 else none
/-- reads: the ways it may go on -/
def b_j1 (i : Instr) (len : Nat) (aux : List Nat) (st : List BV) (s : BS) : Option (List (List BV × BS)) := match i, aux, st with
  | .ldc _, [0, n, _], r => if len = 2 then some [(.inl (0, li_c (n : Int)) :: r, s)] else none
  | .ldc _, [1, k], r => if len = 2 ∧ k < 2 then some [(.inr (.inr (100 + k)) :: r, s)] else none
  | .getstatic _, [0, _], r => if len = 3 then some [(.inl (0, li_c 1) :: r, s)] else none
  | .getstatic _, [1, _], r => if len = 3 then some [(.inr (.inr 0) :: r, s), (.inr (.inr 1) :: r, s)] else none
  | .getfield _, [_], .inr (.inr n) :: r => if len = 3 ∧ 100 ≤ n ∧ n < 102 then some [(.inr (.inr (n + 100)) :: r, s)] else none
  | .getfield _, [_, 0], .inr (.inr n) :: r => if len = 3 ∧ 100 ≤ n ∧ n < 102 then some [(.inl (0, li_c 0) :: r, s)] else none
  | .arraylength, _, .inr (.inr n) :: r => match bj_n (n - 200) with
    | some c => if len = 1 ∧ 200 ≤ n then some [(.inl (0, li_c (c : Int)) :: r, s)] else none
    | none => none
  | .baload, _, .inl x :: .inr (.inr n) :: r => match bj_n (n - 200) with
    | some c => if len = 1 ∧ 200 ≤ n ∧ x.1 = 0 ∧ b_in s c x.2 = true then some [(.inl (0, (bs_ti s).2) :: r, (bs_ti s).1)] else none
    | none => none
  | _, _, _ => none
/-- arraycopy within one row of bytes -/
def b_j2 (md : List Nat) (d : Nat) (i : Instr) (len : Nat) (aux : List Nat) (st : List BV) (s : BS) : Option (List BV × BS) := match i, aux, st with
  | .invokestatic _, [_, _, _, _], .inl n :: .inl dp :: .inr (.inl o2) :: .inl sp :: .inr (.inl o1) :: r => match bk_tab[o1.1]? with
    | some (.inr q) => if len = 3 ∧ q.1 = 0 ∧ o1 = o2 ∧ n.1 = 0 ∧ dp.1 = 0 ∧ sp.1 = 0 ∧ bs_ge s n.2 = true ∧ bs_ge s dp.2 = true ∧ bs_ge s sp.2 = true ∧ bs_ge s (li_sub (li_c (q.2.1 : Int)) (li_add sp.2 n.2)) = true ∧ bs_ge s (li_sub (li_c (q.2.1 : Int)) (li_add dp.2 n.2)) = true ∧ bk_code o1.1 0 ∈ md ∧ 1 ≤ d ∧ (r.map bv_wd).sum ≤ 8 then some (r, (s.1, s.2.1, s.2.2.filter (fun e => decide (e.1 ≠ o1.1)))) else none
    | _ => none
  | _, _, _ => none
theorem b_S_sum {B : BE} {nu : List Int} : ∀ {a : List BV} {x : List Value}, b_S B nu a x → (x.map fun v => v.category).sum = (a.map bv_wd).sum
  | [], [], _ => rfl
  | [], _ :: _, h => h.elim
  | _ :: _, [], h => h.elim
  | _ :: _, _ :: _, h => by rw [List.map_cons, List.map_cons, List.sum_cons, List.sum_cons, b_S_sum h.2, bv_V_wd h.1]
theorem bj_n_ok {n c : Nat} (h : bj_n n = some c) : n < 2 ∧ bj_len.getD n 0 = c ∧ c < 2147483648 := by
  unfold bj_n at h
  split at h
  · next e => cases h; subst e; exact ⟨by decide, rfl, by decide⟩
  · split at h
    · next e => cases h; subst e; exact ⟨by decide, rfl, by decide⟩
    · cases h
section BJ
variable {p : Program} {l : Launch} {e : Env} {R : Room} {s : State} {m : MethodId} {args : Array Value} {below : List Frame} {meth : Method} {c : Code} {H : Heap} {locs : List Loc} {cells slots : Nat} {Q : State → Prop}
variable {cc : ByteArray} {pc : Nat} {ls : Array Slot} {i : Instr} {len : Nat} {aux : List Nat} {B : BE} {nu : List Int} {g : BG} {st : List BV} {vs : List Value} {t : BS} {own : String} {D : va_G} {A : Nat → Prop}
set_option maxHeartbeats 2000000 in
theorem b_j1_ok (hx : p.tables.exec = Jvm.exec) (hb : c.code = cc) (hown : s.vm.findClass own = some m.cls) (hT : ∀ w, w ∈ lw_tbl → goodWord w = true → w.before args s = true) (hd : decode cc pc = .ok (i, len)) (hchk : b_ck3 own i aux = true)
    (hR : b_Rs B s) (hZ : b_Zs B A s s.heap) (hSs : va_S A s.heap H locs) (ht : bs_ok nu g t) (hS : b_S B nu st vs) {rs : List (List BV × BS)} (h : b_j1 i len aux st t = some rs)
    (k : ∀ r ∈ rs, ∀ (nv : List Int) (vs' : List Value), nu_le nu nv → bs_ok nv g r.2 → b_S B nv r.1 vs' → W p l e R s m args below meth c H locs cells slots Q (F0 m (pc + len) ls vs')) : W p l e R s m args below meth c H locs cells slots Q (F0 m pc ls vs) := by
  unfold b_j1 at h
  split at h
  · next ix n z =>
    split at h
    · next hc =>
      cases h
      subst hc
      have hchk : (ai_w z (.constant own ix (Int32.ofNat n)) && decide (n < 2147483648)) = true := hchk
      rw [Bool.and_eq_true, decide_eq_true_eq] at hchk
      refine lv_ldc hx hb hown (hT _ (ai_w_ok hchk.1).1 (ai_w_ok hchk.1).2) hd (k _ (List.mem_singleton.mpr rfl) nu (_ :: vs) nu_le.rf ht ⟨bv_i.mpr ⟨_, rfl, ?_⟩, hS⟩)
      show li_e nu (li_c (n : Int)) = some (nI n).toInt
      rw [li_e_c, nI_toInt (by omega)]
    · cases h
  · next ix n =>
    split at h
    · next hc =>
      cases h
      obtain ⟨rfl, hn⟩ := hc
      have hchk : (decide (own = "MountYard$Talk") && (decide (n = 0 ∧ ix = 140) || decide (n = 1 ∧ ix = 146))) = true := hchk
      rw [Bool.and_eq_true, Bool.or_eq_true, decide_eq_true_eq, decide_eq_true_eq, decide_eq_true_eq] at hchk
      obtain ⟨h1, h2⟩ := hchk
      have fin : ∀ q, vk_R own ix q (b_xo B (100 + n)) s → W p l e R s m args below meth c H locs cells slots Q (F0 m pc ls vs) := fun q hq =>
        va_ldcS hx hb hown hq hd (k _ (List.mem_singleton.mpr rfl) nu (_ :: vs) nu_le.rf ht ⟨by show bv_X B (100 + n) _; unfold bv_X; rw [if_neg (by omega), if_neg (by omega)], hS⟩)
      rcases h2 with ⟨rfl, rfl⟩ | ⟨rfl, rfl⟩
      · exact fin "9P2000" (by rw [h1]; exact hR.1)
      · exact fin "unknown" (by rw [h1]; exact hR.2)
    · cases h
  · next ix z =>
    split at h
    · next hc =>
      cases h
      subst hc
      have hchk : ai_w z (.fieldLink own ix "java/lang/String" "COMPACT_STRINGS" "Z") = true := hchk
      exact va_gets hx hb hZ.2.1 hSs hown (hT _ (ai_w_ok hchk).1 (ai_w_ok hchk).2) (fun x hx => hx) hd (k _ (List.mem_singleton.mpr rfl) nu (_ :: vs) nu_le.rf ht ⟨bv_i.mpr ⟨1, rfl, li_e_c nu _⟩, hS⟩)
    · cases h
  · next ix z =>
    split at h
    · next hc =>
      cases h
      subst hc
      have hchk : ai_w z (.fieldLink own ix "jdk/internal/util/Preconditions" "SIOOBE_FORMATTER" "Ljava/util/function/BiFunction;") = true := hchk
      rcases hZ.2.2 with h1 | ⟨a, h1⟩
      · exact va_gets hx hb h1 hSs hown (hT _ (ai_w_ok hchk).1 (ai_w_ok hchk).2) (fun x hx => hx) hd (k _ List.mem_cons_self nu (_ :: vs) nu_le.rf ht ⟨rfl, hS⟩)
      · exact va_gets hx hb h1 hSs hown (hT _ (ai_w_ok hchk).1 (ai_w_ok hchk).2) (fun x hx => hx) hd (k _ (List.mem_cons_of_mem _ List.mem_cons_self) nu (_ :: vs) nu_le.rf ht ⟨⟨a, rfl⟩, hS⟩)
    · cases h
  · next ix z n r =>
    match vs, hS with
    | [], hS => exact hS.elim
    | v :: vs, ⟨hv, hS2⟩ =>
      split at h
      · next hc =>
        cases h
        obtain ⟨rfl, hn1, hn2⟩ := hc
        obtain ⟨j, rfl⟩ : ∃ j, n = 100 + j := ⟨n - 100, by omega⟩
        have hv : bv_X B (100 + j) v := hv
        unfold bv_X at hv
        rw [if_neg (by omega), if_neg (by omega)] at hv
        subst hv
        have hchk : ai_w z (.fieldLink own ix "java/lang/String" "value" "[B") = true := hchk
        refine vk_getf hx hb (hZ.1.1 j (by omega)).2.2.1 hSs hown (hT _ (ai_w_ok hchk).1 (ai_w_ok hchk).2) (fun x hx => hx) hd (k _ (List.mem_singleton.mpr rfl) nu (_ :: vs) nu_le.rf ht ⟨?_, hS2⟩)
        show bv_X B (100 + j + 100) _
        unfold bv_X
        rw [if_neg (by omega), if_neg (by omega), show 100 + j + 100 = 200 + j by omega]
      · cases h
  · next ix z n r =>
    match vs, hS with
    | [], hS => exact hS.elim
    | v :: vs, ⟨hv, hS2⟩ =>
      split at h
      · next hc =>
        cases h
        obtain ⟨rfl, hn1, hn2⟩ := hc
        obtain ⟨j, rfl⟩ : ∃ j, n = 100 + j := ⟨n - 100, by omega⟩
        have hv : bv_X B (100 + j) v := hv
        unfold bv_X at hv
        rw [if_neg (by omega), if_neg (by omega)] at hv
        subst hv
        have hchk : ai_w z (.fieldLink own ix "java/lang/String" "coder" "B") = true := hchk
        exact vk_getf hx hb (hZ.1.1 j (by omega)).2.1 hSs hown (hT _ (ai_w_ok hchk).1 (ai_w_ok hchk).2) (fun x hx => hx) hd (k _ (List.mem_singleton.mpr rfl) nu (_ :: vs) nu_le.rf ht ⟨bv_i.mpr ⟨0, rfl, li_e_c nu _⟩, hS2⟩)
      · cases h
  · next n r =>
    match vs, hS with
    | [], hS => exact hS.elim
    | v :: vs, ⟨hv, hS2⟩ =>
      split at h
      · next cn hcn =>
        split at h
        · next hc =>
          cases h
          obtain ⟨rfl, hn⟩ := hc
          obtain ⟨h2, h3, h4⟩ := bj_n_ok hcn
          obtain ⟨j, rfl⟩ : ∃ j, n = 200 + j := ⟨n - 200, by omega⟩
          rw [show 200 + j - 200 = j by omega] at h2 h3
          have hv : bv_X B (200 + j) v := hv
          unfold bv_X at hv
          rw [if_neg (by omega), if_neg (by omega)] at hv
          subst hv
          refine va_tlen hx hb (hZ.1.1 j h2).2.2.2 hSs rfl hd (k _ (List.mem_singleton.mpr rfl) nu (_ :: vs) nu_le.rf ht ⟨bv_i.mpr ⟨_, rfl, ?_⟩, hS2⟩)
          rw [h3]
          show li_e nu (li_c (cn : Int)) = some (nI cn).toInt
          rw [li_e_c, nI_toInt (by omega)]
        · cases h
      · cases h
  · next x n r =>
    match vs, hS with
    | [], hS => exact hS.elim
    | [_], ⟨_, hS⟩ => exact hS.elim
    | vj :: v :: vs, ⟨hvj, hv, hS2⟩ =>
      split at h
      · next cn hcn =>
        split at h
        · next hc =>
          cases h
          obtain ⟨rfl, hn, hc1, hc2⟩ := hc
          obtain ⟨h2, h3, h4⟩ := bj_n_ok hcn
          obtain ⟨j, rfl⟩ : ∃ j, n = 200 + j := ⟨n - 200, by omega⟩
          rw [show 200 + j - 200 = j by omega] at h2 h3
          have hv : bv_X B (200 + j) v := hv
          unfold bv_X at hv
          rw [if_neg (by omega), if_neg (by omega)] at hv
          subst hv
          obtain ⟨b, rfl, hxj⟩ := bv_N0 hc1 hvj
          obtain ⟨hin, hxn, hlt⟩ := b_in_ok ht hc2 hxj
          rw [← h3] at hin
          obtain ⟨nv, n1, n2, n3⟩ := bs_ti_R ht ((bj_byt.getD j []).getD b.toNatClampNeg 0)
          exact va_tb hx hb (hZ.1.1 j h2).2.2.2 hSs hin rfl hd (k _ (List.mem_singleton.mpr rfl) nv (_ :: vs) n1 n2 ⟨bv_i.mpr ⟨_, rfl, n3⟩, hS2.mono n1⟩)
        · cases h
      · cases h
  · cases h
set_option maxHeartbeats 2000000 in
theorem b_j2_ok {md : List Nat} {d : Nat} (hx : p.tables.exec = Jvm.exec) (hb : c.code = cc) (hml : c.maxLocals = ls.size) (hown : s.vm.findClass own = some m.cls) (hT : ∀ w, w ∈ lw_tbl → goodWord w = true → w.before args s = true) (hK : va_K D vwCl [] s) (hd : decode cc pc = .ok (i, len)) (hchk : b_ck3 own i aux = true)
    (hB : bb_ok B s) (hg : bw_ok g) (ht : bs_ok nu g t) (hP : va_P D vwCl (bw B g) H) (hD : va_D A (bw B g)) (hSs : va_S A s.heap H locs) (hS : b_S B nu st vs) (hfr : d ≤ R.frames) (hlo : 36 * d ≤ R.locals) {r : List BV × BS} (h : b_j2 md d i len aux st t = some r)
    (k : ∀ (g' : BG) (H' : Heap) (locs' : List Loc) (vs' : List Value), bg_same md g g' → bw_ok g' → bs_ok nu g' r.2 → va_P D vwCl (bw B g') H' → va_D A (bw B g') → va_S A s.heap H' locs' → b_S B nu r.1 vs' → W p l e R s m args below meth c H' locs' cells slots Q (F0 m (pc + len) ls vs')) : W p l e R s m args below meth c H locs cells slots Q (F0 m pc ls vs) := by
  unfold b_j2 at h
  split at h
  · next ix z1 z2 z3 z4 n dp o2 sp o1 r2 =>
    match vs, hS with
    | [], hS => exact hS.elim
    | [_], ⟨_, hS⟩ => exact hS.elim
    | [_, _], ⟨_, _, hS⟩ => exact hS.elim
    | [_, _, _], ⟨_, _, _, hS⟩ => exact hS.elim
    | [_, _, _, _], ⟨_, _, _, _, hS⟩ => exact hS.elim
    | vn :: vd :: v2 :: vsp :: v1 :: vs, ⟨hn, hdp, h2, hsp, h1, hS2⟩ =>
      split at h
      · next q hq =>
        obtain ⟨tt, L, f0⟩ := q
        split at h
        · next hc =>
          cases h
          obtain ⟨rfl, c1, rfl, c3, c4, c5, c6, c7, c8, c9, c10, c11, c12, c13⟩ := hc
          have c1 : tt = 0 := c1
          subst c1
          obtain ⟨P, rfl, hp, hP2, hat⟩ := h1
          obtain ⟨P', rfl, hp', hP2', hat'⟩ := h2
          rw [hp] at hp'
          obtain rfl : P = P' := by have := Option.some.inj hp'; omega
          obtain ⟨xn, rfl, en⟩ := bv_N0 c3 hn
          obtain ⟨xd, rfl, ed⟩ := bv_N0 c4 hdp
          obtain ⟨xs, rfl, es⟩ := bv_N0 c5 hsp
          have g6 := bs_ge_ok ht c6 en
          have g7 := bs_ge_ok ht c7 ed
          have g8 := bs_ge_ok ht c8 es
          have g9 := bs_ge_ok ht c9 (li_e_sub (li_e_c nu _) (li_e_add es en))
          have g10 := bs_ge_ok ht c10 (li_e_sub (li_e_c nu _) (li_e_add ed en))
          dsimp only at g9 g10
          have cl : ∀ w : Int32, 0 ≤ w.toInt → (w.toNatClampNeg : Int) = w.toInt := fun w hw => by show (w.toInt.toNat : Int) = w.toInt; omega
          have k6 := cl xn g6
          have k7 := cl xd g7
          have k8 := cl xs g8
          have z0 : (0 : Int32).toInt = 0 := rfl
          have ng : ∀ w : Int32, 0 ≤ w.toInt → ¬ w < 0 := fun w hw z => by have := Int32.lt_iff_toInt_lt.mp z; omega
          have hq2 : bk_tab[bk_at P]? = some (.inr (0, L, f0)) := by rw [hat]; exact hq
          obtain ⟨hta, hL⟩ := bk_arr hq
          have hfx : ∃ f, f0 = .inl f := by
            cases f0 with
            | inl f => exact ⟨f, rfl⟩
            | inr f => cases hta
          obtain ⟨f, rfl⟩ := hfx
          obtain ⟨w1, w2, -⟩ := bk_ta_w hta
          have hta2 : (decide (f.1 = 0) && (decide (-128 ≤ f.2.1) && decide (f.2.2 ≤ 127))) = true := hta
          simp only [Bool.and_eq_true, decide_eq_true_eq] at hta2
          have hw : (bw B g)[P]? = some (b_ad B P, .inl (b_ac B P, L, .inl (fun j => Int32.ofInt (g P j)))) := by rw [bw_get B g hP2, bw_a hq2]; rfl
          obtain ⟨b1, b2, -⟩ := hB P 0 L _ hP2 hq2
          have hrng : ∀ j, j < L → f.2.1 ≤ g P j ∧ g P j ≤ f.2.2 := fun j hj => hg P j f hP2 (bk_sA hq2 hj)
          have hchk : (ai_w z1 (.methodLink own ix arraycopyName) && (ai_w z2 (.native arraycopyName) && (ai_w z3 (.static arraycopyName) && ai_w z4 (.initialized "java/lang/System")))) = true := hchk
          simp only [Bool.and_eq_true] at hchk
          obtain ⟨q1, q2, q3, q4⟩ := hchk
          have hsum := b_S_sum hS2
          refine va_copyi hx hb hml hown (hT _ (ai_w_ok q1).1 (ai_w_ok q1).2) (hT _ (ai_w_ok q2).1 (ai_w_ok q2).2) (hT _ (ai_w_ok q3).1 (ai_w_ok q3).2) (hT _ (ai_w_ok q4).1 (ai_w_ok q4).2) (ai_K1 hK b1 b2) hP hD hSs P P 0 0 hw hw rfl rfl rfl (ng _ g8) (ng _ g7) (ng _ g6) (by omega) (by omega) ?_ (by omega) ?_ hd (fun H1 locs1 p1 d1 s1 => ?_)
          · intro j hj
            have hr := hrng (xs.toNatClampNeg + j) (by omega)
            have e1 : (Int32.ofInt (g P (xs.toNatClampNeg + j))).toInt = g P (xs.toNatClampNeg + j) := fb_ofI (by omega) (by omega)
            rw [← fb_byte (x := Int32.ofInt (g P (xs.toNatClampNeg + j))) (by omega) (by omega)]
            exact pk_fb _
          · have e7 : nativeFrameWords "java/lang/System" "arraycopy" 5 = 7 := by decide +kernel
            rw [e7]
            omega
          · have eg : (bw B g).set P (b_ad B P, .inl (b_ac B P, L, .inl (va_cpy (fun j => Int32.ofInt (g P j)) (fun j => Int32.ofInt (g P j)) xs.toNatClampNeg xd.toNatClampNeg xn.toNatClampNeg))) = bw B (fun a b => if a = P then va_cpy (g P) (g P) xs.toNatClampNeg xd.toNatClampNeg xn.toNatClampNeg b else g a b) := by
              refine bw_set hP2 (fun a ha => by funext b; exact if_neg ha) ?_
              rw [bw_a hq2]
              have e2 : (fun j => Int32.ofInt ((fun b => if P = P then va_cpy (g P) (g P) xs.toNatClampNeg xd.toNatClampNeg xn.toNatClampNeg b else g P b) j)) = va_cpy (fun j => Int32.ofInt (g P j)) (fun j => Int32.ofInt (g P j)) xs.toNatClampNeg xd.toNatClampNeg xn.toNatClampNeg := by
                funext j
                dsimp only
                rw [if_pos rfl]
                unfold va_cpy
                split <;> rfl
              show Sum.inl (b_ac B P, L, Sum.inl (fun j => Int32.ofInt ((fun b => if P = P then va_cpy (g P) (g P) xs.toNatClampNeg xd.toNatClampNeg xn.toNatClampNeg b else g P b) j))) = _
              rw [e2]
            rw [eg] at p1 d1
            refine k _ H1 locs1 vs ?_ ?_ ⟨ht.1, ht.2.1, ?_⟩ p1 d1 s1 hS2
            · intro a b hn2
              dsimp only
              rw [if_neg]
              rintro rfl
              apply hn2 hP2
              unfold bk_code at c11 ⊢
              rw [hq2]
              rw [hq] at c11
              rw [hat]
              exact c11
            · intro a b qq ha hqq
              dsimp only
              by_cases ea : a = P
              · subst ea
                rw [if_pos rfl]
                have hbL : b < L ∧ qq = f := by
                  unfold bk_spec at hqq
                  rw [hq2] at hqq
                  dsimp only at hqq
                  split at hqq
                  · next hb2 => cases hqq; exact ⟨hb2, rfl⟩
                  · cases hqq
                obtain ⟨hbL, rfl⟩ := hbL
                unfold va_cpy
                split
                · exact hrng _ (by omega)
                · exact hrng _ hbL
              · rw [if_neg ea]
                exact hg a b qq ha hqq
            · intro e' he'
              obtain ⟨f1, f2⟩ := List.mem_filter.mp he'
              have hm := ht.2.2 e' f1
              unfold bc_e at hm ⊢
              split
              · next hk =>
                rw [if_pos hk] at hm
                obtain ⟨P3, X3, m1, m2, m3, m4, m5⟩ := hm
                refine ⟨P3, X3, m1, m2, m3, m4, ?_⟩
                dsimp only
                rw [if_neg]
                · exact m5
                rintro rfl
                have f2 : e'.1 ≠ o1.1 := of_decide_eq_true f2
                exact f2 (m4.symm.trans hat)
              · next hk =>
                rw [if_neg hk] at hm
                obtain ⟨a3, b3, m1, m2, m3⟩ := hm
                exact ⟨a3, b3, m1, m2, by rw [bq_G_eq (by funext j; exact if_neg (by omega))]; exact m3⟩
        · cases h
      · cases h
  · cases h
set_option maxHeartbeats 2000000 in
theorem b_j3_ok {d : Nat} (hx : p.tables.exec = Jvm.exec) (hb : c.code = cc) (hml : c.maxLocals = ls.size) (hown : s.vm.findClass own = some m.cls) (hT : ∀ w, w ∈ lw_tbl → goodWord w = true → w.before args s = true) (hd : decode cc pc = .ok (i, len)) (hchk : b_ck3 own i aux = true)
    (ht : bs_ok nu g t) (hS : b_S B nu st vs) (hfr : d ≤ R.frames) (hlo : 36 * d ≤ R.locals) (hc : cells ≤ R.cells) (hs : slots ≤ R.slots) {rs : List (List BV × BS)} (h : b_j3 d i len aux st t = some rs)
    (k : ∀ r ∈ rs, ∀ (vs' : List Value), bs_ok nu g r.2 → b_S B nu r.1 vs' → W p l e R s m args below meth c H locs cells slots Q (F0 m (pc + len) ls vs')) : W p l e R s m args below meth c H locs cells slots Q (F0 m pc ls vs) := by
  unfold b_j3 at h
  split at h
  · next ix w t1 t2 t3 t4 y x r =>
    match vs, hS with
    | [], hS => exact hS.elim
    | [_], ⟨_, hS⟩ => exact hS.elim
    | vy :: vx :: vs, ⟨hy, hx2, hS2⟩ =>
      by_cases hcond : len = 3 ∧ 1 ≤ d ∧ (r.map bv_wd).sum ≤ 8 ∧ x.1 = y.1 ∧ x.1 = (if w = 0 ∨ w = 1 then 0 else 1)
      case neg => rw [if_neg hcond] at h; cases h
      case pos =>
        rw [if_pos hcond] at h
        cases h
        obtain ⟨rfl, hd1, h8, htag, hw⟩ := hcond
        have hsum := b_S_sum hS2
        have hchk : (ai_w t3 (.initialized "java/lang/Math") && (if w = 0 then ai_w t1 (.methodLink own ix Lib.Math.max.name) && (ai_w t2 (.static Lib.Math.max.name) && ai_w t4 (.code Lib.Math.max.name Lib.Math.max.code 2 (some .int)))
          else if w = 1 then ai_w t1 (.methodLink own ix Lib.Math.min.name) && (ai_w t2 (.static Lib.Math.min.name) && ai_w t4 (.code Lib.Math.min.name Lib.Math.min.code 2 (some .int)))
          else ai_w t1 (.methodLink own ix Lib.MathLoose.min_long.x) && (ai_w t2 (.static Lib.MathLoose.min_long.x) && ai_w t4 (.code Lib.MathLoose.min_long.x Lib.MathLoose.min_long.code 4 (some .long))))) = true := hchk
        rw [Bool.and_eq_true] at hchk
        obtain ⟨k3, hchk⟩ := hchk
        have g3 := hT _ (ai_w_ok k3).1 (ai_w_ok k3).2
        by_cases w0 : w = 0
        · subst w0
          rw [if_pos rfl] at hchk k
          rw [if_pos (Or.inl rfl)] at hw
          simp only [Bool.and_eq_true] at hchk
          obtain ⟨q1, q2, q4⟩ := hchk
          obtain ⟨a, rfl, h2⟩ := bv_N0 hw hx2
          obtain ⟨b, rfl, h3⟩ := bv_N0 (htag.symm.trans hw) hy
          refine va_mmax hx hb hml hown (hT _ (ai_w_ok q1).1 (ai_w_ok q1).2) (hT _ (ai_w_ok q2).1 (ai_w_ok q2).2) g3 (hT _ (ai_w_ok q4).1 (ai_w_ok q4).2) (by omega) (by omega) hc hs hd ?_
          by_cases hlt : a < b
          · rw [if_pos hlt]
            have hlt := Int32.lt_iff_toInt_lt.mp hlt
            obtain ⟨u, u1, u2⟩ := b_cnd_ok (spl := false) (k := .lt) ht (li_e_sub h2 h3) (by show a.toInt - b.toInt < 0; omega)
            exact k _ (List.mem_append_left _ (List.mem_map.mpr ⟨u, u1, rfl⟩)) _ u2 ⟨hy, hS2⟩
          · rw [if_neg hlt]
            have hlt : ¬ a.toInt < b.toInt := fun z => hlt (Int32.lt_iff_toInt_lt.mpr z)
            obtain ⟨u, u1, u2⟩ := b_cnd_ok (spl := false) (k := .ge) ht (li_e_sub h2 h3) (by show 0 ≤ a.toInt - b.toInt; omega)
            exact k _ (List.mem_append_right _ (List.mem_map.mpr ⟨u, u1, rfl⟩)) _ u2 ⟨hx2, hS2⟩
        · rw [if_neg w0] at hchk k
          by_cases w1 : w = 1
          · subst w1
            rw [if_pos rfl] at hchk
            rw [if_pos (Or.inr rfl)] at hw
            simp only [Bool.and_eq_true] at hchk
            obtain ⟨q1, q2, q4⟩ := hchk
            obtain ⟨a, rfl, h2⟩ := bv_N0 hw hx2
            obtain ⟨b, rfl, h3⟩ := bv_N0 (htag.symm.trans hw) hy
            refine va_mmin hx hb hml hown (hT _ (ai_w_ok q1).1 (ai_w_ok q1).2) (hT _ (ai_w_ok q2).1 (ai_w_ok q2).2) g3 (hT _ (ai_w_ok q4).1 (ai_w_ok q4).2) (by omega) (by omega) hc hs hd ?_
            by_cases hlt : b < a
            · rw [if_pos hlt]
              have hlt := Int32.lt_iff_toInt_lt.mp hlt
              obtain ⟨u, u1, u2⟩ := b_cnd_ok (spl := false) (k := .gt) ht (li_e_sub h2 h3) (by show 0 < a.toInt - b.toInt; omega)
              exact k _ (List.mem_append_left _ (List.mem_map.mpr ⟨u, u1, rfl⟩)) _ u2 ⟨hy, hS2⟩
            · rw [if_neg hlt]
              have hlt : ¬ b.toInt < a.toInt := fun z => hlt (Int32.lt_iff_toInt_lt.mpr z)
              obtain ⟨u, u1, u2⟩ := b_cnd_ok (spl := false) (k := .le) ht (li_e_sub h2 h3) (by show a.toInt - b.toInt ≤ 0; omega)
              exact k _ (List.mem_append_right _ (List.mem_map.mpr ⟨u, u1, rfl⟩)) _ u2 ⟨hx2, hS2⟩
          · rw [if_neg w1] at hchk
            rw [if_neg (fun z => z.elim w0 w1)] at hw
            simp only [Bool.and_eq_true] at hchk
            obtain ⟨q1, q2, q4⟩ := hchk
            obtain ⟨a, rfl, h2⟩ := bv_N1 hw hx2
            obtain ⟨b, rfl, h3⟩ := bv_N1 (htag.symm.trans hw) hy
            refine va_mmin_long hx hb hml hown (hT _ (ai_w_ok q1).1 (ai_w_ok q1).2) (hT _ (ai_w_ok q2).1 (ai_w_ok q2).2) g3 (hT _ (ai_w_ok q4).1 (ai_w_ok q4).2) (by omega) (by omega) hc hs hd ?_
            by_cases hlt : b < a
            · rw [if_pos hlt]
              have hlt := Int64.lt_iff_toInt_lt.mp hlt
              obtain ⟨u, u1, u2⟩ := b_cnd_ok (spl := false) (k := .gt) ht (li_e_sub h2 h3) (by show 0 < a.toInt - b.toInt; omega)
              exact k _ (List.mem_append_left _ (List.mem_map.mpr ⟨u, u1, rfl⟩)) _ u2 ⟨hy, hS2⟩
            · rw [if_neg hlt]
              have hlt : ¬ b.toInt < a.toInt := fun z => hlt (Int64.lt_iff_toInt_lt.mpr z)
              obtain ⟨u, u1, u2⟩ := b_cnd_ok (spl := false) (k := .le) ht (li_e_sub h2 h3) (by show a.toInt - b.toInt ≤ 0; omega)
              exact k _ (List.mem_append_right _ (List.mem_map.mpr ⟨u, u1, rfl⟩)) _ u2 ⟨hx2, hS2⟩
  · cases h
end BJ
end
section
/-! ===== machine B: contracts, loops' heads, the run ===== -/
/-- a loop's head: its place, its locals, its state (the method's names first), the measure, what may still be made, a form by whose sign its states are split -/
abbrev BH : Type := Nat × List (Nat × BV) × BS × Li × Li × Option Li
/-- a contract: the method's number, depth, what it makes, whether unequals are split, whether it is the law; the arguments and the state at the start; what it writes; outcomes; heads; which contracts its calls may use -/
abbrev BT : Type := (Nat × Nat × Nat × Bool × Bool) × (List BV × BS) × List Nat × List BO × List BH × List (Nat × List Nat)
def t_mi (T : BT) : Nat := T.1.1
def t_d (T : BT) : Nat := T.1.2.1
def t_mc (T : BT) : Nat := T.1.2.2.1
def t_sp (T : BT) : Bool := T.1.2.2.2.1
def t_sc (T : BT) : Bool := T.1.2.2.2.2
def t_as (T : BT) : List BV := T.2.1.1
def t_s (T : BT) : BS := T.2.1.2
def t_md (T : BT) : List Nat := T.2.2.1
def t_os (T : BT) : List BO := T.2.2.2.1
def t_hs (T : BT) : List BH := T.2.2.2.2.1
def t_ht (T : BT) : List (Nat × List Nat) := T.2.2.2.2.2
def t_k (T : BT) : Nat := (t_s T).1.length
abbrev BIH : Type := Bool → Nat → BLo → List BV → BS → Li → Bool
def bm_hd (T : BT) (ms : Option Li) (h : BH) (lo : BLo) (st : List BV) (s : BS) (al : Li) : Bool := match st, b_pick lo h.2.1 with
  | [], some as => match bu_all s (li_ids (t_k T)) (h.2.1.map Prod.snd) as (b_rf as) h.2.2.1 with
    | some r => (match li_s r.1 h.2.2.2.1 with
      | some b => (match ms with
        | some m => bs_ge r.2 (li_sh (-1) (li_sub m b))
        | none => true)
      | none => false) && (match li_s r.1 h.2.2.2.2.1 with
      | some b => bs_ge r.2 (li_sub al b)
      | none => false)
    | none => false
  | _, _ => false
def bm_o1 (T : BT) (s : BS) (rf : List (Nat × Li)) (o : Option BV ⊕ Nat) (oc : BO) : Bool := match oc.1, o with
  | .inl none, .inl none => (bu_all s (li_ids (t_k T)) [] [] rf oc.2).isSome
  | .inl (some p), .inl (some a) => (bu_all s (li_ids (t_k T)) [p] [a] (b_rf [a] ++ rf) oc.2).isSome
  | .inr n, .inr k => decide (n = k) && (bu_all s (li_ids (t_k T)) [] [] rf oc.2).isSome
  | _, _ => false
def bm_out (T : BT) (o : Option BV ⊕ Nat) (s : BS) : Bool := (t_os T).any (bm_o1 T s (b_rf (t_as T)) o)
def bm_rf (t : FieldType) (s : BS) (f : Li) : Bool := match t with
  | .int => true
  | .boolean => bs_fit s 0 1 f
  | .byte => bs_fit s (-128) 127 f
  | .char => bs_fit s 0 65535 f
  | _ => false
def bm_ret (M : AM) (i : Instr) (len : Nat) (st : List BV) (s : BS) : Option (Option BV) := match i, len, st with
  | .ireturn, 1, [.inl q] => match m_ret M with
    | some t => if q.1 = 0 ∧ bm_rf t s q.2 = true then some (some (.inl q)) else none
    | none => none
  | .lreturn, 1, [.inl q] => if m_ret M = some .long ∧ q.1 = 1 then some (some (.inl q)) else none
  | .areturn, 1, [x] => match m_ret M with
    | some (.object _) => if bv_cat x = 3 then some (some x) else none
    | _ => none
  | .return_, 1, [] => if m_ret M = none then some none else none
  | _, _, _ => none
def bm_th (d : Nat) (M : AM) (i : Instr) (len : Nat) (aux : List Nat) (st : List BV) : Option Nat := match i, len, aux with
  | .new _, 3, [n, _, _, _, _] => if 6 ≤ d ∧ m_hh M = [] ∧ (st.map bv_wd).sum ≤ 8 then some n else none
  | _, _, _ => none
/-- the law's script -/
def bm_sc (sc : Bool) (i : Instr) (len : Nat) (st : List BV) (s : BS) : Option (List BV × BS) := match i, st with
  | .arraylength, .inr (.inr 5) :: r => if sc = true ∧ len = 1 then some (.inl (0, li_n 0) :: r, s) else none
  | .iaload, .inl x :: .inr (.inr 5) :: r => if sc = true ∧ len = 1 ∧ x.1 = 0 ∧ bs_ge s x.2 = true ∧ bs_ge s (li_sh (-1) (li_sub (li_n 0) x.2)) = true then some (.inl (0, (bs_q s 1010 (li_c 0) x.2 (-2147483648) 2147483647).2) :: r, (bs_q s 1010 (li_c 0) x.2 (-2147483648) 2147483647).1) else none
  | _, _ => none
/-- what a receiver is an object of -/
def bm_rc (x : BV) (M : AM) : Bool := match x with
  | .inr (.inl o) => match bk_tab[o.1]? with
    | some (.inl q) => decide (m_kind M = 0 ∧ q.1 = m_ci M)
    | _ => false
  | .inr (.inr n) => decide (m_kind M = 3 ∧ 100 ≤ n ∧ n < 102)
  | _ => false
def bm_call (mt : List AM) (i : Instr) (len : Nat) (aux : List Nat) (st : List BV) : Option (Nat × AM × List BV × List BV) := match i, aux with
  | .invokevirtual _, [k, _] => match mt[k]? with
    | some M => match st.drop (m_n M) with
      | x :: r => if len = 3 ∧ bm_rc x M = true ∧ (r.map bv_wd).sum ≤ 8 then some (k, M, x :: (st.take (m_n M)).reverse, r) else none
      | [] => none
    | none => none
  | .invokestatic _, [k, _] => match mt[k]? with
    | some M => if len = 3 ∧ m_kind M = 1 ∧ m_n M ≤ st.length ∧ ((st.drop (m_n M)).map bv_wd).sum ≤ 8 then some (k, M, (st.take (m_n M)).reverse, st.drop (m_n M)) else none
    | none => none
  | .invokestatic _, [k, _, _] => match mt[k]? with
    | some M => if len = 3 ∧ m_kind M = 1 ∧ m_n M ≤ st.length ∧ ((st.drop (m_n M)).map bv_wd).sum ≤ 8 ∧ m_hh M = [] then some (k, M, (st.take (m_n M)).reverse, st.drop (m_n M)) else none
    | none => none
  | _, _ => none
/-- nothing is thrown -/
def bm_nx (C : BT) : Bool := (t_os C).all (fun o => match o.1 with
  | .inl _ => true
  | .inr _ => false)
theorem bm_nx_ok {C : BT} (h : bm_nx C = true) {o : BO} (ho : o ∈ t_os C) {n : Nat} : o.1 ≠ .inr n := by
  intro e
  have h2 := List.all_eq_true.mp h o ho
  rw [e] at h2
  cases h2
/-- a static method of the nest's host, by its own link -/
def b_ck4 (mt : List AM) (own : String) (i : Instr) (aux : List Nat) : Bool := match i, aux with
  | .invokestatic x, [k, t, _] => match mt[k]? with
    | some M => ai_wb t (.methodLinkNest own x (m_y M) "MountYard")
    | none => false
  | _, _ => true
def bm_try (cts : List BT) (k : Nat) (as : List BV) (s : BS) : List Nat → Option (BT × List Li × BS)
  | [] => none
  | j :: js => match cts[j]? with
    | some C => if t_mi C = k then (match bu_all s [] (t_as C) as (b_rf as) (t_s C) with
      | some r => some (C, r)
      | none => bm_try cts k as s js) else bm_try cts k as s js
    | none => bm_try cts k as s js
def bm_oc (T : BT) (M : AM) (ih : BIH) (pc : Nat) (lo : BLo) (rest : List BV) (C : BT) (r : List Li × BS) (al : Li) (o : BO) : Bool := match bo_vl r.2 r.1 o, bo_st (t_md C) r.2 r.1 o with
  | some (.inl ws), some ss => ss.all (fun s => ih false (pc + 3) lo (ws ++ rest) s al)
  | some (.inr n), some ss => match ai_hnd pc n (m_hh M) (m_hx M) with
    | some h => ss.all (fun s => ih false h lo [.inr (.inr 1)] s al)
    | none => decide (m_hh M = []) && ss.all (fun s => bm_out T (.inr n) s)
  | _, _ => false
def bm_go (mt : List AM) (cts : List BT) (T : BT) (M : AM) (ih : BIH) (pc : Nat) (i : Instr) (len : Nat) (aux : List Nat) (lo : BLo) (st : List BV) (s : BS) (al : Li) : Bool := match bm_call mt i len aux st with
  | some q => match (t_ht T).find? (fun x => x.1 == pc) with
    | some js => match bm_try cts q.1 q.2.2.1 s js.2 with
      | some r => (decide (aux.length ≠ 3) || bm_nx r.1) && decide (t_d r.1 + 1 ≤ t_d T) && (decide ((q.2.2.1.map bv_wd).sum ≤ m_L q.2.1) && ((t_md r.1).all (fun c => decide (c ∈ t_md T)) && (bs_ge r.2.2 (li_sh (-(t_mc r.1 : Int)) al) && (t_os r.1).all (bm_oc T M ih pc lo q.2.2.2 r.1 r.2 (li_sh (-(t_mc r.1 : Int)) al)))))
      | none => false
    | none => false
  | none => false
def bm_body (mt : List AM) (cts : List BT) (T : BT) (M : AM) (ms : Option Li) (ih : BIH) : BIH := fun fst pc lo st s al =>
  match (if fst then [] else (t_hs T).filter (fun h => h.1 == pc)) with
  | h :: hs => (h :: hs).any (fun h => bm_hd T ms h lo st s al)
  | [] =>
  match (m_code M).find? (fun q => q.1 == pc) with
  | none => false
  | some q =>
    match bm_pu (t_sp T) (m_L M) q.2.1 q.2.2.1 pc lo st s with
    | some rs => rs.all (fun r => ih false r.1 r.2.1 r.2.2.1 r.2.2.2 al)
    | none =>
    match b_h1 q.2.1 q.2.2.1 q.2.2.2 st s with
    | some r => ih false (pc + q.2.2.1) lo r.1 r.2 al
    | none =>
    match b_h2 (t_md T) q.2.1 q.2.2.1 q.2.2.2 st s with
    | some r => ih false (pc + q.2.2.1) lo r.1 r.2 al
    | none =>
    match bm_ret M q.2.1 q.2.2.1 st s with
    | some ov => bm_out T (.inl ov) s
    | none =>
    match b_j1 q.2.1 q.2.2.1 q.2.2.2 st s with
    | some rs => rs.all (fun r => ih false (pc + q.2.2.1) lo r.1 r.2 al)
    | none =>
    match b_j2 (t_md T) (t_d T) q.2.1 q.2.2.1 q.2.2.2 st s with
    | some r => ih false (pc + q.2.2.1) lo r.1 r.2 al
    | none =>
    match b_j3 (t_d T) q.2.1 q.2.2.1 q.2.2.2 st s with
    | some rs => rs.all (fun r => ih false (pc + q.2.2.1) lo r.1 r.2 al)
    | none =>
    match bm_sc (t_sc T) q.2.1 q.2.2.1 st s with
    | some r => ih false (pc + q.2.2.1) lo r.1 r.2 al
    | none =>
    match bm_th (t_d T) M q.2.1 q.2.2.1 q.2.2.2 st with
    | some n => bs_ge s (li_sh (-1) al) && bm_out T (.inr n) s
    | none => bm_go mt cts T M ih pc q.2.1 q.2.2.1 q.2.2.2 lo st s al
def bm_run (mt : List AM) (cts : List BT) (T : BT) (M : AM) (ms : Option Li) (fuel : Nat) : BIH := Nat.rec (motive := fun _ => BIH) (fun _ _ _ _ _ _ => false) (fun _ ih => bm_body mt cts T M ms ih) fuel
def b_args : Nat → List BV → BLo
  | _, [] => []
  | i, v :: vs => (i, v) :: b_args (if bv_wd v = 2 then i + 2 else i + 1) vs
def li_w (n : Nat) (a : Li) : Bool := a.2.all (fun q => decide (q.1 < n))
theorem li_w_t {nu : List Int} : ∀ {a : LT}, a.all (fun q => decide (q.1 < nu.length)) = true → ∃ x, li_t nu a = some x
  | [], _ => ⟨0, rfl⟩
  | q :: r, h => by
    rw [List.all_cons, Bool.and_eq_true, decide_eq_true_eq] at h
    obtain ⟨x, hx⟩ := li_w_t h.2
    exact ⟨_, li_t_mk (List.getElem?_eq_getElem h.1) hx⟩
theorem li_w_ok {nu : List Int} {a : Li} (h : li_w nu.length a = true) : ∃ x, li_e nu a = some x := by
  obtain ⟨x, hx⟩ := li_w_t h
  exact ⟨_, li_e_mk hx⟩
def bm_spl (h : BH) : List BS := match h.2.2.2.2.2 with
  | none => [h.2.2.1]
  | some d => if li_w h.2.2.1.1.length d then b_cnd false .lt h.2.2.1 d ++ b_cnd false .ge h.2.2.1 d else [h.2.2.1]
theorem bm_spl_ok {nu : List Int} {g : BG} {h : BH} (k : bs_ok nu g h.2.2.1) : ∃ s, s ∈ bm_spl h ∧ bs_ok nu g s := by
  unfold bm_spl
  split
  · exact ⟨_, List.mem_singleton.mpr rfl, k⟩
  · next d _ =>
    split
    · next hw =>
      rw [k.1.1] at hw
      obtain ⟨z, hz⟩ := li_w_ok hw
      rcases Int.lt_or_le z 0 with q | q
      · obtain ⟨t, t1, t2⟩ := b_cnd_ok (spl := false) (k := .lt) k hz q
        exact ⟨t, List.mem_append_left _ t1, t2⟩
      · obtain ⟨t, t1, t2⟩ := b_cnd_ok (spl := false) (k := .ge) k hz q
        exact ⟨t, List.mem_append_right _ t1, t2⟩
    · exact ⟨_, List.mem_singleton.mpr rfl, k⟩
/-- all of a contract: its entry, and each head -/
def bm_chk (mt : List AM) (cts : List BT) (T : BT) (fuel : Nat) : Bool := match mt[t_mi T]? with
  | some M => decide (((t_as T).map bv_wd).sum ≤ m_L M) && (bm_run mt cts T M none fuel true 0 (b_args 0 (t_as T)) [] (t_s T) (li_c (t_mc T : Int)) && (t_hs T).all (fun h => bs_ge h.2.2.1 h.2.2.2.1 && (bs_ge h.2.2.1 h.2.2.2.2.1 && (bm_spl h).all (fun s => bm_run mt cts T M (some h.2.2.2.1) fuel true h.1 h.2.1 [] s h.2.2.2.2.1))))
  | none => false
/-! what it means -/
def b_O (B : BE) (nu : List Int) (o : Option BV) (v : Option Value) : Prop := match o, v with
  | none, none => True
  | some a, some x => bv_V B nu a x
  | _, _ => False
def b_Ev (D : va_G) (B : BE) (md : List Nat) (g0 : BG) (A : Nat → Prop) (st t : State) (g : BG) : Prop := va_P D vwCl (bw B g) t.heap ∧ va_D A (bw B g) ∧ va_F A st t ∧ bw_ok g ∧ bg_same md g0 g
def b_Q (D : va_G) (B : BE) (os : List BO) (md : List Nat) (n0 : List Int) (g0 : BG) (A : Nat → Prop) : Array Value → State → Outcome → State → Prop := fun _ st oc t => ∃ (o : BO) (ov : Option BV) (v : Option Value) (nq : List Int) (g : BG), o ∈ os ∧ o.1 = .inl ov ∧ oc = .returned v ∧ b_O B nq ov v ∧ nu_le n0 nq ∧ bs_ok nq g o.2 ∧ b_Ev D B md g0 A st t g
def b_X (D : va_G) (B : BE) (os : List BO) (md : List Nat) (n0 : List Int) (g0 : BG) (A : Nat → Prop) : String → State → State → Prop := fun N st t => ∃ (o : BO) (n : Nat) (nq : List Int) (g : BG), o ∈ os ∧ o.1 = .inr n ∧ n < 5 ∧ N = ax_n n ∧ nu_le n0 nq ∧ bs_ok nq g o.2 ∧ b_Ev D B md g0 A st t g
def b_En (D : va_G) (B : BE) (A : Nat → Prop) (U : State) : Prop := ai_G D U ∧ ai_Z A U U.heap ∧ bb_ok B U ∧ b_Rs B U ∧ b_Zs B A U U.heap
def b_Pc (D : va_G) (B : BE) (g : BG) (sz : Nat) (av : List Value) : Array Value → State → Prop := va_Pc av (fun U => U.heap.size = sz ∧ va_P D vwCl (bw B g) U.heap ∧ va_D (fun _ => True) (bw B g) ∧ b_En D B (va_A (bw B g) sz) U)
def b_CT (mt : List AM) (l : Launch) (D : va_G) (B : BE) (T : BT) : Prop := ∀ (M : AM), mt[t_mi T]? = some M → ∀ (n0 : List Int) (g : BG) (sz : Nat) (av : List Value), bs_ok n0 g (t_s T) → bw_ok g → b_S B n0 (t_as T) av →
  vx_Met l (m_y M) (m_ws M) (ai_rm (t_d T) (t_mc T) (6 * t_mc T)) (b_Pc D B g sz av) (b_Q D B (t_os T) (t_md T) n0 g (va_A (bw B g) sz)) (b_X D B (t_os T) (t_md T) n0 g (va_A (bw B g) sz)) (t_mc T) (6 * t_mc T) (va_A (bw B g) sz)
theorem b_Pc_blind {D : va_G} {B : BE} {g : BG} {sz : Nat} {av : List Value} : FrameBlind (b_Pc D B g sz av) := by
  intro a U gg mk h
  obtain ⟨h0, h1, h2, h3, h4, h5, h6, h7, h8⟩ := h
  exact ⟨h0, h1, h2, h3, h4.same (U := U.calling gg mk a) (show U.vm = (U.calling gg mk a).vm from rfl), h5.moved (Vm.Alike.refl U.vm), h6.moved (Vm.Alike.refl U.vm), h7.same (U := U.calling gg mk a) rfl, h8.moved (Vm.Alike.refl U.vm)⟩
theorem bw_A {B : BE} {g g' : BG} {sz : Nat} {q : Nat} (h : va_A (bw B g) sz q) : va_A (bw B g') sz q := by
  rcases h with ⟨k, e, h⟩ | h
  · have hk := bw_lt h
    rw [bw_get B g hk] at h
    cases h
    exact Or.inl ⟨k, _, bw_get B g' hk⟩
  · exact Or.inr h
theorem b_args_ok {B : BE} {nu : List Int} : ∀ (i : Nat) {a : List BV} {x : List Value}, b_S B nu a x → b_L B nu (b_args i a) (lv_args i x)
  | _, [], [], _ => trivial
  | _, [], _ :: _, h => h.elim
  | _, _ :: _, [], h => h.elim
  | i, a :: as, v :: vs, h => by
    refine ⟨⟨rfl, h.1⟩, ?_⟩
    rw [show v.category = bv_wd a from bv_V_wd h.1]
    exact b_args_ok _ h.2
theorem b_S_app {B : BE} {nu : List Int} : ∀ {a b : List BV} {x y : List Value}, b_S B nu a x → b_S B nu b y → b_S B nu (a ++ b) (x ++ y)
  | [], _, [], _, _, h => h
  | [], _, _ :: _, _, h, _ => h.elim
  | _ :: _, _, [], _, h, _ => h.elim
  | _ :: _, _, _ :: _, _, h, k => ⟨h.1, b_S_app h.2 k⟩
theorem b_S_rev {B : BE} {nu : List Int} : ∀ {a : List BV} {x : List Value}, b_S B nu a x → b_S B nu a.reverse x.reverse
  | [], [], h => h
  | [], _ :: _, h => h.elim
  | _ :: _, [], h => h.elim
  | _ :: _, _ :: _, h => by
    rw [List.reverse_cons, List.reverse_cons]
    exact b_S_app (b_S_rev h.2) ⟨h.1, trivial⟩
theorem b_S_take {B : BE} {nu : List Int} : ∀ (n : Nat) {a : List BV} {x : List Value}, b_S B nu a x → b_S B nu (a.take n) (x.take n)
  | 0, _, _, _ => trivial
  | _ + 1, [], [], h => h
  | _ + 1, [], _ :: _, h => h.elim
  | _ + 1, _ :: _, [], h => h.elim
  | n + 1, _ :: _, _ :: _, h => ⟨h.1, b_S_take n h.2⟩
theorem b_S_drop {B : BE} {nu : List Int} : ∀ (n : Nat) {a : List BV} {x : List Value}, b_S B nu a x → b_S B nu (a.drop n) (x.drop n)
  | 0, _, _, h => h
  | _ + 1, [], [], h => h
  | _ + 1, [], _ :: _, h => h.elim
  | _ + 1, _ :: _, [], h => h.elim
  | n + 1, _ :: _, _ :: _, h => b_S_drop n h.2
theorem b_split {B : BE} {nu : List Int} {st : List BV} {vs : List Value} {n : Nat} {x : BV} {rr : List BV} (hS : b_S B nu st vs) (h : st.drop n = x :: rr) : ∃ (v : Value) (vr : List Value), vs = (vs.take n).reverse.reverse ++ v :: vr ∧ (vs.take n).reverse.length = n ∧ bv_V B nu x v ∧ b_S B nu rr vr ∧ b_S B nu (st.take n).reverse (vs.take n).reverse := by
  have h1 := b_S_drop n hS
  rw [h] at h1
  have hl : n < vs.length := by
    rw [← b_S_len hS]
    rcases Nat.lt_or_ge n st.length with g | g
    · exact g
    · rw [List.drop_eq_nil_of_le g] at h; cases h
  cases hd : vs.drop n with
  | nil => rw [hd] at h1; exact h1.elim
  | cons v vr =>
    rw [hd] at h1
    refine ⟨v, vr, ?_, ?_, h1.1, h1.2, b_S_rev (b_S_take n hS)⟩
    · rw [List.reverse_reverse, ← hd, List.take_append_drop]
    · rw [List.length_reverse, List.length_take]; omega
/-- a method's row says; methods of String are a kind of their own -/
def bj_mok (M : AM) : Bool :=
  plainName (m_own M) && decide ((m_y M).cls = m_own M) && decide (m_own M = "java/lang/String")
    && decide ((parseMethodDescriptor (m_y M).desc).map (fun d => d.parameters.length) = some (m_n M)) && decide (m_L M ≤ 16)
    && (match m_ts M with
      | [tc, ti, tk, tsel] => ai_w tc (m_head M) && ai_w ti (.initialized (m_own M)) && ai_w tk (.instanceMethod (m_y M)) && ai_w tsel (.selects (m_own M) (m_y M) (m_y M)) && decide (m_hh M = []) && decide (m_kind M = 3)
      | _ => false)
    && ai_ckh (m_own M) (m_hh M) (m_hx M)
def b_mok1 (M : AM) : Bool := ai_mok1 M || bj_mok M
def b_row (mt : List AM) (M : AM) (q : AQ) : Bool := ai_row mt M q && b_ck3 (m_own M) q.2.1 q.2.2.2 && b_ck4 mt (m_own M) q.2.1 q.2.2.2
def b_mok2 (mt : List AM) (M : AM) : Bool := (m_code M).all (b_row mt M)
def b_Mk (M : AM) : Prop := plainName (m_own M) = true ∧ (m_y M).cls = m_own M ∧ m_own M ≠ "java/lang/invoke/MethodHandle" ∧ m_own M ≠ "java/lang/invoke/VarHandle" ∧ (parseMethodDescriptor (m_y M).desc).map (fun d => d.parameters.length) = some (m_n M) ∧ m_L M ≤ 16 ∧
  m_head M ∈ m_G ∧ Cond.initialized (m_own M) ∈ m_G ∧ ai_ckh (m_own M) (m_hh M) (m_hx M) = true ∧
  (m_kind M = 0 → Cond.instanceMethod (m_y M) ∈ m_G ∧ Cond.selects (m_own M) (m_y M) (m_y M) ∈ m_G ∧ (vwCl[m_ci M]?).map (fun r => r.1) = some (m_own M) ∧ m_hh M = []) ∧
  (m_kind M = 1 → Cond.static (m_y M) ∈ m_G) ∧
  (m_kind M = 3 → Cond.instanceMethod (m_y M) ∈ m_G ∧ Cond.selects (m_own M) (m_y M) (m_y M) ∈ m_G ∧ m_own M = "java/lang/String" ∧ m_hh M = []) ∧
  (m_kind M = 2 → (m_y M).name = "<init>")
theorem b_Mk_of {M : AM} (h : b_mok1 M = true) : b_Mk M := by
  unfold b_mok1 at h
  rw [Bool.or_eq_true] at h
  rcases h with h | h
  · have h3 : m_kind M ≠ 3 := by
      intro e
      unfold ai_mok1 at h
      simp only [Bool.and_eq_true, decide_eq_true_eq] at h
      obtain ⟨⟨-, h7⟩, -⟩ := h
      split at h7
      · rw [e] at h7
        simp only [Bool.and_eq_true, decide_eq_true_eq] at h7
        exact absurd h7.2.2 (by decide)
      · cases h7
    obtain ⟨k1, k2, k3, k4, k5, k6, k7, k8, k9, k10, k11, k12⟩ := ai_Mk_of h
    exact ⟨k1, k2, k3, k4, k5, k6, k7, k8, k9, k10, k11, fun z => absurd z h3, fun z => (k12 z).2.1⟩
  · unfold bj_mok at h
    simp only [Bool.and_eq_true, decide_eq_true_eq] at h
    obtain ⟨⟨⟨⟨⟨⟨h1, h2⟩, h3⟩, h5⟩, h6⟩, h7⟩, h8⟩ := h
    split at h7
    · next tc ti tk tsel hts =>
      simp only [Bool.and_eq_true, decide_eq_true_eq] at h7
      obtain ⟨⟨⟨⟨⟨g1, g2⟩, g3⟩, g4⟩, g5⟩, g6⟩ := h7
      exact ⟨h1, h2, by rw [h3]; decide, by rw [h3]; decide, h5, h6, ai_w_G g1, ai_w_G g2, h8, fun z => absurd (g6.symm.trans z) (by decide), fun z => absurd (g6.symm.trans z) (by decide), fun _ => ⟨ai_w_G g3, ai_w_G g4, h3, g5⟩, fun z => absurd (g6.symm.trans z) (by decide)⟩
    · cases h7
end
section
/-! ===== machine B: the run is sound ===== -/
def b_Sc (T : BT) (B : BE) (n0 : List Int) (g0 : BG) (A : Nat → Prop) (s : State) : Prop := t_sc T = true → ∃ (L : Nat) (xs : Nat → Int32), va_X (b_xo B 5) L xs s s.heap ∧ b_xo B 5 < s.heap.size ∧ ¬ A (b_xo B 5) ∧ L < 2147483648 ∧ n0[0]? = some (L : Int) ∧ ∀ j, j < L → g0 300 j = (xs j).toInt
section BSD
variable {mt : List AM} {cts : List BT} {T : BT} {M : AM} {l : Launch} {D : va_G} {B : BE} {p : Program} {e : Env} {R : Room} {s : State} {m : MethodId} {args : Array Value} {below : List Frame} {meth : Method} {c : Code} {A : Nat → Prop} {n0 : List Int} {g0 : BG} {mc ms : Nat}
/-- what is fixed while a method runs -/
def b_Fx (T : BT) (M : AM) (l : Launch) (D : va_G) (B : BE) (p : Program) (R : Room) (s : State) (m : MethodId) (args : Array Value) (meth : Method) (c : Code) (A : Nat → Prop) (n0 : List Int) (g0 : BG) (mc ms : Nat) : Prop :=
  ai_Fr M D l p s m args meth c ∧ b_En D B A s ∧ (∀ q, s.heap.size ≤ q → A q) ∧ n0.length = t_k T ∧ rf_ok n0 (b_rf (t_as T)) ∧ t_d T ≤ R.frames ∧ 36 * t_d T ≤ R.locals ∧ mc ≤ R.cells ∧ ms ≤ R.slots ∧ b_Sc T B n0 g0 A s
/-- where a run stands -/
def b_Cf (T : BT) (D : va_G) (B : BE) (s : State) (A : Nat → Prop) (n0 : List Int) (g0 : BG) (mc ms : Nat) (nu : List Int) (g : BG) (H : Heap) (locs : List Loc) (cells slots : Nat) (t : BS) (al : Li) : Prop :=
  nu_le n0 nu ∧ bg_same (t_md T) g0 g ∧ bw_ok g ∧ bs_ok nu g t ∧ va_P D vwCl (bw B g) H ∧ va_D A (bw B g) ∧ va_S A s.heap H locs ∧ ∃ a : Nat, li_e nu al = some (a : Int) ∧ cells + a ≤ mc ∧ slots + 6 * a ≤ ms
def b_PQ (T : BT) (D : va_G) (B : BE) (s : State) (args : Array Value) (below : List Frame) (A : Nat → Prop) (n0 : List Int) (g0 : BG) (mc ms : Nat) : State → Prop := vx_MQ below (b_Q D B (t_os T) (t_md T) n0 g0 A) (b_X D B (t_os T) (t_md T) n0 g0 A) args s mc ms A
def b_HY (T : BT) (M : AM) (l : Launch) (D : va_G) (B : BE) (p : Program) (e : Env) (R : Room) (s : State) (m : MethodId) (args : Array Value) (below : List Frame) (meth : Method) (c : Code) (A : Nat → Prop) (n0 : List Int) (g0 : BG) (mc ms : Nat) (h : BH) (zb : Option Int) : Prop :=
  ∀ (nu : List Int) (g : BG) (H : Heap) (locs : List Loc) (cells slots : Nat) (ls : Array Slot) (lv : List (Nat × Value)), b_Cf T D B s A n0 g0 mc ms nu g H locs cells slots h.2.2.1 h.2.2.2.2.1 → lv_has ls (m_L M) lv → b_L B nu h.2.1 lv → (∃ z, li_e nu h.2.2.2.1 = some z ∧ ∀ z0, zb = some z0 → z < z0) →
    W p l e R s m args below meth c H locs cells slots (b_PQ T D B s args below A n0 g0 mc ms) (F0 m h.1 ls [])
def b_zb (nu : List Int) (msr : Option Li) (zb : Option Int) : Prop := match msr with
  | none => zb = none
  | some f => ∃ z0, zb = some z0 ∧ li_e nu f = some z0
theorem b_zb.mono {nu nv : List Int} (h : nu_le nu nv) {msr : Option Li} {zb : Option Int} (k : b_zb nu msr zb) : b_zb nv msr zb := by
  unfold b_zb at k ⊢
  split
  · exact k
  · obtain ⟨z, h1, h2⟩ := k
    exact ⟨z, h1, li_e_mono h h2⟩
def b_SN (T : BT) (M : AM) (l : Launch) (D : va_G) (B : BE) (p : Program) (e : Env) (R : Room) (s : State) (m : MethodId) (args : Array Value) (below : List Frame) (meth : Method) (c : Code) (A : Nat → Prop) (n0 : List Int) (g0 : BG) (mc ms : Nat) (msr : Option Li) (ih : BIH) : Prop :=
  ∀ (fst : Bool) (pc : Nat) (lo : BLo) (st : List BV) (t : BS) (al : Li), ih fst pc lo st t al = true → ∀ (nu : List Int) (g : BG) (H : Heap) (locs : List Loc) (cells slots : Nat) (ls : Array Slot) (lv : List (Nat × Value)) (vs : List Value) (zb : Option Int),
    b_Cf T D B s A n0 g0 mc ms nu g H locs cells slots t al → lv_has ls (m_L M) lv → b_L B nu lo lv → b_S B nu st vs → b_zb nu msr zb → (∀ h ∈ t_hs T, b_HY T M l D B p e R s m args below meth c A n0 g0 mc ms h zb) →
    W p l e R s m args below meth c H locs cells slots (b_PQ T D B s args below A n0 g0 mc ms) (F0 m pc ls vs)
variable {nu : List Int} {g : BG} {H : Heap} {locs : List Loc} {cells slots : Nat} {ls : Array Slot} {lv : List (Nat × Value)} {vs : List Value} {t : BS} {al : Li} {lo : BLo} {st : List BV} {pc : Nat}
/-- the state moves on, the world stays -/
theorem b_Cf.up (C : b_Cf T D B s A n0 g0 mc ms nu g H locs cells slots t al) {nv : List Int} {t' : BS} (h : nu_le nu nv) (ht : bs_ok nv g t') : b_Cf T D B s A n0 g0 mc ms nv g H locs cells slots t' al := by
  obtain ⟨c1, c2, c3, c4, c5, c6, c7, a, c8, c9⟩ := C
  exact ⟨c1.tr h, c2, c3, ht, c5, c6, c7, a, li_e_mono h c8, c9⟩
theorem b_Cf.wr (C : b_Cf T D B s A n0 g0 mc ms nu g H locs cells slots t al) {t' : BS} {g' : BG} {H' : Heap} {locs' : List Loc} (h : bg_same (t_md T) g g') (hg : bw_ok g') (ht : bs_ok nu g' t') (hP : va_P D vwCl (bw B g') H') (hD : va_D A (bw B g')) (hS : va_S A s.heap H' locs') : b_Cf T D B s A n0 g0 mc ms nu g' H' locs' cells slots t' al := by
  obtain ⟨c1, c2, c3, c4, c5, c6, c7, c8⟩ := C
  exact ⟨c1, c2.tr h, hg, ht, hP, hD, hS, c8⟩
theorem b_evd {t2 : State} (C : b_Cf T D B s A n0 g0 mc ms nu g H locs cells slots t al) (ht : t2.heap = H) : b_Ev D B (t_md T) g0 A s t2 g := by
  obtain ⟨c1, c2, c3, c4, c5, c6, c7, c8⟩ := C
  exact ⟨by rw [ht]; exact c5, c6, c7.F ht, c3, c2⟩
theorem b_o1_some {r : Option (List Li × BS)} (h : r.isSome = true) : ∃ q, r = some q := Option.isSome_iff_exists.mp h
theorem bm_out_v (X : b_Fx T M l D B p R s m args meth c A n0 g0 mc ms) (C : b_Cf T D B s A n0 g0 mc ms nu g H locs cells slots t al) {ov : Option BV} (h : bm_out T (.inl ov) t = true) {v : Option Value} (hv : b_O B nu ov v) : ∃ (o : BO) (ow : Option BV) (nq : List Int), o ∈ t_os T ∧ o.1 = .inl ow ∧ b_O B nq ow v ∧ nu_le n0 nq ∧ bs_ok nq g o.2 := by
  obtain ⟨-, -, -, hk, hrf, -⟩ := X
  obtain ⟨c1, c2, c3, c4, c5, c6, c7, c8⟩ := C
  obtain ⟨o, ho, hk2⟩ := List.any_eq_true.mp h
  clear h
  have ids : li_T nu (li_ids (t_k T)) n0 := by rw [← hk]; exact li_ids_ok c1
  unfold bm_o1 at hk2
  split at hk2
  · next e1 e2 =>
    cases e2
    match v, hv with
    | none, _ =>
      obtain ⟨q, hq⟩ := b_o1_some hk2
      obtain ⟨nv, nq, -, -, -, q4, -, q6⟩ := bu_all_ok (B := B) c4 c3 ids (hrf.mono c1) hq (vs := []) trivial
      exact ⟨o, none, nq, ho, e1, trivial, q4, q6⟩
    | some _, hv => exact hv.elim
  · next p a e1 e2 =>
    cases e2
    match v, hv with
    | some v, hv =>
      obtain ⟨q, hq⟩ := b_o1_some hk2
      have hS : b_S B nu [a] [v] := ⟨hv, trivial⟩
      obtain ⟨nv, nq, -, -, -, q4, q5, q6⟩ := bu_all_ok (B := B) c4 c3 ids (fun q hq => by
        rcases List.mem_append.mp hq with hq | hq
        · exact b_rf_ok hS q hq
        · exact (hrf.mono c1) q hq) hq hS
      exact ⟨o, some p, nq, ho, e1, q5.1, q4, q6⟩
    | none, hv => exact hv.elim
  · next e2 => cases e2
  · cases hk2
theorem bm_out_x (X : b_Fx T M l D B p R s m args meth c A n0 g0 mc ms) (C : b_Cf T D B s A n0 g0 mc ms nu g H locs cells slots t al) {n : Nat} (h : bm_out T (.inr n) t = true) : ∃ (o : BO) (nq : List Int), o ∈ t_os T ∧ o.1 = .inr n ∧ nu_le n0 nq ∧ bs_ok nq g o.2 := by
  obtain ⟨-, -, -, hk, hrf, -⟩ := X
  obtain ⟨c1, c2, c3, c4, c5, c6, c7, c8⟩ := C
  obtain ⟨o, ho, hk2⟩ := List.any_eq_true.mp h
  clear h
  have ids : li_T nu (li_ids (t_k T)) n0 := by rw [← hk]; exact li_ids_ok c1
  unfold bm_o1 at hk2
  split at hk2
  · next e2 => cases e2
  · next e2 => cases e2
  · next n' k e1 e2 =>
    cases e2
    rw [Bool.and_eq_true, decide_eq_true_eq] at hk2
    obtain ⟨q, hq⟩ := b_o1_some hk2.2
    obtain ⟨nv, nq, -, -, -, q4, -, q6⟩ := bu_all_ok (B := B) c4 c3 ids (hrf.mono c1) hq (vs := []) trivial
    exact ⟨o, nq, ho, by rw [e1, hk2.1], q4, q6⟩
  · cases hk2
theorem bm_hd_ok (X : b_Fx T M l D B p R s m args meth c A n0 g0 mc ms) (hAl : ∀ h ∈ t_hs T, bs_ge h.2.2.1 h.2.2.2.2.1 = true) (C : b_Cf T D B s A n0 g0 mc ms nu g H locs cells slots t al) (hl : lv_has ls (m_L M) lv) (hL : b_L B nu lo lv) (hS : b_S B nu st vs) {msr : Option Li} {zb : Option Int} (hz : b_zb nu msr zb) {h : BH} (hh : h ∈ t_hs T) (k : bm_hd T msr h lo st t al = true)
    (Y : b_HY T M l D B p e R s m args below meth c A n0 g0 mc ms h zb) : W p l e R s m args below meth c H locs cells slots (b_PQ T D B s args below A n0 g0 mc ms) (F0 m h.1 ls vs) := by
  have hal := hAl h hh
  obtain ⟨-, -, -, hk, hrf, -⟩ := X
  obtain ⟨c1, c2, c3, c4, c5, c6, c7, a, c8, c9, c10⟩ := C
  have ids : li_T nu (li_ids (t_k T)) n0 := by rw [← hk]; exact li_ids_ok c1
  unfold bm_hd at k
  split at k
  · next as has =>
    match vs, hS with
    | _ :: _, hS => exact hS.elim
    | [], _ =>
      obtain ⟨lw, w1, w2, w3⟩ := b_pick_ok hL has
      split at k
      · next r hr =>
        obtain ⟨nv, nq, q1, q2, q3, q4, q5, q6⟩ := bu_all_ok (B := B) c4 c3 ids (b_rf_ok w3) hr w3
        rw [Bool.and_eq_true] at k
        obtain ⟨k1, k2⟩ := k
        split at k1
        · next b hb =>
          obtain ⟨x, x1, x2⟩ := li_s_ok q3 hb
          split at k2
          · next b2 hb2 =>
            obtain ⟨y, y1, y2⟩ := li_s_ok q3 hb2
            have hy0 := bs_ge_ok q6 hal y1
            have hya := bs_ge_ok q2 k2 (li_e_sub (li_e_mono q1 c8) y2)
            refine Y nq g H locs cells slots ls lw ⟨q4, c2, c3, q6, c5, c6, c7, y.toNat, by rw [show ((y.toNat : Nat) : Int) = y by omega]; exact y1, by omega, by omega⟩ ⟨hl.1, hl.2.1, fun q hq => hl.2.2 q (w1 q hq)⟩ (b_S_L w2 q5) ?_
            refine ⟨x, x1, fun z0 hz0 => ?_⟩
            unfold b_zb at hz
            split at hz
            · rw [hz] at hz0; cases hz0
            · next f =>
              obtain ⟨z1, e1, e2⟩ := hz
              rw [e1] at hz0
              cases hz0
              have := bs_ge_ok q2 k1 (li_e_sh (-1) (li_e_sub (li_e_mono q1 e2) x2))
              omega
          · cases k2
        · cases k1
      · cases k
  · cases k
set_option maxHeartbeats 1000000 in
theorem bm_ret_ok (X : b_Fx T M l D B p R s m args meth c A n0 g0 mc ms) (C : b_Cf T D B s A n0 g0 mc ms nu g H locs cells slots t al) (hS : b_S B nu st vs) {i : Instr} {len : Nat} (hd : decode (m_cc M) pc = .ok (i, len)) {ov : Option BV} (h : bm_ret M i len st t = some ov) (ho : bm_out T (.inl ov) t = true) :
    W p l e R s m args below meth c H locs cells slots (b_PQ T D B s args below A n0 g0 mc ms) (F0 m pc ls vs) := by
  have X' := X
  obtain ⟨⟨hx, hb, hml, hown, hr, hlocks, hini, htab, hT, hG, htr⟩, -⟩ := X
  have C' := C
  obtain ⟨c1, c2, c3, c4, c5, c6, c7, a, c8, c9, c10⟩ := C
  refine W.widen (show cells ≤ mc by omega) (show slots ≤ ms by omega) (vx_ret (XC := b_X D B (t_os T) (t_md T) n0 g0 A) ?_)
  have fin : ∀ (v : Option Value), b_O B nu ov v → ∀ t2 : State, t2.heap = H → s.WarmedH t2.vm → b_Q D B (t_os T) (t_md T) n0 g0 A args s (.returned v) t2 := fun v hv t2 ht _ => by
    obtain ⟨o, ow, nq, o1, o2, o3, o4, o5⟩ := bm_out_v X' C' ho hv
    exact ⟨o, ow, v, nq, g, o1, o2, rfl, o3, o4, o5, b_evd C' ht⟩
  unfold bm_ret at h
  split at h
  · next q =>
    match vs, hS with
    | [], hS => exact hS.elim
    | _ :: _ :: _, ⟨_, hS⟩ => exact hS.elim
    | [v], ⟨hv, _⟩ =>
      split at h
      · next ty hret =>
        split at h
        · next hcond =>
          cases h
          obtain ⟨y, rfl, hy⟩ := bv_N0 hcond.1 hv
          have n1 : narrow ty (.int y) = .int y := by
            have hf := hcond.2
            unfold bm_rf at hf
            split at hf
            · rfl
            · have := bs_fit_ok c4 hf hy
              rcases ai_bool (x := y) (by omega) (by omega) with rfl | rfl <;> rfl
            · have := bs_fit_ok c4 hf hy
              rw [← fb_byte (x := y) (by omega) (by omega)]
              exact pk_nb _
            · have := bs_fit_ok c4 hf hy
              obtain ⟨j, hj, rfl⟩ := nI_of (x := y) (fun z => by have := Int32.lt_iff_toInt_lt.mp z; have e2 : (0 : Int32).toInt = 0 := rfl; omega)
              rw [nI_toInt hj] at this
              exact (pk_charN (by omega)).1
            · cases hf
          exact W.zret hx hb (hr.trans hret) n1 (fin _ hv) c7.2.2 hd hlocks
        · cases h
      · cases h
  · next q =>
    match vs, hS with
    | [], hS => exact hS.elim
    | _ :: _ :: _, ⟨_, hS⟩ => exact hS.elim
    | [v], ⟨hv, _⟩ =>
      split at h
      · next hcond =>
        cases h
        obtain ⟨y, rfl, hy⟩ := bv_N1 hcond.2 hv
        exact W.lret hx hb (hr.trans hcond.1) (fin _ hv) c7.2.2 hd hlocks
      · cases h
  · next x =>
    match vs, hS with
    | [], hS => exact hS.elim
    | _ :: _ :: _, ⟨_, hS⟩ => exact hS.elim
    | [v], ⟨hv, _⟩ =>
      split at h
      · next Cn hret =>
        split at h
        · next hcond =>
          cases h
          exact W.aret hx hb (hr.trans hret) (Or.inl ⟨Cn, rfl⟩) (bv_V_ref hcond hv) (fin _ hv) c7.2.2 hd hlocks
        · cases h
      · cases h
  · match vs, hS with
    | _ :: _, hS => exact hS.elim
    | [], _ =>
      split at h
      · next hcond =>
        cases h
        exact W.vret hx hb (hr.trans hcond) (fin none trivial) c7.2.2 hd hlocks
      · cases h
  · cases h
set_option maxHeartbeats 1000000 in
theorem bm_th_ok (X : b_Fx T M l D B p R s m args meth c A n0 g0 mc ms) (C : b_Cf T D B s A n0 g0 mc ms nu g H locs cells slots t al) (hl : lv_has ls (m_L M) lv) (hS : b_S B nu st vs) {i : Instr} {len : Nat} {aux : List Nat} (hd : decode (m_cc M) pc = .ok (i, len)) (hck : ai_ck2 mt (m_own M) (m_cc M) (pc, i, len, aux) = true) {n : Nat} (h : bm_th (t_d T) M i len aux st = some n) (hal : bs_ge t (li_sh (-1) al) = true) (ho : bm_out T (.inr n) t = true) :
    W p l e R s m args below meth c H locs cells slots (b_PQ T D B s args below A n0 g0 mc ms) (F0 m pc ls vs) := by
  have X' := X
  obtain ⟨⟨hx, hb, hml, hown, hr, hlocks, hini, htab, hT, hG, htr⟩, ⟨-, hZ, -⟩, -, -, -, hfr, hlo, hRc, hRs, -⟩ := X
  have C' := C
  obtain ⟨c1, c2, c3, c4, c5, c6, c7, a, c8, c9, c10⟩ := C
  have ha1 := bs_ge_ok c4 hal (li_e_sh (-1) c8)
  obtain ⟨o, nq, o1, o2, o3, o4⟩ := bm_out_x X' C' ho
  unfold bm_th at h
  split at h
  · next x n' t1 t2 ic z =>
    split at h
    · next hcond =>
      cases h
      have hck : ax_ck (m_own M) (m_cc M) pc x n t1 t2 ic z = true := hck
      unfold ax_ck at hck
      simp only [Bool.and_eq_true, decide_eq_true_eq] at hck
      obtain ⟨⟨⟨⟨⟨⟨d0, d1⟩, d2⟩, d3⟩, d4⟩, d5⟩, d7⟩ := hck
      have d6 := ax_all (own := m_own M) (ic := ic) d0 (ai_w_ok d7).1
      have hk := hT _ (ai_w_ok d1).1 (ai_w_ok d1).2
      have hi := hT _ (ai_w_ok d2).1 (ai_w_ok d2).2
      have hcls : Bundle.fit (ax_n n) = true := by
        match n, d0 with
        | 0, _ => decide +kernel
        | 1, _ => decide +kernel
        | 2, _ => decide +kernel
        | 3, _ => decide +kernel
        | 4, _ => decide +kernel
      refine vx_throw0 (cls := ax_n n) (names := ax_up) hx hb htr hown hcls (by decide +kernel) hk hi (fun w hw => ?_) (fun w hw => ?_) hZ.1 hZ.2 c7 (hl.1.trans hml.symm) hd d3 d4 d5 ?_ ?_ ?_ (by omega) (by omega) hlocks ?_ c7.2.2 (by omega) (by omega)
      · obtain ⟨g1, g2, g3⟩ := d6 w hw
        rcases g3 with g3 | g3
        · exact hT w g1 g3
        · exact va_Nw.use (ax_kw_on g3) (hG.2.2.1 w g1 g3)
      · rcases List.mem_cons.mp hw with rfl | hw
        · rfl
        · rcases List.mem_cons.mp hw with rfl | hw
          · rfl
          · exact (d6 w hw).2.1
      · intro y hy
        rw [htab, hcond.2.1] at hy
        cases hy
      · show 2 + 3 < R.frames
        omega
      · have := b_S_sum hS
        have h8 := hcond.2.2
        show _ + (13 * (2 + 1) + 42) ≤ R.locals
        omega
      · intro t3 ha h1 h2
        refine ⟨o, n, nq, g, o1, o2, d0, rfl, o3, o4, c5.kept (fun k q hk => h2 q.1 ((c5 k q hk).lt)), c6, ⟨Nat.le_trans c7.1 h1, fun q g1 g2 => ?_⟩, c3, c2⟩
        rw [h2 q (Nat.lt_of_lt_of_le g1 c7.1)]
        exact c7.2.1 q g1 g2
    · cases h
  · cases h
theorem bm_sc_ok (X : b_Fx T M l D B p R s m args meth c A n0 g0 mc ms) (C : b_Cf T D B s A n0 g0 mc ms nu g H locs cells slots t al) (hS : b_S B nu st vs) {i : Instr} {len : Nat} (hd : decode (m_cc M) pc = .ok (i, len)) {r : List BV × BS} (h : bm_sc (t_sc T) i len st t = some r) {Q : State → Prop}
    (k : ∀ (nv : List Int) (vs' : List Value), nu_le nu nv → bs_ok nv g r.2 → b_S B nv r.1 vs' → W p l e R s m args below meth c H locs cells slots Q (F0 m (pc + len) ls vs')) : W p l e R s m args below meth c H locs cells slots Q (F0 m pc ls vs) := by
  obtain ⟨⟨hx, hb, hml, hown, hr, hlocks, hini, htab, hT, hG, htr⟩, -, -, -, -, -, -, -, -, hsc⟩ := X
  obtain ⟨c1, c2, c3, c4, c5, c6, c7, c8⟩ := C
  unfold bm_sc at h
  split at h
  · next r2 =>
    match vs, hS with
    | [], hS => exact hS.elim
    | v :: vs, ⟨hv, hS2⟩ =>
      split at h
      · next hc =>
        cases h
        obtain ⟨h1, rfl⟩ := hc
        obtain ⟨L, xs, hX, hbl, hbA, hL, h0, -⟩ := hsc h1
        have hv : v = .ref (b_xo B 5) := hv
        subst hv
        refine va_slen hx hb hX hbl hbA c7 hd (k nu (_ :: vs) nu_le.rf c4 ⟨bv_i.mpr ⟨_, rfl, ?_⟩, hS2⟩)
        show li_e nu (li_n 0) = some (nI L).toInt
        rw [nI_toInt (by omega)]
        exact li_e_n (c1 0 _ h0)
      · cases h
  · next x r2 =>
    match vs, hS with
    | [], hS => exact hS.elim
    | [_], ⟨_, hS⟩ => exact hS.elim
    | vj :: v :: vs, ⟨hvj, hv, hS2⟩ =>
      split at h
      · next hc =>
        cases h
        obtain ⟨h1, rfl, h2, h3, h4⟩ := hc
        obtain ⟨L, xs, hX, hbl, hbA, hL, h0, hj⟩ := hsc h1
        have hv : v = .ref (b_xo B 5) := hv
        subst hv
        obtain ⟨b, rfl, hxj⟩ := bv_N0 h2 hvj
        have g3 := bs_ge_ok c4 h3 hxj
        have g4 := bs_ge_ok c4 h4 (li_e_sh (-1) (li_e_sub (li_e_n (c1 0 _ h0)) hxj))
        have eb : (b.toNatClampNeg : Int) = b.toInt := by show (b.toInt.toNat : Int) = b.toInt; omega
        have hval : bq_G g 1010 0 b.toInt = (xs b.toNatClampNeg).toInt := by
          show g 300 b.toInt.toNat = _
          rw [c2.out (by omega)]
          exact hj b.toNatClampNeg (by omega)
        have hrg := fb_rng (xs b.toNatClampNeg)
        obtain ⟨nv, n1, n2, n3⟩ := bs_q_G c4 (k := 1010) (by omega) (li_e_c nu 0) hxj (lo := -2147483648) (hi := 2147483647) (by rw [hval]; omega) (by rw [hval]; omega)
        rw [hval] at n3
        exact va_sld hx hb hX hbl hbA c7 (vp_in_iff.mpr ⟨g3, by omega⟩) hd (k nv (_ :: vs) n1 n2 ⟨bv_i.mpr ⟨_, rfl, n3⟩, hS2.mono n1⟩)
      · cases h
  · cases h
end BSD
end
section
/-! ===== machine B: calls; every checked contract holds ===== -/
section BCR
variable {mt : List AM} {cts : List BT} {T : BT} {M : AM} {l : Launch} {D : va_G} {B : BE} {p : Program} {e : Env} {R : Room} {s : State} {m : MethodId} {args : Array Value} {below : List Frame} {meth : Method} {c : Code} {A : Nat → Prop} {n0 : List Int} {g0 : BG} {mc ms : Nat}
variable {nu : List Int} {g : BG} {H : Heap} {locs : List Loc} {cells slots : Nat} {ls : Array Slot} {lv : List (Nat × Value)} {vs : List Value} {t : BS} {al : Li} {lo : BLo} {st : List BV} {pc : Nat}
theorem b_Amono (hA : ∀ q, s.heap.size ≤ q → A q) (hD : va_D A (bw B g)) (hS : va_S A s.heap H locs) : ∀ q, va_A (bw B g) H.size q → A q := by
  intro q h
  rcases h with ⟨k, e, h⟩ | h
  · exact hD.2 k (q, e) h
  · exact hA q (Nat.le_trans hS.1 h)
theorem b_pre (hE : b_En D B A s) (hA : ∀ q, s.heap.size ≤ q → A q) (hP : va_P D vwCl (bw B g) H) (hD : va_D A (bw B g)) (hS : va_S A s.heap H locs) (av : List Value) : ∀ U : State, U.heap = H → s.WarmedH U.vm → b_Pc D B g H.size av av.toArray U := by
  obtain ⟨hG, hZ, hB, hR, hZs⟩ := hE
  intro U hU hw
  have mono := b_Amono hA hD hS
  exact ⟨rfl, by rw [hU], by rw [hU]; exact hP, hD.weaken (fun _ _ _ _ => trivial), hG.warm hw, by rw [hU]; exact ((hZ.kept hS.2.1).moved hw.alike).narrow mono, hB.moved hw.alike, hR.warm hw, by rw [hU]; exact ((hZs.kept hS.2.1).moved hw.alike).narrow mono⟩
set_option maxHeartbeats 4000000 in
theorem b_callrun {M' : AM} {k : Nat} {as rest : List BV} (X : b_Fx T M l D B p R s m args meth c A n0 g0 mc ms) (C : b_Cf T D B s A n0 g0 mc ms nu g H locs cells slots t al) (hl : lv_has ls (m_L M) lv) (hSt : b_S B nu st vs) {i : Instr} {len : Nat} {aux : List Nat}
    (hd : decode (m_cc M) pc = .ok (i, len)) (hck : ai_ck2 mt (m_own M) (m_cc M) (pc, i, len, aux) = true) (hck4 : b_ck4 mt (m_own M) i aux = true) (hcall : bm_call mt i len aux st = some (k, M', as, rest)) (hMs : ∀ M ∈ mt, b_Mk M) :
    len = 3 ∧ mt[k]? = some M' ∧ ∃ (vr av : List Value), b_S B nu rest vr ∧ b_S B nu as av ∧ ∀ (C' : BT) (np : List Int), b_CT mt l D B C' → t_mi C' = k → bs_ok np g (t_s C') → b_S B np (t_as C') av → (aux.length ≠ 3 ∨ bm_nx C' = true) → t_d C' + 1 ≤ t_d T → cells + t_mc C' ≤ R.cells → slots + 6 * t_mc C' ≤ R.slots →
      vx_Run p l e R s m args below meth c H locs cells slots (t_mc C') (6 * t_mc C') (F0 m pc ls vs) vr (b_Q D B (t_os C') (t_md C') np g (va_A (bw B g) H.size) av.toArray) (b_X D B (t_os C') (t_md C') np g (va_A (bw B g) H.size)) (va_A (bw B g) H.size) := by
  obtain ⟨⟨hx, hb, hml, hown, hr, hlocks, hini, htab, hT, hG, htr⟩, hE, hA, -, -, hfr, hlo, hRc, hRs, -⟩ := X
  obtain ⟨c1, c2, c3, c4, c5, c6, c7, -⟩ := C
  have hts : ∀ w ∈ m_G, w.before args s = true := fun w hw => hT w (m_G_of hw).1 (m_G_of hw).2
  have hRoom : ∀ (M' : AM) (C' : BT), m_L M' ≤ 16 → t_d C' + 1 ≤ t_d T → (ai_rm (t_d C') (t_mc C') (6 * t_mc C')).frames + 1 ≤ R.frames ∧ 8 + (m_L M' + 11) + (ai_rm (t_d C') (t_mc C') (6 * t_mc C')).locals ≤ R.locals := fun M' C' h h2 => ⟨by show t_d C' + 1 ≤ _; omega, by show 8 + (m_L M' + 11) + 36 * t_d C' ≤ R.locals; omega⟩
  unfold bm_call at hcall
  split at hcall
  · next x k' tt =>
    split at hcall
    · next Mc hMc =>
      split at hcall
      · next xo rr hdrop =>
        split at hcall
        · next hcond =>
          cases hcall
          obtain ⟨rfl, hrc, h8⟩ := hcond
          have hmem : M' ∈ mt := List.mem_of_getElem? hMc
          obtain ⟨k1, k2, k3, k4, k5, k6, k7, k8, k9, k10, k11, k12, k13⟩ := hMs M' hmem
          obtain ⟨v, vr, e1, e2, e3, e4, e5⟩ := b_split hSt hdrop
          have hck : (match mt[k]? with
            | some M => ai_w tt (.methodLink (m_own _) x (m_y M))
            | none => false) = true := hck
          rw [hMc] at hck
          have key : ∀ (a : Addr), v = .ref a → (∃ cell : Cell, H[a]? = some cell ∧ cell.vm.isStatics = false ∧ s.vm.findClass (m_own M') = some cell.cls) → Cond.instanceMethod (m_y M') ∈ m_G → Cond.selects (m_own M') (m_y M') (m_y M') ∈ m_G → m_hh M' = [] →
              (3 : Nat) = 3 ∧ mt[k]? = some M' ∧ ∃ (vr av : List Value), b_S B nu rest vr ∧ b_S B nu (xo :: (st.take (m_n M')).reverse) av ∧ ∀ (C' : BT) (np : List Int), b_CT mt l D B C' → t_mi C' = k → bs_ok np g (t_s C') → b_S B np (t_as C') av → (([k, tt] : List Nat).length ≠ 3 ∨ bm_nx C' = true) → t_d C' + 1 ≤ t_d T → cells + t_mc C' ≤ R.cells → slots + 6 * t_mc C' ≤ R.slots →
              vx_Run p l e R s m args below meth c H locs cells slots (t_mc C') (6 * t_mc C') (F0 m pc ls vs) vr (b_Q D B (t_os C') (t_md C') np g (va_A (bw B g) H.size) av.toArray) (b_X D B (t_os C') (t_md C') np g (va_A (bw B g) H.size)) (va_A (bw B g) H.size) := by
            intro a hva hcell q1 q2 q4
            subst hva
            refine ⟨rfl, hMc, vr, .ref a :: (vs.take (m_n M')).reverse, e4, ⟨e3, e5⟩, fun C' np hC hk hnp hSa hnx hdd hc hs => ?_⟩
            refine vx_runV (Ts := m_G) (C := m_own M') (ws := m_ws M') (rm := ai_rm (t_d C') (t_mc C') (6 * t_mc C')) (Pc := b_Pc D B g H.size (.ref a :: (vs.take (m_n M')).reverse)) (n := m_n M') ⟨hx, hb, hml, hown, hts⟩ (hC M' (by rw [hk]; exact hMc) np g H.size _ hnp c3 hSa)
              (cwV (m_n M') hts (m_good ?_) (by unfold m_ws m_head; rw [if_pos q4]) rfl rfl ⟨k2, by rw [k2]; exact k3, by rw [k2]; exact k4, k5⟩ (hRoom M' C' k6 hdd))
              ⟨b_Pc_blind, hcell, b_pre hE hA c5 c6 c7 _⟩ rfl e2 hl.1 e1 (lv_room (by rw [b_S_sum e4]; exact h8)) hd ⟨hc, hs⟩
            intro w hw
            unfold wsV at hw
            rcases List.mem_append.mp hw with hw | hw
            · simp only [List.mem_cons, List.not_mem_nil, or_false] at hw
              rcases hw with rfl | rfl | rfl | rfl
              · exact ai_w_G hck
              · exact q1
              · exact q2
              · exact k8
            · rcases List.mem_cons.mp hw with rfl | hw
              · exact k7
              · exact hw
          unfold bm_rc at hrc
          split at hrc
          · next o =>
            obtain ⟨P, hv1, hp, hP2, hat⟩ := e3
            split at hrc
            · next q hq =>
              have hrc := of_decide_eq_true hrc
              obtain ⟨ci, fs⟩ := q
              obtain ⟨hr0, hr1⟩ := hrc
              have hr1 : ci = m_ci M' := hr1
              subst hr1
              obtain ⟨q1, q2, q3, q4⟩ := k10 hr0
              have hq2 : bk_tab[bk_at P]? = some (.inl (m_ci M', fs)) := by rw [hat]; exact hq
              have hw : (bw B g)[P]? = some (b_ad B P, .inr (m_ci M', bw_fs B (g P) P fs)) := by rw [bw_get B g hP2, bw_o hq2]
              cases hrow : vwCl[m_ci M']? with
              | none => rw [hrow] at q3; cases q3
              | some row =>
                rw [hrow] at q3
                have q3 : row.1 = m_own M' := Option.some.inj q3
                obtain ⟨cell, g1, g2, g3⟩ := va_recv hG.1 c5 hrow hw
                exact key _ hv1 ⟨cell, g1, g2, by rw [← q3]; exact g3⟩ q1 q2 q4
            · cases hrc
          · next n =>
            have hrc := of_decide_eq_true hrc
            obtain ⟨hr0, hr1, hr2⟩ := hrc
            obtain ⟨q1, q2, q3, q4⟩ := k12 hr0
            obtain ⟨j, rfl⟩ : ∃ j, n = 100 + j := ⟨n - 100, by omega⟩
            have hv1 : bv_X B (100 + j) v := e3
            unfold bv_X at hv1
            rw [if_neg (by omega), if_neg (by omega)] at hv1
            obtain ⟨cell, g1, g2, g3⟩ := vk_recv hE.2.2.2.2.1 (i := j) (by omega) c7
            exact key _ hv1 ⟨cell, g1, g2, by rw [q3]; exact g3⟩ q1 q2 q4
          · cases hrc
        · cases hcall
      · cases hcall
    · cases hcall
  · next x k' tt =>
    split at hcall
    · next Mc hMc =>
      split at hcall
      · next hcond =>
        cases hcall
        obtain ⟨rfl, hr0, hn, h8⟩ := hcond
        have hmem : M' ∈ mt := List.mem_of_getElem? hMc
        obtain ⟨k1, k2, k3, k4, k5, k6, k7, k8, k9, k10, k11, k12, k13⟩ := hMs M' hmem
        have q1 := k11 hr0
        have e5 := b_S_rev (b_S_take (m_n M') hSt)
        have e4 := b_S_drop (m_n M') hSt
        have e1 : vs = (vs.take (m_n M')).reverse.reverse ++ vs.drop (m_n M') := by rw [List.reverse_reverse, List.take_append_drop]
        have e2 : (vs.take (m_n M')).reverse.length = m_n M' := by
          rw [List.length_reverse, List.length_take, ← b_S_len hSt]
          exact Nat.min_eq_left hn
        have hck : (match mt[k]? with
          | some M => ai_w tt (.methodLink (m_own _) x (m_y M))
          | none => false) = true := hck
        rw [hMc] at hck
        have hgood : GoodIn m_G (va_wsS (m_own M) x (m_y M') (m_ws M')) := m_good (by
          intro w hw
          unfold va_wsS at hw
          rcases List.mem_append.mp hw with hw | hw
          · simp only [List.mem_cons, List.not_mem_nil, or_false] at hw
            rcases hw with rfl | rfl | rfl
            · exact ai_w_G hck
            · exact q1
            · rw [k2]; exact k8
          · rcases List.mem_cons.mp hw with rfl | hw
            · exact k7
            · exact hw)
        refine ⟨rfl, hMc, vs.drop (m_n M'), (vs.take (m_n M')).reverse, e4, e5, fun C' np hC hk hnp hSa hnx hdd hc hs => ?_⟩
        by_cases hh : m_hh M' = []
        · exact vx_runS (Ts := m_G) (ws := m_ws M') (rm := ai_rm (t_d C') (t_mc C') (6 * t_mc C')) (Pc := b_Pc D B g H.size (vs.take (m_n M')).reverse) (n := m_n M') ⟨hx, hb, hml, hown, hts⟩ (hC M' (by rw [hk]; exact hMc) np g H.size _ hnp c3 hSa)
            (va_cwS (m_n M') hts hgood (by unfold m_ws m_head; rw [if_pos hh]) rfl rfl ⟨by rw [k2]; exact k3, by rw [k2]; exact k4, k5⟩ (hRoom M' C' k6 hdd))
            ⟨b_Pc_blind, b_pre hE hA c5 c6 c7 _⟩ rfl e2 hl.1 e1 (lv_room (by rw [b_S_sum e4]; exact h8)) hd ⟨hc, hs⟩
        · exact vx_runSX (hh := m_hh M') (Ts := m_G) (ws := m_ws M') (rm := ai_rm (t_d C') (t_mc C') (6 * t_mc C')) (Pc := b_Pc D B g H.size (vs.take (m_n M')).reverse) (n := m_n M') ⟨hx, hb, hml, hown, hts⟩ (hC M' (by rw [hk]; exact hMc) np g H.size _ hnp c3 hSa)
            (vx_cwSW (m_n M') hts hgood (by unfold m_ws m_head; rw [if_neg hh]) rfl rfl ⟨by rw [k2]; exact k3, by rw [k2]; exact k4, k5⟩ (hRoom M' C' k6 hdd))
            ⟨b_Pc_blind, b_pre hE hA c5 c6 c7 _⟩ rfl e2 hl.1 e1 (lv_room (by rw [b_S_sum e4]; exact h8)) hd ⟨hc, hs⟩
      · cases hcall
    · cases hcall
  · next x k' tt zz =>
    split at hcall
    · next Mc hMc =>
      split at hcall
      · next hcond =>
        cases hcall
        obtain ⟨rfl, hr0, hn, h8, hh⟩ := hcond
        have hmem : M' ∈ mt := List.mem_of_getElem? hMc
        obtain ⟨k1, k2, k3, k4, k5, k6, k7, k8, k9, k10, k11, k12, k13⟩ := hMs M' hmem
        have q1 := k11 hr0
        have e5 := b_S_rev (b_S_take (m_n M') hSt)
        have e4 := b_S_drop (m_n M') hSt
        have e1 : vs = (vs.take (m_n M')).reverse.reverse ++ vs.drop (m_n M') := by rw [List.reverse_reverse, List.take_append_drop]
        have e2 : (vs.take (m_n M')).reverse.length = m_n M' := by
          rw [List.length_reverse, List.length_take, ← b_S_len hSt]
          exact Nat.min_eq_left hn
        have hck : (match mt[k]? with
          | some M' => ai_wb tt (.methodLinkNest (m_own M) x (m_y M') "MountYard")
          | none => false) = true := hck4
        rw [hMc] at hck
        have hnw : va_Nw (.methodLinkNest (m_own M) x (m_y M') "MountYard") s := hG.2.2.1 _ (ai_wb_ok hck) rfl
        refine ⟨rfl, hMc, vs.drop (m_n M'), (vs.take (m_n M')).reverse, e4, e5, fun C' np hC hk hnp hSa hnx hdd hc hs => ?_⟩
        have hnx : bm_nx C' = true := hnx.resolve_left (fun z => z rfl)
        have run := va_runSN (host := "MountYard") (As := (vs.take (m_n M')).reverse) (rest := vs.drop (m_n M')) (bytes := m_cc M') (maxL := m_L M') (ret := m_ret M') (Ts := m_G) (ws := m_ws M') (rm := ai_rm (t_d C') (t_mc C') (6 * t_mc C')) (Pc := b_Pc D B g H.size (vs.take (m_n M')).reverse) (n := m_n M') (below := below) (meth := meth) (cells := cells) (slots := slots) (locs := locs) (e := e) (g := F0 m pc ls vs) ⟨hx, hb, hml, hown, hts⟩ (ai_toMet (hC M' (by rw [hk]; exact hMc) np g H.size _ hnp c3 hSa) (fun N st t hX => by
            obtain ⟨o, n, nq, g9, o1, o2, -⟩ := hX
            exact bm_nx_ok hnx o1 o2))
          ⟨va_cnB (m_n M') hts (m_good (fun w hw => by
            rcases List.mem_cons.mp hw with rfl | hw
            · exact k7
            · exact hw)) (by unfold m_ws m_head; rw [if_pos hh]) rfl rfl hnw (hts _ (by rw [k2]; exact k8)) ⟨by rw [k2]; exact k3, by rw [k2]; exact k4, k5⟩ (hRoom M' C' k6 hdd), hts _ q1, trivial⟩
          ⟨b_Pc_blind, b_pre hE hA c5 c6 c7 _⟩ rfl e2 hl.1 e1 (lv_room (by rw [b_S_sum e4]; exact h8)) hd ⟨hc, hs⟩
        exact fun T hT X => Or.inl (run T hT X)
      · cases hcall
    · cases hcall
  · cases hcall
theorem b_after {Q : State → Prop} {dc ds : Nat} {vr : List Value} {os : List BO} {md : List Nat} {np : List Int} {av : Array Value} (run : vx_Run p l e R s m args below meth c H locs cells slots dc ds (F0 m pc ls vs) vr (b_Q D B os md np g (va_A (bw B g) H.size) av) (b_X D B os md np g (va_A (bw B g) H.size)) (va_A (bw B g) H.size)) (hA : ∀ q, s.heap.size ≤ q → A q) (hD : va_D A (bw B g)) (hS : va_S A s.heap H locs)
    (kr : ∀ (o : BO) (ov : Option BV) (v : Option Value) (nq : List Int) (g' : BG) (H' : Heap) (locs' : List Loc), o ∈ os → o.1 = .inl ov → b_O B nq ov v → nu_le np nq → bs_ok nq g' o.2 → bw_ok g' → bg_same md g g' → va_P D vwCl (bw B g') H' → va_D A (bw B g') → va_S A s.heap H' locs' → W p l e R s m args below meth c H' locs' (cells + dc) (slots + ds) Q (F0 m (pc + 3) ls (v.toList ++ vr)))
    (kx : ∀ (o : BO) (n : Nat) (nq : List Int) (g' : BG) (H' : Heap) (locs' : List Loc) (q : Addr) (ce : Cell), o ∈ os → o.1 = .inr n → n < 5 → nu_le np nq → bs_ok nq g' o.2 → bw_ok g' → bg_same md g g' → va_P D vwCl (bw B g') H' → va_D A (bw B g') → va_S A s.heap H' locs' → H'[q]? = some ce → ce.vm = .none → s.vm.findClass (ax_n n) = some ce.cls → vx_W p l e R s m args below meth c H' locs' (cells + dc) (slots + ds) Q (F0 m pc ls vr) q) :
    W p l e R s m args below meth c H locs cells slots Q (F0 m pc ls vs) := by
  have mono := b_Amono hA hD hS
  intro T hT X
  rcases run T hT X with ⟨v, st₀, t, T', L, h0, X', hL, e1, e2, hq, st⟩ | ⟨q, st₀, t, T', L, En, ce, h0, X', hL, e1, e2, hx, hce, hcv, hcl, st⟩
  · obtain ⟨o, ov, v', nq, g', o1, o2, hv, o4, o5, o6, hP, hD', hF, hg, hs⟩ := hq
    cases hv
    obtain ⟨k1, k2, k3⟩ := vx_keep h0 e1 hS (fun q _ h => mono q h) mono hL hF
    obtain ⟨t2, a1, b1⟩ := kr o ov v nq g' T'.heap (locs ++ L) o1 o2 o4 o5 o6 hg hs (by rw [e1]; exact hP) (hD'.weaken (fun _ _ _ h => mono _ h)) k3 T' rfl X'
    exact ⟨t2, st t2 a1, b1⟩
  · obtain ⟨o, n, nq, g', o1, o2, o3, rfl, o5, o6, hP, hD', hF, hg, hs⟩ := hx
    obtain ⟨k1, k2, k3⟩ := vx_keep h0 e1 hS (fun q _ h => mono q h) mono hL hF
    obtain ⟨t2, a1, b1⟩ := kx o n nq g' T'.heap (locs ++ L) q ce o1 o2 o3 o5 o6 hg hs (by rw [e1]; exact hP) (hD'.weaken (fun _ _ _ h => mono _ h)) k3 (by rw [e1]; exact hce) hcv hcl T' rfl X'
    exact ⟨t2, st.trans a1, b1⟩
theorem bm_try_ok {k : Nat} {as : List BV} : ∀ {js : List Nat} {r : BT × List Li × BS}, bm_try cts k as t js = some r → r.1 ∈ cts ∧ t_mi r.1 = k ∧ bu_all t [] (t_as r.1) as (b_rf as) (t_s r.1) = some r.2
  | [], r, h => by cases h
  | j :: js, r, h => by
    have h : (match cts[j]? with
      | some C => if t_mi C = k then (match bu_all t [] (t_as C) as (b_rf as) (t_s C) with
        | some r => some (C, r)
        | none => bm_try cts k as t js) else bm_try cts k as t js
      | none => bm_try cts k as t js) = some r := h
    split at h
    · next C hC =>
      split at h
      · next hk =>
        split at h
        · next q hq =>
          cases h
          exact ⟨List.mem_of_getElem? hC, hk, hq⟩
        · exact bm_try_ok h
      · exact bm_try_ok h
    · exact bm_try_ok h
set_option maxHeartbeats 4000000 in
theorem bm_go_ok (X : b_Fx T M l D B p R s m args meth c A n0 g0 mc ms) (hMs : ∀ M ∈ mt, b_Mk M) (hMh : ai_ckh (m_own M) (m_hh M) (m_hx M) = true) (hcts : ∀ C ∈ cts, b_CT mt l D B C) (C : b_Cf T D B s A n0 g0 mc ms nu g H locs cells slots t al) (hl : lv_has ls (m_L M) lv) (hL : b_L B nu lo lv) (hS : b_S B nu st vs) {i : Instr} {len : Nat} {aux : List Nat}
    (hd : decode (m_cc M) pc = .ok (i, len)) (hck : ai_ck2 mt (m_own M) (m_cc M) (pc, i, len, aux) = true) (hck4 : b_ck4 mt (m_own M) i aux = true) {msr : Option Li} {zb : Option Int} (hz : b_zb nu msr zb) (hY : ∀ h ∈ t_hs T, b_HY T M l D B p e R s m args below meth c A n0 g0 mc ms h zb) {ih : BIH} (S : b_SN T M l D B p e R s m args below meth c A n0 g0 mc ms msr ih)
    (h : bm_go mt cts T M ih pc i len aux lo st t al = true) : W p l e R s m args below meth c H locs cells slots (b_PQ T D B s args below A n0 g0 mc ms) (F0 m pc ls vs) := by
  unfold bm_go at h
  split at h
  · next q hq =>
    obtain ⟨k, M', as, rest⟩ := q
    split at h
    · next js hjs =>
      split at h
      · next r hr =>
        obtain ⟨C', th, t'⟩ := r
        obtain ⟨hC1, hC2, hC3⟩ := bm_try_ok hr
        simp only [Bool.and_eq_true, Bool.or_eq_true, decide_eq_true_eq] at h
        obtain ⟨⟨h0, h1⟩, h2, h3, h4, h5⟩ := h
        obtain ⟨hlen, hMk, vr, av, hvr, hav, run⟩ := b_callrun (e := e) (below := below) X C hl hS hd hck hck4 hq hMs
        have X' := X
        have C0 := C
        obtain ⟨⟨hx, hb, hml, hown, hr0, hlocks, hini, htab, hT, hG, htr⟩, hE, hA, -, -, hfr, hlo, hRc, hRs, -⟩ := X
        obtain ⟨c1, c2, c3, c4, c5, c6, c7, a, c8, c9, c10⟩ := C
        obtain ⟨nv, np, q1, q2, q3, q4, q5, q6⟩ := bu_all_ok (B := B) c4 c3 li_T.nil (b_rf_ok hav) hC3 hav
        have ha1 := bs_ge_ok q2 h4 (li_e_sh (-(t_mc C' : Int)) (li_e_mono q1 c8))
        have run := run C' np (hcts C' hC1) hC2 q6 q5 h0 h1 (by omega) (by omega)
        have next : ∀ (o : BO) (nq : List Int) (g' : BG) (H' : Heap) (locs' : List Loc), o ∈ t_os C' → nu_le np nq → bs_ok nq g' o.2 → bw_ok g' → bg_same (t_md C') g g' → va_P D vwCl (bw B g') H' → va_D A (bw B g') → va_S A s.heap H' locs' → ∃ nw, nu_le nu nw ∧ li_T nw (bo_th t' th o) nq ∧ ∀ ss, bo_st (t_md C') t' th o = some ss → ∃ t2, t2 ∈ ss ∧ b_Cf T D B s A n0 g0 mc ms nw g' H' locs' (cells + t_mc C') (slots + 6 * t_mc C') t2 (li_sh (-(t_mc C' : Int)) al) := by
          intro o nq g' H' locs' ho hnq hbs hg' hsm hP' hD' hS'
          obtain ⟨nw, w1, w2, w3⟩ := bo_ok q2 q3 hnq hbs hsm
          refine ⟨nw, q1.tr w1, w2, fun ss hss => ?_⟩
          obtain ⟨t2, t21, t22⟩ := w3 ss hss
          refine ⟨t2, t21, c1.tr (q1.tr w1), c2.tr (hsm.sub (fun z hz => of_decide_eq_true (List.all_eq_true.mp h3 z hz))), hg', t22, hP', hD', hS', a - t_mc C', ?_, by omega, by omega⟩
          have := li_e_sh (-(t_mc C' : Int)) (li_e_mono (q1.tr w1) c8)
          rw [this]
          exact congrArg some (by omega)
        subst hlen
        refine b_after run hA c6 c7 (fun o ov v nq g' H' locs' ho ho1 hO hnq hbs hg' hsm hP' hD' hS' => ?_) (fun o n nq g' H' locs' qa ce ho ho1 hn5 hnq hbs hg' hsm hP' hD' hS' hcell hcv hcl => ?_)
        · obtain ⟨nw, w1, w2, w3⟩ := next o nq g' H' locs' ho hnq hbs hg' hsm hP' hD' hS'
          have h6 := List.all_eq_true.mp h5 o ho
          unfold bm_oc at h6
          split at h6
          · next ws ss hw1 hw2 =>
            obtain ⟨t2, t21, t22⟩ := w3 ss hw2
            have hrest : b_S B nw (ws ++ rest) (v.toList ++ vr) := by
              refine b_S_app ?_ (hvr.mono w1)
              unfold bo_vl at hw1
              rw [ho1] at hw1
              match ov, v, hO, hw1 with
              | none, none, _, hw1 => cases hw1; exact trivial
              | some x, some y, hO, hw1 =>
                dsimp only at hw1
                split at hw1
                · next w hw =>
                  cases hw1
                  exact ⟨bu_sv_ok w2 hw hO, trivial⟩
                · cases hw1
              | none, some _, hO, _ => exact hO.elim
              | some _, none, hO, _ => exact hO.elim
            exact S false (pc + 3) lo _ t2 _ (List.all_eq_true.mp h6 t2 t21) nw g' H' locs' _ _ ls lv _ zb t22 hl (hL.mono w1) hrest (hz.mono w1) hY
          · next n ss hw1 hw2 =>
            unfold bo_vl at hw1
            rw [ho1] at hw1
            match ov, hw1 with
            | none, hw1 => cases hw1
            | some x, hw1 =>
              dsimp only at hw1
              split at hw1 <;> cases hw1
          · cases h6
        · obtain ⟨nw, w1, w2, w3⟩ := next o nq g' H' locs' ho hnq hbs hg' hsm hP' hD' hS'
          have h6 := List.all_eq_true.mp h5 o ho
          unfold bm_oc at h6
          split at h6
          · next ws ss hw1 hw2 =>
            unfold bo_vl at hw1
            rw [ho1] at hw1
            cases hw1
          · next n' ss hw1 hw2 =>
            unfold bo_vl at hw1
            rw [ho1] at hw1
            cases hw1
            obtain ⟨t2, t21, t22⟩ := w3 ss hw2
            split at h6
            · next hp hh =>
              obtain ⟨pre, x, suf, g1, g2, g3, g4, g5, g6⟩ := ai_hnd_ok hT hG.2.2.2 hn5 hMh hh
              refine vx_catch hown pre x suf (htab.trans g1) g2 g3 g4 g5 (va_Nw.use rfl (hG.2.2.1 _ (ai_cast n hn5) rfl)) hcell hcv hcl ?_
              rw [g6]
              exact S false hp lo _ t2 _ (List.all_eq_true.mp h6 t2 t21) nw g' H' locs' _ _ ls lv _ zb t22 hl (hL.mono w1) ⟨⟨qa, rfl⟩, trivial⟩ (hz.mono w1) hY
            · rw [Bool.and_eq_true, decide_eq_true_eq] at h6
              obtain ⟨o', nq', o1, o2, o3, o4⟩ := bm_out_x X' t22 (List.all_eq_true.mp h6.2 t2 t21)
              refine vx_out (by intro z hz; rw [htab, h6.1] at hz; cases hz) hlocks hcell hcv hcl (fun t3 ht ha => ⟨o', n, nq', g', o1, o2, hn5, rfl, o3, o4, b_evd t22 ht⟩) hS'.2.2 (by omega) (by omega)
          · cases h6
      · cases h
    · cases h
  · cases h
set_option maxHeartbeats 4000000 in
theorem bm_body_ok (X : b_Fx T M l D B p R s m args meth c A n0 g0 mc ms) (hMs : ∀ M ∈ mt, b_Mk M) (hM2 : b_mok2 mt M = true) (hMh : ai_ckh (m_own M) (m_hh M) (m_hx M) = true) (hcts : ∀ C ∈ cts, b_CT mt l D B C) (hAl : ∀ h ∈ t_hs T, bs_ge h.2.2.1 h.2.2.2.2.1 = true) {msr : Option Li} {ih : BIH} (S : b_SN T M l D B p e R s m args below meth c A n0 g0 mc ms msr ih) :
    b_SN T M l D B p e R s m args below meth c A n0 g0 mc ms msr (bm_body mt cts T M msr ih) := by
  intro fst pc lo st t al hrun nu g H locs cells slots ls lv vs zb C hl hL hS hz hY
  have X' := X
  have C0 := C
  obtain ⟨⟨hx, hb, hml, hown, hr0, hlocks, hini, htab, hT, hG, htr⟩, hE, hA, -, -, hfr, hlo, hRc, hRs, -⟩ := X
  obtain ⟨c1, c2, c3, c4, c5, c6, c7, -⟩ := C
  unfold bm_body at hrun
  split at hrun
  · next h1 hs1 hh =>
    have hh2 : (t_hs T).filter (fun h => h.1 == pc) = h1 :: hs1 := by
      cases fst with
      | true => cases hh
      | false => exact hh
    obtain ⟨h, hin, hrun⟩ := List.any_eq_true.mp hrun
    rw [← hh2] at hin
    obtain ⟨hmem, hpc⟩ := List.mem_filter.mp hin
    have hpc : h.1 = pc := beq_iff_eq.mp hpc
    rw [← hpc]
    exact bm_hd_ok X' hAl C0 hl hL hS hz hmem hrun (hY h hmem)
  split at hrun
  · cases hrun
  next q hq =>
  have hmem : q ∈ m_code M := List.mem_of_find?_eq_some hq
  have hpc : q.1 = pc := by have := List.find?_some hq; exact beq_iff_eq.mp this
  obtain ⟨qpc, i, len, aux⟩ := q
  have hpc : qpc = pc := hpc
  subst hpc
  have hrow := List.all_eq_true.mp hM2 _ hmem
  unfold b_row ai_row at hrow
  simp only [Bool.and_eq_true, decide_eq_true_eq] at hrow
  obtain ⟨⟨⟨⟨hd, hchk⟩, hck2⟩, hck3⟩, hck4⟩ := hrow
  dsimp only at hrun hd hchk hck3 hck4
  split at hrun
  · next rs h1 =>
    exact bm_pu_ok hx hb hd hl hL c4 hS h1 (fun r hr nv ls' lv' vs' a1 a2 a3 a4 a5 => S false r.1 r.2.1 r.2.2.1 r.2.2.2 al (List.all_eq_true.mp hrun r hr) nv g H locs cells slots ls' lv' vs' zb (C0.up a1 a2) a3 a4 a5 (hz.mono a1) hY)
  split at hrun
  · next r h1 =>
    exact b_h1_ok hx hb hown hT hG.1 hd hchk hE.2.2.1 c3 c4 c5 hS h1 (fun nv vs' a1 a2 a3 => S false _ lo r.1 r.2 al hrun nv g H locs cells slots ls lv vs' zb (C0.up a1 a2) hl (hL.mono a1) a3 (hz.mono a1) hY)
  split at hrun
  · next r h1 =>
    exact b_h2_ok hx hb hown hT hG.1 hd hchk hE.2.2.1 c3 c4 c5 c6 c7 hS h1 (fun g' H' locs' vs' a1 a2 a3 a4 a5 a6 a7 => S false _ lo r.1 r.2 al hrun nu g' H' locs' cells slots ls lv vs' zb (C0.wr a1 a2 a3 a4 a5 a6) hl hL a7 hz hY)
  split at hrun
  · next ov h1 => exact bm_ret_ok X' C0 hS hd h1 hrun
  split at hrun
  · next rs h1 =>
    exact b_j1_ok hx hb hown hT hd hck3 hE.2.2.2.1 hE.2.2.2.2 c7 c4 hS h1 (fun r hr nv vs' a1 a2 a3 => S false _ lo r.1 r.2 al (List.all_eq_true.mp hrun r hr) nv g H locs cells slots ls lv vs' zb (C0.up a1 a2) hl (hL.mono a1) a3 (hz.mono a1) hY)
  split at hrun
  · next r h1 =>
    exact b_j2_ok hx hb (hml.trans hl.1.symm) hown hT hG.1 hd hck3 hE.2.2.1 c3 c4 c5 c6 c7 hS hfr hlo h1 (fun g' H' locs' vs' a1 a2 a3 a4 a5 a6 a7 => S false _ lo r.1 r.2 al hrun nu g' H' locs' cells slots ls lv vs' zb (C0.wr a1 a2 a3 a4 a5 a6) hl hL a7 hz hY)
  split at hrun
  · next rs h1 =>
    obtain ⟨-, -, -, -, -, -, -, a, -, c9, c10⟩ := id C0
    exact b_j3_ok hx hb (hml.trans hl.1.symm) hown hT hd hck3 c4 hS hfr hlo (by omega) (by omega) h1 (fun r hr vs' a2 a3 => S false _ lo r.1 r.2 al (List.all_eq_true.mp hrun r hr) nu g H locs cells slots ls lv vs' zb (C0.up nu_le.rf a2) hl hL a3 hz hY)
  split at hrun
  · next r h1 =>
    exact bm_sc_ok X' C0 hS hd h1 (fun nv vs' a1 a2 a3 => S false _ lo r.1 r.2 al hrun nv g H locs cells slots ls lv vs' zb (C0.up a1 a2) hl (hL.mono a1) a3 (hz.mono a1) hY)
  split at hrun
  · next n h1 =>
    rw [Bool.and_eq_true] at hrun
    exact bm_th_ok X' C0 hl hS hd hck2 h1 hrun.1 hrun.2
  exact bm_go_ok X' hMs hMh hcts C0 hl hL hS hd hck2 hck4 hz hY S hrun
theorem bm_run_ok (X : b_Fx T M l D B p R s m args meth c A n0 g0 mc ms) (hMs : ∀ M ∈ mt, b_Mk M) (hM2 : b_mok2 mt M = true) (hMh : ai_ckh (m_own M) (m_hh M) (m_hx M) = true) (hcts : ∀ C ∈ cts, b_CT mt l D B C) (hAl : ∀ h ∈ t_hs T, bs_ge h.2.2.1 h.2.2.2.2.1 = true) {msr : Option Li} : ∀ fuel : Nat, b_SN T M l D B p e R s m args below meth c A n0 g0 mc ms msr (bm_run mt cts T M msr fuel)
  | 0 => fun _ _ _ _ _ _ h => by cases h
  | f + 1 => bm_body_ok X hMs hM2 hMh hcts hAl (bm_run_ok X hMs hM2 hMh hcts hAl f)
/-- every head holds, by its measure -/
theorem b_heads (X : b_Fx T M l D B p R s m args meth c A n0 g0 mc ms) (hMs : ∀ M ∈ mt, b_Mk M) (hM2 : b_mok2 mt M = true) (hMh : ai_ckh (m_own M) (m_hh M) (m_hx M) = true) (hcts : ∀ C ∈ cts, b_CT mt l D B C) {fuel : Nat}
    (hH : ∀ h ∈ t_hs T, bs_ge h.2.2.1 h.2.2.2.1 = true ∧ bs_ge h.2.2.1 h.2.2.2.2.1 = true ∧ ∀ s ∈ bm_spl h, bm_run mt cts T M (some h.2.2.2.1) fuel true h.1 h.2.1 [] s h.2.2.2.2.1 = true) : ∀ (n : Nat) (z0 : Int), z0 ≤ (n : Int) → ∀ h ∈ t_hs T, b_HY T M l D B p e R s m args below meth c A n0 g0 mc ms h (some z0) := by
  intro n
  induction n with
  | zero =>
    intro z0 hz0 h hh nu g H locs cells slots ls lv C hl hL hm
    obtain ⟨h1, h2, h3⟩ := hH h hh
    obtain ⟨c1, c2, c3, c4, -⟩ := id C
    obtain ⟨z, hz, hm⟩ := hm
    have := hm z0 rfl
    have := bs_ge_ok c4 h1 hz
    omega
  | succ n ihn =>
    intro z0 hz0 h hh nu g H locs cells slots ls lv C hl hL hm
    obtain ⟨h1, h2, h3⟩ := hH h hh
    obtain ⟨z, hz, hm⟩ := hm
    have := hm z0 rfl
    obtain ⟨t, t1, t2⟩ := bm_spl_ok (h := h) C.2.2.2.1
    exact bm_run_ok X hMs hM2 hMh hcts (fun h hh => (hH h hh).2.1) fuel true h.1 h.2.1 [] t h.2.2.2.2.1 (h3 t t1) nu g H locs cells slots ls lv [] (some z) (C.up nu_le.rf t2) hl hL trivial ⟨z, rfl, hz⟩ (ihn z (by omega))
theorem b_heads0 (X : b_Fx T M l D B p R s m args meth c A n0 g0 mc ms) (hMs : ∀ M ∈ mt, b_Mk M) (hM2 : b_mok2 mt M = true) (hMh : ai_ckh (m_own M) (m_hh M) (m_hx M) = true) (hcts : ∀ C ∈ cts, b_CT mt l D B C) {fuel : Nat}
    (hH : ∀ h ∈ t_hs T, bs_ge h.2.2.1 h.2.2.2.1 = true ∧ bs_ge h.2.2.1 h.2.2.2.2.1 = true ∧ ∀ s ∈ bm_spl h, bm_run mt cts T M (some h.2.2.2.1) fuel true h.1 h.2.1 [] s h.2.2.2.2.1 = true) : ∀ h ∈ t_hs T, b_HY T M l D B p e R s m args below meth c A n0 g0 mc ms h none := by
  intro h hh nu g H locs cells slots ls lv C hl hL hm
  obtain ⟨z, hz, -⟩ := hm
  exact b_heads X hMs hM2 hMh hcts hH (z + 1).toNat (z + 1) (by omega) h hh nu g H locs cells slots ls lv C hl hL ⟨z, hz, fun z0 e => by cases e; omega⟩
end BCR
theorem bm_chk_of {mt : List AM} {cts : List BT} {T : BT} {fuel : Nat} (h : bm_chk mt cts T fuel = true) {M : AM} (hM : mt[t_mi T]? = some M) : ((t_as T).map bv_wd).sum ≤ m_L M ∧ bm_run mt cts T M none fuel true 0 (b_args 0 (t_as T)) [] (t_s T) (li_c (t_mc T : Int)) = true ∧
    ∀ h ∈ t_hs T, bs_ge h.2.2.1 h.2.2.2.1 = true ∧ bs_ge h.2.2.1 h.2.2.2.2.1 = true ∧ ∀ s ∈ bm_spl h, bm_run mt cts T M (some h.2.2.2.1) fuel true h.1 h.2.1 [] s h.2.2.2.2.1 = true := by
  unfold bm_chk at h
  rw [hM] at h
  simp only [Bool.and_eq_true, decide_eq_true_eq, List.all_eq_true] at h
  exact ⟨h.1, h.2.1, fun q hq => h.2.2 q hq⟩
set_option maxHeartbeats 4000000 in
/-- a checked contract holds, if those that it uses do -/
theorem b_ct {mt : List AM} {cts : List BT} {T : BT} {l : Launch} {D : va_G} {B : BE} (htr : l.stackTraces = false) (hMs : ∀ M ∈ mt, b_Mk M) (hM2 : ∀ M ∈ mt, b_mok2 mt M = true) (hcts : ∀ C ∈ cts, b_CT mt l D B C) {fuel : Nat} (hsc : t_sc T = false) (h : bm_chk mt cts T fuel = true) : b_CT mt l D B T := by
  intro M hM n0 g sz av hbs hg hav
  have hmem : M ∈ mt := List.mem_of_getElem? hM
  obtain ⟨h1, h2, h3⟩ := bm_chk_of h hM
  obtain ⟨k1, k2, k3, k4, k5, k6, k7, k8, k9, k10, k11, k12, k13⟩ := hMs M hmem
  have hlen : (lg_sl av).length ≤ m_L M := by rw [ai_sl_len, b_S_sum hav]; exact h1
  have key : ∀ (p : Program) (e : Env) (s : State) (m : MethodId) (args : Array Value) (below : List Frame) (meth : Method) (c : Code) (s₁ : State), BodyLoose p l (m_y M) (headSpec (m_ws M) (ai_rm (t_d T) (t_mc T) (6 * t_mc T))) (m_cc M) (m_L M) (m_ret M) e s m args below meth c s₁ → c.maxLocals = m_L M → c.exceptionTable.toList = tableOf (m_hh M) → b_Pc D B g sz av args s →
      W p l e (headSpec (m_ws M) (ai_rm (t_d T) (t_mc T) (6 * t_mc T))).room s m args below meth c s.heap [] 0 0 (vx_MQ below (b_Q D B (t_os T) (t_md T) n0 g (va_A (bw B g) sz)) (b_X D B (t_os T) (t_md T) n0 g (va_A (bw B g) sz)) args s (t_mc T) (6 * t_mc T) (va_A (bw B g) sz)) (entryFrame m args (m_L M)) := by
    intro p e s m args below meth c s₁ Bd hml htab hP
    obtain ⟨rfl, hsz, hPP, hD, hE⟩ := hP
    subst hsz
    have hts := atoms_spec (ws := m_ws M) Bd.pre
    rw [lg_entry_eq]
    have X : b_Fx T M l D B p (headSpec (m_ws M) (ai_rm (t_d T) (t_mc T) (6 * t_mc T))).room s m av.toArray meth c (va_A (bw B g) s.heap.size) n0 g (t_mc T) (6 * t_mc T) := by
      refine ⟨⟨Bd.exec, Bd.bytes, hml, ?_, Bd.returns, Bd.notSynchronized, ?_, htab, fun w hw hg => hts w (List.mem_cons_of_mem _ (m_G_in hw hg)), hE.1, htr⟩, hE, fun q hq => Or.inr hq, hbs.1.1.symm, b_rf_ok hav, Nat.le_refl _, Nat.le_refl _, Nat.le_refl _, Nat.le_refl _, fun z => by rw [hsc] at z; cases z⟩
      · have := findClass_of_methodNamed Bd.named
        rw [k2] at this
        exact this
      · intro hk
        exact (name_of_methodNamed Bd.named Bd.method).1.trans (k13 hk)
    have C : b_Cf T D B s (va_A (bw B g) s.heap.size) n0 g (t_mc T) (6 * t_mc T) n0 g s.heap [] 0 0 (t_s T) (li_c (t_mc T : Int)) :=
      ⟨nu_le.rf, bg_same.rf, hg, hbs, hPP, hD.self, va_S.rf, t_mc T, li_e_c n0 _, by omega, by omega⟩
    exact bm_run_ok (e := e) (below := below) X hMs (hM2 M hmem) k9 hcts (fun h hh => (h3 h hh).2.1) fuel true 0 _ _ _ _ h2 n0 g s.heap [] 0 0 _ (lv_args 0 av) [] none C (lv_entry av hlen) (b_args_ok 0 hav) trivial rfl (b_heads0 X hMs (hM2 M hmem) k9 hcts h3)
  by_cases hh : m_hh M = []
  · refine vx_ofW (cc := m_cc M) (maxL := m_L M) (ret := m_ret M) (ws' := m_G) (by rw [k2]; exact k1) (by unfold m_ws m_head; rw [if_pos hh]) ?_
    intro p e s m args below meth c s₁ Bd hml hempty hP
    exact key p e s m args below meth c s₁ Bd hml (by rw [hh]; exact List.eq_nil_iff_forall_not_mem.mpr hempty) hP
  · refine vx_ofWH (cc := m_cc M) (maxL := m_L M) (ret := m_ret M) (hh := m_hh M) (ws' := m_G) (by rw [k2]; exact k1) (by unfold m_ws m_head; rw [if_neg hh]) ?_
    intro p e s m args below meth c s₁ Bd hml hP
    have hts := atoms_spec (ws := m_ws M) Bd.pre
    have hc := hts (m_head M) List.mem_cons_self
    unfold m_head at hc
    rw [if_neg hh] at hc
    exact key p e s m args below meth c s₁ Bd hml (vx_table (x := m_y M) Bd hc) hP
end
section
/-! ===== a contract's check in pieces ===== -/
def bm_ce (mt : List AM) (cts : List BT) (T : BT) (fuel : Nat) : Bool := match mt[t_mi T]? with
  | some M => decide (((t_as T).map bv_wd).sum ≤ m_L M) && bm_run mt cts T M none fuel true 0 (b_args 0 (t_as T)) [] (t_s T) (li_c (t_mc T : Int))
  | none => false
def bm_h1 (mt : List AM) (cts : List BT) (T : BT) (M : AM) (fuel : Nat) (h : BH) : Bool := bs_ge h.2.2.1 h.2.2.2.1 && (bs_ge h.2.2.1 h.2.2.2.2.1 && (bm_spl h).all (fun s => bm_run mt cts T M (some h.2.2.2.1) fuel true h.1 h.2.1 [] s h.2.2.2.2.1))
def bm_ch (mt : List AM) (cts : List BT) (T : BT) (fuel j : Nat) : Bool := match mt[t_mi T]?, (t_hs T)[j]? with
  | some M, some h => bm_h1 mt cts T M fuel h
  | _, _ => false
theorem bm_join {mt : List AM} {cts : List BT} {T : BT} {fuel : Nat} (h1 : bm_ce mt cts T fuel = true) (h2 : ∀ j, j < (t_hs T).length → bm_ch mt cts T fuel j = true) : bm_chk mt cts T fuel = true := by
  unfold bm_ce at h1
  unfold bm_chk
  split at h1
  · next M hM =>
    rw [Bool.and_eq_true] at h1
    rw [hM]
    dsimp only
    rw [Bool.and_eq_true, Bool.and_eq_true]
    refine ⟨h1.1, h1.2, List.all_eq_true.mpr (fun h hh => ?_)⟩
    obtain ⟨j, hj, e⟩ := List.getElem_of_mem hh
    have h3 := h2 j hj
    unfold bm_ch at h3
    rw [hM, List.getElem?_eq_getElem hj, e] at h3
    exact h3
  · cases h1
theorem bm_lawj {mt : List AM} {cts : List BT} {T : BT} {M : AM} {fuel : Nat} (h : (t_hs T).all (bm_h1 mt cts T M fuel) = true) : ∀ h ∈ t_hs T, bs_ge h.2.2.1 h.2.2.2.1 = true ∧ bs_ge h.2.2.1 h.2.2.2.2.1 = true ∧ ∀ s ∈ bm_spl h, bm_run mt cts T M (some h.2.2.2.1) fuel true h.1 h.2.1 [] s h.2.2.2.2.1 = true := by
  intro q hq
  have h1 := List.all_eq_true.mp h q hq
  unfold bm_h1 at h1
  rw [Bool.and_eq_true, Bool.and_eq_true] at h1
  exact ⟨h1.1, h1.2.1, fun s hs => List.all_eq_true.mp h1.2.2 s hs⟩
end
