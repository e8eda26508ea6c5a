section
-- ===== PART A: goes FIRST, ahead of the names: the tables' words, and 'selects' of the private methods out of them =====
/-- a private method of a class that the tables say can be made, by its rows of tables_1 -/
def lw_okq (q : MethodName × Nat) : Prop := (q.1.cls ≠ "java/lang/invoke/MethodHandle" ∧ q.1.cls ≠ "java/lang/invoke/VarHandle") ∧ Cond.instantiable q.1.cls q.2 ∈ tables_1 ∧ Cond.privateMethod q.1 ∈ tables_1 ∧ Cond.instanceMethod q.1 ∈ tables_1
theorem lw_p0 : lw_okq (⟨"LaundrySky$Law", "addStep", "(I)V"⟩, 3) := ⟨⟨by decide +kernel, by decide +kernel⟩, List.mem_of_getElem? (i := 87) (by decide +kernel), List.mem_of_getElem? (i := 435) (by decide +kernel), List.mem_of_getElem? (i := 436) (by decide +kernel)⟩
theorem lw_p1 : lw_okq (⟨"LaundrySky$Tape", "readWord", "()V"⟩, 9) := ⟨⟨by decide +kernel, by decide +kernel⟩, List.mem_of_getElem? (i := 36) (by decide +kernel), List.mem_of_getElem? (i := 453) (by decide +kernel), List.mem_of_getElem? (i := 454) (by decide +kernel)⟩
theorem lw_p2 : lw_okq (⟨"LaundrySky$Tape", "readDigits", "()V"⟩, 9) := ⟨⟨by decide +kernel, by decide +kernel⟩, List.mem_of_getElem? (i := 36) (by decide +kernel), List.mem_of_getElem? (i := 515) (by decide +kernel), List.mem_of_getElem? (i := 516) (by decide +kernel)⟩
theorem lw_p3 : lw_okq (⟨"LaundrySky$TownReader", "readLine", "()V"⟩, 3) := ⟨⟨by decide +kernel, by decide +kernel⟩, List.mem_of_getElem? (i := 177) (by decide +kernel), List.mem_of_getElem? (i := 581) (by decide +kernel), List.mem_of_getElem? (i := 582) (by decide +kernel)⟩
theorem lw_p4 : lw_okq (⟨"LaundrySky$TownReader", "skipUnlessFull", "(Z)V"⟩, 3) := ⟨⟨by decide +kernel, by decide +kernel⟩, List.mem_of_getElem? (i := 177) (by decide +kernel), List.mem_of_getElem? (i := 585) (by decide +kernel), List.mem_of_getElem? (i := 586) (by decide +kernel)⟩
theorem lw_p5 : lw_okq (⟨"LaundrySky$TownReader", "newName", "()J"⟩, 3) := ⟨⟨by decide +kernel, by decide +kernel⟩, List.mem_of_getElem? (i := 177) (by decide +kernel), List.mem_of_getElem? (i := 594) (by decide +kernel), List.mem_of_getElem? (i := 595) (by decide +kernel)⟩
theorem lw_p6 : lw_okq (⟨"LaundrySky$TownReader", "readPlace", "()V"⟩, 3) := ⟨⟨by decide +kernel, by decide +kernel⟩, List.mem_of_getElem? (i := 177) (by decide +kernel), List.mem_of_getElem? (i := 630) (by decide +kernel), List.mem_of_getElem? (i := 631) (by decide +kernel)⟩
theorem lw_p7 : lw_okq (⟨"LaundrySky$TownReader", "lineOutside", "(I)I"⟩, 3) := ⟨⟨by decide +kernel, by decide +kernel⟩, List.mem_of_getElem? (i := 177) (by decide +kernel), List.mem_of_getElem? (i := 636) (by decide +kernel), List.mem_of_getElem? (i := 637) (by decide +kernel)⟩
theorem lw_p8 : lw_okq (⟨"LaundrySky$TownReader", "readCloth", "()V"⟩, 3) := ⟨⟨by decide +kernel, by decide +kernel⟩, List.mem_of_getElem? (i := 177) (by decide +kernel), List.mem_of_getElem? (i := 652) (by decide +kernel), List.mem_of_getElem? (i := 653) (by decide +kernel)⟩
theorem lw_p9 : lw_okq (⟨"LaundrySky$TownReader", "readCrossing", "()V"⟩, 3) := ⟨⟨by decide +kernel, by decide +kernel⟩, List.mem_of_getElem? (i := 177) (by decide +kernel), List.mem_of_getElem? (i := 664) (by decide +kernel), List.mem_of_getElem? (i := 665) (by decide +kernel)⟩
theorem lw_p10 : lw_okq (⟨"LaundrySky$TownReader", "readLaw", "()V"⟩, 3) := ⟨⟨by decide +kernel, by decide +kernel⟩, List.mem_of_getElem? (i := 177) (by decide +kernel), List.mem_of_getElem? (i := 683) (by decide +kernel), List.mem_of_getElem? (i := 684) (by decide +kernel)⟩
theorem lw_p11 : lw_okq (⟨"LaundrySky$Law", "readWhole", "(LLaundrySky$Tape;I)V"⟩, 3) := ⟨⟨by decide +kernel, by decide +kernel⟩, List.mem_of_getElem? (i := 87) (by decide +kernel), List.mem_of_getElem? (i := 687) (by decide +kernel), List.mem_of_getElem? (i := 688) (by decide +kernel)⟩
theorem lw_p12 : lw_okq (⟨"LaundrySky$Law", "readTest", "(LLaundrySky$Tape;I)V"⟩, 3) := ⟨⟨by decide +kernel, by decide +kernel⟩, List.mem_of_getElem? (i := 87) (by decide +kernel), List.mem_of_getElem? (i := 691) (by decide +kernel), List.mem_of_getElem? (i := 692) (by decide +kernel)⟩
theorem lw_p13 : lw_okq (⟨"LaundrySky$Law", "readSum", "(LLaundrySky$Tape;I)V"⟩, 3) := ⟨⟨by decide +kernel, by decide +kernel⟩, List.mem_of_getElem? (i := 87) (by decide +kernel), List.mem_of_getElem? (i := 695) (by decide +kernel), List.mem_of_getElem? (i := 696) (by decide +kernel)⟩
theorem lw_p14 : lw_okq (⟨"LaundrySky$Law", "readProduct", "(LLaundrySky$Tape;I)V"⟩, 3) := ⟨⟨by decide +kernel, by decide +kernel⟩, List.mem_of_getElem? (i := 87) (by decide +kernel), List.mem_of_getElem? (i := 699) (by decide +kernel), List.mem_of_getElem? (i := 700) (by decide +kernel)⟩
theorem lw_p15 : lw_okq (⟨"LaundrySky$Law", "readPart", "(LLaundrySky$Tape;I)V"⟩, 3) := ⟨⟨by decide +kernel, by decide +kernel⟩, List.mem_of_getElem? (i := 87) (by decide +kernel), List.mem_of_getElem? (i := 703) (by decide +kernel), List.mem_of_getElem? (i := 704) (by decide +kernel)⟩
def lw_privs_1 : List (MethodName × Nat) := [(⟨"LaundrySky$Law", "addStep", "(I)V"⟩, 3), (⟨"LaundrySky$Tape", "readWord", "()V"⟩, 9), (⟨"LaundrySky$Tape", "readDigits", "()V"⟩, 9), (⟨"LaundrySky$TownReader", "readLine", "()V"⟩, 3), (⟨"LaundrySky$TownReader", "skipUnlessFull", "(Z)V"⟩, 3), (⟨"LaundrySky$TownReader", "newName", "()J"⟩, 3), (⟨"LaundrySky$TownReader", "readPlace", "()V"⟩, 3), (⟨"LaundrySky$TownReader", "lineOutside", "(I)I"⟩, 3), (⟨"LaundrySky$TownReader", "readCloth", "()V"⟩, 3), (⟨"LaundrySky$TownReader", "readCrossing", "()V"⟩, 3), (⟨"LaundrySky$TownReader", "readLaw", "()V"⟩, 3), (⟨"LaundrySky$Law", "readWhole", "(LLaundrySky$Tape;I)V"⟩, 3), (⟨"LaundrySky$Law", "readTest", "(LLaundrySky$Tape;I)V"⟩, 3), (⟨"LaundrySky$Law", "readSum", "(LLaundrySky$Tape;I)V"⟩, 3), (⟨"LaundrySky$Law", "readProduct", "(LLaundrySky$Tape;I)V"⟩, 3), (⟨"LaundrySky$Law", "readPart", "(LLaundrySky$Tape;I)V"⟩, 3)]
theorem lw_r1 : ∀ q ∈ lw_privs_1, lw_okq q := List.forall_mem_cons.mpr ⟨lw_p0, List.forall_mem_cons.mpr ⟨lw_p1, List.forall_mem_cons.mpr ⟨lw_p2, List.forall_mem_cons.mpr ⟨lw_p3, List.forall_mem_cons.mpr ⟨lw_p4, List.forall_mem_cons.mpr ⟨lw_p5, List.forall_mem_cons.mpr ⟨lw_p6, List.forall_mem_cons.mpr ⟨lw_p7, List.forall_mem_cons.mpr ⟨lw_p8, List.forall_mem_cons.mpr ⟨lw_p9, List.forall_mem_cons.mpr ⟨lw_p10, List.forall_mem_cons.mpr ⟨lw_p11, List.forall_mem_cons.mpr ⟨lw_p12, List.forall_mem_cons.mpr ⟨lw_p13, List.forall_mem_cons.mpr ⟨lw_p14, List.forall_mem_cons.mpr ⟨lw_p15, fun _ h => absurd h List.not_mem_nil⟩⟩⟩⟩⟩⟩⟩⟩⟩⟩⟩⟩⟩⟩⟩⟩
theorem lw_p16 : lw_okq (⟨"LaundrySky", "startAnew", "()V"⟩, 12) := ⟨⟨by decide +kernel, by decide +kernel⟩, List.mem_of_getElem? (i := 28) (by decide +kernel), List.mem_of_getElem? (i := 732) (by decide +kernel), List.mem_of_getElem? (i := 733) (by decide +kernel)⟩
theorem lw_p17 : lw_okq (⟨"LaundrySky$Plan", "readRow", "(LLaundrySky$Tape;LLaundrySky$Town;I)V"⟩, 7) := ⟨⟨by decide +kernel, by decide +kernel⟩, List.mem_of_getElem? (i := 196) (by decide +kernel), List.mem_of_getElem? (i := 766) (by decide +kernel), List.mem_of_getElem? (i := 767) (by decide +kernel)⟩
theorem lw_p18 : lw_okq (⟨"LaundrySky$Sky", "wetShirts", "()I"⟩, 7) := ⟨⟨by decide +kernel, by decide +kernel⟩, List.mem_of_getElem? (i := 227) (by decide +kernel), List.mem_of_getElem? (i := 906) (by decide +kernel), List.mem_of_getElem? (i := 907) (by decide +kernel)⟩
theorem lw_p19 : lw_okq (⟨"LaundrySky$Plan", "isDone", "(LLaundrySky$Sky;I)Z"⟩, 7) := ⟨⟨by decide +kernel, by decide +kernel⟩, List.mem_of_getElem? (i := 196) (by decide +kernel), List.mem_of_getElem? (i := 964) (by decide +kernel), List.mem_of_getElem? (i := 965) (by decide +kernel)⟩
theorem lw_p20 : lw_okq (⟨"LaundrySky", "waysToDry", "(IIII)I"⟩, 12) := ⟨⟨by decide +kernel, by decide +kernel⟩, List.mem_of_getElem? (i := 28) (by decide +kernel), List.mem_of_getElem? (i := 1007) (by decide +kernel), List.mem_of_getElem? (i := 1008) (by decide +kernel)⟩
theorem lw_p21 : lw_okq (⟨"LaundrySky$Wishes", "findUsefulLines", "()V"⟩, 4) := ⟨⟨by decide +kernel, by decide +kernel⟩, List.mem_of_getElem? (i := 284) (by decide +kernel), List.mem_of_getElem? (i := 1027) (by decide +kernel), List.mem_of_getElem? (i := 1028) (by decide +kernel)⟩
theorem lw_p22 : lw_okq (⟨"LaundrySky$Wishes", "search", "(II)Z"⟩, 4) := ⟨⟨by decide +kernel, by decide +kernel⟩, List.mem_of_getElem? (i := 284) (by decide +kernel), List.mem_of_getElem? (i := 1031) (by decide +kernel), List.mem_of_getElem? (i := 1032) (by decide +kernel)⟩
theorem lw_p23 : lw_okq (⟨"LaundrySky$Wishes", "canStillBe", "(II)Z"⟩, 4) := ⟨⟨by decide +kernel, by decide +kernel⟩, List.mem_of_getElem? (i := 284) (by decide +kernel), List.mem_of_getElem? (i := 1035) (by decide +kernel), List.mem_of_getElem? (i := 1036) (by decide +kernel)⟩
theorem lw_p24 : lw_okq (⟨"LaundrySky$Wishes", "leftOf", "(II)I"⟩, 4) := ⟨⟨by decide +kernel, by decide +kernel⟩, List.mem_of_getElem? (i := 284) (by decide +kernel), List.mem_of_getElem? (i := 1041) (by decide +kernel), List.mem_of_getElem? (i := 1042) (by decide +kernel)⟩
theorem lw_p25 : lw_okq (⟨"LaundrySky$Wishes", "wins", "(II)Z"⟩, 4) := ⟨⟨by decide +kernel, by decide +kernel⟩, List.mem_of_getElem? (i := 284) (by decide +kernel), List.mem_of_getElem? (i := 1047) (by decide +kernel), List.mem_of_getElem? (i := 1048) (by decide +kernel)⟩
theorem lw_p26 : lw_okq (⟨"LaundrySky$Wishes", "forgetFrom", "(I)V"⟩, 4) := ⟨⟨by decide +kernel, by decide +kernel⟩, List.mem_of_getElem? (i := 284) (by decide +kernel), List.mem_of_getElem? (i := 1052) (by decide +kernel), List.mem_of_getElem? (i := 1053) (by decide +kernel)⟩
theorem lw_p27 : lw_okq (⟨"LaundrySky$Wishes", "firstLine", "(I)I"⟩, 4) := ⟨⟨by decide +kernel, by decide +kernel⟩, List.mem_of_getElem? (i := 284) (by decide +kernel), List.mem_of_getElem? (i := 1056) (by decide +kernel), List.mem_of_getElem? (i := 1057) (by decide +kernel)⟩
theorem lw_p28 : lw_okq (⟨"LaundrySky$Tellings", "tryPair", "(III)V"⟩, 10) := ⟨⟨by decide +kernel, by decide +kernel⟩, List.mem_of_getElem? (i := 306) (by decide +kernel), List.mem_of_getElem? (i := 1087) (by decide +kernel), List.mem_of_getElem? (i := 1088) (by decide +kernel)⟩
theorem lw_p29 : lw_okq (⟨"LaundrySky$Tellings", "comesTrue", "(I)Z"⟩, 10) := ⟨⟨by decide +kernel, by decide +kernel⟩, List.mem_of_getElem? (i := 306) (by decide +kernel), List.mem_of_getElem? (i := 1091) (by decide +kernel), List.mem_of_getElem? (i := 1092) (by decide +kernel)⟩
theorem lw_p30 : lw_okq (⟨"LaundrySky$Tellings", "agrees", "(I)Z"⟩, 10) := ⟨⟨by decide +kernel, by decide +kernel⟩, List.mem_of_getElem? (i := 306) (by decide +kernel), List.mem_of_getElem? (i := 1096) (by decide +kernel), List.mem_of_getElem? (i := 1097) (by decide +kernel)⟩
theorem lw_p31 : lw_okq (⟨"LaundrySky", "crossings", "(Z)I"⟩, 12) := ⟨⟨by decide +kernel, by decide +kernel⟩, List.mem_of_getElem? (i := 28) (by decide +kernel), List.mem_of_getElem? (i := 1114) (by decide +kernel), List.mem_of_getElem? (i := 1115) (by decide +kernel)⟩
def lw_privs_2 : List (MethodName × Nat) := [(⟨"LaundrySky", "startAnew", "()V"⟩, 12), (⟨"LaundrySky$Plan", "readRow", "(LLaundrySky$Tape;LLaundrySky$Town;I)V"⟩, 7), (⟨"LaundrySky$Sky", "wetShirts", "()I"⟩, 7), (⟨"LaundrySky$Plan", "isDone", "(LLaundrySky$Sky;I)Z"⟩, 7), (⟨"LaundrySky", "waysToDry", "(IIII)I"⟩, 12), (⟨"LaundrySky$Wishes", "findUsefulLines", "()V"⟩, 4), (⟨"LaundrySky$Wishes", "search", "(II)Z"⟩, 4), (⟨"LaundrySky$Wishes", "canStillBe", "(II)Z"⟩, 4), (⟨"LaundrySky$Wishes", "leftOf", "(II)I"⟩, 4), (⟨"LaundrySky$Wishes", "wins", "(II)Z"⟩, 4), (⟨"LaundrySky$Wishes", "forgetFrom", "(I)V"⟩, 4), (⟨"LaundrySky$Wishes", "firstLine", "(I)I"⟩, 4), (⟨"LaundrySky$Tellings", "tryPair", "(III)V"⟩, 10), (⟨"LaundrySky$Tellings", "comesTrue", "(I)Z"⟩, 10), (⟨"LaundrySky$Tellings", "agrees", "(I)Z"⟩, 10), (⟨"LaundrySky", "crossings", "(Z)I"⟩, 12)]
theorem lw_r2 : ∀ q ∈ lw_privs_2, lw_okq q := List.forall_mem_cons.mpr ⟨lw_p16, List.forall_mem_cons.mpr ⟨lw_p17, List.forall_mem_cons.mpr ⟨lw_p18, List.forall_mem_cons.mpr ⟨lw_p19, List.forall_mem_cons.mpr ⟨lw_p20, List.forall_mem_cons.mpr ⟨lw_p21, List.forall_mem_cons.mpr ⟨lw_p22, List.forall_mem_cons.mpr ⟨lw_p23, List.forall_mem_cons.mpr ⟨lw_p24, List.forall_mem_cons.mpr ⟨lw_p25, List.forall_mem_cons.mpr ⟨lw_p26, List.forall_mem_cons.mpr ⟨lw_p27, List.forall_mem_cons.mpr ⟨lw_p28, List.forall_mem_cons.mpr ⟨lw_p29, List.forall_mem_cons.mpr ⟨lw_p30, List.forall_mem_cons.mpr ⟨lw_p31, fun _ h => absurd h List.not_mem_nil⟩⟩⟩⟩⟩⟩⟩⟩⟩⟩⟩⟩⟩⟩⟩⟩
theorem lw_p32 : lw_okq (⟨"LaundrySky$Sky", "hasWet", "(IZ)Z"⟩, 7) := ⟨⟨by decide +kernel, by decide +kernel⟩, List.mem_of_getElem? (i := 227) (by decide +kernel), List.mem_of_getElem? (i := 1122) (by decide +kernel), List.mem_of_getElem? (i := 1123) (by decide +kernel)⟩
theorem lw_p33 : lw_okq (⟨"LaundrySky", "changedBy", "(II)I"⟩, 12) := ⟨⟨by decide +kernel, by decide +kernel⟩, List.mem_of_getElem? (i := 28) (by decide +kernel), List.mem_of_getElem? (i := 1138) (by decide +kernel), List.mem_of_getElem? (i := 1139) (by decide +kernel)⟩
theorem lw_p34 : lw_okq (⟨"LaundrySky$Sky", "draw", "(I)I"⟩, 7) := ⟨⟨by decide +kernel, by decide +kernel⟩, List.mem_of_getElem? (i := 227) (by decide +kernel), List.mem_of_getElem? (i := 1162) (by decide +kernel), List.mem_of_getElem? (i := 1163) (by decide +kernel)⟩
theorem lw_p35 : lw_okq (⟨"java/lang/Throwable", "fillInStackTrace", "(I)Ljava/lang/Throwable;"⟩, 6) := ⟨⟨by decide +kernel, by decide +kernel⟩, List.mem_of_getElem? (i := 1223) (by decide +kernel), List.mem_of_getElem? (i := 1221) (by decide +kernel), List.mem_of_getElem? (i := 1222) (by decide +kernel)⟩
theorem lw_p36 : lw_okq (⟨"LaundrySkyModel", "lay", "(J)V"⟩, 31) := ⟨⟨by decide +kernel, by decide +kernel⟩, List.mem_of_getElem? (i := 1264) (by decide +kernel), List.mem_of_getElem? (i := 1262) (by decide +kernel), List.mem_of_getElem? (i := 1263) (by decide +kernel)⟩
theorem lw_p37 : lw_okq (⟨"LaundrySkyModel", "standsAsAlways", "(I)V"⟩, 31) := ⟨⟨by decide +kernel, by decide +kernel⟩, List.mem_of_getElem? (i := 1264) (by decide +kernel), List.mem_of_getElem? (i := 1295) (by decide +kernel), List.mem_of_getElem? (i := 1296) (by decide +kernel)⟩
theorem lw_p38 : lw_okq (⟨"LaundrySkyModel", "begins", "()V"⟩, 31) := ⟨⟨by decide +kernel, by decide +kernel⟩, List.mem_of_getElem? (i := 1264) (by decide +kernel), List.mem_of_getElem? (i := 1299) (by decide +kernel), List.mem_of_getElem? (i := 1300) (by decide +kernel)⟩
theorem lw_p39 : lw_okq (⟨"LaundrySkyModel", "starts", "(I)V"⟩, 31) := ⟨⟨by decide +kernel, by decide +kernel⟩, List.mem_of_getElem? (i := 1264) (by decide +kernel), List.mem_of_getElem? (i := 1303) (by decide +kernel), List.mem_of_getElem? (i := 1304) (by decide +kernel)⟩
theorem lw_p40 : lw_okq (⟨"LaundrySkyModel", "cloths", "()I"⟩, 31) := ⟨⟨by decide +kernel, by decide +kernel⟩, List.mem_of_getElem? (i := 1264) (by decide +kernel), List.mem_of_getElem? (i := 1307) (by decide +kernel), List.mem_of_getElem? (i := 1308) (by decide +kernel)⟩
theorem lw_p41 : lw_okq (⟨"LaundrySkyModel", "clothOf", "(II)I"⟩, 31) := ⟨⟨by decide +kernel, by decide +kernel⟩, List.mem_of_getElem? (i := 1264) (by decide +kernel), List.mem_of_getElem? (i := 1311) (by decide +kernel), List.mem_of_getElem? (i := 1312) (by decide +kernel)⟩
theorem lw_p42 : lw_okq (⟨"LaundrySkyModel", "cutAll", "()V"⟩, 31) := ⟨⟨by decide +kernel, by decide +kernel⟩, List.mem_of_getElem? (i := 1264) (by decide +kernel), List.mem_of_getElem? (i := 1414) (by decide +kernel), List.mem_of_getElem? (i := 1415) (by decide +kernel)⟩
theorem lw_p43 : lw_okq (⟨"LaundrySkyModel", "readLine", "()V"⟩, 31) := ⟨⟨by decide +kernel, by decide +kernel⟩, List.mem_of_getElem? (i := 1264) (by decide +kernel), List.mem_of_getElem? (i := 1433) (by decide +kernel), List.mem_of_getElem? (i := 1434) (by decide +kernel)⟩
theorem lw_p44 : lw_okq (⟨"LaundrySkyModel", "isWord", "(I)Z"⟩, 31) := ⟨⟨by decide +kernel, by decide +kernel⟩, List.mem_of_getElem? (i := 1264) (by decide +kernel), List.mem_of_getElem? (i := 1437) (by decide +kernel), List.mem_of_getElem? (i := 1438) (by decide +kernel)⟩
theorem lw_p45 : lw_okq (⟨"LaundrySkyModel", "readName", "(III)V"⟩, 31) := ⟨⟨by decide +kernel, by decide +kernel⟩, List.mem_of_getElem? (i := 1264) (by decide +kernel), List.mem_of_getElem? (i := 1441) (by decide +kernel), List.mem_of_getElem? (i := 1442) (by decide +kernel)⟩
theorem lw_p46 : lw_okq (⟨"LaundrySkyModel", "wrong", "(I)V"⟩, 31) := ⟨⟨by decide +kernel, by decide +kernel⟩, List.mem_of_getElem? (i := 1264) (by decide +kernel), List.mem_of_getElem? (i := 1445) (by decide +kernel), List.mem_of_getElem? (i := 1446) (by decide +kernel)⟩
theorem lw_p47 : lw_okq (⟨"LaundrySkyModel", "isName", "()Z"⟩, 31) := ⟨⟨by decide +kernel, by decide +kernel⟩, List.mem_of_getElem? (i := 1264) (by decide +kernel), List.mem_of_getElem? (i := 1449) (by decide +kernel), List.mem_of_getElem? (i := 1450) (by decide +kernel)⟩
def lw_privs_3 : List (MethodName × Nat) := [(⟨"LaundrySky$Sky", "hasWet", "(IZ)Z"⟩, 7), (⟨"LaundrySky", "changedBy", "(II)I"⟩, 12), (⟨"LaundrySky$Sky", "draw", "(I)I"⟩, 7), (⟨"java/lang/Throwable", "fillInStackTrace", "(I)Ljava/lang/Throwable;"⟩, 6), (⟨"LaundrySkyModel", "lay", "(J)V"⟩, 31), (⟨"LaundrySkyModel", "standsAsAlways", "(I)V"⟩, 31), (⟨"LaundrySkyModel", "begins", "()V"⟩, 31), (⟨"LaundrySkyModel", "starts", "(I)V"⟩, 31), (⟨"LaundrySkyModel", "cloths", "()I"⟩, 31), (⟨"LaundrySkyModel", "clothOf", "(II)I"⟩, 31), (⟨"LaundrySkyModel", "cutAll", "()V"⟩, 31), (⟨"LaundrySkyModel", "readLine", "()V"⟩, 31), (⟨"LaundrySkyModel", "isWord", "(I)Z"⟩, 31), (⟨"LaundrySkyModel", "readName", "(III)V"⟩, 31), (⟨"LaundrySkyModel", "wrong", "(I)V"⟩, 31), (⟨"LaundrySkyModel", "isName", "()Z"⟩, 31)]
theorem lw_r3 : ∀ q ∈ lw_privs_3, lw_okq q := List.forall_mem_cons.mpr ⟨lw_p32, List.forall_mem_cons.mpr ⟨lw_p33, List.forall_mem_cons.mpr ⟨lw_p34, List.forall_mem_cons.mpr ⟨lw_p35, List.forall_mem_cons.mpr ⟨lw_p36, List.forall_mem_cons.mpr ⟨lw_p37, List.forall_mem_cons.mpr ⟨lw_p38, List.forall_mem_cons.mpr ⟨lw_p39, List.forall_mem_cons.mpr ⟨lw_p40, List.forall_mem_cons.mpr ⟨lw_p41, List.forall_mem_cons.mpr ⟨lw_p42, List.forall_mem_cons.mpr ⟨lw_p43, List.forall_mem_cons.mpr ⟨lw_p44, List.forall_mem_cons.mpr ⟨lw_p45, List.forall_mem_cons.mpr ⟨lw_p46, List.forall_mem_cons.mpr ⟨lw_p47, fun _ h => absurd h List.not_mem_nil⟩⟩⟩⟩⟩⟩⟩⟩⟩⟩⟩⟩⟩⟩⟩⟩
theorem lw_p48 : lw_okq (⟨"LaundrySkyModel", "wordHere", "(II)I"⟩, 31) := ⟨⟨by decide +kernel, by decide +kernel⟩, List.mem_of_getElem? (i := 1264) (by decide +kernel), List.mem_of_getElem? (i := 1453) (by decide +kernel), List.mem_of_getElem? (i := 1454) (by decide +kernel)⟩
theorem lw_p49 : lw_okq (⟨"LaundrySkyModel", "nameAt", "(Z)I"⟩, 31) := ⟨⟨by decide +kernel, by decide +kernel⟩, List.mem_of_getElem? (i := 1264) (by decide +kernel), List.mem_of_getElem? (i := 1457) (by decide +kernel), List.mem_of_getElem? (i := 1458) (by decide +kernel)⟩
theorem lw_p50 : lw_okq (⟨"LaundrySkyModel", "takeAfter", "(III)I"⟩, 31) := ⟨⟨by decide +kernel, by decide +kernel⟩, List.mem_of_getElem? (i := 1264) (by decide +kernel), List.mem_of_getElem? (i := 1461) (by decide +kernel), List.mem_of_getElem? (i := 1462) (by decide +kernel)⟩
theorem lw_p51 : lw_okq (⟨"LaundrySkyModel", "takeWord", "(I)V"⟩, 31) := ⟨⟨by decide +kernel, by decide +kernel⟩, List.mem_of_getElem? (i := 1264) (by decide +kernel), List.mem_of_getElem? (i := 1465) (by decide +kernel), List.mem_of_getElem? (i := 1466) (by decide +kernel)⟩
theorem lw_p52 : lw_okq (⟨"LaundrySkyModel", "hasWord", "(I)Z"⟩, 31) := ⟨⟨by decide +kernel, by decide +kernel⟩, List.mem_of_getElem? (i := 1264) (by decide +kernel), List.mem_of_getElem? (i := 1469) (by decide +kernel), List.mem_of_getElem? (i := 1470) (by decide +kernel)⟩
theorem lw_p53 : lw_okq (⟨"LaundrySkyModel", "takeNumber", "(II)I"⟩, 31) := ⟨⟨by decide +kernel, by decide +kernel⟩, List.mem_of_getElem? (i := 1264) (by decide +kernel), List.mem_of_getElem? (i := 1473) (by decide +kernel), List.mem_of_getElem? (i := 1474) (by decide +kernel)⟩
theorem lw_p54 : lw_okq (⟨"LaundrySkyModel", "readPlace", "()V"⟩, 31) := ⟨⟨by decide +kernel, by decide +kernel⟩, List.mem_of_getElem? (i := 1264) (by decide +kernel), List.mem_of_getElem? (i := 1477) (by decide +kernel), List.mem_of_getElem? (i := 1478) (by decide +kernel)⟩
theorem lw_p55 : lw_okq (⟨"LaundrySkyModel", "toldHere", "(ZI)I"⟩, 31) := ⟨⟨by decide +kernel, by decide +kernel⟩, List.mem_of_getElem? (i := 1264) (by decide +kernel), List.mem_of_getElem? (i := 1481) (by decide +kernel), List.mem_of_getElem? (i := 1482) (by decide +kernel)⟩
theorem lw_p56 : lw_okq (⟨"LaundrySkyModel", "takeOne", "(II)I"⟩, 31) := ⟨⟨by decide +kernel, by decide +kernel⟩, List.mem_of_getElem? (i := 1264) (by decide +kernel), List.mem_of_getElem? (i := 1488) (by decide +kernel), List.mem_of_getElem? (i := 1489) (by decide +kernel)⟩
theorem lw_p57 : lw_okq (⟨"LaundrySkyModel", "readCrosses", "()V"⟩, 31) := ⟨⟨by decide +kernel, by decide +kernel⟩, List.mem_of_getElem? (i := 1264) (by decide +kernel), List.mem_of_getElem? (i := 1492) (by decide +kernel), List.mem_of_getElem? (i := 1493) (by decide +kernel)⟩
theorem lw_p58 : lw_okq (⟨"LaundrySkyModel", "takeTold", "(ZI)I"⟩, 31) := ⟨⟨by decide +kernel, by decide +kernel⟩, List.mem_of_getElem? (i := 1264) (by decide +kernel), List.mem_of_getElem? (i := 1496) (by decide +kernel), List.mem_of_getElem? (i := 1497) (by decide +kernel)⟩
theorem lw_p59 : lw_okq (⟨"LaundrySkyModel", "readDries", "()V"⟩, 31) := ⟨⟨by decide +kernel, by decide +kernel⟩, List.mem_of_getElem? (i := 1264) (by decide +kernel), List.mem_of_getElem? (i := 1500) (by decide +kernel), List.mem_of_getElem? (i := 1501) (by decide +kernel)⟩
theorem lw_p60 : lw_okq (⟨"LaundrySkyModel", "whole", "(I)V"⟩, 31) := ⟨⟨by decide +kernel, by decide +kernel⟩, List.mem_of_getElem? (i := 1264) (by decide +kernel), List.mem_of_getElem? (i := 1504) (by decide +kernel), List.mem_of_getElem? (i := 1505) (by decide +kernel)⟩
theorem lw_p61 : lw_okq (⟨"LaundrySkyModel", "test", "(I)V"⟩, 31) := ⟨⟨by decide +kernel, by decide +kernel⟩, List.mem_of_getElem? (i := 1264) (by decide +kernel), List.mem_of_getElem? (i := 1508) (by decide +kernel), List.mem_of_getElem? (i := 1509) (by decide +kernel)⟩
theorem lw_p62 : lw_okq (⟨"LaundrySkyModel", "sums", "(I)V"⟩, 31) := ⟨⟨by decide +kernel, by decide +kernel⟩, List.mem_of_getElem? (i := 1264) (by decide +kernel), List.mem_of_getElem? (i := 1512) (by decide +kernel), List.mem_of_getElem? (i := 1513) (by decide +kernel)⟩
theorem lw_p63 : lw_okq (⟨"LaundrySkyModel", "products", "(I)V"⟩, 31) := ⟨⟨by decide +kernel, by decide +kernel⟩, List.mem_of_getElem? (i := 1264) (by decide +kernel), List.mem_of_getElem? (i := 1516) (by decide +kernel), List.mem_of_getElem? (i := 1517) (by decide +kernel)⟩
def lw_privs_4 : List (MethodName × Nat) := [(⟨"LaundrySkyModel", "wordHere", "(II)I"⟩, 31), (⟨"LaundrySkyModel", "nameAt", "(Z)I"⟩, 31), (⟨"LaundrySkyModel", "takeAfter", "(III)I"⟩, 31), (⟨"LaundrySkyModel", "takeWord", "(I)V"⟩, 31), (⟨"LaundrySkyModel", "hasWord", "(I)Z"⟩, 31), (⟨"LaundrySkyModel", "takeNumber", "(II)I"⟩, 31), (⟨"LaundrySkyModel", "readPlace", "()V"⟩, 31), (⟨"LaundrySkyModel", "toldHere", "(ZI)I"⟩, 31), (⟨"LaundrySkyModel", "takeOne", "(II)I"⟩, 31), (⟨"LaundrySkyModel", "readCrosses", "()V"⟩, 31), (⟨"LaundrySkyModel", "takeTold", "(ZI)I"⟩, 31), (⟨"LaundrySkyModel", "readDries", "()V"⟩, 31), (⟨"LaundrySkyModel", "whole", "(I)V"⟩, 31), (⟨"LaundrySkyModel", "test", "(I)V"⟩, 31), (⟨"LaundrySkyModel", "sums", "(I)V"⟩, 31), (⟨"LaundrySkyModel", "products", "(I)V"⟩, 31)]
theorem lw_r4 : ∀ q ∈ lw_privs_4, lw_okq q := List.forall_mem_cons.mpr ⟨lw_p48, List.forall_mem_cons.mpr ⟨lw_p49, List.forall_mem_cons.mpr ⟨lw_p50, List.forall_mem_cons.mpr ⟨lw_p51, List.forall_mem_cons.mpr ⟨lw_p52, List.forall_mem_cons.mpr ⟨lw_p53, List.forall_mem_cons.mpr ⟨lw_p54, List.forall_mem_cons.mpr ⟨lw_p55, List.forall_mem_cons.mpr ⟨lw_p56, List.forall_mem_cons.mpr ⟨lw_p57, List.forall_mem_cons.mpr ⟨lw_p58, List.forall_mem_cons.mpr ⟨lw_p59, List.forall_mem_cons.mpr ⟨lw_p60, List.forall_mem_cons.mpr ⟨lw_p61, List.forall_mem_cons.mpr ⟨lw_p62, List.forall_mem_cons.mpr ⟨lw_p63, fun _ h => absurd h List.not_mem_nil⟩⟩⟩⟩⟩⟩⟩⟩⟩⟩⟩⟩⟩⟩⟩⟩
theorem lw_p64 : lw_okq (⟨"LaundrySkyModel", "takePart", "(I)V"⟩, 31) := ⟨⟨by decide +kernel, by decide +kernel⟩, List.mem_of_getElem? (i := 1264) (by decide +kernel), List.mem_of_getElem? (i := 1520) (by decide +kernel), List.mem_of_getElem? (i := 1521) (by decide +kernel)⟩
theorem lw_p65 : lw_okq (⟨"LaundrySkyModel", "isSign", "(I)Z"⟩, 31) := ⟨⟨by decide +kernel, by decide +kernel⟩, List.mem_of_getElem? (i := 1264) (by decide +kernel), List.mem_of_getElem? (i := 1524) (by decide +kernel), List.mem_of_getElem? (i := 1525) (by decide +kernel)⟩
theorem lw_p66 : lw_okq (⟨"LaundrySkyModel", "emit", "(II)V"⟩, 31) := ⟨⟨by decide +kernel, by decide +kernel⟩, List.mem_of_getElem? (i := 1264) (by decide +kernel), List.mem_of_getElem? (i := 1528) (by decide +kernel), List.mem_of_getElem? (i := 1529) (by decide +kernel)⟩
theorem lw_p67 : lw_okq (⟨"LaundrySkyModel", "hasSign", "(I)Z"⟩, 31) := ⟨⟨by decide +kernel, by decide +kernel⟩, List.mem_of_getElem? (i := 1264) (by decide +kernel), List.mem_of_getElem? (i := 1532) (by decide +kernel), List.mem_of_getElem? (i := 1533) (by decide +kernel)⟩
theorem lw_p68 : lw_okq (⟨"LaundrySkyModel", "takeSign", "(I)V"⟩, 31) := ⟨⟨by decide +kernel, by decide +kernel⟩, List.mem_of_getElem? (i := 1264) (by decide +kernel), List.mem_of_getElem? (i := 1536) (by decide +kernel), List.mem_of_getElem? (i := 1537) (by decide +kernel)⟩
theorem lw_p69 : lw_okq (⟨"LaundrySkyModel", "isLine", "(I)Z"⟩, 31) := ⟨⟨by decide +kernel, by decide +kernel⟩, List.mem_of_getElem? (i := 1264) (by decide +kernel), List.mem_of_getElem? (i := 1548) (by decide +kernel), List.mem_of_getElem? (i := 1549) (by decide +kernel)⟩
theorem lw_p70 : lw_okq (⟨"LaundrySkyModel", "lines", "()I"⟩, 31) := ⟨⟨by decide +kernel, by decide +kernel⟩, List.mem_of_getElem? (i := 1264) (by decide +kernel), List.mem_of_getElem? (i := 1552) (by decide +kernel), List.mem_of_getElem? (i := 1553) (by decide +kernel)⟩
theorem lw_p71 : lw_okq (⟨"LaundrySkyModel", "lineOf", "(II)I"⟩, 31) := ⟨⟨by decide +kernel, by decide +kernel⟩, List.mem_of_getElem? (i := 1264) (by decide +kernel), List.mem_of_getElem? (i := 1556) (by decide +kernel), List.mem_of_getElem? (i := 1557) (by decide +kernel)⟩
theorem lw_p72 : lw_okq (⟨"LaundrySkyModel", "freeOf", "(II)I"⟩, 31) := ⟨⟨by decide +kernel, by decide +kernel⟩, List.mem_of_getElem? (i := 1264) (by decide +kernel), List.mem_of_getElem? (i := 1560) (by decide +kernel), List.mem_of_getElem? (i := 1561) (by decide +kernel)⟩
theorem lw_p73 : lw_okq (⟨"LaundrySkyModel", "onLine", "(II)I"⟩, 31) := ⟨⟨by decide +kernel, by decide +kernel⟩, List.mem_of_getElem? (i := 1264) (by decide +kernel), List.mem_of_getElem? (i := 1564) (by decide +kernel), List.mem_of_getElem? (i := 1565) (by decide +kernel)⟩
theorem lw_p74 : lw_okq (⟨"LaundrySkyModel", "isCloth", "(I)Z"⟩, 31) := ⟨⟨by decide +kernel, by decide +kernel⟩, List.mem_of_getElem? (i := 1264) (by decide +kernel), List.mem_of_getElem? (i := 1572) (by decide +kernel), List.mem_of_getElem? (i := 1573) (by decide +kernel)⟩
theorem lw_p75 : lw_okq (⟨"LaundrySkyModel", "isPlace", "(I)Z"⟩, 31) := ⟨⟨by decide +kernel, by decide +kernel⟩, List.mem_of_getElem? (i := 1264) (by decide +kernel), List.mem_of_getElem? (i := 1580) (by decide +kernel), List.mem_of_getElem? (i := 1581) (by decide +kernel)⟩
theorem lw_p76 : lw_okq (⟨"LaundrySkyModel", "places", "()I"⟩, 31) := ⟨⟨by decide +kernel, by decide +kernel⟩, List.mem_of_getElem? (i := 1264) (by decide +kernel), List.mem_of_getElem? (i := 1584) (by decide +kernel), List.mem_of_getElem? (i := 1585) (by decide +kernel)⟩
theorem lw_p77 : lw_okq (⟨"LaundrySkyModel", "weatherOf", "(II)I"⟩, 31) := ⟨⟨by decide +kernel, by decide +kernel⟩, List.mem_of_getElem? (i := 1264) (by decide +kernel), List.mem_of_getElem? (i := 1588) (by decide +kernel), List.mem_of_getElem? (i := 1589) (by decide +kernel)⟩
theorem lw_p78 : lw_okq (⟨"LaundrySkyModel", "howMany", "(III)I"⟩, 31) := ⟨⟨by decide +kernel, by decide +kernel⟩, List.mem_of_getElem? (i := 1264) (by decide +kernel), List.mem_of_getElem? (i := 1592) (by decide +kernel), List.mem_of_getElem? (i := 1593) (by decide +kernel)⟩
theorem lw_p79 : lw_okq (⟨"LaundrySkyModel", "isAbove", "(III)Z"⟩, 31) := ⟨⟨by decide +kernel, by decide +kernel⟩, List.mem_of_getElem? (i := 1264) (by decide +kernel), List.mem_of_getElem? (i := 1596) (by decide +kernel), List.mem_of_getElem? (i := 1597) (by decide +kernel)⟩
def lw_privs_5 : List (MethodName × Nat) := [(⟨"LaundrySkyModel", "takePart", "(I)V"⟩, 31), (⟨"LaundrySkyModel", "isSign", "(I)Z"⟩, 31), (⟨"LaundrySkyModel", "emit", "(II)V"⟩, 31), (⟨"LaundrySkyModel", "hasSign", "(I)Z"⟩, 31), (⟨"LaundrySkyModel", "takeSign", "(I)V"⟩, 31), (⟨"LaundrySkyModel", "isLine", "(I)Z"⟩, 31), (⟨"LaundrySkyModel", "lines", "()I"⟩, 31), (⟨"LaundrySkyModel", "lineOf", "(II)I"⟩, 31), (⟨"LaundrySkyModel", "freeOf", "(II)I"⟩, 31), (⟨"LaundrySkyModel", "onLine", "(II)I"⟩, 31), (⟨"LaundrySkyModel", "isCloth", "(I)Z"⟩, 31), (⟨"LaundrySkyModel", "isPlace", "(I)Z"⟩, 31), (⟨"LaundrySkyModel", "places", "()I"⟩, 31), (⟨"LaundrySkyModel", "weatherOf", "(II)I"⟩, 31), (⟨"LaundrySkyModel", "howMany", "(III)I"⟩, 31), (⟨"LaundrySkyModel", "isAbove", "(III)Z"⟩, 31)]
theorem lw_r5 : ∀ q ∈ lw_privs_5, lw_okq q := List.forall_mem_cons.mpr ⟨lw_p64, List.forall_mem_cons.mpr ⟨lw_p65, List.forall_mem_cons.mpr ⟨lw_p66, List.forall_mem_cons.mpr ⟨lw_p67, List.forall_mem_cons.mpr ⟨lw_p68, List.forall_mem_cons.mpr ⟨lw_p69, List.forall_mem_cons.mpr ⟨lw_p70, List.forall_mem_cons.mpr ⟨lw_p71, List.forall_mem_cons.mpr ⟨lw_p72, List.forall_mem_cons.mpr ⟨lw_p73, List.forall_mem_cons.mpr ⟨lw_p74, List.forall_mem_cons.mpr ⟨lw_p75, List.forall_mem_cons.mpr ⟨lw_p76, List.forall_mem_cons.mpr ⟨lw_p77, List.forall_mem_cons.mpr ⟨lw_p78, List.forall_mem_cons.mpr ⟨lw_p79, fun _ h => absurd h List.not_mem_nil⟩⟩⟩⟩⟩⟩⟩⟩⟩⟩⟩⟩⟩⟩⟩⟩
theorem lw_p80 : lw_okq (⟨"LaundrySkyModel", "doesHang", "(II)Z"⟩, 31) := ⟨⟨by decide +kernel, by decide +kernel⟩, List.mem_of_getElem? (i := 1264) (by decide +kernel), List.mem_of_getElem? (i := 1600) (by decide +kernel), List.mem_of_getElem? (i := 1601) (by decide +kernel)⟩
theorem lw_p81 : lw_okq (⟨"LaundrySkyModel", "isWet", "(II)Z"⟩, 31) := ⟨⟨by decide +kernel, by decide +kernel⟩, List.mem_of_getElem? (i := 1264) (by decide +kernel), List.mem_of_getElem? (i := 1604) (by decide +kernel), List.mem_of_getElem? (i := 1605) (by decide +kernel)⟩
theorem lw_p82 : lw_okq (⟨"LaundrySkyModel", "windOf", "(I)I"⟩, 31) := ⟨⟨by decide +kernel, by decide +kernel⟩, List.mem_of_getElem? (i := 1264) (by decide +kernel), List.mem_of_getElem? (i := 1608) (by decide +kernel), List.mem_of_getElem? (i := 1609) (by decide +kernel)⟩
theorem lw_p83 : lw_okq (⟨"LaundrySkyModel", "mayHang", "(IIII)Z"⟩, 31) := ⟨⟨by decide +kernel, by decide +kernel⟩, List.mem_of_getElem? (i := 1264) (by decide +kernel), List.mem_of_getElem? (i := 1616) (by decide +kernel), List.mem_of_getElem? (i := 1617) (by decide +kernel)⟩
theorem lw_p84 : lw_okq (⟨"LaundrySkyModel", "keeps", "()V"⟩, 31) := ⟨⟨by decide +kernel, by decide +kernel⟩, List.mem_of_getElem? (i := 1264) (by decide +kernel), List.mem_of_getElem? (i := 1620) (by decide +kernel), List.mem_of_getElem? (i := 1621) (by decide +kernel)⟩
theorem lw_p85 : lw_okq (⟨"LaundrySkyModel", "copies", "(III)V"⟩, 31) := ⟨⟨by decide +kernel, by decide +kernel⟩, List.mem_of_getElem? (i := 1264) (by decide +kernel), List.mem_of_getElem? (i := 1624) (by decide +kernel), List.mem_of_getElem? (i := 1625) (by decide +kernel)⟩
theorem lw_p86 : lw_okq (⟨"LaundrySkyModel", "hangs", "(IIII)V"⟩, 31) := ⟨⟨by decide +kernel, by decide +kernel⟩, List.mem_of_getElem? (i := 1264) (by decide +kernel), List.mem_of_getElem? (i := 1628) (by decide +kernel), List.mem_of_getElem? (i := 1629) (by decide +kernel)⟩
theorem lw_p87 : lw_okq (⟨"LaundrySkyModel", "comesDown", "(II)V"⟩, 31) := ⟨⟨by decide +kernel, by decide +kernel⟩, List.mem_of_getElem? (i := 1264) (by decide +kernel), List.mem_of_getElem? (i := 1636) (by decide +kernel), List.mem_of_getElem? (i := 1637) (by decide +kernel)⟩
theorem lw_p88 : lw_okq (⟨"LaundrySkyModel", "passes", "(IZ)I"⟩, 31) := ⟨⟨by decide +kernel, by decide +kernel⟩, List.mem_of_getElem? (i := 1264) (by decide +kernel), List.mem_of_getElem? (i := 1648) (by decide +kernel), List.mem_of_getElem? (i := 1649) (by decide +kernel)⟩
theorem lw_p89 : lw_okq (⟨"LaundrySkyModel", "worthAt", "(I)I"⟩, 31) := ⟨⟨by decide +kernel, by decide +kernel⟩, List.mem_of_getElem? (i := 1264) (by decide +kernel), List.mem_of_getElem? (i := 1652) (by decide +kernel), List.mem_of_getElem? (i := 1653) (by decide +kernel)⟩
theorem lw_p90 : lw_okq (⟨"LaundrySkyModel", "isThunder", "(I)Z"⟩, 31) := ⟨⟨by decide +kernel, by decide +kernel⟩, List.mem_of_getElem? (i := 1264) (by decide +kernel), List.mem_of_getElem? (i := 1667) (by decide +kernel), List.mem_of_getElem? (i := 1668) (by decide +kernel)⟩
theorem lw_p91 : lw_okq (⟨"LaundrySkyModel", "driedOf", "(I)I"⟩, 31) := ⟨⟨by decide +kernel, by decide +kernel⟩, List.mem_of_getElem? (i := 1264) (by decide +kernel), List.mem_of_getElem? (i := 1671) (by decide +kernel), List.mem_of_getElem? (i := 1672) (by decide +kernel)⟩
theorem lw_p92 : lw_okq (⟨"LaundrySkyModel", "triesNow", "()V"⟩, 31) := ⟨⟨by decide +kernel, by decide +kernel⟩, List.mem_of_getElem? (i := 1264) (by decide +kernel), List.mem_of_getElem? (i := 1679) (by decide +kernel), List.mem_of_getElem? (i := 1680) (by decide +kernel)⟩
theorem lw_p93 : lw_okq (⟨"LaundrySkyModel", "runs", "(I)V"⟩, 31) := ⟨⟨by decide +kernel, by decide +kernel⟩, List.mem_of_getElem? (i := 1264) (by decide +kernel), List.mem_of_getElem? (i := 1683) (by decide +kernel), List.mem_of_getElem? (i := 1684) (by decide +kernel)⟩
theorem lw_p94 : lw_okq (⟨"LaundrySkyModel", "dryOf", "(I)I"⟩, 31) := ⟨⟨by decide +kernel, by decide +kernel⟩, List.mem_of_getElem? (i := 1264) (by decide +kernel), List.mem_of_getElem? (i := 1691) (by decide +kernel), List.mem_of_getElem? (i := 1692) (by decide +kernel)⟩
theorem lw_p95 : lw_okq (⟨"LaundrySkyModel", "wishes", "(II)V"⟩, 31) := ⟨⟨by decide +kernel, by decide +kernel⟩, List.mem_of_getElem? (i := 1264) (by decide +kernel), List.mem_of_getElem? (i := 1711) (by decide +kernel), List.mem_of_getElem? (i := 1712) (by decide +kernel)⟩
def lw_privs_6 : List (MethodName × Nat) := [(⟨"LaundrySkyModel", "doesHang", "(II)Z"⟩, 31), (⟨"LaundrySkyModel", "isWet", "(II)Z"⟩, 31), (⟨"LaundrySkyModel", "windOf", "(I)I"⟩, 31), (⟨"LaundrySkyModel", "mayHang", "(IIII)Z"⟩, 31), (⟨"LaundrySkyModel", "keeps", "()V"⟩, 31), (⟨"LaundrySkyModel", "copies", "(III)V"⟩, 31), (⟨"LaundrySkyModel", "hangs", "(IIII)V"⟩, 31), (⟨"LaundrySkyModel", "comesDown", "(II)V"⟩, 31), (⟨"LaundrySkyModel", "passes", "(IZ)I"⟩, 31), (⟨"LaundrySkyModel", "worthAt", "(I)I"⟩, 31), (⟨"LaundrySkyModel", "isThunder", "(I)Z"⟩, 31), (⟨"LaundrySkyModel", "driedOf", "(I)I"⟩, 31), (⟨"LaundrySkyModel", "triesNow", "()V"⟩, 31), (⟨"LaundrySkyModel", "runs", "(I)V"⟩, 31), (⟨"LaundrySkyModel", "dryOf", "(I)I"⟩, 31), (⟨"LaundrySkyModel", "wishes", "(II)V"⟩, 31)]
theorem lw_r6 : ∀ q ∈ lw_privs_6, lw_okq q := List.forall_mem_cons.mpr ⟨lw_p80, List.forall_mem_cons.mpr ⟨lw_p81, List.forall_mem_cons.mpr ⟨lw_p82, List.forall_mem_cons.mpr ⟨lw_p83, List.forall_mem_cons.mpr ⟨lw_p84, List.forall_mem_cons.mpr ⟨lw_p85, List.forall_mem_cons.mpr ⟨lw_p86, List.forall_mem_cons.mpr ⟨lw_p87, List.forall_mem_cons.mpr ⟨lw_p88, List.forall_mem_cons.mpr ⟨lw_p89, List.forall_mem_cons.mpr ⟨lw_p90, List.forall_mem_cons.mpr ⟨lw_p91, List.forall_mem_cons.mpr ⟨lw_p92, List.forall_mem_cons.mpr ⟨lw_p93, List.forall_mem_cons.mpr ⟨lw_p94, List.forall_mem_cons.mpr ⟨lw_p95, fun _ h => absurd h List.not_mem_nil⟩⟩⟩⟩⟩⟩⟩⟩⟩⟩⟩⟩⟩⟩⟩⟩
theorem lw_p96 : lw_okq (⟨"LaundrySkyModel", "isWanted", "(I)Z"⟩, 31) := ⟨⟨by decide +kernel, by decide +kernel⟩, List.mem_of_getElem? (i := 1264) (by decide +kernel), List.mem_of_getElem? (i := 1715) (by decide +kernel), List.mem_of_getElem? (i := 1716) (by decide +kernel)⟩
theorem lw_p97 : lw_okq (⟨"LaundrySkyModel", "hanging", "(I)I"⟩, 31) := ⟨⟨by decide +kernel, by decide +kernel⟩, List.mem_of_getElem? (i := 1264) (by decide +kernel), List.mem_of_getElem? (i := 1723) (by decide +kernel), List.mem_of_getElem? (i := 1724) (by decide +kernel)⟩
theorem lw_p98 : lw_okq (⟨"LaundrySkyModel", "isTold", "(II)Z"⟩, 31) := ⟨⟨by decide +kernel, by decide +kernel⟩, List.mem_of_getElem? (i := 1264) (by decide +kernel), List.mem_of_getElem? (i := 1738) (by decide +kernel), List.mem_of_getElem? (i := 1739) (by decide +kernel)⟩
theorem lw_p99 : lw_okq (⟨"LaundrySkyModel", "hungFor", "(III)V"⟩, 31) := ⟨⟨by decide +kernel, by decide +kernel⟩, List.mem_of_getElem? (i := 1264) (by decide +kernel), List.mem_of_getElem? (i := 1742) (by decide +kernel), List.mem_of_getElem? (i := 1743) (by decide +kernel)⟩
theorem lw_p100 : lw_okq (⟨"LaundrySkyModel", "crossings", "(Z)I"⟩, 31) := ⟨⟨by decide +kernel, by decide +kernel⟩, List.mem_of_getElem? (i := 1264) (by decide +kernel), List.mem_of_getElem? (i := 1754) (by decide +kernel), List.mem_of_getElem? (i := 1755) (by decide +kernel)⟩
theorem lw_p101 : lw_okq (⟨"LaundrySkyModel", "hasWet", "(IZ)Z"⟩, 31) := ⟨⟨by decide +kernel, by decide +kernel⟩, List.mem_of_getElem? (i := 1264) (by decide +kernel), List.mem_of_getElem? (i := 1758) (by decide +kernel), List.mem_of_getElem? (i := 1759) (by decide +kernel)⟩
theorem lw_p102 : lw_okq (⟨"LaundrySkyModel", "isRainbow", "(II)Z"⟩, 31) := ⟨⟨by decide +kernel, by decide +kernel⟩, List.mem_of_getElem? (i := 1264) (by decide +kernel), List.mem_of_getElem? (i := 1762) (by decide +kernel), List.mem_of_getElem? (i := 1763) (by decide +kernel)⟩
theorem lw_p103 : lw_okq (⟨"LaundrySkyModel", "drawsCloth", "()Z"⟩, 31) := ⟨⟨by decide +kernel, by decide +kernel⟩, List.mem_of_getElem? (i := 1264) (by decide +kernel), List.mem_of_getElem? (i := 1802) (by decide +kernel), List.mem_of_getElem? (i := 1803) (by decide +kernel)⟩
theorem lw_p104 : lw_okq (⟨"LaundrySkyModel", "draw", "(I)I"⟩, 31) := ⟨⟨by decide +kernel, by decide +kernel⟩, List.mem_of_getElem? (i := 1264) (by decide +kernel), List.mem_of_getElem? (i := 1806) (by decide +kernel), List.mem_of_getElem? (i := 1807) (by decide +kernel)⟩
theorem lw_p105 : lw_okq (⟨"LaundrySkyModel", "wetNow", "()I"⟩, 31) := ⟨⟨by decide +kernel, by decide +kernel⟩, List.mem_of_getElem? (i := 1264) (by decide +kernel), List.mem_of_getElem? (i := 1822) (by decide +kernel), List.mem_of_getElem? (i := 1823) (by decide +kernel)⟩
theorem lw_p106 : lw_okq (⟨"LaundrySkyModel", "freeNow", "()I"⟩, 31) := ⟨⟨by decide +kernel, by decide +kernel⟩, List.mem_of_getElem? (i := 1264) (by decide +kernel), List.mem_of_getElem? (i := 1826) (by decide +kernel), List.mem_of_getElem? (i := 1827) (by decide +kernel)⟩
theorem lw_p107 : lw_okq (⟨"LaundrySkyModel", "wantedNow", "()I"⟩, 31) := ⟨⟨by decide +kernel, by decide +kernel⟩, List.mem_of_getElem? (i := 1264) (by decide +kernel), List.mem_of_getElem? (i := 1830) (by decide +kernel), List.mem_of_getElem? (i := 1831) (by decide +kernel)⟩
def lw_privs_7 : List (MethodName × Nat) := [(⟨"LaundrySkyModel", "isWanted", "(I)Z"⟩, 31), (⟨"LaundrySkyModel", "hanging", "(I)I"⟩, 31), (⟨"LaundrySkyModel", "isTold", "(II)Z"⟩, 31), (⟨"LaundrySkyModel", "hungFor", "(III)V"⟩, 31), (⟨"LaundrySkyModel", "crossings", "(Z)I"⟩, 31), (⟨"LaundrySkyModel", "hasWet", "(IZ)Z"⟩, 31), (⟨"LaundrySkyModel", "isRainbow", "(II)Z"⟩, 31), (⟨"LaundrySkyModel", "drawsCloth", "()Z"⟩, 31), (⟨"LaundrySkyModel", "draw", "(I)I"⟩, 31), (⟨"LaundrySkyModel", "wetNow", "()I"⟩, 31), (⟨"LaundrySkyModel", "freeNow", "()I"⟩, 31), (⟨"LaundrySkyModel", "wantedNow", "()I"⟩, 31)]
theorem lw_r7 : ∀ q ∈ lw_privs_7, lw_okq q := List.forall_mem_cons.mpr ⟨lw_p96, List.forall_mem_cons.mpr ⟨lw_p97, List.forall_mem_cons.mpr ⟨lw_p98, List.forall_mem_cons.mpr ⟨lw_p99, List.forall_mem_cons.mpr ⟨lw_p100, List.forall_mem_cons.mpr ⟨lw_p101, List.forall_mem_cons.mpr ⟨lw_p102, List.forall_mem_cons.mpr ⟨lw_p103, List.forall_mem_cons.mpr ⟨lw_p104, List.forall_mem_cons.mpr ⟨lw_p105, List.forall_mem_cons.mpr ⟨lw_p106, List.forall_mem_cons.mpr ⟨lw_p107, fun _ h => absurd h List.not_mem_nil⟩⟩⟩⟩⟩⟩⟩⟩⟩⟩⟩⟩
def lw_privs : List (MethodName × Nat) := lw_privs_1 ++ (lw_privs_2 ++ (lw_privs_3 ++ (lw_privs_4 ++ (lw_privs_5 ++ (lw_privs_6 ++ (lw_privs_7))))))
def lw_tbl : List Cond := k2_sels lw_privs ++ tables_1
theorem lw_privs_ok : ∀ q ∈ lw_privs, lw_okq q := by
  show ∀ q ∈ lw_privs_1 ++ (lw_privs_2 ++ (lw_privs_3 ++ (lw_privs_4 ++ (lw_privs_5 ++ (lw_privs_6 ++ (lw_privs_7)))))), lw_okq q
  exact List.forall_mem_append.mpr ⟨lw_r1, List.forall_mem_append.mpr ⟨lw_r2, List.forall_mem_append.mpr ⟨lw_r3, List.forall_mem_append.mpr ⟨lw_r4, List.forall_mem_append.mpr ⟨lw_r5, List.forall_mem_append.mpr ⟨lw_r6, lw_r7⟩⟩⟩⟩⟩⟩
-- ===== end of PART A; then your names; then what follows =====
end
section
def RX0 : String := "LaundrySky$Law"
def TX0 : u_T := fun k => match k with
  | 0 => ("LaundrySky$Law", "steps", "[I", true)
  | 1 => ("LaundrySky$Law", "stack", "[I", true)
  | _ => ("LaundrySky$Law", "size", "I", false)
def tyX0 : Nat → FieldType := fun k => match k with
  | 0 => .array .int
  | 1 => .array .int
  | _ => .int
abbrev wsX00 : List Cond := u_ws RX0 TX0 3
theorem nmX0 : ∀ a, a < 3 → ∀ b, b < 3 → a ≠ b → (TX0 a).2.1 ≠ (TX0 b).2.1 := by decide +kernel
theorem tyX0_ok : ∀ k, k < 3 → parseFieldDescriptor (TX0 k).2.2.1 = some (tyX0 k) := by decide +kernel
abbrev cX0_init : ByteArray := prog_2_method_1_code
def yX0_init : MethodName := ⟨RX0, "<init>", "()V"⟩
abbrev cX0_copyFrom : ByteArray := prog_2_method_2_code
def yX0_copyFrom : MethodName := ⟨RX0, "copyFrom", "(LLaundrySky$Law;)V"⟩
abbrev cX0_setPlain : ByteArray := prog_2_method_3_code
def yX0_setPlain : MethodName := ⟨RX0, "setPlain", "()V"⟩
abbrev cX0_addStep : ByteArray := prog_2_method_4_code
def yX0_addStep : MethodName := ⟨RX0, "addStep", "(I)V"⟩
abbrev cX0_readWhole : ByteArray := prog_2_method_5_code
def yX0_readWhole : MethodName := ⟨RX0, "readWhole", "(LLaundrySky$Tape;I)V"⟩
abbrev cX0_readTest : ByteArray := prog_2_method_6_code
def yX0_readTest : MethodName := ⟨RX0, "readTest", "(LLaundrySky$Tape;I)V"⟩
abbrev cX0_readSum : ByteArray := prog_2_method_7_code
def yX0_readSum : MethodName := ⟨RX0, "readSum", "(LLaundrySky$Tape;I)V"⟩
abbrev cX0_readProduct : ByteArray := prog_2_method_8_code
def yX0_readProduct : MethodName := ⟨RX0, "readProduct", "(LLaundrySky$Tape;I)V"⟩
abbrev cX0_readPart : ByteArray := prog_2_method_9_code
def yX0_readPart : MethodName := ⟨RX0, "readPart", "(LLaundrySky$Tape;I)V"⟩
abbrev cX0_drop : ByteArray := prog_2_method_10_code
def yX0_drop : MethodName := ⟨RX0, "drop", "(IIII)I"⟩
abbrev cX0_operand : ByteArray := prog_2_method_11_code
def yX0_operand : MethodName := ⟨RX0, "operand", "(IIIII)I"⟩
abbrev cX0_join : ByteArray := prog_2_method_12_code
def yX0_join : MethodName := ⟨RX0, "join", "(III)I"⟩
def RX1 : String := "LaundrySky$Mark"
def TX1 : u_T := fun k => match k with
  | 0 => ("LaundrySky$Mark", "sky", "LLaundrySky$Sky;", true)
  | 1 => ("LaundrySky$Mark", "wanted", "[I", true)
  | 2 => ("LaundrySky$Mark", "told", "LLaundrySky$Tellings;", true)
  | _ => ("LaundrySky$Mark", "laid", "Z", false)
def tyX1 : Nat → FieldType := fun k => match k with
  | 0 => .object "LaundrySky$Sky"
  | 1 => .array .int
  | 2 => .object "LaundrySky$Tellings"
  | _ => .boolean
abbrev wsX10 : List Cond := u_ws RX1 TX1 4
theorem nmX1 : ∀ a, a < 4 → ∀ b, b < 4 → a ≠ b → (TX1 a).2.1 ≠ (TX1 b).2.1 := by decide +kernel
theorem tyX1_ok : ∀ k, k < 4 → parseFieldDescriptor (TX1 k).2.2.1 = some (tyX1 k) := by decide +kernel
abbrev cX1_init : ByteArray := prog_3_method_1_code
def yX1_init : MethodName := ⟨RX1, "<init>", "(LLaundrySky$Town;)V"⟩
abbrev cX1_lay : ByteArray := prog_3_method_2_code
def yX1_lay : MethodName := ⟨RX1, "lay", "(LLaundrySky$Sky;LLaundrySky$Wishes;LLaundrySky$Tellings;)V"⟩
abbrev cX1_goBack : ByteArray := prog_3_method_3_code
def yX1_goBack : MethodName := ⟨RX1, "goBack", "(LLaundrySky$Sky;LLaundrySky$Wishes;LLaundrySky$Tellings;)V"⟩
def RX2 : String := "LaundrySky$Past"
def TX2 : u_T := fun k => match k with
  | 0 => ("LaundrySky$Past", "kept", "[LLaundrySky$Sky;", true)
  | 1 => ("LaundrySky$Past", "size", "I", false)
  | _ => ("LaundrySky$Past", "next", "I", false)
def tyX2 : Nat → FieldType := fun k => match k with
  | 0 => .array (.object "LaundrySky$Sky")
  | 1 => .int
  | _ => .int
abbrev wsX20 : List Cond := u_ws RX2 TX2 3
theorem nmX2 : ∀ a, a < 3 → ∀ b, b < 3 → a ≠ b → (TX2 a).2.1 ≠ (TX2 b).2.1 := by decide +kernel
theorem tyX2_ok : ∀ k, k < 3 → parseFieldDescriptor (TX2 k).2.2.1 = some (tyX2 k) := by decide +kernel
abbrev cX2_init : ByteArray := prog_4_method_1_code
def yX2_init : MethodName := ⟨RX2, "<init>", "(LLaundrySky$Town;)V"⟩
abbrev cX2_keep : ByteArray := prog_4_method_2_code
def yX2_keep : MethodName := ⟨RX2, "keep", "(LLaundrySky$Sky;)V"⟩
abbrev cX2_bringBack : ByteArray := prog_4_method_3_code
def yX2_bringBack : MethodName := ⟨RX2, "bringBack", "(LLaundrySky$Sky;)Z"⟩
def RX3 : String := "LaundrySky$Plan"
def TX3 : u_T := fun k => match k with
  | 0 => ("LaundrySky$Plan", "deeds", "[I", true)
  | 1 => ("LaundrySky$Plan", "cloths", "[I", true)
  | 2 => ("LaundrySky$Plan", "lines", "[I", true)
  | 3 => ("LaundrySky$Plan", "pegs", "[I", true)
  | 4 => ("LaundrySky$Plan", "size", "I", false)
  | 5 => ("LaundrySky$Plan", "firstWrong", "I", false)
  | _ => ("LaundrySky$Plan", "firstThunder", "I", false)
def tyX3 : Nat → FieldType := fun k => match k with
  | 0 => .array .int
  | 1 => .array .int
  | 2 => .array .int
  | 3 => .array .int
  | 4 => .int
  | 5 => .int
  | _ => .int
abbrev wsX30 : List Cond := u_ws RX3 TX3 7
theorem nmX3 : ∀ a, a < 7 → ∀ b, b < 7 → a ≠ b → (TX3 a).2.1 ≠ (TX3 b).2.1 := by decide +kernel
theorem tyX3_ok : ∀ k, k < 7 → parseFieldDescriptor (TX3 k).2.2.1 = some (tyX3 k) := by decide +kernel
abbrev cX3_init : ByteArray := prog_5_method_1_code
def yX3_init : MethodName := ⟨RX3, "<init>", "()V"⟩
abbrev cX3_copyFrom : ByteArray := prog_5_method_2_code
def yX3_copyFrom : MethodName := ⟨RX3, "copyFrom", "(LLaundrySky$Plan;)V"⟩
abbrev cX3_readFrom : ByteArray := prog_5_method_3_code
def yX3_readFrom : MethodName := ⟨RX3, "readFrom", "(LLaundrySky$Tape;LLaundrySky$Town;)I"⟩
abbrev cX3_deedOf : ByteArray := prog_5_method_4_code
def yX3_deedOf : MethodName := ⟨RX3, "deedOf", "(LLaundrySky$Word;)I"⟩
abbrev cX3_readRow : ByteArray := prog_5_method_5_code
def yX3_readRow : MethodName := ⟨RX3, "readRow", "(LLaundrySky$Tape;LLaundrySky$Town;I)V"⟩
abbrev cX3_judge : ByteArray := prog_5_method_6_code
def yX3_judge : MethodName := ⟨RX3, "judge", "(LLaundrySky$Sky;)V"⟩
abbrev cX3_isDone : ByteArray := prog_5_method_7_code
def yX3_isDone : MethodName := ⟨RX3, "isDone", "(LLaundrySky$Sky;I)Z"⟩
def RX4 : String := "LaundrySky$Sky"
def TX4 : u_T := fun k => match k with
  | 0 => ("LaundrySky$Sky", "town", "LLaundrySky$Town;", true)
  | 1 => ("LaundrySky$Sky", "wet", "[I", true)
  | 2 => ("LaundrySky$Sky", "on", "[I", true)
  | 3 => ("LaundrySky$Sky", "by", "[I", true)
  | 4 => ("LaundrySky$Sky", "tally", "[I", true)
  | 5 => ("LaundrySky$Sky", "clock", "I", false)
  | _ => ("LaundrySky$Sky", "drawn", "J", false)
def tyX4 : Nat → FieldType := fun k => match k with
  | 0 => .object "LaundrySky$Town"
  | 1 => .array .int
  | 2 => .array .int
  | 3 => .array .int
  | 4 => .array .int
  | 5 => .int
  | _ => .long
abbrev wsX40 : List Cond := u_ws RX4 TX4 7
theorem nmX4 : ∀ a, a < 7 → ∀ b, b < 7 → a ≠ b → (TX4 a).2.1 ≠ (TX4 b).2.1 := by decide +kernel
theorem tyX4_ok : ∀ k, k < 7 → parseFieldDescriptor (TX4 k).2.2.1 = some (tyX4 k) := by decide +kernel
abbrev cX4_init : ByteArray := prog_6_method_1_code
def yX4_init : MethodName := ⟨RX4, "<init>", "(LLaundrySky$Town;)V"⟩
abbrev cX4_begin : ByteArray := prog_6_method_2_code
def yX4_begin : MethodName := ⟨RX4, "begin", "()V"⟩
abbrev cX4_copyFrom : ByteArray := prog_6_method_3_code
def yX4_copyFrom : MethodName := ⟨RX4, "copyFrom", "(LLaundrySky$Sky;)V"⟩
abbrev cX4_hangs : ByteArray := prog_6_method_4_code
def yX4_hangs : MethodName := ⟨RX4, "hangs", "(I)Z"⟩
abbrev cX4_lies : ByteArray := prog_6_method_5_code
def yX4_lies : MethodName := ⟨RX4, "lies", "(I)Z"⟩
abbrev cX4_canHang : ByteArray := prog_6_method_6_code
def yX4_canHang : MethodName := ⟨RX4, "canHang", "(III)Z"⟩
abbrev cX4_putUp : ByteArray := prog_6_method_7_code
def yX4_putUp : MethodName := ⟨RX4, "putUp", "(III)V"⟩
abbrev cX4_putDown : ByteArray := prog_6_method_8_code
def yX4_putDown : MethodName := ⟨RX4, "putDown", "(I)V"⟩
abbrev cX4_soak : ByteArray := prog_6_method_9_code
def yX4_soak : MethodName := ⟨RX4, "soak", "(I)V"⟩
abbrev cX4_passHour : ByteArray := prog_6_method_10_code
def yX4_passHour : MethodName := ⟨RX4, "passHour", "(Z)I"⟩
abbrev cX4_wetShirts : ByteArray := prog_6_method_11_code
def yX4_wetShirts : MethodName := ⟨RX4, "wetShirts", "()I"⟩
abbrev cX4_freeOn : ByteArray := prog_6_method_12_code
def yX4_freeOn : MethodName := ⟨RX4, "freeOn", "(I)I"⟩
abbrev cX4_freeInAll : ByteArray := prog_6_method_13_code
def yX4_freeInAll : MethodName := ⟨RX4, "freeInAll", "()I"⟩
abbrev cX4_clothsOn : ByteArray := prog_6_method_14_code
def yX4_clothsOn : MethodName := ⟨RX4, "clothsOn", "(I)I"⟩
abbrev cX4_hanging : ByteArray := prog_6_method_15_code
def yX4_hanging : MethodName := ⟨RX4, "hanging", "()I"⟩
abbrev cX4_wetOnes : ByteArray := prog_6_method_16_code
def yX4_wetOnes : MethodName := ⟨RX4, "wetOnes", "()I"⟩
abbrev cX4_weather : ByteArray := prog_6_method_17_code
def yX4_weather : MethodName := ⟨RX4, "weather", "(II)I"⟩
abbrev cX4_countKinds : ByteArray := prog_6_method_18_code
def yX4_countKinds : MethodName := ⟨RX4, "countKinds", "(II)V"⟩
abbrev cX4_strength : ByteArray := prog_6_method_19_code
def yX4_strength : MethodName := ⟨RX4, "strength", "(I)I"⟩
abbrev cX4_wind : ByteArray := prog_6_method_20_code
def yX4_wind : MethodName := ⟨RX4, "wind", "(I)I"⟩
abbrev cX4_thunders : ByteArray := prog_6_method_21_code
def yX4_thunders : MethodName := ⟨RX4, "thunders", "()Z"⟩
abbrev cX4_hasWet : ByteArray := prog_6_method_22_code
def yX4_hasWet : MethodName := ⟨RX4, "hasWet", "(IZ)Z"⟩
abbrev cX4_bothWet : ByteArray := prog_6_method_23_code
def yX4_bothWet : MethodName := ⟨RX4, "bothWet", "(II)Z"⟩
abbrev cX4_isRainbow : ByteArray := prog_6_method_24_code
def yX4_isRainbow : MethodName := ⟨RX4, "isRainbow", "(II)Z"⟩
abbrev cX4_draw : ByteArray := prog_6_method_25_code
def yX4_draw : MethodName := ⟨RX4, "draw", "(I)I"⟩
abbrev cX4_drawOne : ByteArray := prog_6_method_26_code
def yX4_drawOne : MethodName := ⟨RX4, "drawOne", "()Z"⟩
def RX5 : String := "LaundrySky$Tape"
def TX5 : u_T := fun k => match k with
  | 0 => ("LaundrySky$Tape", "signs", "[C", true)
  | 1 => ("LaundrySky$Tape", "length", "I", false)
  | 2 => ("LaundrySky$Tape", "kind", "I", false)
  | 3 => ("LaundrySky$Tape", "word", "LLaundrySky$Word;", false)
  | 4 => ("LaundrySky$Tape", "letters", "J", false)
  | 5 => ("LaundrySky$Tape", "number", "I", false)
  | 6 => ("LaundrySky$Tape", "fault", "I", false)
  | 7 => ("LaundrySky$Tape", "start", "I", false)
  | _ => ("LaundrySky$Tape", "next", "I", false)
def tyX5 : Nat → FieldType := fun k => match k with
  | 0 => .array .char
  | 1 => .int
  | 2 => .int
  | 3 => .object "LaundrySky$Word"
  | 4 => .long
  | 5 => .int
  | 6 => .int
  | 7 => .int
  | _ => .int
abbrev wsX50 : List Cond := u_ws RX5 TX5 9
theorem nmX5 : ∀ a, a < 9 → ∀ b, b < 9 → a ≠ b → (TX5 a).2.1 ≠ (TX5 b).2.1 := by decide +kernel
theorem tyX5_ok : ∀ k, k < 9 → parseFieldDescriptor (TX5 k).2.2.1 = some (tyX5 k) := by decide +kernel
abbrev cX5_init : ByteArray := prog_7_method_1_code
def yX5_init : MethodName := ⟨RX5, "<init>", "()V"⟩
abbrev cX5_addBytes : ByteArray := prog_7_method_2_code
def yX5_addBytes : MethodName := ⟨RX5, "addBytes", "(J)V"⟩
abbrev cX5_startReading : ByteArray := prog_7_method_3_code
def yX5_startReading : MethodName := ⟨RX5, "startReading", "()V"⟩
abbrev cX5_endReading : ByteArray := prog_7_method_4_code
def yX5_endReading : MethodName := ⟨RX5, "endReading", "()I"⟩
abbrev cX5_advance : ByteArray := prog_7_method_5_code
def yX5_advance : MethodName := ⟨RX5, "advance", "()V"⟩
abbrev cX5_readWord : ByteArray := prog_7_method_6_code
def yX5_readWord : MethodName := ⟨RX5, "readWord", "()V"⟩
abbrev cX5_readDigits : ByteArray := prog_7_method_7_code
def yX5_readDigits : MethodName := ⟨RX5, "readDigits", "()V"⟩
abbrev cX5_isBlank : ByteArray := prog_7_method_8_code
def yX5_isBlank : MethodName := ⟨RX5, "isBlank", "(C)Z"⟩
abbrev cX5_isLetter : ByteArray := prog_7_method_9_code
def yX5_isLetter : MethodName := ⟨RX5, "isLetter", "(C)Z"⟩
abbrev cX5_isDigit : ByteArray := prog_7_method_10_code
def yX5_isDigit : MethodName := ⟨RX5, "isDigit", "(C)Z"⟩
abbrev cX5_fail : ByteArray := prog_7_method_11_code
def yX5_fail : MethodName := ⟨RX5, "fail", "(I)V"⟩
abbrev cX5_isName : ByteArray := prog_7_method_12_code
def yX5_isName : MethodName := ⟨RX5, "isName", "()Z"⟩
abbrev cX5_expectWord : ByteArray := prog_7_method_13_code
def yX5_expectWord : MethodName := ⟨RX5, "expectWord", "(LLaundrySky$Word;)V"⟩
abbrev cX5_expectSign : ByteArray := prog_7_method_14_code
def yX5_expectSign : MethodName := ⟨RX5, "expectSign", "(C)V"⟩
abbrev cX5_findName : ByteArray := prog_7_method_15_code
def yX5_findName : MethodName := ⟨RX5, "findName", "([JI)I"⟩
abbrev cX5_expectNumber : ByteArray := prog_7_method_16_code
def yX5_expectNumber : MethodName := ⟨RX5, "expectNumber", "(II)I"⟩
def RX6 : String := "LaundrySky$Tellings"
def TX6 : u_T := fun k => match k with
  | 0 => ("LaundrySky$Tellings", "places", "[I", true)
  | 1 => ("LaundrySky$Tellings", "hours", "[I", true)
  | 2 => ("LaundrySky$Tellings", "weathers", "[I", true)
  | 3 => ("LaundrySky$Tellings", "size", "I", false)
  | 4 => ("LaundrySky$Tellings", "pairs", "I", false)
  | 5 => ("LaundrySky$Tellings", "pairCloths", "I", false)
  | 6 => ("LaundrySky$Tellings", "pairLines", "I", false)
  | 7 => ("LaundrySky$Tellings", "trial", "LLaundrySky$Sky;", true)
  | 8 => ("LaundrySky$Tellings", "shares", "[[I", true)
  | _ => ("LaundrySky$Tellings", "seen", "[I", true)
def tyX6 : Nat → FieldType := fun k => match k with
  | 0 => .array .int
  | 1 => .array .int
  | 2 => .array .int
  | 3 => .int
  | 4 => .int
  | 5 => .int
  | 6 => .int
  | 7 => .object "LaundrySky$Sky"
  | 8 => .array (.array .int)
  | _ => .array .int
abbrev wsX60 : List Cond := u_ws RX6 TX6 10
theorem nmX6 : ∀ a, a < 10 → ∀ b, b < 10 → a ≠ b → (TX6 a).2.1 ≠ (TX6 b).2.1 := by decide +kernel
theorem tyX6_ok : ∀ k, k < 10 → parseFieldDescriptor (TX6 k).2.2.1 = some (tyX6 k) := by decide +kernel
abbrev cX6_init : ByteArray := prog_8_method_1_code
def yX6_init : MethodName := ⟨RX6, "<init>", "(LLaundrySky$Sky;)V"⟩
abbrev cX6_copyFrom : ByteArray := prog_8_method_2_code
def yX6_copyFrom : MethodName := ⟨RX6, "copyFrom", "(LLaundrySky$Tellings;)V"⟩
abbrev cX6_add : ByteArray := prog_8_method_3_code
def yX6_add : MethodName := ⟨RX6, "add", "(III)Z"⟩
abbrev cX6_findPairs : ByteArray := prog_8_method_4_code
def yX6_findPairs : MethodName := ⟨RX6, "findPairs", "(LLaundrySky$Sky;I)V"⟩
abbrev cX6_tryPair : ByteArray := prog_8_method_5_code
def yX6_tryPair : MethodName := ⟨RX6, "tryPair", "(III)V"⟩
abbrev cX6_comesTrue : ByteArray := prog_8_method_6_code
def yX6_comesTrue : MethodName := ⟨RX6, "comesTrue", "(I)Z"⟩
abbrev cX6_agrees : ByteArray := prog_8_method_7_code
def yX6_agrees : MethodName := ⟨RX6, "agrees", "(I)Z"⟩
abbrev cX6_bestPlace : ByteArray := prog_8_method_8_code
def yX6_bestPlace : MethodName := ⟨RX6, "bestPlace", "()I"⟩
def RX7 : String := "LaundrySky$Town"
def TX7 : u_T := fun k => match k with
  | 0 => ("LaundrySky$Town", "lineNames", "[J", true)
  | 1 => ("LaundrySky$Town", "placeNames", "[J", true)
  | 2 => ("LaundrySky$Town", "clothNames", "[J", true)
  | 3 => ("LaundrySky$Town", "pegs", "[I", true)
  | 4 => ("LaundrySky$Town", "crossed", "[I", true)
  | 5 => ("LaundrySky$Town", "above", "[I", true)
  | 6 => ("LaundrySky$Town", "kinds", "[I", true)
  | 7 => ("LaundrySky$Town", "soaked", "[I", true)
  | 8 => ("LaundrySky$Town", "law", "LLaundrySky$Law;", true)
  | 9 => ("LaundrySky$Town", "lines", "I", false)
  | 10 => ("LaundrySky$Town", "places", "I", false)
  | _ => ("LaundrySky$Town", "cloths", "I", false)
def tyX7 : Nat → FieldType := fun k => match k with
  | 0 => .array .long
  | 1 => .array .long
  | 2 => .array .long
  | 3 => .array .int
  | 4 => .array .int
  | 5 => .array .int
  | 6 => .array .int
  | 7 => .array .int
  | 8 => .object "LaundrySky$Law"
  | 9 => .int
  | 10 => .int
  | _ => .int
abbrev wsX70 : List Cond := u_ws RX7 TX7 12
theorem nmX7 : ∀ a, a < 12 → ∀ b, b < 12 → a ≠ b → (TX7 a).2.1 ≠ (TX7 b).2.1 := by decide +kernel
theorem tyX7_ok : ∀ k, k < 12 → parseFieldDescriptor (TX7 k).2.2.1 = some (tyX7 k) := by decide +kernel
abbrev cX7_init : ByteArray := prog_9_method_1_code
def yX7_init : MethodName := ⟨RX7, "<init>", "()V"⟩
abbrev cX7_clear : ByteArray := prog_9_method_2_code
def yX7_clear : MethodName := ⟨RX7, "clear", "()V"⟩
abbrev cX7_copyFrom : ByteArray := prog_9_method_3_code
def yX7_copyFrom : MethodName := ⟨RX7, "copyFrom", "(LLaundrySky$Town;)V"⟩
abbrev cX7_hasLine : ByteArray := prog_9_method_4_code
def yX7_hasLine : MethodName := ⟨RX7, "hasLine", "(I)Z"⟩
abbrev cX7_hasPlace : ByteArray := prog_9_method_5_code
def yX7_hasPlace : MethodName := ⟨RX7, "hasPlace", "(I)Z"⟩
abbrev cX7_hasCloth : ByteArray := prog_9_method_6_code
def yX7_hasCloth : MethodName := ⟨RX7, "hasCloth", "(I)Z"⟩
abbrev cX7_addLine : ByteArray := prog_9_method_7_code
def yX7_addLine : MethodName := ⟨RX7, "addLine", "(JI)V"⟩
abbrev cX7_addPlace : ByteArray := prog_9_method_8_code
def yX7_addPlace : MethodName := ⟨RX7, "addPlace", "(JI)V"⟩
abbrev cX7_addCloth : ByteArray := prog_9_method_9_code
def yX7_addCloth : MethodName := ⟨RX7, "addCloth", "(JII)V"⟩
abbrev cX7_addCrossing : ByteArray := prog_9_method_10_code
def yX7_addCrossing : MethodName := ⟨RX7, "addCrossing", "(II)V"⟩
abbrev cX7_isTold : ByteArray := prog_9_method_11_code
def yX7_isTold : MethodName := ⟨RX7, "isTold", "(J)Z"⟩
abbrev cX7_indexOf : ByteArray := prog_9_method_12_code
def yX7_indexOf : MethodName := ⟨RX7, "indexOf", "(J[JI)I"⟩
def RX8 : String := "LaundrySky$TownReader"
def TX8 : u_T := fun k => match k with
  | 0 => ("LaundrySky$TownReader", "tape", "LLaundrySky$Tape;", true)
  | 1 => ("LaundrySky$TownReader", "draft", "LLaundrySky$Town;", true)
  | _ => ("LaundrySky$TownReader", "hasLaw", "Z", false)
def tyX8 : Nat → FieldType := fun k => match k with
  | 0 => .object "LaundrySky$Tape"
  | 1 => .object "LaundrySky$Town"
  | _ => .boolean
abbrev wsX80 : List Cond := u_ws RX8 TX8 3
theorem nmX8 : ∀ a, a < 3 → ∀ b, b < 3 → a ≠ b → (TX8 a).2.1 ≠ (TX8 b).2.1 := by decide +kernel
theorem tyX8_ok : ∀ k, k < 3 → parseFieldDescriptor (TX8 k).2.2.1 = some (tyX8 k) := by decide +kernel
abbrev cX8_init : ByteArray := prog_10_method_1_code
def yX8_init : MethodName := ⟨RX8, "<init>", "(LLaundrySky$Tape;)V"⟩
abbrev cX8_readTown : ByteArray := prog_10_method_2_code
def yX8_readTown : MethodName := ⟨RX8, "readTown", "()I"⟩
abbrev cX8_skipUnlessFull : ByteArray := prog_10_method_3_code
def yX8_skipUnlessFull : MethodName := ⟨RX8, "skipUnlessFull", "(Z)V"⟩
abbrev cX8_newName : ByteArray := prog_10_method_4_code
def yX8_newName : MethodName := ⟨RX8, "newName", "()J"⟩
abbrev cX8_readLine : ByteArray := prog_10_method_5_code
def yX8_readLine : MethodName := ⟨RX8, "readLine", "()V"⟩
abbrev cX8_readPlace : ByteArray := prog_10_method_6_code
def yX8_readPlace : MethodName := ⟨RX8, "readPlace", "()V"⟩
abbrev cX8_lineOutside : ByteArray := prog_10_method_7_code
def yX8_lineOutside : MethodName := ⟨RX8, "lineOutside", "(I)I"⟩
abbrev cX8_readCloth : ByteArray := prog_10_method_8_code
def yX8_readCloth : MethodName := ⟨RX8, "readCloth", "()V"⟩
abbrev cX8_readCrossing : ByteArray := prog_10_method_9_code
def yX8_readCrossing : MethodName := ⟨RX8, "readCrossing", "()V"⟩
abbrev cX8_readLaw : ByteArray := prog_10_method_10_code
def yX8_readLaw : MethodName := ⟨RX8, "readLaw", "()V"⟩
def RX9 : String := "LaundrySky$Wishes"
def TX9 : u_T := fun k => match k with
  | 0 => ("LaundrySky$Wishes", "wanted", "[I", true)
  | 1 => ("LaundrySky$Wishes", "chosen", "[I", true)
  | 2 => ("LaundrySky$Wishes", "trial", "LLaundrySky$Sky;", true)
  | _ => ("LaundrySky$Wishes", "usefulLines", "[I", true)
def tyX9 : Nat → FieldType := fun k => match k with
  | 0 => .array .int
  | 1 => .array .int
  | 2 => .object "LaundrySky$Sky"
  | _ => .array .int
abbrev wsX90 : List Cond := u_ws RX9 TX9 4
theorem nmX9 : ∀ a, a < 4 → ∀ b, b < 4 → a ≠ b → (TX9 a).2.1 ≠ (TX9 b).2.1 := by decide +kernel
theorem tyX9_ok : ∀ k, k < 4 → parseFieldDescriptor (TX9 k).2.2.1 = some (tyX9 k) := by decide +kernel
abbrev cX9_init : ByteArray := prog_11_method_1_code
def yX9_init : MethodName := ⟨RX9, "<init>", "(LLaundrySky$Sky;)V"⟩
abbrev cX9_forget : ByteArray := prog_11_method_2_code
def yX9_forget : MethodName := ⟨RX9, "forget", "()V"⟩
abbrev cX9_copyFrom : ByteArray := prog_11_method_3_code
def yX9_copyFrom : MethodName := ⟨RX9, "copyFrom", "([I)V"⟩
abbrev cX9_wantedPlaces : ByteArray := prog_11_method_4_code
def yX9_wantedPlaces : MethodName := ⟨RX9, "wantedPlaces", "()I"⟩
abbrev cX9_fewest : ByteArray := prog_11_method_5_code
def yX9_fewest : MethodName := ⟨RX9, "fewest", "(LLaundrySky$Sky;)I"⟩
abbrev cX9_findUsefulLines : ByteArray := prog_11_method_6_code
def yX9_findUsefulLines : MethodName := ⟨RX9, "findUsefulLines", "()V"⟩
abbrev cX9_search : ByteArray := prog_11_method_7_code
def yX9_search : MethodName := ⟨RX9, "search", "(II)Z"⟩
abbrev cX9_firstLine : ByteArray := prog_11_method_8_code
def yX9_firstLine : MethodName := ⟨RX9, "firstLine", "(I)I"⟩
abbrev cX9_forgetFrom : ByteArray := prog_11_method_9_code
def yX9_forgetFrom : MethodName := ⟨RX9, "forgetFrom", "(I)V"⟩
abbrev cX9_canStillBe : ByteArray := prog_11_method_10_code
def yX9_canStillBe : MethodName := ⟨RX9, "canStillBe", "(II)Z"⟩
abbrev cX9_leftOf : ByteArray := prog_11_method_11_code
def yX9_leftOf : MethodName := ⟨RX9, "leftOf", "(II)I"⟩
abbrev cX9_wins : ByteArray := prog_11_method_12_code
def yX9_wins : MethodName := ⟨RX9, "wins", "(II)Z"⟩
def RX10 : String := "LaundrySky$Word"
def TX10 : u_T := fun k => match k with
  | _ => ("", "", "", false)
def tyX10 : Nat → FieldType := fun k => match k with
  | _ => .int
abbrev wsX100 : List Cond := u_ws RX10 TX10 0
theorem nmX10 : ∀ a, a < 0 → ∀ b, b < 0 → a ≠ b → (TX10 a).2.1 ≠ (TX10 b).2.1 := by decide +kernel
theorem tyX10_ok : ∀ k, k < 0 → parseFieldDescriptor (TX10 k).2.2.1 = some (tyX10 k) := by decide +kernel
abbrev cX10_standsAt : ByteArray := prog_12_method_4_code
def yX10_standsAt : MethodName := ⟨RX10, "standsAt", "([CII)Z"⟩
def RX11 : String := "LaundrySky"
def TX11 : u_T := fun k => match k with
  | 0 => ("LaundrySky", "tape", "LLaundrySky$Tape;", true)
  | 1 => ("LaundrySky", "town", "LLaundrySky$Town;", true)
  | 2 => ("LaundrySky", "townReader", "LLaundrySky$TownReader;", true)
  | 3 => ("LaundrySky", "plan", "LLaundrySky$Plan;", true)
  | 4 => ("LaundrySky", "draftPlan", "LLaundrySky$Plan;", true)
  | 5 => ("LaundrySky", "now", "LLaundrySky$Sky;", true)
  | 6 => ("LaundrySky", "trial", "LLaundrySky$Sky;", true)
  | 7 => ("LaundrySky", "past", "LLaundrySky$Past;", true)
  | 8 => ("LaundrySky", "wishes", "LLaundrySky$Wishes;", true)
  | 9 => ("LaundrySky", "tellings", "LLaundrySky$Tellings;", true)
  | 10 => ("LaundrySky", "marks", "[LLaundrySky$Mark;", true)
  | _ => ("LaundrySky", "paths", "[LLaundrySky$Sky;", true)
def tyX11 : Nat → FieldType := fun k => match k with
  | 0 => .object "LaundrySky$Tape"
  | 1 => .object "LaundrySky$Town"
  | 2 => .object "LaundrySky$TownReader"
  | 3 => .object "LaundrySky$Plan"
  | 4 => .object "LaundrySky$Plan"
  | 5 => .object "LaundrySky$Sky"
  | 6 => .object "LaundrySky$Sky"
  | 7 => .object "LaundrySky$Past"
  | 8 => .object "LaundrySky$Wishes"
  | 9 => .object "LaundrySky$Tellings"
  | 10 => .array (.object "LaundrySky$Mark")
  | _ => .array (.object "LaundrySky$Sky")
abbrev wsX110 : List Cond := u_ws RX11 TX11 12
theorem nmX11 : ∀ a, a < 12 → ∀ b, b < 12 → a ≠ b → (TX11 a).2.1 ≠ (TX11 b).2.1 := by decide +kernel
theorem tyX11_ok : ∀ k, k < 12 → parseFieldDescriptor (TX11 k).2.2.1 = some (tyX11 k) := by decide +kernel
abbrev cX11_init : ByteArray := prog_1_method_1_code
def yX11_init : MethodName := ⟨RX11, "<init>", "()V"⟩
abbrev cX11_feed : ByteArray := prog_1_method_2_code
def yX11_feed : MethodName := ⟨RX11, "feed", "(JJJ)I"⟩
abbrev cX11_street : ByteArray := prog_1_method_3_code
def yX11_street : MethodName := ⟨RX11, "street", "()I"⟩
abbrev cX11_morning : ByteArray := prog_1_method_4_code
def yX11_morning : MethodName := ⟨RX11, "morning", "()I"⟩
abbrev cX11_startAnew : ByteArray := prog_1_method_5_code
def yX11_startAnew : MethodName := ⟨RX11, "startAnew", "()V"⟩
abbrev cX11_line : ByteArray := prog_1_method_6_code
def yX11_line : MethodName := ⟨RX11, "line", "(II)I"⟩
abbrev cX11_cloth : ByteArray := prog_1_method_7_code
def yX11_cloth : MethodName := ⟨RX11, "cloth", "(II)I"⟩
abbrev cX11_place : ByteArray := prog_1_method_8_code
def yX11_place : MethodName := ⟨RX11, "place", "(II)I"⟩
abbrev cX11_count : ByteArray := prog_1_method_9_code
def yX11_count : MethodName := ⟨RX11, "count", "(I)I"⟩
abbrev cX11_hang : ByteArray := prog_1_method_10_code
def yX11_hang : MethodName := ⟨RX11, "hang", "(III)I"⟩
abbrev cX11_take : ByteArray := prog_1_method_11_code
def yX11_take : MethodName := ⟨RX11, "take", "(I)I"⟩
abbrev cX11_wash : ByteArray := prog_1_method_12_code
def yX11_wash : MethodName := ⟨RX11, "wash", "(I)Z"⟩
abbrev cX11_hour : ByteArray := prog_1_method_13_code
def yX11_hour : MethodName := ⟨RX11, "hour", "()I"⟩
abbrev cX11_undo : ByteArray := prog_1_method_14_code
def yX11_undo : MethodName := ⟨RX11, "undo", "()Z"⟩
abbrev cX11_mark : ByteArray := prog_1_method_15_code
def yX11_mark : MethodName := ⟨RX11, "mark", "(IZ)Z"⟩
abbrev cX11_judged : ByteArray := prog_1_method_16_code
def yX11_judged : MethodName := ⟨RX11, "judged", "(I)I"⟩
abbrev cX11_later : ByteArray := prog_1_method_17_code
def yX11_later : MethodName := ⟨RX11, "later", "(II)I"⟩
abbrev cX11_dry : ByteArray := prog_1_method_18_code
def yX11_dry : MethodName := ⟨RX11, "dry", "(I)I"⟩
abbrev cX11_clears : ByteArray := prog_1_method_19_code
def yX11_clears : MethodName := ⟨RX11, "clears", "(I)I"⟩
abbrev cX11_last : ByteArray := prog_1_method_20_code
def yX11_last : MethodName := ⟨RX11, "last", "()I"⟩
abbrev cX11_chance : ByteArray := prog_1_method_21_code
def yX11_chance : MethodName := ⟨RX11, "chance", "(III)I"⟩
abbrev cX11_waysToDry : ByteArray := prog_1_method_22_code
def yX11_waysToDry : MethodName := ⟨RX11, "waysToDry", "(IIII)I"⟩
abbrev cX11_want : ByteArray := prog_1_method_23_code
def yX11_want : MethodName := ⟨RX11, "want", "(II)Z"⟩
abbrev cX11_wish : ByteArray := prog_1_method_24_code
def yX11_wish : MethodName := ⟨RX11, "wish", "(I)I"⟩
abbrev cX11_lift : ByteArray := prog_1_method_25_code
def yX11_lift : MethodName := ⟨RX11, "lift", "(II)I"⟩
abbrev cX11_tell : ByteArray := prog_1_method_26_code
def yX11_tell : MethodName := ⟨RX11, "tell", "(III)Z"⟩
abbrev cX11_pairs : ByteArray := prog_1_method_27_code
def yX11_pairs : MethodName := ⟨RX11, "pairs", "(I)I"⟩
abbrev cX11_look : ByteArray := prog_1_method_28_code
def yX11_look : MethodName := ⟨RX11, "look", "(I)I"⟩
abbrev cX11_isWeather : ByteArray := prog_1_method_29_code
def yX11_isWeather : MethodName := ⟨RX11, "isWeather", "(I)Z"⟩
abbrev cX11_rainbows : ByteArray := prog_1_method_30_code
def yX11_rainbows : MethodName := ⟨RX11, "rainbows", "()I"⟩
abbrev cX11_quarrels : ByteArray := prog_1_method_31_code
def yX11_quarrels : MethodName := ⟨RX11, "quarrels", "()I"⟩
abbrev cX11_crossings : ByteArray := prog_1_method_32_code
def yX11_crossings : MethodName := ⟨RX11, "crossings", "(Z)I"⟩
abbrev cX11_best : ByteArray := prog_1_method_33_code
def yX11_best : MethodName := ⟨RX11, "best", "(I)I"⟩
abbrev cX11_changedBy : ByteArray := prog_1_method_34_code
def yX11_changedBy : MethodName := ⟨RX11, "changedBy", "(II)I"⟩
abbrev cX11_owes : ByteArray := prog_1_method_35_code
def yX11_owes : MethodName := ⟨RX11, "owes", "(I)I"⟩
abbrev cX11_same : ByteArray := prog_1_method_36_code
def yX11_same : MethodName := ⟨RX11, "same", "()I"⟩
abbrev cX11_storm : ByteArray := prog_1_method_37_code
def yX11_storm : MethodName := ⟨RX11, "storm", "()I"⟩
abbrev cX11_rests : ByteArray := prog_1_method_38_code
def yX11_rests : MethodName := ⟨RX11, "rests", "(IIII)I"⟩
abbrev cX11_isStake : ByteArray := prog_1_method_39_code
def yX11_isStake : MethodName := ⟨RX11, "isStake", "(I)Z"⟩
abbrev cX11_isRest : ByteArray := prog_1_method_40_code
def yX11_isRest : MethodName := ⟨RX11, "isRest", "(IIII)Z"⟩
abbrev cX11_gain : ByteArray := prog_1_method_41_code
def yX11_gain : MethodName := ⟨RX11, "gain", "(IIIII)I"⟩
abbrev cX11_mays : ByteArray := prog_1_method_42_code
def yX11_mays : MethodName := ⟨RX11, "mays", "(III)I"⟩
def RX12 : String := "LaundrySkyModel"
def TX12 : u_T := fun k => match k with
  | 0 => ("LaundrySkyModel", "thrown", "I", false)
  | 1 => ("LaundrySkyModel", "tape", "[I", true)
  | 2 => ("LaundrySkyModel", "taped", "I", false)
  | 3 => ("LaundrySkyModel", "size", "I", false)
  | 4 => ("LaundrySkyModel", "sort", "[I", true)
  | 5 => ("LaundrySkyModel", "place", "[I", true)
  | 6 => ("LaundrySkyModel", "value", "[J", true)
  | 7 => ("LaundrySkyModel", "at", "I", false)
  | 8 => ("LaundrySkyModel", "fault", "I", false)
  | 9 => ("LaundrySkyModel", "words", "[J", true)
  | 10 => ("LaundrySkyModel", "streets", "[I", true)
  | 11 => ("LaundrySkyModel", "op", "[I", true)
  | 12 => ("LaundrySkyModel", "arg", "[I", true)
  | 13 => ("LaundrySkyModel", "codes", "I", false)
  | 14 => ("LaundrySkyModel", "names", "[J", true)
  | 15 => ("LaundrySkyModel", "readNames", "[J", true)
  | 16 => ("LaundrySkyModel", "nameOf", "[I", true)
  | 17 => ("LaundrySkyModel", "readNameOf", "[I", true)
  | 18 => ("LaundrySkyModel", "namesMany", "I", false)
  | 19 => ("LaundrySkyModel", "readMany", "I", false)
  | 20 => ("LaundrySkyModel", "rows", "[I", true)
  | 21 => ("LaundrySkyModel", "facts", "[I", true)
  | 22 => ("LaundrySkyModel", "pile", "[I", true)
  | 23 => ("LaundrySkyModel", "state", "[I", true)
  | 24 => ("LaundrySkyModel", "undos", "I", false)
  | 25 => ("LaundrySkyModel", "isMarked", "[Z", true)
  | 26 => ("LaundrySkyModel", "wished", "[I", true)
  | 27 => ("LaundrySkyModel", "bestWished", "[I", true)
  | 28 => ("LaundrySkyModel", "fewest", "I", false)
  | 29 => ("LaundrySkyModel", "looks", "[I", true)
  | _ => ("LaundrySkyModel", "g", "J", false)
def tyX12 : Nat → FieldType := fun k => match k with
  | 0 => .int
  | 1 => .array .int
  | 2 => .int
  | 3 => .int
  | 4 => .array .int
  | 5 => .array .int
  | 6 => .array .long
  | 7 => .int
  | 8 => .int
  | 9 => .array .long
  | 10 => .array .int
  | 11 => .array .int
  | 12 => .array .int
  | 13 => .int
  | 14 => .array .long
  | 15 => .array .long
  | 16 => .array .int
  | 17 => .array .int
  | 18 => .int
  | 19 => .int
  | 20 => .array .int
  | 21 => .array .int
  | 22 => .array .int
  | 23 => .array .int
  | 24 => .int
  | 25 => .array .boolean
  | 26 => .array .int
  | 27 => .array .int
  | 28 => .int
  | 29 => .array .int
  | _ => .long
abbrev wsX120 : List Cond := u_ws RX12 TX12 31
theorem nmX12 : ∀ a, a < 31 → ∀ b, b < 31 → a ≠ b → (TX12 a).2.1 ≠ (TX12 b).2.1 := by decide +kernel
theorem tyX12_ok : ∀ k, k < 31 → parseFieldDescriptor (TX12 k).2.2.1 = some (tyX12 k) := by decide +kernel
abbrev cX12_thrown : ByteArray := prog_14_method_1_code
def yX12_thrown : MethodName := ⟨RX12, "thrown", "()I"⟩
abbrev cX12_feed : ByteArray := prog_14_method_2_code
def yX12_feed : MethodName := ⟨RX12, "feed", "(JJJ)I"⟩
abbrev cX12_lay : ByteArray := prog_14_method_3_code
def yX12_lay : MethodName := ⟨RX12, "lay", "(J)V"⟩
abbrev cX12_init : ByteArray := prog_14_method_4_code
def yX12_init : MethodName := ⟨RX12, "<init>", "()V"⟩
abbrev cX12_isLetter : ByteArray := prog_14_method_5_code
def yX12_isLetter : MethodName := ⟨RX12, "isLetter", "(I)Z"⟩
abbrev cX12_isDigit : ByteArray := prog_14_method_6_code
def yX12_isDigit : MethodName := ⟨RX12, "isDigit", "(I)Z"⟩
abbrev cX12_rank : ByteArray := prog_14_method_7_code
def yX12_rank : MethodName := ⟨RX12, "rank", "(I)I"⟩
abbrev cX12_isSignOf : ByteArray := prog_14_method_8_code
def yX12_isSignOf : MethodName := ⟨RX12, "isSignOf", "(I)Z"⟩
abbrev cX12_cutAll : ByteArray := prog_14_method_9_code
def yX12_cutAll : MethodName := ⟨RX12, "cutAll", "()V"⟩
abbrev cX12_wrong : ByteArray := prog_14_method_10_code
def yX12_wrong : MethodName := ⟨RX12, "wrong", "(I)V"⟩
abbrev cX12_isSign : ByteArray := prog_14_method_11_code
def yX12_isSign : MethodName := ⟨RX12, "isSign", "(I)Z"⟩
abbrev cX12_isWord : ByteArray := prog_14_method_12_code
def yX12_isWord : MethodName := ⟨RX12, "isWord", "(I)Z"⟩
abbrev cX12_takeSign : ByteArray := prog_14_method_13_code
def yX12_takeSign : MethodName := ⟨RX12, "takeSign", "(I)V"⟩
abbrev cX12_hasSign : ByteArray := prog_14_method_14_code
def yX12_hasSign : MethodName := ⟨RX12, "hasSign", "(I)Z"⟩
abbrev cX12_hasWord : ByteArray := prog_14_method_15_code
def yX12_hasWord : MethodName := ⟨RX12, "hasWord", "(I)Z"⟩
abbrev cX12_takeWord : ByteArray := prog_14_method_16_code
def yX12_takeWord : MethodName := ⟨RX12, "takeWord", "(I)V"⟩
abbrev cX12_within : ByteArray := prog_14_method_17_code
def yX12_within : MethodName := ⟨RX12, "within", "(III)Z"⟩
abbrev cX12_standsAsAlways : ByteArray := prog_14_method_18_code
def yX12_standsAsAlways : MethodName := ⟨RX12, "standsAsAlways", "(I)V"⟩
abbrev cX12_takeNumber : ByteArray := prog_14_method_19_code
def yX12_takeNumber : MethodName := ⟨RX12, "takeNumber", "(II)I"⟩
abbrev cX12_takeAfter : ByteArray := prog_14_method_20_code
def yX12_takeAfter : MethodName := ⟨RX12, "takeAfter", "(III)I"⟩
abbrev cX12_wordHere : ByteArray := prog_14_method_21_code
def yX12_wordHere : MethodName := ⟨RX12, "wordHere", "(II)I"⟩
abbrev cX12_takeOne : ByteArray := prog_14_method_22_code
def yX12_takeOne : MethodName := ⟨RX12, "takeOne", "(II)I"⟩
abbrev cX12_isName : ByteArray := prog_14_method_23_code
def yX12_isName : MethodName := ⟨RX12, "isName", "()Z"⟩
abbrev cX12_nameAt : ByteArray := prog_14_method_24_code
def yX12_nameAt : MethodName := ⟨RX12, "nameAt", "(Z)I"⟩
abbrev cX12_toldHere : ByteArray := prog_14_method_25_code
def yX12_toldHere : MethodName := ⟨RX12, "toldHere", "(ZI)I"⟩
abbrev cX12_takeTold : ByteArray := prog_14_method_26_code
def yX12_takeTold : MethodName := ⟨RX12, "takeTold", "(ZI)I"⟩
abbrev cX12_street : ByteArray := prog_14_method_27_code
def yX12_street : MethodName := ⟨RX12, "street", "()I"⟩
abbrev cX12_readLine : ByteArray := prog_14_method_28_code
def yX12_readLine : MethodName := ⟨RX12, "readLine", "()V"⟩
abbrev cX12_readName : ByteArray := prog_14_method_29_code
def yX12_readName : MethodName := ⟨RX12, "readName", "(III)V"⟩
abbrev cX12_readPlace : ByteArray := prog_14_method_30_code
def yX12_readPlace : MethodName := ⟨RX12, "readPlace", "()V"⟩
abbrev cX12_readCrosses : ByteArray := prog_14_method_31_code
def yX12_readCrosses : MethodName := ⟨RX12, "readCrosses", "()V"⟩
abbrev cX12_readDries : ByteArray := prog_14_method_32_code
def yX12_readDries : MethodName := ⟨RX12, "readDries", "()V"⟩
abbrev cX12_morning : ByteArray := prog_14_method_33_code
def yX12_morning : MethodName := ⟨RX12, "morning", "()I"⟩
abbrev cX12_emit : ByteArray := prog_14_method_34_code
def yX12_emit : MethodName := ⟨RX12, "emit", "(II)V"⟩
abbrev cX12_whole : ByteArray := prog_14_method_35_code
def yX12_whole : MethodName := ⟨RX12, "whole", "(I)V"⟩
abbrev cX12_test : ByteArray := prog_14_method_36_code
def yX12_test : MethodName := ⟨RX12, "test", "(I)V"⟩
abbrev cX12_sums : ByteArray := prog_14_method_37_code
def yX12_sums : MethodName := ⟨RX12, "sums", "(I)V"⟩
abbrev cX12_products : ByteArray := prog_14_method_38_code
def yX12_products : MethodName := ⟨RX12, "products", "(I)V"⟩
abbrev cX12_takePart : ByteArray := prog_14_method_39_code
def yX12_takePart : MethodName := ⟨RX12, "takePart", "(I)V"⟩
abbrev cX12_worthAt : ByteArray := prog_14_method_40_code
def yX12_worthAt : MethodName := ⟨RX12, "worthAt", "(I)I"⟩
abbrev cX12_both : ByteArray := prog_14_method_41_code
def yX12_both : MethodName := ⟨RX12, "both", "(III)I"⟩
abbrev cX12_copies : ByteArray := prog_14_method_42_code
def yX12_copies : MethodName := ⟨RX12, "copies", "(III)V"⟩
abbrev cX12_starts : ByteArray := prog_14_method_43_code
def yX12_starts : MethodName := ⟨RX12, "starts", "(I)V"⟩
abbrev cX12_begins : ByteArray := prog_14_method_44_code
def yX12_begins : MethodName := ⟨RX12, "begins", "()V"⟩
abbrev cX12_keeps : ByteArray := prog_14_method_45_code
def yX12_keeps : MethodName := ⟨RX12, "keeps", "()V"⟩
abbrev cX12_lines : ByteArray := prog_14_method_46_code
def yX12_lines : MethodName := ⟨RX12, "lines", "()I"⟩
abbrev cX12_places : ByteArray := prog_14_method_47_code
def yX12_places : MethodName := ⟨RX12, "places", "()I"⟩
abbrev cX12_cloths : ByteArray := prog_14_method_48_code
def yX12_cloths : MethodName := ⟨RX12, "cloths", "()I"⟩
abbrev cX12_lineOf : ByteArray := prog_14_method_49_code
def yX12_lineOf : MethodName := ⟨RX12, "lineOf", "(II)I"⟩
abbrev cX12_clothOf : ByteArray := prog_14_method_50_code
def yX12_clothOf : MethodName := ⟨RX12, "clothOf", "(II)I"⟩
abbrev cX12_isLine : ByteArray := prog_14_method_51_code
def yX12_isLine : MethodName := ⟨RX12, "isLine", "(I)Z"⟩
abbrev cX12_isPlace : ByteArray := prog_14_method_52_code
def yX12_isPlace : MethodName := ⟨RX12, "isPlace", "(I)Z"⟩
abbrev cX12_isCloth : ByteArray := prog_14_method_53_code
def yX12_isCloth : MethodName := ⟨RX12, "isCloth", "(I)Z"⟩
abbrev cX12_doesHang : ByteArray := prog_14_method_54_code
def yX12_doesHang : MethodName := ⟨RX12, "doesHang", "(II)Z"⟩
abbrev cX12_isWet : ByteArray := prog_14_method_55_code
def yX12_isWet : MethodName := ⟨RX12, "isWet", "(II)Z"⟩
abbrev cX12_freeOf : ByteArray := prog_14_method_56_code
def yX12_freeOf : MethodName := ⟨RX12, "freeOf", "(II)I"⟩
abbrev cX12_onLine : ByteArray := prog_14_method_57_code
def yX12_onLine : MethodName := ⟨RX12, "onLine", "(II)I"⟩
abbrev cX12_hanging : ByteArray := prog_14_method_58_code
def yX12_hanging : MethodName := ⟨RX12, "hanging", "(I)I"⟩
abbrev cX12_bits : ByteArray := prog_14_method_59_code
def yX12_bits : MethodName := ⟨RX12, "bits", "(I)I"⟩
abbrev cX12_isAbove : ByteArray := prog_14_method_60_code
def yX12_isAbove : MethodName := ⟨RX12, "isAbove", "(III)Z"⟩
abbrev cX12_howMany : ByteArray := prog_14_method_61_code
def yX12_howMany : MethodName := ⟨RX12, "howMany", "(III)I"⟩
abbrev cX12_weatherOf : ByteArray := prog_14_method_62_code
def yX12_weatherOf : MethodName := ⟨RX12, "weatherOf", "(II)I"⟩
abbrev cX12_windOf : ByteArray := prog_14_method_63_code
def yX12_windOf : MethodName := ⟨RX12, "windOf", "(I)I"⟩
abbrev cX12_isThunder : ByteArray := prog_14_method_64_code
def yX12_isThunder : MethodName := ⟨RX12, "isThunder", "(I)Z"⟩
abbrev cX12_passes : ByteArray := prog_14_method_65_code
def yX12_passes : MethodName := ⟨RX12, "passes", "(IZ)I"⟩
abbrev cX12_mayHang : ByteArray := prog_14_method_66_code
def yX12_mayHang : MethodName := ⟨RX12, "mayHang", "(IIII)Z"⟩
abbrev cX12_hangs : ByteArray := prog_14_method_67_code
def yX12_hangs : MethodName := ⟨RX12, "hangs", "(IIII)V"⟩
abbrev cX12_comesDown : ByteArray := prog_14_method_68_code
def yX12_comesDown : MethodName := ⟨RX12, "comesDown", "(II)V"⟩
abbrev cX12_line : ByteArray := prog_14_method_69_code
def yX12_line : MethodName := ⟨RX12, "line", "(II)I"⟩
abbrev cX12_cloth : ByteArray := prog_14_method_70_code
def yX12_cloth : MethodName := ⟨RX12, "cloth", "(II)I"⟩
abbrev cX12_place : ByteArray := prog_14_method_71_code
def yX12_place : MethodName := ⟨RX12, "place", "(II)I"⟩
abbrev cX12_hang : ByteArray := prog_14_method_72_code
def yX12_hang : MethodName := ⟨RX12, "hang", "(III)I"⟩
abbrev cX12_take : ByteArray := prog_14_method_73_code
def yX12_take : MethodName := ⟨RX12, "take", "(I)I"⟩
abbrev cX12_wash : ByteArray := prog_14_method_74_code
def yX12_wash : MethodName := ⟨RX12, "wash", "(I)Z"⟩
abbrev cX12_hour : ByteArray := prog_14_method_75_code
def yX12_hour : MethodName := ⟨RX12, "hour", "()I"⟩
abbrev cX12_undo : ByteArray := prog_14_method_76_code
def yX12_undo : MethodName := ⟨RX12, "undo", "()Z"⟩
abbrev cX12_driedOf : ByteArray := prog_14_method_77_code
def yX12_driedOf : MethodName := ⟨RX12, "driedOf", "(I)I"⟩
abbrev cX12_judged : ByteArray := prog_14_method_78_code
def yX12_judged : MethodName := ⟨RX12, "judged", "(I)I"⟩
abbrev cX12_triesNow : ByteArray := prog_14_method_79_code
def yX12_triesNow : MethodName := ⟨RX12, "triesNow", "()V"⟩
abbrev cX12_runs : ByteArray := prog_14_method_80_code
def yX12_runs : MethodName := ⟨RX12, "runs", "(I)V"⟩
abbrev cX12_later : ByteArray := prog_14_method_81_code
def yX12_later : MethodName := ⟨RX12, "later", "(II)I"⟩
abbrev cX12_dryOf : ByteArray := prog_14_method_82_code
def yX12_dryOf : MethodName := ⟨RX12, "dryOf", "(I)I"⟩
abbrev cX12_dry : ByteArray := prog_14_method_83_code
def yX12_dry : MethodName := ⟨RX12, "dry", "(I)I"⟩
abbrev cX12_last : ByteArray := prog_14_method_84_code
def yX12_last : MethodName := ⟨RX12, "last", "()I"⟩
abbrev cX12_clears : ByteArray := prog_14_method_85_code
def yX12_clears : MethodName := ⟨RX12, "clears", "(I)I"⟩
abbrev cX12_want : ByteArray := prog_14_method_86_code
def yX12_want : MethodName := ⟨RX12, "want", "(II)Z"⟩
abbrev cX12_isWanted : ByteArray := prog_14_method_87_code
def yX12_isWanted : MethodName := ⟨RX12, "isWanted", "(I)Z"⟩
abbrev cX12_wishes : ByteArray := prog_14_method_88_code
def yX12_wishes : MethodName := ⟨RX12, "wishes", "(II)V"⟩
abbrev cX12_wish : ByteArray := prog_14_method_89_code
def yX12_wish : MethodName := ⟨RX12, "wish", "(I)I"⟩
abbrev cX12_lift : ByteArray := prog_14_method_90_code
def yX12_lift : MethodName := ⟨RX12, "lift", "(II)I"⟩
abbrev cX12_tell : ByteArray := prog_14_method_91_code
def yX12_tell : MethodName := ⟨RX12, "tell", "(III)Z"⟩
abbrev cX12_hungFor : ByteArray := prog_14_method_92_code
def yX12_hungFor : MethodName := ⟨RX12, "hungFor", "(III)V"⟩
abbrev cX12_isTold : ByteArray := prog_14_method_93_code
def yX12_isTold : MethodName := ⟨RX12, "isTold", "(II)Z"⟩
abbrev cX12_pairs : ByteArray := prog_14_method_94_code
def yX12_pairs : MethodName := ⟨RX12, "pairs", "(I)I"⟩
abbrev cX12_look : ByteArray := prog_14_method_95_code
def yX12_look : MethodName := ⟨RX12, "look", "(I)I"⟩
abbrev cX12_hasWet : ByteArray := prog_14_method_96_code
def yX12_hasWet : MethodName := ⟨RX12, "hasWet", "(IZ)Z"⟩
abbrev cX12_isRainbow : ByteArray := prog_14_method_97_code
def yX12_isRainbow : MethodName := ⟨RX12, "isRainbow", "(II)Z"⟩
abbrev cX12_crossings : ByteArray := prog_14_method_98_code
def yX12_crossings : MethodName := ⟨RX12, "crossings", "(Z)I"⟩
abbrev cX12_rainbows : ByteArray := prog_14_method_99_code
def yX12_rainbows : MethodName := ⟨RX12, "rainbows", "()I"⟩
abbrev cX12_quarrels : ByteArray := prog_14_method_100_code
def yX12_quarrels : MethodName := ⟨RX12, "quarrels", "()I"⟩
abbrev cX12_best : ByteArray := prog_14_method_101_code
def yX12_best : MethodName := ⟨RX12, "best", "(I)I"⟩
abbrev cX12_owes : ByteArray := prog_14_method_102_code
def yX12_owes : MethodName := ⟨RX12, "owes", "(I)I"⟩
abbrev cX12_chance : ByteArray := prog_14_method_103_code
def yX12_chance : MethodName := ⟨RX12, "chance", "(III)I"⟩
abbrev cX12_same : ByteArray := prog_14_method_104_code
def yX12_same : MethodName := ⟨RX12, "same", "()I"⟩
abbrev cX12_storm : ByteArray := prog_14_method_105_code
def yX12_storm : MethodName := ⟨RX12, "storm", "()I"⟩
abbrev cX12_getsBy : ByteArray := prog_14_method_106_code
def yX12_getsBy : MethodName := ⟨RX12, "getsBy", "(IIIII)I"⟩
abbrev cX12_rests : ByteArray := prog_14_method_107_code
def yX12_rests : MethodName := ⟨RX12, "rests", "(IIII)I"⟩
abbrev cX12_draw : ByteArray := prog_14_method_108_code
def yX12_draw : MethodName := ⟨RX12, "draw", "(I)I"⟩
abbrev cX12_drawsCloth : ByteArray := prog_14_method_109_code
def yX12_drawsCloth : MethodName := ⟨RX12, "drawsCloth", "()Z"⟩
abbrev cX12_mays : ByteArray := prog_14_method_110_code
def yX12_mays : MethodName := ⟨RX12, "mays", "(III)I"⟩
abbrev cX12_mark : ByteArray := prog_14_method_111_code
def yX12_mark : MethodName := ⟨RX12, "mark", "(IZ)Z"⟩
abbrev cX12_wetNow : ByteArray := prog_14_method_112_code
def yX12_wetNow : MethodName := ⟨RX12, "wetNow", "()I"⟩
abbrev cX12_wantedNow : ByteArray := prog_14_method_113_code
def yX12_wantedNow : MethodName := ⟨RX12, "wantedNow", "()I"⟩
abbrev cX12_freeNow : ByteArray := prog_14_method_114_code
def yX12_freeNow : MethodName := ⟨RX12, "freeNow", "()I"⟩
abbrev cX12_count : ByteArray := prog_14_method_115_code
def yX12_count : MethodName := ⟨RX12, "count", "(I)I"⟩
def RJx145de : String := "java/io/Serializable"
def TJx145de : u_T := fun k => match k with
  | _ => ("", "", "", false)
def tyJx145de : Nat → FieldType := fun k => match k with
  | _ => .int
def RJx9f9b0 : String := "java/lang/CharSequence"
def TJx9f9b0 : u_T := fun k => match k with
  | _ => ("", "", "", false)
def tyJx9f9b0 : Nat → FieldType := fun k => match k with
  | _ => .int
def RJ11 : String := "java/lang/Character"
def TJ11 : u_T := fun k => match k with
  | _ => ("", "", "", false)
def tyJ11 : Nat → FieldType := fun k => match k with
  | _ => .int
abbrev cJ11_isValidCodePoint_9a6ad : ByteArray := prog_17_method_11_code
def yJ11_isValidCodePoint_9a6ad : MethodName := ⟨RJ11, "isValidCodePoint", "(I)Z"⟩
abbrev cJ11_highSurrogate_5068e : ByteArray := prog_17_method_28_code
def yJ11_highSurrogate_5068e : MethodName := ⟨RJ11, "highSurrogate", "(I)C"⟩
abbrev cJ11_lowSurrogate_5068e : ByteArray := prog_17_method_29_code
def yJ11_lowSurrogate_5068e : MethodName := ⟨RJ11, "lowSurrogate", "(I)C"⟩
def RJxb160c : String := "java/lang/Comparable"
def TJxb160c : u_T := fun k => match k with
  | _ => ("", "", "", false)
def tyJxb160c : Nat → FieldType := fun k => match k with
  | _ => .int
def RJx29ce0 : String := "java/lang/Enum"
def TJx29ce0 : u_T := fun k => match k with
  | _ => ("", "", "", false)
def tyJx29ce0 : Nat → FieldType := fun k => match k with
  | _ => .int
def RJ6 : String := "java/lang/Integer"
def TJ6 : u_T := fun k => match k with
  | _ => ("", "", "", false)
def tyJ6 : Nat → FieldType := fun k => match k with
  | _ => .int
abbrev cJ6_numberOfTrailingZeros_0f7a4 : ByteArray := prog_21_method_48_code
def yJ6_numberOfTrailingZeros_0f7a4 : MethodName := ⟨RJ6, "numberOfTrailingZeros", "(I)I"⟩
abbrev cJ6_bitCount_0f7a4 : ByteArray := prog_21_method_49_code
def yJ6_bitCount_0f7a4 : MethodName := ⟨RJ6, "bitCount", "(I)I"⟩
def RJ9 : String := "java/lang/Math"
def TJ9 : u_T := fun k => match k with
  | _ => ("", "", "", false)
def tyJ9 : Nat → FieldType := fun k => match k with
  | _ => .int
abbrev cJ9_max_7cf53 : ByteArray := prog_22_method_65_code
def yJ9_max_7cf53 : MethodName := ⟨RJ9, "max", "(II)I"⟩
abbrev cJ9_min_7cf53 : ByteArray := prog_22_method_69_code
def yJ9_min_7cf53 : MethodName := ⟨RJ9, "min", "(II)I"⟩
def RJ0 : String := "java/lang/String"
def TJ0 : u_T := fun k => match k with
  | _ => ("", "", "", false)
def tyJ0 : Nat → FieldType := fun k => match k with
  | _ => .int
abbrev cJ0_length_8abf5 : ByteArray := prog_24_method_54_code
def yJ0_length_8abf5 : MethodName := ⟨RJ0, "length", "()I"⟩
abbrev cJ0_charAt_5068e : ByteArray := prog_24_method_56_code
def yJ0_charAt_5068e : MethodName := ⟨RJ0, "charAt", "(I)C"⟩
abbrev cJ0_indexOf_0f7a4 : ByteArray := prog_24_method_79_code
def yJ0_indexOf_0f7a4 : MethodName := ⟨RJ0, "indexOf", "(I)I"⟩
abbrev cJ0_indexOf_7cf53 : ByteArray := prog_24_method_80_code
def yJ0_indexOf_7cf53 : MethodName := ⟨RJ0, "indexOf", "(II)I"⟩
abbrev cJ0_coder_7d493 : ByteArray := prog_24_method_152_code
def yJ0_coder_7d493 : MethodName := ⟨RJ0, "coder", "()B"⟩
abbrev cJ0_isLatin1_aae02 : ByteArray := prog_24_method_154_code
def yJ0_isLatin1_aae02 : MethodName := ⟨RJ0, "isLatin1", "()Z"⟩
abbrev cJ0_checkIndex_df160 : ByteArray := prog_24_method_155_code
def yJ0_checkIndex_df160 : MethodName := ⟨RJ0, "checkIndex", "(II)V"⟩
abbrev cJ0_checkBoundsBeginEnd_23922 : ByteArray := prog_24_method_158_code
def yJ0_checkBoundsBeginEnd_23922 : MethodName := ⟨RJ0, "checkBoundsBeginEnd", "(III)V"⟩
def RJ1 : String := "java/lang/StringLatin1"
def TJ1 : u_T := fun k => match k with
  | _ => ("", "", "", false)
def tyJ1 : Nat → FieldType := fun k => match k with
  | _ => .int
abbrev cJ1_charAt_3b067 : ByteArray := prog_25_method_2_code
def yJ1_charAt_3b067 : MethodName := ⟨RJ1, "charAt", "([BI)C"⟩
abbrev cJ1_canEncode_9a6ad : ByteArray := prog_25_method_4_code
def yJ1_canEncode_9a6ad : MethodName := ⟨RJ1, "canEncode", "(I)Z"⟩
abbrev cJ1_indexOf_4cfef : ByteArray := prog_25_method_22_code
def yJ1_indexOf_4cfef : MethodName := ⟨RJ1, "indexOf", "([BIII)I"⟩
abbrev cJ1_indexOfChar_4cfef : ByteArray := prog_25_method_23_code
def yJ1_indexOfChar_4cfef : MethodName := ⟨RJ1, "indexOfChar", "([BIII)I"⟩
def RJ2 : String := "java/lang/StringUTF16"
def TJ2 : u_T := fun k => match k with
  | _ => ("", "", "", false)
def tyJ2 : Nat → FieldType := fun k => match k with
  | _ => .int
abbrev cJ2_getChar_3b067 : ByteArray := prog_26_method_5_code
def yJ2_getChar_3b067 : MethodName := ⟨RJ2, "getChar", "([BI)C"⟩
abbrev cJ2_length_9d52b : ByteArray := prog_26_method_6_code
def yJ2_length_9d52b : MethodName := ⟨RJ2, "length", "([B)I"⟩
abbrev cJ2_indexOf_4cfef : ByteArray := prog_26_method_40_code
def yJ2_indexOf_4cfef : MethodName := ⟨RJ2, "indexOf", "([BIII)I"⟩
abbrev cJ2_indexOfChar_4cfef : ByteArray := prog_26_method_47_code
def yJ2_indexOfChar_4cfef : MethodName := ⟨RJ2, "indexOfChar", "([BIII)I"⟩
abbrev cJ2_indexOfCharUnsafe_4cfef : ByteArray := prog_26_method_48_code
def yJ2_indexOfCharUnsafe_4cfef : MethodName := ⟨RJ2, "indexOfCharUnsafe", "([BIII)I"⟩
abbrev cJ2_indexOfSupplementary_4cfef : ByteArray := prog_26_method_49_code
def yJ2_indexOfSupplementary_4cfef : MethodName := ⟨RJ2, "indexOfSupplementary", "([BIII)I"⟩
abbrev cJ2_charAt_3b067 : ByteArray := prog_26_method_83_code
def yJ2_charAt_3b067 : MethodName := ⟨RJ2, "charAt", "([BI)C"⟩
abbrev cJ2_checkIndex_2214a : ByteArray := prog_26_method_91_code
def yJ2_checkIndex_2214a : MethodName := ⟨RJ2, "checkIndex", "(I[B)V"⟩
abbrev cJ2_checkBoundsBeginEnd_d044e : ByteArray := prog_26_method_93_code
def yJ2_checkBoundsBeginEnd_d044e : MethodName := ⟨RJ2, "checkBoundsBeginEnd", "(II[B)V"⟩
def RJ10 : String := "java/lang/System"
def TJ10 : u_T := fun k => match k with
  | _ => ("", "", "", false)
def tyJ10 : Nat → FieldType := fun k => match k with
  | _ => .int
def RJxfd54e : String := "java/lang/constant/Constable"
def TJxfd54e : u_T := fun k => match k with
  | _ => ("", "", "", false)
def tyJxfd54e : Nat → FieldType := fun k => match k with
  | _ => .int
def RJx3cf43 : String := "java/lang/constant/ConstantDesc"
def TJx3cf43 : u_T := fun k => match k with
  | _ => ("", "", "", false)
def tyJx3cf43 : Nat → FieldType := fun k => match k with
  | _ => .int
def RJ3 : String := "jdk/internal/util/Preconditions"
def TJ3 : u_T := fun k => match k with
  | _ => ("", "", "", false)
def tyJ3 : Nat → FieldType := fun k => match k with
  | _ => .int
abbrev cJ3_checkIndex_8e157 : ByteArray := prog_32_method_11_code
def yJ3_checkIndex_8e157 : MethodName := ⟨RJ3, "checkIndex", "(IILjava/util/function/BiFunction;)I"⟩
abbrev cJ3_checkFromToIndex_8c36e : ByteArray := prog_32_method_12_code
def yJ3_checkFromToIndex_8c36e : MethodName := ⟨RJ3, "checkFromToIndex", "(IIILjava/util/function/BiFunction;)I"⟩
def RL : String := "LaundrySkyLaw"
abbrev cL_rests : ByteArray := method_3_code
def yL_rests : MethodName := ⟨RL, "rests", "(LLaundrySky;IIII[J)I"⟩
abbrev cL_law : ByteArray := code
def yL_law : MethodName := ⟨RL, "law", "([I)Z"⟩
end
section
/-! ===== the static picture: classes, shapes of the cells that the constructors make, final references ===== -/
def cl0 : List vw_C := [(RX0, TX0, 3), (RX1, TX1, 4), (RX2, TX2, 3), (RX3, TX3, 7), (RX4, TX4, 7), (RX5, TX5, 9), (RX6, TX6, 10), (RX7, TX7, 12), (RX8, TX8, 3), (RX9, TX9, 4), (RX11, TX11, 12), (RX12, TX12, 31)]
def ftab : List (List Nat) := [[2, 2, 0], [2, 2, 2, 0], [2, 0, 0], [2, 2, 2, 2, 0, 0, 0], [2, 2, 2, 2, 2, 0, 1], [2, 0, 0, 3, 1, 0, 0, 0, 0], [2, 2, 2, 0, 0, 0, 0, 2, 2, 2], [2, 2, 2, 2, 2, 2, 2, 2, 2, 0, 0, 0], [2, 2, 0], [2, 2, 2, 2], [2, 2, 2, 2, 2, 2, 2, 2, 2, 2, 2, 2], [0, 2, 0, 0, 2, 2, 2, 0, 0, 2, 2, 2, 2, 0, 2, 2, 2, 2, 0, 0, 2, 2, 2, 2, 0, 2, 2, 2, 0, 2, 1]]
def nfl : List Nat := [3, 4, 3, 7, 7, 9, 10, 12, 3, 4, 12, 31]
def shp : List (Nat × Nat) := [(10, 0), (5, 0), (102, 1000), (7, 0), (101, 5), (101, 4), (101, 6), (100, 5), (100, 5), (100, 4), (100, 6), (100, 6), (0, 0), (100, 1000), (100, 24), (8, 0), (7, 0), (101, 5), (101, 4), (101, 6), (100, 5), (100, 5), (100, 4), (100, 6), (100, 6), (0, 0), (100, 1000), (100, 24), (3, 0), (100, 40), (100, 40), (100, 40), (100, 40), (3, 0), (100, 40), (100, 40), (100, 40), (100, 40), (4, 0), (100, 6), (100, 6), (100, 6), (100, 4), (4, 0), (100, 6), (100, 6), (100, 6), (100, 4), (2, 0), (104, 16), (4, 0), (100, 6), (100, 6), (100, 6), (100, 4), (4, 0), (100, 6), (100, 6), (100, 6), (100, 4), (4, 0), (100, 6), (100, 6), (100, 6), (100, 4), (4, 0), (100, 6), (100, 6), (100, 6), (100, 4), (4, 0), (100, 6), (100, 6), (100, 6), (100, 4), (4, 0), (100, 6), (100, 6), (100, 6), (100, 4), (4, 0), (100, 6), (100, 6), (100, 6), (100, 4), (4, 0), (100, 6), (100, 6), (100, 6), (100, 4), (4, 0), (100, 6), (100, 6), (100, 6), (100, 4), (4, 0), (100, 6), (100, 6), (100, 6), (100, 4), (4, 0), (100, 6), (100, 6), (100, 6), (100, 4), (4, 0), (100, 6), (100, 6), (100, 6), (100, 4), (4, 0), (100, 6), (100, 6), (100, 6), (100, 4), (4, 0), (100, 6), (100, 6), (100, 6), (100, 4), (4, 0), (100, 6), (100, 6), (100, 6), (100, 4), (4, 0), (100, 6), (100, 6), (100, 6), (100, 4), (9, 0), (100, 4), (100, 6), (100, 4), (6, 0), (100, 6), (100, 6), (100, 6), (106, 4), (100, 5), (100, 5), (100, 5), (100, 5), (100, 4), (105, 4), (1, 0), (100, 4), (4, 0), (100, 6), (100, 6), (100, 6), (100, 4), (6, 0), (100, 6), (100, 6), (100, 6), (106, 4), (100, 5), (100, 5), (100, 5), (100, 5), (100, 4), (1, 0), (100, 4), (4, 0), (100, 6), (100, 6), (100, 6), (100, 4), (6, 0), (100, 6), (100, 6), (100, 6), (106, 4), (100, 5), (100, 5), (100, 5), (100, 5), (100, 4), (1, 0), (100, 4), (4, 0), (100, 6), (100, 6), (100, 6), (100, 4), (6, 0), (100, 6), (100, 6), (100, 6), (106, 4), (100, 5), (100, 5), (100, 5), (100, 5), (100, 4), (1, 0), (100, 4), (4, 0), (100, 6), (100, 6), (100, 6), (100, 4), (6, 0), (100, 6), (100, 6), (100, 6), (106, 4), (100, 5), (100, 5), (100, 5), (100, 5), (100, 4), (104, 7), (4, 0), (100, 6), (100, 6), (100, 6), (100, 4), (4, 0), (100, 6), (100, 6), (100, 6), (100, 4), (4, 0), (100, 6), (100, 6), (100, 6), (100, 4), (4, 0), (100, 6), (100, 6), (100, 6), (100, 4), (4, 0), (100, 6), (100, 6), (100, 6), (100, 4), (4, 0), (100, 6), (100, 6), (100, 6), (100, 4), (4, 0), (100, 6), (100, 6), (100, 6), (100, 4), (11, 0), (100, 1000), (100, 1002), (100, 1002), (101, 1002), (101, 23), (100, 80), (100, 2200), (100, 2200), (101, 15), (101, 15), (100, 15), (100, 15), (100, 330), (100, 4), (100, 1100), (100, 966), (103, 4), (100, 6), (100, 6), (100, 20), (101, 1)]
def rft : List (List Nat) := [[1, 3, 15, 28, 33, 38, 43, 48, 130, 134, 144, 213], [2, 0, 0, 0, 0, 0, 0, 0, 0], [], [4, 5, 6, 7, 8, 9, 10, 11, 12, 0, 0, 0], [], [], [], [], [], [], [], [], [13, 14, 0], [], [], [1, 16, 0], [17, 18, 19, 20, 21, 22, 23, 24, 25, 0, 0, 0], [], [], [], [], [], [], [], [], [26, 27, 0], [], [], [29, 30, 31, 32, 0, 0, 0], [], [], [], [], [34, 35, 36, 37, 0, 0, 0], [], [], [], [], [3, 39, 40, 41, 42, 0, 0], [], [], [], [], [3, 44, 45, 46, 47, 0, 0], [], [], [], [], [49, 0, 0], [50, 55, 60, 65, 70, 75, 80, 85, 90, 95, 100, 105, 110, 115, 120, 125], [3, 51, 52, 53, 54, 0, 0], [], [], [], [], [3, 56, 57, 58, 59, 0, 0], [], [], [], [], [3, 61, 62, 63, 64, 0, 0], [], [], [], [], [3, 66, 67, 68, 69, 0, 0], [], [], [], [], [3, 71, 72, 73, 74, 0, 0], [], [], [], [], [3, 76, 77, 78, 79, 0, 0], [], [], [], [], [3, 81, 82, 83, 84, 0, 0], [], [], [], [], [3, 86, 87, 88, 89, 0, 0], [], [], [], [], [3, 91, 92, 93, 94, 0, 0], [], [], [], [], [3, 96, 97, 98, 99, 0, 0], [], [], [], [], [3, 101, 102, 103, 104, 0, 0], [], [], [], [], [3, 106, 107, 108, 109, 0, 0], [], [], [], [], [3, 111, 112, 113, 114, 0, 0], [], [], [], [], [3, 116, 117, 118, 119, 0, 0], [], [], [], [], [3, 121, 122, 123, 124, 0, 0], [], [], [], [], [3, 126, 127, 128, 129, 0, 0], [], [], [], [], [131, 132, 43, 133], [], [], [], [135, 136, 137, 0, 0, 0, 0, 43, 138, 143], [], [], [], [139, 140, 141, 142], [], [], [], [], [], [145, 162, 179, 196], [147, 146, 152, 0], [], [3, 148, 149, 150, 151, 0, 0], [], [], [], [], [153, 154, 155, 0, 0, 0, 0, 147, 156, 161], [], [], [], [157, 158, 159, 160], [], [], [], [], [], [164, 163, 169, 0], [], [3, 165, 166, 167, 168, 0, 0], [], [], [], [], [170, 171, 172, 0, 0, 0, 0, 164, 173, 178], [], [], [], [174, 175, 176, 177], [], [], [], [], [], [181, 180, 186, 0], [], [3, 182, 183, 184, 185, 0, 0], [], [], [], [], [187, 188, 189, 0, 0, 0, 0, 181, 190, 195], [], [], [], [191, 192, 193, 194], [], [], [], [], [], [198, 197, 203, 0], [], [3, 199, 200, 201, 202, 0, 0], [], [], [], [], [204, 205, 206, 0, 0, 0, 0, 198, 207, 212], [], [], [], [208, 209, 210, 211], [], [], [], [], [], [214, 219, 224, 229, 234, 239, 244], [3, 215, 216, 217, 218, 0, 0], [], [], [], [], [3, 220, 221, 222, 223, 0, 0], [], [], [], [], [3, 225, 226, 227, 228, 0, 0], [], [], [], [], [3, 230, 231, 232, 233, 0, 0], [], [], [], [], [3, 235, 236, 237, 238, 0, 0], [], [], [], [], [3, 240, 241, 242, 243, 0, 0], [], [], [], [], [3, 245, 246, 247, 248, 0, 0], [], [], [], [], [0, 250, 0, 0, 251, 252, 253, 0, 0, 254, 255, 256, 257, 0, 258, 259, 260, 261, 0, 0, 262, 263, 264, 265, 0, 266, 267, 268, 0, 269, 0], [], [], [], [], [], [], [], [], [], [], [], [], [], [], [], [], [], [], [], [], []]
def fty (c j : Nat) : Nat := (ftab.getD c []).getD j 0
def nfd (c : Nat) : Nat := nfl.getD c 0
def sh (a : Nat) : Nat × Nat := shp.getD a (0, 0)
def rf (a j : Nat) : Nat := (rft.getD a []).getD j 0
/-- a cell is an object of class c -/
def ob (a c : Nat) : Prop := a < 270 ∧ sh a = (c, 0)
/-- a cell is an array of kind t and length n -/
def ar (a t n : Nat) : Prop := a < 270 ∧ sh a = (100 + t, n)
def tgt : List (List (Nat × Nat)) := [
  [(100, 1000), (100, 24), (999, 0)],
  [(4, 0), (100, 4), (6, 0), (999, 0)],
  [(104, 16), (999, 0), (999, 0)],
  [(100, 40), (100, 40), (100, 40), (100, 40), (999, 0), (999, 0), (999, 0)],
  [(7, 0), (100, 6), (100, 6), (100, 6), (100, 4), (999, 0), (999, 0)],
  [(102, 1000), (999, 0), (999, 0), (999, 0), (999, 0), (999, 0), (999, 0), (999, 0), (999, 0)],
  [(100, 6), (100, 6), (100, 6), (999, 0), (999, 0), (999, 0), (999, 0), (4, 0), (106, 4), (100, 4)],
  [(101, 5), (101, 4), (101, 6), (100, 5), (100, 5), (100, 4), (100, 6), (100, 6), (0, 0), (999, 0), (999, 0), (999, 0)],
  [(5, 0), (7, 0), (999, 0)],
  [(100, 4), (100, 6), (4, 0), (100, 4)],
  [(5, 0), (7, 0), (8, 0), (3, 0), (3, 0), (4, 0), (4, 0), (2, 0), (9, 0), (6, 0), (105, 4), (104, 7)],
  [(999, 0), (100, 1000), (999, 0), (999, 0), (100, 1002), (100, 1002), (101, 1002), (999, 0), (999, 0), (101, 23), (100, 80), (100, 2200), (100, 2200), (999, 0), (101, 15), (101, 15), (100, 15), (100, 15), (999, 0), (999, 0), (100, 330), (100, 4), (100, 1100), (100, 966), (999, 0), (103, 4), (100, 6), (100, 6), (999, 0), (100, 20), (999, 0)]]
def tg (c j : Nat) : Nat × Nat := (tgt.getD c []).getD j (999, 0)
theorem rf_all : ∀ a, a < 270 → (sh a).1 < 100 → ∀ j, j < nfd (sh a).1 → fty (sh a).1 j = 2 → rf a j < 270 ∧ sh (rf a j) = tg (sh a).1 j := by decide +kernel
theorem rf_ob {a c j c2 : Nat} (h : ob a c) (hc : c < 100) (hj : j < nfd c) (hf : fty c j = 2) (ht : tg c j = (c2, 0)) : ob (rf a j) c2 := by
  obtain ⟨h1, h2⟩ := h
  have := rf_all a h1 (by rw [h2]; exact hc) j (by rw [h2]; exact hj) (by rw [h2]; exact hf)
  rw [h2] at this
  exact ⟨this.1, this.2.trans ht⟩
theorem rf_ar {a c j t n : Nat} (h : ob a c) (hc : c < 100) (hj : j < nfd c) (hf : fty c j = 2) (ht : tg c j = (100 + t, n)) : ar (rf a j) t n := by
  obtain ⟨h1, h2⟩ := h
  have := rf_all a h1 (by rw [h2]; exact hc) j (by rw [h2]; exact hj) (by rw [h2]; exact hf)
  rw [h2] at this
  exact ⟨this.1, this.2.trans ht⟩
theorem rf_arr4 : ∀ a, a < 270 → (sh a).1 = 104 → ∀ j, j < (sh a).2 → rf a j < 270 ∧ sh (rf a j) = (4, 0) := by decide +kernel
theorem rf_arr5 : ∀ a, a < 270 → (sh a).1 = 105 → ∀ j, j < (sh a).2 → rf a j < 270 ∧ sh (rf a j) = (1, 0) := by decide +kernel
theorem rf_arr6 : ∀ a, a < 270 → (sh a).1 = 106 → ∀ j, j < (sh a).2 → rf a j < 270 ∧ sh (rf a j) = (100, 5) := by decide +kernel
theorem tX0_0 {a : Nat} (h : ob a 0) : ar (rf a 0) 0 1000 := rf_ar h (by decide) (by decide) (by decide) (by decide)
theorem tX0_1 {a : Nat} (h : ob a 0) : ar (rf a 1) 0 24 := rf_ar h (by decide) (by decide) (by decide) (by decide)
theorem tX1_0 {a : Nat} (h : ob a 1) : ob (rf a 0) 4 := rf_ob h (by decide) (by decide) (by decide) (by decide)
theorem tX1_1 {a : Nat} (h : ob a 1) : ar (rf a 1) 0 4 := rf_ar h (by decide) (by decide) (by decide) (by decide)
theorem tX1_2 {a : Nat} (h : ob a 1) : ob (rf a 2) 6 := rf_ob h (by decide) (by decide) (by decide) (by decide)
theorem tX2_0 {a : Nat} (h : ob a 2) : ar (rf a 0) 4 16 := rf_ar h (by decide) (by decide) (by decide) (by decide)
theorem tX3_0 {a : Nat} (h : ob a 3) : ar (rf a 0) 0 40 := rf_ar h (by decide) (by decide) (by decide) (by decide)
theorem tX3_1 {a : Nat} (h : ob a 3) : ar (rf a 1) 0 40 := rf_ar h (by decide) (by decide) (by decide) (by decide)
theorem tX3_2 {a : Nat} (h : ob a 3) : ar (rf a 2) 0 40 := rf_ar h (by decide) (by decide) (by decide) (by decide)
theorem tX3_3 {a : Nat} (h : ob a 3) : ar (rf a 3) 0 40 := rf_ar h (by decide) (by decide) (by decide) (by decide)
theorem tX4_0 {a : Nat} (h : ob a 4) : ob (rf a 0) 7 := rf_ob h (by decide) (by decide) (by decide) (by decide)
theorem tX4_1 {a : Nat} (h : ob a 4) : ar (rf a 1) 0 6 := rf_ar h (by decide) (by decide) (by decide) (by decide)
theorem tX4_2 {a : Nat} (h : ob a 4) : ar (rf a 2) 0 6 := rf_ar h (by decide) (by decide) (by decide) (by decide)
theorem tX4_3 {a : Nat} (h : ob a 4) : ar (rf a 3) 0 6 := rf_ar h (by decide) (by decide) (by decide) (by decide)
theorem tX4_4 {a : Nat} (h : ob a 4) : ar (rf a 4) 0 4 := rf_ar h (by decide) (by decide) (by decide) (by decide)
theorem tX5_0 {a : Nat} (h : ob a 5) : ar (rf a 0) 2 1000 := rf_ar h (by decide) (by decide) (by decide) (by decide)
theorem tX6_0 {a : Nat} (h : ob a 6) : ar (rf a 0) 0 6 := rf_ar h (by decide) (by decide) (by decide) (by decide)
theorem tX6_1 {a : Nat} (h : ob a 6) : ar (rf a 1) 0 6 := rf_ar h (by decide) (by decide) (by decide) (by decide)
theorem tX6_2 {a : Nat} (h : ob a 6) : ar (rf a 2) 0 6 := rf_ar h (by decide) (by decide) (by decide) (by decide)
theorem tX6_7 {a : Nat} (h : ob a 6) : ob (rf a 7) 4 := rf_ob h (by decide) (by decide) (by decide) (by decide)
theorem tX6_8 {a : Nat} (h : ob a 6) : ar (rf a 8) 6 4 := rf_ar h (by decide) (by decide) (by decide) (by decide)
theorem tX6_9 {a : Nat} (h : ob a 6) : ar (rf a 9) 0 4 := rf_ar h (by decide) (by decide) (by decide) (by decide)
theorem tX7_0 {a : Nat} (h : ob a 7) : ar (rf a 0) 1 5 := rf_ar h (by decide) (by decide) (by decide) (by decide)
theorem tX7_1 {a : Nat} (h : ob a 7) : ar (rf a 1) 1 4 := rf_ar h (by decide) (by decide) (by decide) (by decide)
theorem tX7_2 {a : Nat} (h : ob a 7) : ar (rf a 2) 1 6 := rf_ar h (by decide) (by decide) (by decide) (by decide)
theorem tX7_3 {a : Nat} (h : ob a 7) : ar (rf a 3) 0 5 := rf_ar h (by decide) (by decide) (by decide) (by decide)
theorem tX7_4 {a : Nat} (h : ob a 7) : ar (rf a 4) 0 5 := rf_ar h (by decide) (by decide) (by decide) (by decide)
theorem tX7_5 {a : Nat} (h : ob a 7) : ar (rf a 5) 0 4 := rf_ar h (by decide) (by decide) (by decide) (by decide)
theorem tX7_6 {a : Nat} (h : ob a 7) : ar (rf a 6) 0 6 := rf_ar h (by decide) (by decide) (by decide) (by decide)
theorem tX7_7 {a : Nat} (h : ob a 7) : ar (rf a 7) 0 6 := rf_ar h (by decide) (by decide) (by decide) (by decide)
theorem tX7_8 {a : Nat} (h : ob a 7) : ob (rf a 8) 0 := rf_ob h (by decide) (by decide) (by decide) (by decide)
theorem tX8_0 {a : Nat} (h : ob a 8) : ob (rf a 0) 5 := rf_ob h (by decide) (by decide) (by decide) (by decide)
theorem tX8_1 {a : Nat} (h : ob a 8) : ob (rf a 1) 7 := rf_ob h (by decide) (by decide) (by decide) (by decide)
theorem tX9_0 {a : Nat} (h : ob a 9) : ar (rf a 0) 0 4 := rf_ar h (by decide) (by decide) (by decide) (by decide)
theorem tX9_1 {a : Nat} (h : ob a 9) : ar (rf a 1) 0 6 := rf_ar h (by decide) (by decide) (by decide) (by decide)
theorem tX9_2 {a : Nat} (h : ob a 9) : ob (rf a 2) 4 := rf_ob h (by decide) (by decide) (by decide) (by decide)
theorem tX9_3 {a : Nat} (h : ob a 9) : ar (rf a 3) 0 4 := rf_ar h (by decide) (by decide) (by decide) (by decide)
theorem tX11_0 {a : Nat} (h : ob a 10) : ob (rf a 0) 5 := rf_ob h (by decide) (by decide) (by decide) (by decide)
theorem tX11_1 {a : Nat} (h : ob a 10) : ob (rf a 1) 7 := rf_ob h (by decide) (by decide) (by decide) (by decide)
theorem tX11_2 {a : Nat} (h : ob a 10) : ob (rf a 2) 8 := rf_ob h (by decide) (by decide) (by decide) (by decide)
theorem tX11_3 {a : Nat} (h : ob a 10) : ob (rf a 3) 3 := rf_ob h (by decide) (by decide) (by decide) (by decide)
theorem tX11_4 {a : Nat} (h : ob a 10) : ob (rf a 4) 3 := rf_ob h (by decide) (by decide) (by decide) (by decide)
theorem tX11_5 {a : Nat} (h : ob a 10) : ob (rf a 5) 4 := rf_ob h (by decide) (by decide) (by decide) (by decide)
theorem tX11_6 {a : Nat} (h : ob a 10) : ob (rf a 6) 4 := rf_ob h (by decide) (by decide) (by decide) (by decide)
theorem tX11_7 {a : Nat} (h : ob a 10) : ob (rf a 7) 2 := rf_ob h (by decide) (by decide) (by decide) (by decide)
theorem tX11_8 {a : Nat} (h : ob a 10) : ob (rf a 8) 9 := rf_ob h (by decide) (by decide) (by decide) (by decide)
theorem tX11_9 {a : Nat} (h : ob a 10) : ob (rf a 9) 6 := rf_ob h (by decide) (by decide) (by decide) (by decide)
theorem tX11_10 {a : Nat} (h : ob a 10) : ar (rf a 10) 5 4 := rf_ar h (by decide) (by decide) (by decide) (by decide)
theorem tX11_11 {a : Nat} (h : ob a 10) : ar (rf a 11) 4 7 := rf_ar h (by decide) (by decide) (by decide) (by decide)
theorem tX12_1 {a : Nat} (h : ob a 11) : ar (rf a 1) 0 1000 := rf_ar h (by decide) (by decide) (by decide) (by decide)
theorem tX12_4 {a : Nat} (h : ob a 11) : ar (rf a 4) 0 1002 := rf_ar h (by decide) (by decide) (by decide) (by decide)
theorem tX12_5 {a : Nat} (h : ob a 11) : ar (rf a 5) 0 1002 := rf_ar h (by decide) (by decide) (by decide) (by decide)
theorem tX12_6 {a : Nat} (h : ob a 11) : ar (rf a 6) 1 1002 := rf_ar h (by decide) (by decide) (by decide) (by decide)
theorem tX12_9 {a : Nat} (h : ob a 11) : ar (rf a 9) 1 23 := rf_ar h (by decide) (by decide) (by decide) (by decide)
theorem tX12_10 {a : Nat} (h : ob a 11) : ar (rf a 10) 0 80 := rf_ar h (by decide) (by decide) (by decide) (by decide)
theorem tX12_11 {a : Nat} (h : ob a 11) : ar (rf a 11) 0 2200 := rf_ar h (by decide) (by decide) (by decide) (by decide)
theorem tX12_12 {a : Nat} (h : ob a 11) : ar (rf a 12) 0 2200 := rf_ar h (by decide) (by decide) (by decide) (by decide)
theorem tX12_14 {a : Nat} (h : ob a 11) : ar (rf a 14) 1 15 := rf_ar h (by decide) (by decide) (by decide) (by decide)
theorem tX12_15 {a : Nat} (h : ob a 11) : ar (rf a 15) 1 15 := rf_ar h (by decide) (by decide) (by decide) (by decide)
theorem tX12_16 {a : Nat} (h : ob a 11) : ar (rf a 16) 0 15 := rf_ar h (by decide) (by decide) (by decide) (by decide)
theorem tX12_17 {a : Nat} (h : ob a 11) : ar (rf a 17) 0 15 := rf_ar h (by decide) (by decide) (by decide) (by decide)
theorem tX12_20 {a : Nat} (h : ob a 11) : ar (rf a 20) 0 330 := rf_ar h (by decide) (by decide) (by decide) (by decide)
theorem tX12_21 {a : Nat} (h : ob a 11) : ar (rf a 21) 0 4 := rf_ar h (by decide) (by decide) (by decide) (by decide)
theorem tX12_22 {a : Nat} (h : ob a 11) : ar (rf a 22) 0 1100 := rf_ar h (by decide) (by decide) (by decide) (by decide)
theorem tX12_23 {a : Nat} (h : ob a 11) : ar (rf a 23) 0 966 := rf_ar h (by decide) (by decide) (by decide) (by decide)
theorem tX12_25 {a : Nat} (h : ob a 11) : ar (rf a 25) 3 4 := rf_ar h (by decide) (by decide) (by decide) (by decide)
theorem tX12_26 {a : Nat} (h : ob a 11) : ar (rf a 26) 0 6 := rf_ar h (by decide) (by decide) (by decide) (by decide)
theorem tX12_27 {a : Nat} (h : ob a 11) : ar (rf a 27) 0 6 := rf_ar h (by decide) (by decide) (by decide) (by decide)
theorem tX12_29 {a : Nat} (h : ob a 11) : ar (rf a 29) 0 20 := rf_ar h (by decide) (by decide) (by decide) (by decide)
end
section
def lg : List Cond := lw_tbl.filter goodWord
theorem mw {i : Nat} {w : Cond} (h : tables_1[i]? = some w) (hg : goodWord w = true := by rfl) : w ∈ lg := List.mem_filter.mpr ⟨List.mem_append_right _ (List.mem_of_getElem? h), hg⟩
theorem iwX0 : ∀ w ∈ u_ws RX0 TX0 3, w ∈ lg := by decide +kernel
theorem iwX1 : ∀ w ∈ u_ws RX1 TX1 4, w ∈ lg := by decide +kernel
theorem iwX2 : ∀ w ∈ u_ws RX2 TX2 3, w ∈ lg := by decide +kernel
theorem iwX3 : ∀ w ∈ u_ws RX3 TX3 7, w ∈ lg := by decide +kernel
theorem iwX4 : ∀ w ∈ u_ws RX4 TX4 7, w ∈ lg := by decide +kernel
theorem iwX5 : ∀ w ∈ u_ws RX5 TX5 9, w ∈ lg := by decide +kernel
theorem iwX6 : ∀ w ∈ u_ws RX6 TX6 10, w ∈ lg := by decide +kernel
theorem iwX7 : ∀ w ∈ u_ws RX7 TX7 12, w ∈ lg := by decide +kernel
theorem iwX8 : ∀ w ∈ u_ws RX8 TX8 3, w ∈ lg := by decide +kernel
theorem iwX9 : ∀ w ∈ u_ws RX9 TX9 4, w ∈ lg := by decide +kernel
theorem iwX11 : ∀ w ∈ u_ws RX11 TX11 12, w ∈ lg := by decide +kernel
theorem iwX12 : ∀ w ∈ u_ws RX12 TX12 31, w ∈ lg := by decide +kernel
/-- a field link: of the class c (its place in cl0) the field j -/
def FI (own : String) (idx c j : Nat) : Prop := ∃ (C : String) (T : u_T) (N : Nat) (ty : Nat → FieldType), cl0[c]? = some (C, T, N) ∧ j < N ∧ N = nfd c ∧ Cond.fieldLink own idx C (T j).2.1 (T j).2.2.1 ∈ lg ∧ (T j).1 = C ∧ (∀ w ∈ u_ws C T N, w ∈ lg) ∧ (∀ k, k < N → parseFieldDescriptor (T k).2.2.1 = some (ty k)) ∧ (∀ a, a < N → ∀ b, b < N → a ≠ b → (T a).2.1 ≠ (T b).2.1)
/-- the field is of such a type, and may be put -/
def FP (c j : Nat) (t : FieldType) : Prop := ∀ (C : String) (T : u_T) (N : Nat), cl0[c]? = some (C, T, N) → parseFieldDescriptor (T j).2.2.1 = some t ∧ (T j).2.2.2 = false
theorem fi_X5_9 : FI RX5 9 5 0 := ⟨RX5, TX5, 9, tyX5, rfl, by decide, rfl, mw (i := 41) (by decide +kernel), rfl, iwX5, tyX5_ok, nmX5⟩
theorem fi_X11_92 : FI RX11 92 5 1 := ⟨RX5, TX5, 9, tyX5, rfl, by decide, rfl, mw (i := 42) (by decide +kernel), rfl, iwX5, tyX5_ok, nmX5⟩
theorem fi_X5_15 : FI RX5 15 5 1 := ⟨RX5, TX5, 9, tyX5, rfl, by decide, rfl, mw (i := 43) (by decide +kernel), rfl, iwX5, tyX5_ok, nmX5⟩
theorem fi_X8_34 : FI RX8 34 5 2 := ⟨RX5, TX5, 9, tyX5, rfl, by decide, rfl, mw (i := 44) (by decide +kernel), rfl, iwX5, tyX5_ok, nmX5⟩
theorem fi_X3_39 : FI RX3 39 5 2 := ⟨RX5, TX5, 9, tyX5, rfl, by decide, rfl, mw (i := 45) (by decide +kernel), rfl, iwX5, tyX5_ok, nmX5⟩
theorem fi_X5_46 : FI RX5 46 5 2 := ⟨RX5, TX5, 9, tyX5, rfl, by decide, rfl, mw (i := 46) (by decide +kernel), rfl, iwX5, tyX5_ok, nmX5⟩
theorem fi_X0_56 : FI RX0 56 5 2 := ⟨RX5, TX5, 9, tyX5, rfl, by decide, rfl, mw (i := 47) (by decide +kernel), rfl, iwX5, tyX5_ok, nmX5⟩
theorem fi_X8_38 : FI RX8 38 5 3 := ⟨RX5, TX5, 9, tyX5, rfl, by decide, rfl, mw (i := 48) (by decide +kernel), rfl, iwX5, tyX5_ok, nmX5⟩
theorem fi_X3_42 : FI RX3 42 5 3 := ⟨RX5, TX5, 9, tyX5, rfl, by decide, rfl, mw (i := 49) (by decide +kernel), rfl, iwX5, tyX5_ok, nmX5⟩
theorem fi_X5_28 : FI RX5 28 5 3 := ⟨RX5, TX5, 9, tyX5, rfl, by decide, rfl, mw (i := 50) (by decide +kernel), rfl, iwX5, tyX5_ok, nmX5⟩
theorem fi_X0_36 : FI RX0 36 5 3 := ⟨RX5, TX5, 9, tyX5, rfl, by decide, rfl, mw (i := 51) (by decide +kernel), rfl, iwX5, tyX5_ok, nmX5⟩
theorem fi_X8_85 : FI RX8 85 5 4 := ⟨RX5, TX5, 9, tyX5, rfl, by decide, rfl, mw (i := 52) (by decide +kernel), rfl, iwX5, tyX5_ok, nmX5⟩
theorem fi_X5_32 : FI RX5 32 5 4 := ⟨RX5, TX5, 9, tyX5, rfl, by decide, rfl, mw (i := 53) (by decide +kernel), rfl, iwX5, tyX5_ok, nmX5⟩
theorem fi_X5_36 : FI RX5 36 5 5 := ⟨RX5, TX5, 9, tyX5, rfl, by decide, rfl, mw (i := 54) (by decide +kernel), rfl, iwX5, tyX5_ok, nmX5⟩
theorem fi_X0_80 : FI RX0 80 5 5 := ⟨RX5, TX5, 9, tyX5, rfl, by decide, rfl, mw (i := 55) (by decide +kernel), rfl, iwX5, tyX5_ok, nmX5⟩
theorem fi_X5_19 : FI RX5 19 5 6 := ⟨RX5, TX5, 9, tyX5, rfl, by decide, rfl, mw (i := 56) (by decide +kernel), rfl, iwX5, tyX5_ok, nmX5⟩
theorem fi_X8_123 : FI RX8 123 5 6 := ⟨RX5, TX5, 9, tyX5, rfl, by decide, rfl, mw (i := 57) (by decide +kernel), rfl, iwX5, tyX5_ok, nmX5⟩
theorem fi_X5_43 : FI RX5 43 5 7 := ⟨RX5, TX5, 9, tyX5, rfl, by decide, rfl, mw (i := 58) (by decide +kernel), rfl, iwX5, tyX5_ok, nmX5⟩
theorem fi_X5_22 : FI RX5 22 5 8 := ⟨RX5, TX5, 9, tyX5, rfl, by decide, rfl, mw (i := 59) (by decide +kernel), rfl, iwX5, tyX5_ok, nmX5⟩
theorem fi_X0_9 : FI RX0 9 0 0 := ⟨RX0, TX0, 3, tyX0, rfl, by decide, rfl, mw (i := 92) (by decide +kernel), rfl, iwX0, tyX0_ok, nmX0⟩
theorem fi_X0_15 : FI RX0 15 0 1 := ⟨RX0, TX0, 3, tyX0, rfl, by decide, rfl, mw (i := 93) (by decide +kernel), rfl, iwX0, tyX0_ok, nmX0⟩
theorem fi_X0_24 : FI RX0 24 0 2 := ⟨RX0, TX0, 3, tyX0, rfl, by decide, rfl, mw (i := 94) (by decide +kernel), rfl, iwX0, tyX0_ok, nmX0⟩
theorem fi_X8_188 : FI RX8 188 0 2 := ⟨RX0, TX0, 3, tyX0, rfl, by decide, rfl, mw (i := 95) (by decide +kernel), rfl, iwX0, tyX0_ok, nmX0⟩
theorem fi_X7_9 : FI RX7 9 7 0 := ⟨RX7, TX7, 12, tyX7, rfl, by decide, rfl, mw (i := 105) (by decide +kernel), rfl, iwX7, tyX7_ok, nmX7⟩
theorem fi_X3_91 : FI RX3 91 7 0 := ⟨RX7, TX7, 12, tyX7, rfl, by decide, rfl, mw (i := 106) (by decide +kernel), rfl, iwX7, tyX7_ok, nmX7⟩
theorem fi_X8_143 : FI RX8 143 7 0 := ⟨RX7, TX7, 12, tyX7, rfl, by decide, rfl, mw (i := 107) (by decide +kernel), rfl, iwX7, tyX7_ok, nmX7⟩
theorem fi_X7_15 : FI RX7 15 7 1 := ⟨RX7, TX7, 12, tyX7, rfl, by decide, rfl, mw (i := 108) (by decide +kernel), rfl, iwX7, tyX7_ok, nmX7⟩
theorem fi_X7_18 : FI RX7 18 7 2 := ⟨RX7, TX7, 12, tyX7, rfl, by decide, rfl, mw (i := 109) (by decide +kernel), rfl, iwX7, tyX7_ok, nmX7⟩
theorem fi_X3_79 : FI RX3 79 7 2 := ⟨RX7, TX7, 12, tyX7, rfl, by decide, rfl, mw (i := 110) (by decide +kernel), rfl, iwX7, tyX7_ok, nmX7⟩
theorem fi_X7_21 : FI RX7 21 7 3 := ⟨RX7, TX7, 12, tyX7, rfl, by decide, rfl, mw (i := 111) (by decide +kernel), rfl, iwX7, tyX7_ok, nmX7⟩
theorem fi_X11_135 : FI RX11 135 7 3 := ⟨RX7, TX7, 12, tyX7, rfl, by decide, rfl, mw (i := 112) (by decide +kernel), rfl, iwX7, tyX7_ok, nmX7⟩
theorem fi_X4_83 : FI RX4 83 7 3 := ⟨RX7, TX7, 12, tyX7, rfl, by decide, rfl, mw (i := 113) (by decide +kernel), rfl, iwX7, tyX7_ok, nmX7⟩
theorem fi_X7_25 : FI RX7 25 7 4 := ⟨RX7, TX7, 12, tyX7, rfl, by decide, rfl, mw (i := 114) (by decide +kernel), rfl, iwX7, tyX7_ok, nmX7⟩
theorem fi_X11_146 : FI RX11 146 7 4 := ⟨RX7, TX7, 12, tyX7, rfl, by decide, rfl, mw (i := 115) (by decide +kernel), rfl, iwX7, tyX7_ok, nmX7⟩
theorem fi_X8_171 : FI RX8 171 7 4 := ⟨RX7, TX7, 12, tyX7, rfl, by decide, rfl, mw (i := 116) (by decide +kernel), rfl, iwX7, tyX7_ok, nmX7⟩
theorem fi_X7_28 : FI RX7 28 7 5 := ⟨RX7, TX7, 12, tyX7, rfl, by decide, rfl, mw (i := 117) (by decide +kernel), rfl, iwX7, tyX7_ok, nmX7⟩
theorem fi_X9_54 : FI RX9 54 7 5 := ⟨RX7, TX7, 12, tyX7, rfl, by decide, rfl, mw (i := 118) (by decide +kernel), rfl, iwX7, tyX7_ok, nmX7⟩
theorem fi_X11_180 : FI RX11 180 7 5 := ⟨RX7, TX7, 12, tyX7, rfl, by decide, rfl, mw (i := 119) (by decide +kernel), rfl, iwX7, tyX7_ok, nmX7⟩
theorem fi_X4_96 : FI RX4 96 7 5 := ⟨RX7, TX7, 12, tyX7, rfl, by decide, rfl, mw (i := 120) (by decide +kernel), rfl, iwX7, tyX7_ok, nmX7⟩
theorem fi_X7_31 : FI RX7 31 7 6 := ⟨RX7, TX7, 12, tyX7, rfl, by decide, rfl, mw (i := 121) (by decide +kernel), rfl, iwX7, tyX7_ok, nmX7⟩
theorem fi_X9_67 : FI RX9 67 7 6 := ⟨RX7, TX7, 12, tyX7, rfl, by decide, rfl, mw (i := 122) (by decide +kernel), rfl, iwX7, tyX7_ok, nmX7⟩
theorem fi_X11_152 : FI RX11 152 7 6 := ⟨RX7, TX7, 12, tyX7, rfl, by decide, rfl, mw (i := 123) (by decide +kernel), rfl, iwX7, tyX7_ok, nmX7⟩
theorem fi_X4_80 : FI RX4 80 7 6 := ⟨RX7, TX7, 12, tyX7, rfl, by decide, rfl, mw (i := 124) (by decide +kernel), rfl, iwX7, tyX7_ok, nmX7⟩
theorem fi_X7_34 : FI RX7 34 7 7 := ⟨RX7, TX7, 12, tyX7, rfl, by decide, rfl, mw (i := 125) (by decide +kernel), rfl, iwX7, tyX7_ok, nmX7⟩
theorem fi_X4_28 : FI RX4 28 7 7 := ⟨RX7, TX7, 12, tyX7, rfl, by decide, rfl, mw (i := 126) (by decide +kernel), rfl, iwX7, tyX7_ok, nmX7⟩
theorem fi_X11_164 : FI RX11 164 7 7 := ⟨RX7, TX7, 12, tyX7, rfl, by decide, rfl, mw (i := 127) (by decide +kernel), rfl, iwX7, tyX7_ok, nmX7⟩
theorem fi_X7_40 : FI RX7 40 7 8 := ⟨RX7, TX7, 12, tyX7, rfl, by decide, rfl, mw (i := 128) (by decide +kernel), rfl, iwX7, tyX7_ok, nmX7⟩
theorem fi_X8_184 : FI RX8 184 7 8 := ⟨RX7, TX7, 12, tyX7, rfl, by decide, rfl, mw (i := 129) (by decide +kernel), rfl, iwX7, tyX7_ok, nmX7⟩
theorem fi_X4_64 : FI RX4 64 7 8 := ⟨RX7, TX7, 12, tyX7, rfl, by decide, rfl, mw (i := 130) (by decide +kernel), rfl, iwX7, tyX7_ok, nmX7⟩
theorem fi_X7_44 : FI RX7 44 7 9 := ⟨RX7, TX7, 12, tyX7, rfl, by decide, rfl, mw (i := 131) (by decide +kernel), rfl, iwX7, tyX7_ok, nmX7⟩
theorem fi_X6_67 : FI RX6 67 7 9 := ⟨RX7, TX7, 12, tyX7, rfl, by decide, rfl, mw (i := 132) (by decide +kernel), rfl, iwX7, tyX7_ok, nmX7⟩
theorem fi_X8_97 : FI RX8 97 7 9 := ⟨RX7, TX7, 12, tyX7, rfl, by decide, rfl, mw (i := 133) (by decide +kernel), rfl, iwX7, tyX7_ok, nmX7⟩
theorem fi_X3_94 : FI RX3 94 7 9 := ⟨RX7, TX7, 12, tyX7, rfl, by decide, rfl, mw (i := 134) (by decide +kernel), rfl, iwX7, tyX7_ok, nmX7⟩
theorem fi_X9_74 : FI RX9 74 7 9 := ⟨RX7, TX7, 12, tyX7, rfl, by decide, rfl, mw (i := 135) (by decide +kernel), rfl, iwX7, tyX7_ok, nmX7⟩
theorem fi_X11_183 : FI RX11 183 7 9 := ⟨RX7, TX7, 12, tyX7, rfl, by decide, rfl, mw (i := 136) (by decide +kernel), rfl, iwX7, tyX7_ok, nmX7⟩
theorem fi_X4_86 : FI RX4 86 7 9 := ⟨RX7, TX7, 12, tyX7, rfl, by decide, rfl, mw (i := 137) (by decide +kernel), rfl, iwX7, tyX7_ok, nmX7⟩
theorem fi_X7_48 : FI RX7 48 7 10 := ⟨RX7, TX7, 12, tyX7, rfl, by decide, rfl, mw (i := 138) (by decide +kernel), rfl, iwX7, tyX7_ok, nmX7⟩
theorem fi_X6_88 : FI RX6 88 7 10 := ⟨RX7, TX7, 12, tyX7, rfl, by decide, rfl, mw (i := 139) (by decide +kernel), rfl, iwX7, tyX7_ok, nmX7⟩
theorem fi_X8_130 : FI RX8 130 7 10 := ⟨RX7, TX7, 12, tyX7, rfl, by decide, rfl, mw (i := 140) (by decide +kernel), rfl, iwX7, tyX7_ok, nmX7⟩
theorem fi_X9_48 : FI RX9 48 7 10 := ⟨RX7, TX7, 12, tyX7, rfl, by decide, rfl, mw (i := 141) (by decide +kernel), rfl, iwX7, tyX7_ok, nmX7⟩
theorem fi_X11_186 : FI RX11 186 7 10 := ⟨RX7, TX7, 12, tyX7, rfl, by decide, rfl, mw (i := 142) (by decide +kernel), rfl, iwX7, tyX7_ok, nmX7⟩
theorem fi_X4_102 : FI RX4 102 7 10 := ⟨RX7, TX7, 12, tyX7, rfl, by decide, rfl, mw (i := 143) (by decide +kernel), rfl, iwX7, tyX7_ok, nmX7⟩
theorem fi_X7_51 : FI RX7 51 7 11 := ⟨RX7, TX7, 12, tyX7, rfl, by decide, rfl, mw (i := 144) (by decide +kernel), rfl, iwX7, tyX7_ok, nmX7⟩
theorem fi_X6_58 : FI RX6 58 7 11 := ⟨RX7, TX7, 12, tyX7, rfl, by decide, rfl, mw (i := 145) (by decide +kernel), rfl, iwX7, tyX7_ok, nmX7⟩
theorem fi_X3_85 : FI RX3 85 7 11 := ⟨RX7, TX7, 12, tyX7, rfl, by decide, rfl, mw (i := 146) (by decide +kernel), rfl, iwX7, tyX7_ok, nmX7⟩
theorem fi_X9_64 : FI RX9 64 7 11 := ⟨RX7, TX7, 12, tyX7, rfl, by decide, rfl, mw (i := 147) (by decide +kernel), rfl, iwX7, tyX7_ok, nmX7⟩
theorem fi_X8_151 : FI RX8 151 7 11 := ⟨RX7, TX7, 12, tyX7, rfl, by decide, rfl, mw (i := 148) (by decide +kernel), rfl, iwX7, tyX7_ok, nmX7⟩
theorem fi_X11_189 : FI RX11 189 7 11 := ⟨RX7, TX7, 12, tyX7, rfl, by decide, rfl, mw (i := 149) (by decide +kernel), rfl, iwX7, tyX7_ok, nmX7⟩
theorem fi_X4_61 : FI RX4 61 7 11 := ⟨RX7, TX7, 12, tyX7, rfl, by decide, rfl, mw (i := 150) (by decide +kernel), rfl, iwX7, tyX7_ok, nmX7⟩
theorem fi_X8_18 : FI RX8 18 8 0 := ⟨RX8, TX8, 3, tyX8, rfl, by decide, rfl, mw (i := 184) (by decide +kernel), rfl, iwX8, tyX8_ok, nmX8⟩
theorem fi_X8_12 : FI RX8 12 8 1 := ⟨RX8, TX8, 3, tyX8, rfl, by decide, rfl, mw (i := 185) (by decide +kernel), rfl, iwX8, tyX8_ok, nmX8⟩
theorem fi_X11_100 : FI RX11 100 8 1 := ⟨RX8, TX8, 3, tyX8, rfl, by decide, rfl, mw (i := 186) (by decide +kernel), rfl, iwX8, tyX8_ok, nmX8⟩
theorem fi_X8_25 : FI RX8 25 8 2 := ⟨RX8, TX8, 3, tyX8, rfl, by decide, rfl, mw (i := 187) (by decide +kernel), rfl, iwX8, tyX8_ok, nmX8⟩
theorem fi_X3_9 : FI RX3 9 3 0 := ⟨RX3, TX3, 7, tyX3, rfl, by decide, rfl, mw (i := 201) (by decide +kernel), rfl, iwX3, tyX3_ok, nmX3⟩
theorem fi_X3_15 : FI RX3 15 3 1 := ⟨RX3, TX3, 7, tyX3, rfl, by decide, rfl, mw (i := 202) (by decide +kernel), rfl, iwX3, tyX3_ok, nmX3⟩
theorem fi_X3_18 : FI RX3 18 3 2 := ⟨RX3, TX3, 7, tyX3, rfl, by decide, rfl, mw (i := 203) (by decide +kernel), rfl, iwX3, tyX3_ok, nmX3⟩
theorem fi_X3_21 : FI RX3 21 3 3 := ⟨RX3, TX3, 7, tyX3, rfl, by decide, rfl, mw (i := 204) (by decide +kernel), rfl, iwX3, tyX3_ok, nmX3⟩
theorem fi_X3_30 : FI RX3 30 3 4 := ⟨RX3, TX3, 7, tyX3, rfl, by decide, rfl, mw (i := 205) (by decide +kernel), rfl, iwX3, tyX3_ok, nmX3⟩
theorem fi_X11_119 : FI RX11 119 3 4 := ⟨RX3, TX3, 7, tyX3, rfl, by decide, rfl, mw (i := 206) (by decide +kernel), rfl, iwX3, tyX3_ok, nmX3⟩
theorem fi_X3_104 : FI RX3 104 3 5 := ⟨RX3, TX3, 7, tyX3, rfl, by decide, rfl, mw (i := 207) (by decide +kernel), rfl, iwX3, tyX3_ok, nmX3⟩
theorem fi_X11_249 : FI RX11 249 3 5 := ⟨RX3, TX3, 7, tyX3, rfl, by decide, rfl, mw (i := 208) (by decide +kernel), rfl, iwX3, tyX3_ok, nmX3⟩
theorem fi_X3_107 : FI RX3 107 3 6 := ⟨RX3, TX3, 7, tyX3, rfl, by decide, rfl, mw (i := 209) (by decide +kernel), rfl, iwX3, tyX3_ok, nmX3⟩
theorem fi_X11_252 : FI RX11 252 3 6 := ⟨RX3, TX3, 7, tyX3, rfl, by decide, rfl, mw (i := 210) (by decide +kernel), rfl, iwX3, tyX3_ok, nmX3⟩
theorem fi_X4_24 : FI RX4 24 4 0 := ⟨RX4, TX4, 7, tyX4, rfl, by decide, rfl, mw (i := 232) (by decide +kernel), rfl, iwX4, tyX4_ok, nmX4⟩
theorem fi_X6_52 : FI RX6 52 4 0 := ⟨RX4, TX4, 7, tyX4, rfl, by decide, rfl, mw (i := 233) (by decide +kernel), rfl, iwX4, tyX4_ok, nmX4⟩
theorem fi_X9_44 : FI RX9 44 4 0 := ⟨RX4, TX4, 7, tyX4, rfl, by decide, rfl, mw (i := 234) (by decide +kernel), rfl, iwX4, tyX4_ok, nmX4⟩
theorem fi_X4_9 : FI RX4 9 4 1 := ⟨RX4, TX4, 7, tyX4, rfl, by decide, rfl, mw (i := 235) (by decide +kernel), rfl, iwX4, tyX4_ok, nmX4⟩
theorem fi_X11_155 : FI RX11 155 4 1 := ⟨RX4, TX4, 7, tyX4, rfl, by decide, rfl, mw (i := 236) (by decide +kernel), rfl, iwX4, tyX4_ok, nmX4⟩
theorem fi_X9_91 : FI RX9 91 4 1 := ⟨RX4, TX4, 7, tyX4, rfl, by decide, rfl, mw (i := 237) (by decide +kernel), rfl, iwX4, tyX4_ok, nmX4⟩
theorem fi_X4_15 : FI RX4 15 4 2 := ⟨RX4, TX4, 7, tyX4, rfl, by decide, rfl, mw (i := 238) (by decide +kernel), rfl, iwX4, tyX4_ok, nmX4⟩
theorem fi_X11_158 : FI RX11 158 4 2 := ⟨RX4, TX4, 7, tyX4, rfl, by decide, rfl, mw (i := 239) (by decide +kernel), rfl, iwX4, tyX4_ok, nmX4⟩
theorem fi_X4_18 : FI RX4 18 4 3 := ⟨RX4, TX4, 7, tyX4, rfl, by decide, rfl, mw (i := 240) (by decide +kernel), rfl, iwX4, tyX4_ok, nmX4⟩
theorem fi_X11_161 : FI RX11 161 4 3 := ⟨RX4, TX4, 7, tyX4, rfl, by decide, rfl, mw (i := 241) (by decide +kernel), rfl, iwX4, tyX4_ok, nmX4⟩
theorem fi_X4_21 : FI RX4 21 4 4 := ⟨RX4, TX4, 7, tyX4, rfl, by decide, rfl, mw (i := 242) (by decide +kernel), rfl, iwX4, tyX4_ok, nmX4⟩
theorem fi_X9_102 : FI RX9 102 4 4 := ⟨RX4, TX4, 7, tyX4, rfl, by decide, rfl, mw (i := 243) (by decide +kernel), rfl, iwX4, tyX4_ok, nmX4⟩
theorem fi_X4_33 : FI RX4 33 4 5 := ⟨RX4, TX4, 7, tyX4, rfl, by decide, rfl, mw (i := 244) (by decide +kernel), rfl, iwX4, tyX4_ok, nmX4⟩
theorem fi_X11_192 : FI RX11 192 4 5 := ⟨RX4, TX4, 7, tyX4, rfl, by decide, rfl, mw (i := 245) (by decide +kernel), rfl, iwX4, tyX4_ok, nmX4⟩
theorem fi_X4_109 : FI RX4 109 4 6 := ⟨RX4, TX4, 7, tyX4, rfl, by decide, rfl, mw (i := 246) (by decide +kernel), rfl, iwX4, tyX4_ok, nmX4⟩
theorem fi_X11_328 : FI RX11 328 4 6 := ⟨RX4, TX4, 7, tyX4, rfl, by decide, rfl, mw (i := 247) (by decide +kernel), rfl, iwX4, tyX4_ok, nmX4⟩
theorem fi_X2_11 : FI RX2 11 2 0 := ⟨RX2, TX2, 3, tyX2, rfl, by decide, rfl, mw (i := 272) (by decide +kernel), rfl, iwX2, tyX2_ok, nmX2⟩
theorem fi_X2_28 : FI RX2 28 2 1 := ⟨RX2, TX2, 3, tyX2, rfl, by decide, rfl, mw (i := 273) (by decide +kernel), rfl, iwX2, tyX2_ok, nmX2⟩
theorem fi_X11_126 : FI RX11 126 2 1 := ⟨RX2, TX2, 3, tyX2, rfl, by decide, rfl, mw (i := 274) (by decide +kernel), rfl, iwX2, tyX2_ok, nmX2⟩
theorem fi_X2_20 : FI RX2 20 2 2 := ⟨RX2, TX2, 3, tyX2, rfl, by decide, rfl, mw (i := 275) (by decide +kernel), rfl, iwX2, tyX2_ok, nmX2⟩
theorem fi_X9_11 : FI RX9 11 9 0 := ⟨RX9, TX9, 4, tyX9, rfl, by decide, rfl, mw (i := 289) (by decide +kernel), rfl, iwX9, tyX9_ok, nmX9⟩
theorem fi_X1_36 : FI RX1 36 9 0 := ⟨RX9, TX9, 4, tyX9, rfl, by decide, rfl, mw (i := 290) (by decide +kernel), rfl, iwX9, tyX9_ok, nmX9⟩
theorem fi_X11_272 : FI RX11 272 9 0 := ⟨RX9, TX9, 4, tyX9, rfl, by decide, rfl, mw (i := 291) (by decide +kernel), rfl, iwX9, tyX9_ok, nmX9⟩
theorem fi_X9_15 : FI RX9 15 9 1 := ⟨RX9, TX9, 4, tyX9, rfl, by decide, rfl, mw (i := 292) (by decide +kernel), rfl, iwX9, tyX9_ok, nmX9⟩
theorem fi_X11_279 : FI RX11 279 9 1 := ⟨RX9, TX9, 4, tyX9, rfl, by decide, rfl, mw (i := 293) (by decide +kernel), rfl, iwX9, tyX9_ok, nmX9⟩
theorem fi_X9_21 : FI RX9 21 9 2 := ⟨RX9, TX9, 4, tyX9, rfl, by decide, rfl, mw (i := 294) (by decide +kernel), rfl, iwX9, tyX9_ok, nmX9⟩
theorem fi_X9_18 : FI RX9 18 9 3 := ⟨RX9, TX9, 4, tyX9, rfl, by decide, rfl, mw (i := 295) (by decide +kernel), rfl, iwX9, tyX9_ok, nmX9⟩
theorem fi_X6_9 : FI RX6 9 6 0 := ⟨RX6, TX6, 10, tyX6, rfl, by decide, rfl, mw (i := 313) (by decide +kernel), rfl, iwX6, tyX6_ok, nmX6⟩
theorem fi_X6_15 : FI RX6 15 6 1 := ⟨RX6, TX6, 10, tyX6, rfl, by decide, rfl, mw (i := 314) (by decide +kernel), rfl, iwX6, tyX6_ok, nmX6⟩
theorem fi_X6_18 : FI RX6 18 6 2 := ⟨RX6, TX6, 10, tyX6, rfl, by decide, rfl, mw (i := 315) (by decide +kernel), rfl, iwX6, tyX6_ok, nmX6⟩
theorem fi_X6_39 : FI RX6 39 6 3 := ⟨RX6, TX6, 10, tyX6, rfl, by decide, rfl, mw (i := 316) (by decide +kernel), rfl, iwX6, tyX6_ok, nmX6⟩
theorem fi_X11_125 : FI RX11 125 6 3 := ⟨RX6, TX6, 10, tyX6, rfl, by decide, rfl, mw (i := 317) (by decide +kernel), rfl, iwX6, tyX6_ok, nmX6⟩
theorem fi_X6_43 : FI RX6 43 6 4 := ⟨RX6, TX6, 10, tyX6, rfl, by decide, rfl, mw (i := 318) (by decide +kernel), rfl, iwX6, tyX6_ok, nmX6⟩
theorem fi_X11_289 : FI RX11 289 6 4 := ⟨RX6, TX6, 10, tyX6, rfl, by decide, rfl, mw (i := 319) (by decide +kernel), rfl, iwX6, tyX6_ok, nmX6⟩
theorem fi_X6_46 : FI RX6 46 6 5 := ⟨RX6, TX6, 10, tyX6, rfl, by decide, rfl, mw (i := 320) (by decide +kernel), rfl, iwX6, tyX6_ok, nmX6⟩
theorem fi_X11_292 : FI RX11 292 6 5 := ⟨RX6, TX6, 10, tyX6, rfl, by decide, rfl, mw (i := 321) (by decide +kernel), rfl, iwX6, tyX6_ok, nmX6⟩
theorem fi_X6_49 : FI RX6 49 6 6 := ⟨RX6, TX6, 10, tyX6, rfl, by decide, rfl, mw (i := 322) (by decide +kernel), rfl, iwX6, tyX6_ok, nmX6⟩
theorem fi_X11_295 : FI RX11 295 6 6 := ⟨RX6, TX6, 10, tyX6, rfl, by decide, rfl, mw (i := 323) (by decide +kernel), rfl, iwX6, tyX6_ok, nmX6⟩
theorem fi_X6_29 : FI RX6 29 6 7 := ⟨RX6, TX6, 10, tyX6, rfl, by decide, rfl, mw (i := 324) (by decide +kernel), rfl, iwX6, tyX6_ok, nmX6⟩
theorem fi_X6_23 : FI RX6 23 6 8 := ⟨RX6, TX6, 10, tyX6, rfl, by decide, rfl, mw (i := 325) (by decide +kernel), rfl, iwX6, tyX6_ok, nmX6⟩
theorem fi_X6_26 : FI RX6 26 6 9 := ⟨RX6, TX6, 10, tyX6, rfl, by decide, rfl, mw (i := 326) (by decide +kernel), rfl, iwX6, tyX6_ok, nmX6⟩
theorem fi_X1_20 : FI RX1 20 1 0 := ⟨RX1, TX1, 4, tyX1, rfl, by decide, rfl, mw (i := 359) (by decide +kernel), rfl, iwX1, tyX1_ok, nmX1⟩
theorem fi_X1_9 : FI RX1 9 1 1 := ⟨RX1, TX1, 4, tyX1, rfl, by decide, rfl, mw (i := 360) (by decide +kernel), rfl, iwX1, tyX1_ok, nmX1⟩
theorem fi_X1_29 : FI RX1 29 1 2 := ⟨RX1, TX1, 4, tyX1, rfl, by decide, rfl, mw (i := 361) (by decide +kernel), rfl, iwX1, tyX1_ok, nmX1⟩
theorem fi_X1_48 : FI RX1 48 1 3 := ⟨RX1, TX1, 4, tyX1, rfl, by decide, rfl, mw (i := 362) (by decide +kernel), rfl, iwX1, tyX1_ok, nmX1⟩
theorem fi_X11_127 : FI RX11 127 1 3 := ⟨RX1, TX1, 4, tyX1, rfl, by decide, rfl, mw (i := 363) (by decide +kernel), rfl, iwX1, tyX1_ok, nmX1⟩
theorem fi_X11_10 : FI RX11 10 10 0 := ⟨RX11, TX11, 12, tyX11, rfl, by decide, rfl, mw (i := 373) (by decide +kernel), rfl, iwX11, tyX11_ok, nmX11⟩
theorem fi_X11_19 : FI RX11 19 10 1 := ⟨RX11, TX11, 12, tyX11, rfl, by decide, rfl, mw (i := 374) (by decide +kernel), rfl, iwX11, tyX11_ok, nmX11⟩
theorem fi_X11_28 : FI RX11 28 10 2 := ⟨RX11, TX11, 12, tyX11, rfl, by decide, rfl, mw (i := 375) (by decide +kernel), rfl, iwX11, tyX11_ok, nmX11⟩
theorem fi_X11_35 : FI RX11 35 10 3 := ⟨RX11, TX11, 12, tyX11, rfl, by decide, rfl, mw (i := 376) (by decide +kernel), rfl, iwX11, tyX11_ok, nmX11⟩
theorem fi_X11_39 : FI RX11 39 10 4 := ⟨RX11, TX11, 12, tyX11, rfl, by decide, rfl, mw (i := 377) (by decide +kernel), rfl, iwX11, tyX11_ok, nmX11⟩
theorem fi_X11_47 : FI RX11 47 10 5 := ⟨RX11, TX11, 12, tyX11, rfl, by decide, rfl, mw (i := 378) (by decide +kernel), rfl, iwX11, tyX11_ok, nmX11⟩
theorem fi_X11_51 : FI RX11 51 10 6 := ⟨RX11, TX11, 12, tyX11, rfl, by decide, rfl, mw (i := 379) (by decide +kernel), rfl, iwX11, tyX11_ok, nmX11⟩
theorem fi_X11_57 : FI RX11 57 10 7 := ⟨RX11, TX11, 12, tyX11, rfl, by decide, rfl, mw (i := 380) (by decide +kernel), rfl, iwX11, tyX11_ok, nmX11⟩
theorem fi_X11_66 : FI RX11 66 10 8 := ⟨RX11, TX11, 12, tyX11, rfl, by decide, rfl, mw (i := 381) (by decide +kernel), rfl, iwX11, tyX11_ok, nmX11⟩
theorem fi_X11_73 : FI RX11 73 10 9 := ⟨RX11, TX11, 12, tyX11, rfl, by decide, rfl, mw (i := 382) (by decide +kernel), rfl, iwX11, tyX11_ok, nmX11⟩
theorem fi_X11_79 : FI RX11 79 10 10 := ⟨RX11, TX11, 12, tyX11, rfl, by decide, rfl, mw (i := 383) (by decide +kernel), rfl, iwX11, tyX11_ok, nmX11⟩
theorem fi_X11_84 : FI RX11 84 10 11 := ⟨RX11, TX11, 12, tyX11, rfl, by decide, rfl, mw (i := 384) (by decide +kernel), rfl, iwX11, tyX11_ok, nmX11⟩
theorem fi_X12_1 : FI RX12 1 11 0 := ⟨RX12, TX12, 31, tyX12, rfl, by decide, rfl, mw (i := 1314) (by decide +kernel), rfl, iwX12, tyX12_ok, nmX12⟩
theorem fi_X12_14 : FI RX12 14 11 1 := ⟨RX12, TX12, 31, tyX12, rfl, by decide, rfl, mw (i := 1315) (by decide +kernel), rfl, iwX12, tyX12_ok, nmX12⟩
theorem fi_X12_11 : FI RX12 11 11 2 := ⟨RX12, TX12, 31, tyX12, rfl, by decide, rfl, mw (i := 1316) (by decide +kernel), rfl, iwX12, tyX12_ok, nmX12⟩
theorem fi_X12_140 : FI RX12 140 11 3 := ⟨RX12, TX12, 31, tyX12, rfl, by decide, rfl, mw (i := 1317) (by decide +kernel), rfl, iwX12, tyX12_ok, nmX12⟩
theorem fi_X12_24 : FI RX12 24 11 4 := ⟨RX12, TX12, 31, tyX12, rfl, by decide, rfl, mw (i := 1318) (by decide +kernel), rfl, iwX12, tyX12_ok, nmX12⟩
theorem fi_X12_27 : FI RX12 27 11 5 := ⟨RX12, TX12, 31, tyX12, rfl, by decide, rfl, mw (i := 1319) (by decide +kernel), rfl, iwX12, tyX12_ok, nmX12⟩
theorem fi_X12_30 : FI RX12 30 11 6 := ⟨RX12, TX12, 31, tyX12, rfl, by decide, rfl, mw (i := 1320) (by decide +kernel), rfl, iwX12, tyX12_ok, nmX12⟩
theorem fi_X12_159 : FI RX12 159 11 7 := ⟨RX12, TX12, 31, tyX12, rfl, by decide, rfl, mw (i := 1321) (by decide +kernel), rfl, iwX12, tyX12_ok, nmX12⟩
theorem fi_X12_162 : FI RX12 162 11 8 := ⟨RX12, TX12, 31, tyX12, rfl, by decide, rfl, mw (i := 1322) (by decide +kernel), rfl, iwX12, tyX12_ok, nmX12⟩
theorem fi_X12_80 : FI RX12 80 11 9 := ⟨RX12, TX12, 31, tyX12, rfl, by decide, rfl, mw (i := 1323) (by decide +kernel), rfl, iwX12, tyX12_ok, nmX12⟩
theorem fi_X12_83 : FI RX12 83 11 10 := ⟨RX12, TX12, 31, tyX12, rfl, by decide, rfl, mw (i := 1324) (by decide +kernel), rfl, iwX12, tyX12_ok, nmX12⟩
theorem fi_X12_86 : FI RX12 86 11 11 := ⟨RX12, TX12, 31, tyX12, rfl, by decide, rfl, mw (i := 1325) (by decide +kernel), rfl, iwX12, tyX12_ok, nmX12⟩
theorem fi_X12_89 : FI RX12 89 11 12 := ⟨RX12, TX12, 31, tyX12, rfl, by decide, rfl, mw (i := 1326) (by decide +kernel), rfl, iwX12, tyX12_ok, nmX12⟩
theorem fi_X12_212 : FI RX12 212 11 13 := ⟨RX12, TX12, 31, tyX12, rfl, by decide, rfl, mw (i := 1327) (by decide +kernel), rfl, iwX12, tyX12_ok, nmX12⟩
theorem fi_X12_92 : FI RX12 92 11 14 := ⟨RX12, TX12, 31, tyX12, rfl, by decide, rfl, mw (i := 1328) (by decide +kernel), rfl, iwX12, tyX12_ok, nmX12⟩
theorem fi_X12_95 : FI RX12 95 11 15 := ⟨RX12, TX12, 31, tyX12, rfl, by decide, rfl, mw (i := 1329) (by decide +kernel), rfl, iwX12, tyX12_ok, nmX12⟩
theorem fi_X12_98 : FI RX12 98 11 16 := ⟨RX12, TX12, 31, tyX12, rfl, by decide, rfl, mw (i := 1330) (by decide +kernel), rfl, iwX12, tyX12_ok, nmX12⟩
theorem fi_X12_101 : FI RX12 101 11 17 := ⟨RX12, TX12, 31, tyX12, rfl, by decide, rfl, mw (i := 1331) (by decide +kernel), rfl, iwX12, tyX12_ok, nmX12⟩
theorem fi_X12_190 : FI RX12 190 11 18 := ⟨RX12, TX12, 31, tyX12, rfl, by decide, rfl, mw (i := 1332) (by decide +kernel), rfl, iwX12, tyX12_ok, nmX12⟩
theorem fi_X12_187 : FI RX12 187 11 19 := ⟨RX12, TX12, 31, tyX12, rfl, by decide, rfl, mw (i := 1333) (by decide +kernel), rfl, iwX12, tyX12_ok, nmX12⟩
theorem fi_X12_104 : FI RX12 104 11 20 := ⟨RX12, TX12, 31, tyX12, rfl, by decide, rfl, mw (i := 1334) (by decide +kernel), rfl, iwX12, tyX12_ok, nmX12⟩
theorem fi_X12_107 : FI RX12 107 11 21 := ⟨RX12, TX12, 31, tyX12, rfl, by decide, rfl, mw (i := 1335) (by decide +kernel), rfl, iwX12, tyX12_ok, nmX12⟩
theorem fi_X12_110 : FI RX12 110 11 22 := ⟨RX12, TX12, 31, tyX12, rfl, by decide, rfl, mw (i := 1336) (by decide +kernel), rfl, iwX12, tyX12_ok, nmX12⟩
theorem fi_X12_113 : FI RX12 113 11 23 := ⟨RX12, TX12, 31, tyX12, rfl, by decide, rfl, mw (i := 1337) (by decide +kernel), rfl, iwX12, tyX12_ok, nmX12⟩
theorem fi_X12_279 : FI RX12 279 11 24 := ⟨RX12, TX12, 31, tyX12, rfl, by decide, rfl, mw (i := 1338) (by decide +kernel), rfl, iwX12, tyX12_ok, nmX12⟩
theorem fi_X12_116 : FI RX12 116 11 25 := ⟨RX12, TX12, 31, tyX12, rfl, by decide, rfl, mw (i := 1339) (by decide +kernel), rfl, iwX12, tyX12_ok, nmX12⟩
theorem fi_X12_120 : FI RX12 120 11 26 := ⟨RX12, TX12, 31, tyX12, rfl, by decide, rfl, mw (i := 1340) (by decide +kernel), rfl, iwX12, tyX12_ok, nmX12⟩
theorem fi_X12_123 : FI RX12 123 11 27 := ⟨RX12, TX12, 31, tyX12, rfl, by decide, rfl, mw (i := 1341) (by decide +kernel), rfl, iwX12, tyX12_ok, nmX12⟩
theorem fi_X12_364 : FI RX12 364 11 28 := ⟨RX12, TX12, 31, tyX12, rfl, by decide, rfl, mw (i := 1342) (by decide +kernel), rfl, iwX12, tyX12_ok, nmX12⟩
theorem fi_X12_126 : FI RX12 126 11 29 := ⟨RX12, TX12, 31, tyX12, rfl, by decide, rfl, mw (i := 1343) (by decide +kernel), rfl, iwX12, tyX12_ok, nmX12⟩
theorem fi_X12_401 : FI RX12 401 11 30 := ⟨RX12, TX12, 31, tyX12, rfl, by decide, rfl, mw (i := 1344) (by decide +kernel), rfl, iwX12, tyX12_ok, nmX12⟩
theorem fp_X0_2 : FP 0 2 .int := by
  intro C T N h
  obtain ⟨rfl, rfl, rfl⟩ : RX0 = C ∧ TX0 = T ∧ 3 = N := by simpa [cl0] using h
  exact ⟨by decide +kernel, rfl⟩
theorem fp_X1_3 : FP 1 3 .boolean := by
  intro C T N h
  obtain ⟨rfl, rfl, rfl⟩ : RX1 = C ∧ TX1 = T ∧ 4 = N := by simpa [cl0] using h
  exact ⟨by decide +kernel, rfl⟩
theorem fp_X2_1 : FP 2 1 .int := by
  intro C T N h
  obtain ⟨rfl, rfl, rfl⟩ : RX2 = C ∧ TX2 = T ∧ 3 = N := by simpa [cl0] using h
  exact ⟨by decide +kernel, rfl⟩
theorem fp_X2_2 : FP 2 2 .int := by
  intro C T N h
  obtain ⟨rfl, rfl, rfl⟩ : RX2 = C ∧ TX2 = T ∧ 3 = N := by simpa [cl0] using h
  exact ⟨by decide +kernel, rfl⟩
theorem fp_X3_4 : FP 3 4 .int := by
  intro C T N h
  obtain ⟨rfl, rfl, rfl⟩ : RX3 = C ∧ TX3 = T ∧ 7 = N := by simpa [cl0] using h
  exact ⟨by decide +kernel, rfl⟩
theorem fp_X3_5 : FP 3 5 .int := by
  intro C T N h
  obtain ⟨rfl, rfl, rfl⟩ : RX3 = C ∧ TX3 = T ∧ 7 = N := by simpa [cl0] using h
  exact ⟨by decide +kernel, rfl⟩
theorem fp_X3_6 : FP 3 6 .int := by
  intro C T N h
  obtain ⟨rfl, rfl, rfl⟩ : RX3 = C ∧ TX3 = T ∧ 7 = N := by simpa [cl0] using h
  exact ⟨by decide +kernel, rfl⟩
theorem fp_X4_5 : FP 4 5 .int := by
  intro C T N h
  obtain ⟨rfl, rfl, rfl⟩ : RX4 = C ∧ TX4 = T ∧ 7 = N := by simpa [cl0] using h
  exact ⟨by decide +kernel, rfl⟩
theorem fp_X4_6 : FP 4 6 .long := by
  intro C T N h
  obtain ⟨rfl, rfl, rfl⟩ : RX4 = C ∧ TX4 = T ∧ 7 = N := by simpa [cl0] using h
  exact ⟨by decide +kernel, rfl⟩
theorem fp_X5_1 : FP 5 1 .int := by
  intro C T N h
  obtain ⟨rfl, rfl, rfl⟩ : RX5 = C ∧ TX5 = T ∧ 9 = N := by simpa [cl0] using h
  exact ⟨by decide +kernel, rfl⟩
theorem fp_X5_2 : FP 5 2 .int := by
  intro C T N h
  obtain ⟨rfl, rfl, rfl⟩ : RX5 = C ∧ TX5 = T ∧ 9 = N := by simpa [cl0] using h
  exact ⟨by decide +kernel, rfl⟩
theorem fp_X5_3 : FP 5 3 (.object "LaundrySky$Word") := by
  intro C T N h
  obtain ⟨rfl, rfl, rfl⟩ : RX5 = C ∧ TX5 = T ∧ 9 = N := by simpa [cl0] using h
  exact ⟨by decide +kernel, rfl⟩
theorem fp_X5_4 : FP 5 4 .long := by
  intro C T N h
  obtain ⟨rfl, rfl, rfl⟩ : RX5 = C ∧ TX5 = T ∧ 9 = N := by simpa [cl0] using h
  exact ⟨by decide +kernel, rfl⟩
theorem fp_X5_5 : FP 5 5 .int := by
  intro C T N h
  obtain ⟨rfl, rfl, rfl⟩ : RX5 = C ∧ TX5 = T ∧ 9 = N := by simpa [cl0] using h
  exact ⟨by decide +kernel, rfl⟩
theorem fp_X5_6 : FP 5 6 .int := by
  intro C T N h
  obtain ⟨rfl, rfl, rfl⟩ : RX5 = C ∧ TX5 = T ∧ 9 = N := by simpa [cl0] using h
  exact ⟨by decide +kernel, rfl⟩
theorem fp_X5_7 : FP 5 7 .int := by
  intro C T N h
  obtain ⟨rfl, rfl, rfl⟩ : RX5 = C ∧ TX5 = T ∧ 9 = N := by simpa [cl0] using h
  exact ⟨by decide +kernel, rfl⟩
theorem fp_X5_8 : FP 5 8 .int := by
  intro C T N h
  obtain ⟨rfl, rfl, rfl⟩ : RX5 = C ∧ TX5 = T ∧ 9 = N := by simpa [cl0] using h
  exact ⟨by decide +kernel, rfl⟩
theorem fp_X6_3 : FP 6 3 .int := by
  intro C T N h
  obtain ⟨rfl, rfl, rfl⟩ : RX6 = C ∧ TX6 = T ∧ 10 = N := by simpa [cl0] using h
  exact ⟨by decide +kernel, rfl⟩
theorem fp_X6_4 : FP 6 4 .int := by
  intro C T N h
  obtain ⟨rfl, rfl, rfl⟩ : RX6 = C ∧ TX6 = T ∧ 10 = N := by simpa [cl0] using h
  exact ⟨by decide +kernel, rfl⟩
theorem fp_X6_5 : FP 6 5 .int := by
  intro C T N h
  obtain ⟨rfl, rfl, rfl⟩ : RX6 = C ∧ TX6 = T ∧ 10 = N := by simpa [cl0] using h
  exact ⟨by decide +kernel, rfl⟩
theorem fp_X6_6 : FP 6 6 .int := by
  intro C T N h
  obtain ⟨rfl, rfl, rfl⟩ : RX6 = C ∧ TX6 = T ∧ 10 = N := by simpa [cl0] using h
  exact ⟨by decide +kernel, rfl⟩
theorem fp_X7_9 : FP 7 9 .int := by
  intro C T N h
  obtain ⟨rfl, rfl, rfl⟩ : RX7 = C ∧ TX7 = T ∧ 12 = N := by simpa [cl0] using h
  exact ⟨by decide +kernel, rfl⟩
theorem fp_X7_10 : FP 7 10 .int := by
  intro C T N h
  obtain ⟨rfl, rfl, rfl⟩ : RX7 = C ∧ TX7 = T ∧ 12 = N := by simpa [cl0] using h
  exact ⟨by decide +kernel, rfl⟩
theorem fp_X7_11 : FP 7 11 .int := by
  intro C T N h
  obtain ⟨rfl, rfl, rfl⟩ : RX7 = C ∧ TX7 = T ∧ 12 = N := by simpa [cl0] using h
  exact ⟨by decide +kernel, rfl⟩
theorem fp_X8_2 : FP 8 2 .boolean := by
  intro C T N h
  obtain ⟨rfl, rfl, rfl⟩ : RX8 = C ∧ TX8 = T ∧ 3 = N := by simpa [cl0] using h
  exact ⟨by decide +kernel, rfl⟩
theorem fp_X12_0 : FP 11 0 .int := by
  intro C T N h
  obtain ⟨rfl, rfl, rfl⟩ : RX12 = C ∧ TX12 = T ∧ 31 = N := by simpa [cl0] using h
  exact ⟨by decide +kernel, rfl⟩
theorem fp_X12_2 : FP 11 2 .int := by
  intro C T N h
  obtain ⟨rfl, rfl, rfl⟩ : RX12 = C ∧ TX12 = T ∧ 31 = N := by simpa [cl0] using h
  exact ⟨by decide +kernel, rfl⟩
theorem fp_X12_3 : FP 11 3 .int := by
  intro C T N h
  obtain ⟨rfl, rfl, rfl⟩ : RX12 = C ∧ TX12 = T ∧ 31 = N := by simpa [cl0] using h
  exact ⟨by decide +kernel, rfl⟩
theorem fp_X12_7 : FP 11 7 .int := by
  intro C T N h
  obtain ⟨rfl, rfl, rfl⟩ : RX12 = C ∧ TX12 = T ∧ 31 = N := by simpa [cl0] using h
  exact ⟨by decide +kernel, rfl⟩
theorem fp_X12_8 : FP 11 8 .int := by
  intro C T N h
  obtain ⟨rfl, rfl, rfl⟩ : RX12 = C ∧ TX12 = T ∧ 31 = N := by simpa [cl0] using h
  exact ⟨by decide +kernel, rfl⟩
theorem fp_X12_13 : FP 11 13 .int := by
  intro C T N h
  obtain ⟨rfl, rfl, rfl⟩ : RX12 = C ∧ TX12 = T ∧ 31 = N := by simpa [cl0] using h
  exact ⟨by decide +kernel, rfl⟩
theorem fp_X12_18 : FP 11 18 .int := by
  intro C T N h
  obtain ⟨rfl, rfl, rfl⟩ : RX12 = C ∧ TX12 = T ∧ 31 = N := by simpa [cl0] using h
  exact ⟨by decide +kernel, rfl⟩
theorem fp_X12_19 : FP 11 19 .int := by
  intro C T N h
  obtain ⟨rfl, rfl, rfl⟩ : RX12 = C ∧ TX12 = T ∧ 31 = N := by simpa [cl0] using h
  exact ⟨by decide +kernel, rfl⟩
theorem fp_X12_24 : FP 11 24 .int := by
  intro C T N h
  obtain ⟨rfl, rfl, rfl⟩ : RX12 = C ∧ TX12 = T ∧ 31 = N := by simpa [cl0] using h
  exact ⟨by decide +kernel, rfl⟩
theorem fp_X12_28 : FP 11 28 .int := by
  intro C T N h
  obtain ⟨rfl, rfl, rfl⟩ : RX12 = C ∧ TX12 = T ∧ 31 = N := by simpa [cl0] using h
  exact ⟨by decide +kernel, rfl⟩
theorem fp_X12_30 : FP 11 30 .long := by
  intro C T N h
  obtain ⟨rfl, rfl, rfl⟩ : RX12 = C ∧ TX12 = T ∧ 31 = N := by simpa [cl0] using h
  exact ⟨by decide +kernel, rfl⟩
end
section
/-! ===== memory, functional terms ===== -/
abbrev MM : Type := (Nat → Nat → Int32) × (Nat → Nat → Int64) × Option (Fin 23)
abbrev PP (α : Type) : Type := MM → Option (α × MM)
def up2 {α : Type} (f : Nat → Nat → α) (a k : Nat) (x : α) : Nat → Nat → α := fun b j => if b = a ∧ j = k then x else f b j
def pu {α : Type} (a : α) : PP α := fun σ => some (a, σ)
def fl {α : Type} : PP α := fun _ => none
def bd {α β : Type} (c : PP α) (k : α → PP β) : PP β := fun σ => match c σ with
  | none => none
  | some r => k r.1 r.2
def lt {α β : Type} (e : α) (k : α → PP β) : PP β := k e
def jn {α β γ : Type} (f : α → PP γ) (k : (α → PP γ) → PP β) : PP β := k f
def gI (a j : Nat) : PP Int32 := fun σ => some (σ.1 a j, σ)
def gL (a j : Nat) : PP Int64 := fun σ => some (σ.2.1 a j, σ)
def gW : PP (Option (Fin 23)) := fun σ => some (σ.2.2, σ)
def sI (a j : Nat) (x : Int32) : PP Unit := fun σ => some ((), (up2 σ.1 a j x, σ.2))
def sL (a j : Nat) (x : Int64) : PP Unit := fun σ => some ((), (σ.1, up2 σ.2.1 a j x, σ.2.2))
def sW (w : Option (Fin 23)) : PP Unit := fun σ => some ((), (σ.1, σ.2.1, w))
def ib (i : Int32) (n : Nat) : Bool := decide (¬ i < 0) && decide (i.toNatClampNeg < n)
def aI (a n : Nat) (i : Int32) : PP Int32 := fun σ => if ib i n = true then some (σ.1 a i.toNatClampNeg, σ) else none
def aL (a n : Nat) (i : Int32) : PP Int64 := fun σ => if ib i n = true then some (σ.2.1 a i.toNatClampNeg, σ) else none
def uI (a n : Nat) (i x : Int32) : PP Unit := fun σ => if ib i n = true then some ((), (up2 σ.1 a i.toNatClampNeg x, σ.2)) else none
def uL (a n : Nat) (i : Int32) (x : Int64) : PP Unit := fun σ => if ib i n = true then some ((), (σ.1, up2 σ.2.1 a i.toNatClampNeg x, σ.2.2)) else none
/-- a test that must be so -/
def gd (c : Prop) [Decidable c] : PP Unit := fun σ => if c then some ((), σ) else none
def zb (x : Int32) : PP Bool := fun σ => if x = 0 then some (false, σ) else if x = 1 then some (true, σ) else none
def b2i (b : Bool) : Int32 := if b then 1 else 0
def it {α β : Type} (body : α → PP (α ⊕ β)) : Nat → α → PP β
  | 0, _ => fl
  | n + 1, a => bd (body a) (Sum.elim (it body n) pu)
def enI (x : Int32) : Option Value := some (.int x)
def enZ (x : Bool) : Option Value := some (.int (b2i x))
def enL (x : Int64) : Option Value := some (.long x)
def enU (_ : Unit) : Option Value := none
theorem ib_in {i : Int32} {n : Nat} (h : ib i n = true) : vp_in i n := by
  unfold ib at h
  simp only [Bool.and_eq_true, decide_eq_true_eq] at h
  intro q
  rcases q with q | q
  · exact h.1 q
  · omega
theorem bd_as {α β γ : Type} (c : PP α) (f : α → PP β) (k : β → PP γ) : bd (bd c f) k = bd c (fun x => bd (f x) k) := by
  funext σ
  unfold bd
  cases c σ <;> rfl
theorem bd_pu {α : Type} (c : PP α) : bd c pu = c := by
  funext σ
  unfold bd pu
  cases c σ <;> rfl
/-! ===== the machine's picture of a memory ===== -/
/-- tables of classes, the first cell's address, classes of arrays, addresses of constants -/
abbrev KK : Type := va_G × Nat × (Nat → ClassId) × (Nat → Nat)
def AA (K : KK) : Nat → Prop := fun q => K.2.1 ≤ q
def wr (K : KK) (w : Option (Fin 23)) : Value := va_re K.2.2.2 (w.map Fin.val)
def fv (K : KK) (σ : MM) (c a j : Nat) : Value := match fty c j with
  | 0 => .int (σ.1 a j)
  | 1 => .long (σ.2.1 a j)
  | 2 => .ref (K.2.1 + rf a j)
  | _ => wr K σ.2.2
def aty (t : Nat) : FieldType := match t with
  | 0 => .int
  | 1 => .long
  | 2 => .char
  | 3 => .boolean
  | 4 => .object RX4
  | 5 => .object RX1
  | _ => .array .int
def tys (K : KK) : List (ClassId × FieldType) := [(K.2.2.1 0, .int), (K.2.2.1 1, .long), (K.2.2.1 2, .char), (K.2.2.1 3, .boolean), (K.2.2.1 4, .object RX4), (K.2.2.1 5, .object RX1), (K.2.2.1 6, .array .int)]
def ca (K : KK) (σ : MM) (a t n : Nat) : va_E := match t with
  | 0 => .inl (K.2.2.1 0, n, .inl (fun j => σ.1 a j))
  | 1 => .inl (K.2.2.1 1, n, .inr (.inl (fun j => σ.2.1 a j)))
  | 2 => .inl (K.2.2.1 2, n, .inl (fun j => σ.1 a j))
  | 3 => .inl (K.2.2.1 3, n, .inl (fun j => σ.1 a j))
  | t => .inl (K.2.2.1 t, n, .inr (.inr (.inr (.inr (fun j => some (K.2.1 + rf a j))))))
def ce (K : KK) (σ : MM) (a : Nat) : va_E := if (sh a).1 < 100 then .inr ((sh a).1, (List.range (nfd (sh a).1)).map (fv K σ (sh a).1 a)) else ca K σ a ((sh a).1 - 100) (sh a).2
def wl (K : KK) (n : Nat) (σ : MM) : va_W := (List.range n).map (fun a => (K.2.1 + a, ce K σ a))
theorem wl_at {K : KK} {n a : Nat} {σ : MM} (h : a < n) : (wl K n σ)[a]? = some (K.2.1 + a, ce K σ a) := by
  simp [wl, h]
theorem wl_len {K : KK} {n : Nat} {σ : MM} : (wl K n σ).length = n := by simp [wl]
theorem ce_ob {K : KK} {σ : MM} {a c : Nat} (h : ob a c) (hc : c < 100) : ce K σ a = .inr (c, (List.range (nfd c)).map (fv K σ c a)) := by
  unfold ce
  rw [h.2, if_pos hc]
theorem ce_ar {K : KK} {σ : MM} {a t n : Nat} (h : ar a t n) : ce K σ a = ca K σ a t n := by
  unfold ce
  rw [h.2, if_neg (by show ¬ 100 + t < 100; omega)]
  show ca K σ a (100 + t - 100) n = _
  rw [Nat.add_sub_cancel_left]
theorem wl_D (K : KK) (n : Nat) (σ : MM) : va_D (AA K) (wl K n σ) := by
  refine ⟨fun i j p q hi hj e => ?_, fun k q hk => ?_⟩
  · have h1 : i < n := by have := (List.getElem?_eq_some_iff.mp hi).1; rwa [wl_len] at this
    have h2 : j < n := by have := (List.getElem?_eq_some_iff.mp hj).1; rwa [wl_len] at this
    rw [wl_at h1] at hi
    rw [wl_at h2] at hj
    cases hi
    cases hj
    simp only at e
    omega
  · have h1 : k < n := by have := (List.getElem?_eq_some_iff.mp hk).1; rwa [wl_len] at this
    rw [wl_at h1] at hk
    cases hk
    exact Nat.le_add_right _ _
/-- a change of one cell alone -/
theorem wl_set {K : KK} {n a : Nat} {σ σ' : MM} {E : va_E} (h : a < n) (he : ce K σ' a = E) (ho : ∀ b, b < n → b ≠ a → ce K σ' b = ce K σ b) : (wl K n σ).set a (K.2.1 + a, E) = wl K n σ' := by
  apply List.ext_getElem?
  intro j
  rw [List.getElem?_set]
  by_cases hj : j < n
  · by_cases e : a = j
    · subst e
      rw [if_pos rfl, if_pos (by rw [wl_len]; exact h), wl_at h, he]
    · rw [if_neg e, wl_at hj, wl_at hj, ho j hj (fun q => e q.symm)]
  · rw [List.getElem?_eq_none (by rw [wl_len]; omega : (wl K n σ').length ≤ j)]
    have : (wl K n σ)[j]? = none := List.getElem?_eq_none (by rw [wl_len]; omega)
    by_cases e : a = j
    · omega
    · rw [if_neg e, this]
theorem ce_oI {K : KK} {σ : MM} {a b k : Nat} {x : Int32} (hb : b ≠ a) : ce K (up2 σ.1 a k x, σ.2) b = ce K σ b := by
  have e : ∀ j, up2 σ.1 a k x b j = σ.1 b j := fun j => by simp [up2, hb]
  have e2 : ∀ c : Nat, fv K (up2 σ.1 a k x, σ.2) c b = fv K σ c b := fun c => by
    funext j
    unfold fv
    simp only [e]
  unfold ce ca
  simp only [e, e2]
theorem ce_oL {K : KK} {σ : MM} {a b k : Nat} {x : Int64} (hb : b ≠ a) : ce K (σ.1, up2 σ.2.1 a k x, σ.2.2) b = ce K σ b := by
  have e : ∀ j, up2 σ.2.1 a k x b j = σ.2.1 b j := fun j => by simp [up2, hb]
  have e2 : ∀ c : Nat, fv K (σ.1, up2 σ.2.1 a k x, σ.2.2) c b = fv K σ c b := fun c => by
    funext j
    unfold fv
    simp only [e]
  unfold ce ca
  simp only [e, e2]
theorem sh5 : ∀ a, a < 271 → sh a = (5, 0) → a = 1 := by decide +kernel
theorem fty3 : ∀ c, c < 100 → ∀ j, j < nfd c → fty c j ≠ 0 → fty c j ≠ 1 → fty c j ≠ 2 → c = 5 := by decide +kernel
theorem fst_set {α : Type} {f g : Nat → α} {N k : Nat} {v : α} (hk : k < N) (hv : g k = v) (ho : ∀ j, j < N → j ≠ k → g j = f j) : ((List.range N).map f).set k v = (List.range N).map g := by
  apply List.ext_getElem?
  intro j
  rw [List.getElem?_set]
  by_cases hj : j < N
  · by_cases e : k = j
    · subst e
      simp [hk, hv]
    · simp [e, hj, ho j hj (fun q => e q.symm)]
  · by_cases e : k = j
    · omega
    · simp [e, hj]
end
section
def wnm : List String := ["LINE", "PEGS", "PLACE", "UNDER", "CLOTH", "WET", "CROSSES", "DRIES", "HANG", "TAKE", "WASH", "HOUR", "SHEET", "SHIRTS", "SKIRT", "SOCK", "NOT", "AND", "OR", "DAMP", "LOOSE", "SUN", "CLOCK"]
def wgr : List Int32 := [0, 0, 0, 0, 0, 0, 0, 0, 0, 0, 0, 0, 1, 1, 1, 1, 0, 0, 0, 2, 2, 2, 2]
def wva : List Int32 := [0, 0, 0, 0, 0, 0, 0, 0, 0, 0, 0, 0, 0, 1, 2, 3, 0, 0, 0, (-1), (-2), (-3), (-4)]
def sln : List Nat := [4, 4, 5, 5, 5, 3, 7, 5, 4, 4, 4, 4, 5, 5, 5, 4, 3, 3, 2, 4, 5, 3, 5, 8]
def sby : List (List Int32) := [[108, 105, 110, 101], [112, 101, 103, 115], [112, 108, 97, 99, 101], [117, 110, 100, 101, 114], [99, 108, 111, 116, 104], [119, 101, 116], [99, 114, 111, 115, 115, 101, 115], [100, 114, 105, 101, 115], [104, 97, 110, 103], [116, 97, 107, 101], [119, 97, 115, 104], [104, 111, 117, 114], [115, 104, 101, 101, 116], [115, 104, 105, 114, 116], [115, 107, 105, 114, 116], [115, 111, 99, 107], [110, 111, 116], [97, 110, 100], [111, 114], [100, 97, 109, 112], [108, 111, 111, 115, 101], [115, 117, 110], [99, 108, 111, 99, 107], [40, 41, 60, 61, 43, 45, 42, 59]]
/-! ===== what stands from the start, and never changes ===== -/
abbrev eW : String := "LaundrySky$Word"
abbrev dW : String := "LLaundrySky$Word;"
def nwF : List (String × Nat × String × String × String) := [("LaundrySky$Tape", 71, "LaundrySky$Word", "ALL", "[LLaundrySky$Word;"), ("LaundrySky$Sky", 93, "LaundrySky", "RANKS", "[I"), ("LaundrySky$Wishes", 116, "LaundrySky", "RANKS", "[I")]
def nwM : List (String × Nat × MethodName) := [("LaundrySky", 9, ⟨"LaundrySky$Tape", "<init>", "()V"⟩), ("LaundrySky", 18, ⟨"LaundrySky$Town", "<init>", "()V"⟩), ("LaundrySky$Town", 39, ⟨"LaundrySky$Law", "<init>", "()V"⟩), ("LaundrySky$TownReader", 11, ⟨"LaundrySky$Town", "<init>", "()V"⟩), ("LaundrySky", 34, ⟨"LaundrySky$Plan", "<init>", "()V"⟩), ("LaundrySky$TownReader", 193, ⟨"LaundrySky$Law", "readWhole", "(LLaundrySky$Tape;I)V"⟩)]
def KS (K : KK) (U : State) : Prop :=
  va_En eW dW wnm [(eW, "group", "I", wgr), (eW, "value", "I", wva)] K.2.2.2 (AA K) U U.heap ∧
  va_Ef 23 eW "text" "Ljava/lang/String;" (fun i => .ref (K.2.2.2 (100 + i))) K.2.2.2 (AA K) U U.heap ∧
  vk_S 24 sln sby (fun i => K.2.2.2 (100 + i)) (fun i => K.2.2.2 (200 + i)) (AA K) U U.heap ∧
  va_Z "LaundrySky" "RANKS" "[I" (.ref (K.2.2.2 300)) (AA K) U U.heap ∧
  va_T .int (K.2.2.2 300) 4 (fun j => .int (([2, 3, 0, 1] : List Int32).getD j 0)) (AA K) U U.heap ∧
  va_Z eW "ALL" "[LLaundrySky$Word;" (.ref (K.2.2.2 301)) (AA K) U U.heap ∧
  va_T (.object eW) (K.2.2.2 301) 23 (fun j => .ref (K.2.2.2 j)) (AA K) U U.heap ∧
  vk_R "LaundrySky$Tape" 61 "()<=+-*;" (K.2.2.2 123) U ∧
  va_Z "java/lang/String" "COMPACT_STRINGS" "Z" (.int 1) (AA K) U U.heap ∧
  va_Zq "jdk/internal/util/Preconditions" "SIOOBE_FORMATTER" "Ljava/util/function/BiFunction;" (AA K) U U.heap ∧
  (∀ q ∈ nwF, va_Nw (.fieldLinkNest q.1 q.2.1 q.2.2.1 q.2.2.2.1 q.2.2.2.2 "LaundrySky") U) ∧
  (∀ q ∈ nwM, va_Nw (.methodLinkNest q.1 q.2.1 q.2.2 "LaundrySky") U)
def KU (K : KK) (U : State) : Prop := va_K K.1 cl0 (tys K) U ∧ KS K U
theorem KU.mv {K : KK} {s U : State} {H : Heap} {locs : List Loc} (h : KU K s) (hS : va_S (AA K) s.heap H locs) (hU : U.heap = H) (hW : s.WarmedH U.vm) : KU K U := by
  have ha : s.vm.Alike U.vm := hW.alike
  have hq : ∀ a : Nat, a < s.heap.size → ¬ AA K a → U.heap[a]? = s.heap[a]? := fun a h1 h2 => by rw [hU]; exact hS.2.1 a h1 h2
  obtain ⟨h0, h1, h2, h3, h4, h5, h6, h7, h8, h9, h10, h11, h12⟩ := h
  exact ⟨va_K.moved ha h0, (h1.moved ha).kept hq, (h2.moved ha).kept hq, (h3.moved ha).kept hq, (h4.moved ha).kept hq, (h5.moved ha).kept hq, (h6.moved ha).kept hq, (h7.moved ha).kept hq, vk_R.warm hW h8, (h9.moved ha).kept hq, (h10.moved ha).kept hq, fun q hq2 => va_Nw.warmF hW (h11 q hq2), fun q hq2 => va_Nw.warmM hW (h12 q hq2)⟩
theorem KU.calling {K : KK} {U : State} {g : JFrame} {mk : MethodId} {a : Array Value} (h : KU K U) : KU K (U.calling g mk a) := by
  have ha : U.vm.Alike (U.calling g mk a).vm := Vm.Alike.refl U.vm
  obtain ⟨h0, h1, h2, h3, h4, h5, h6, h7, h8, h9, h10, h11, h12⟩ := h
  exact ⟨va_K.moved ha h0, h1.moved ha, h2.moved ha, h3.moved ha, h4.moved ha, h5.moved ha, h6.moved ha, h7.moved ha, vk_R.same (u := U) rfl h8, h9.moved ha, h10.moved ha, fun q hq2 => va_Nw.same rfl rfl (h11 q hq2), fun q hq2 => va_Nw.same rfl rfl (h12 q hq2)⟩
/-! ===== the judgements ===== -/
/-- a method: its class, its name, its bytes, its locals, what it returns -/
abbrev MI : Type := String × MethodName × ByteArray × Nat × Option FieldType
def mws (M : MI) : List Cond := .code M.2.1 M.2.2.1 M.2.2.2.1 M.2.2.2.2 :: lg
def rmd (d : Nat) : Room := { frames := d, cells := 0, slots := 0, locals := 32 * d }
/-- cells and slots made so far; the end -/
abbrev ZZ : Type := Nat × Nat × (List Frame → Array Value → State → (Option Value → MM → Prop) → State → Prop)
def CX (K : KK) (n d : Nat) (M : MI) (Z : ZZ) (p : Program) (R : Room) (s : State) (m : MethodId) (args : Array Value) (meth : Method) (c : Code) : Prop :=
  p.tables.exec = Jvm.exec ∧ c.code = M.2.2.1 ∧ meth.sig.returnType = M.2.2.2.2 ∧ c.maxLocals = M.2.2.2.1 ∧ s.vm.findClass M.1 = some m.cls ∧ (∀ w ∈ mws M, w.before args s = true) ∧ meth.locks = false ∧ KU K s ∧ (d ≤ R.frames ∧ 32 * d ≤ R.locals ∧ Z.1 ≤ R.cells ∧ Z.2.1 ≤ R.slots) ∧ 270 ≤ n
def QC (K : KK) (n : Nat) (Q : Option Value → MM → Prop) : Array Value → State → Outcome → State → Prop := fun _ st o t => (∃ (v : Option Value) (σ' : MM), o = .returned v ∧ Q v σ' ∧ va_P K.1 cl0 (wl K n σ') t.heap) ∧ va_F (AA K) st t
def Z0 (K : KK) (n : Nat) : ZZ := (0, 0, fun below args s Q => MQ below (QC K n Q) args s 0 0 (AA K))
def RW (l : Launch) (K : KK) (n d : Nat) (M : MI) (Z : ZZ) (pc : Nat) (lv : List (Nat × Value)) (st : List Value) (σ : MM) (Q : Option Value → MM → Prop) : Prop :=
  ∀ (p : Program) (e : Env) (R : Room) (s : State) (m : MethodId) (args : Array Value) (below : List Frame) (meth : Method) (c : Code), CX K n d M Z p R s m args meth c → ∀ (H : Heap) (locs : List Loc) (ls : Array Slot), va_P K.1 cl0 (wl K n σ) H → va_S (AA K) s.heap H locs → lv_has ls M.2.2.2.1 lv → W p l e R s m args below meth c H locs Z.1 Z.2.1 (Z.2.2 below args s Q) (F0 m pc ls st)
/-- at pc, with such locals and such a stack, the machine does what t does -/
def RP {ρ : Type} (l : Launch) (K : KK) (n d : Nat) (M : MI) (Z : ZZ) (pc : Nat) (lv : List (Nat × Value)) (st : List Value) (en : ρ → Option Value) (t : PP ρ) : Prop :=
  ∀ (σ : MM) (r : ρ) (σ' : MM), t σ = some (r, σ') → RW l K n d M Z pc lv st σ (fun v σ2 => v = en r ∧ σ2 = σ')
/-- a method does what t does -/
def CT {ρ : Type} (l : Launch) (K : KK) (n d : Nat) (M : MI) (av : List Value) (en : ρ → Option Value) (t : PP ρ) : Prop :=
  ∀ (σ : MM) (r : ρ) (σ' : MM), t σ = some (r, σ') → Met l M.2.1 (mws M) (rmd d) (va_Pc av (fun U => KU K U ∧ va_P K.1 cl0 (wl K n σ) U.heap)) (QC K n (fun v σ2 => v = en r ∧ σ2 = σ')) 0 0 (AA K)
section RPS
variable {ρ : Type} {l : Launch} {K : KK} {n d : Nat} {M : MI} {Z : ZZ} {pc : Nat} {lv : List (Nat × Value)} {st : List Value} {en : ρ → Option Value}
theorem CT.of {t : PP ρ} {av : List Value} (hy : plainName M.2.1.cls = true) (ho : M.1 = M.2.1.cls) (hn : 270 ≤ n) (hL : (lg_sl av).length ≤ M.2.2.2.1) (h : RP l K n d M (Z0 K n) 0 (lv_args 0 av) [] en t) : CT l K n d M av en t := by
  intro σ r σ' ht
  refine Met.ofW (cc := M.2.2.1) (maxL := M.2.2.2.1) (ret := M.2.2.2.2) hy rfl ?_
  intro p e s m args below meth c s₁ B hml hv
  obtain ⟨rfl, hU, hP⟩ := hv
  have hts := atoms_spec (ws := mws M) B.pre
  have hown : s.vm.findClass M.2.1.cls = some m.cls := findClass_of_methodNamed B.named
  have hl := lv_entry av (n := M.2.2.2.1) hL
  rw [lg_entry_eq]
  exact h σ r σ' ht p e (rmd d) s m _ below meth c ⟨B.exec, B.bytes, B.returns, hml, by rw [ho]; exact hown, hts, B.notSynchronized, hU, ⟨Nat.le_refl _, Nat.le_refl _, Nat.le_refl _, Nat.le_refl _⟩, hn⟩ s.heap [] _ hP va_S.rf hl
/-- a row that leaves memory and locals -/
theorem RP.go {t : PP ρ} {pc2 : Nat} {st2 : List Value} (f : ∀ (p : Program) (e : Env) (R : Room) (s : State) (m : MethodId) (args : Array Value) (below : List Frame) (meth : Method) (c : Code) (H : Heap) (locs : List Loc) (ls : Array Slot) (Q : State → Prop), CX K n d M Z p R s m args meth c → lv_has ls M.2.2.2.1 lv → W p l e R s m args below meth c H locs Z.1 Z.2.1 Q (F0 m pc2 ls st2) → W p l e R s m args below meth c H locs Z.1 Z.2.1 Q (F0 m pc ls st)) (k : RP l K n d M Z pc2 lv st2 en t) : RP l K n d M Z pc lv st en t := by
  intro σ r σ' h p e R s m args below meth c C H locs ls hP hS hl
  exact f p e R s m args below meth c H locs ls _ C hl (k σ r σ' h p e R s m args below meth c C H locs ls hP hS hl)
/-- a row that leaves memory -/
theorem RP.gol {t : PP ρ} {pc2 : Nat} {st2 : List Value} {lv2 : List (Nat × Value)} (f : ∀ (p : Program) (e : Env) (R : Room) (s : State) (m : MethodId) (args : Array Value) (below : List Frame) (meth : Method) (c : Code) (H : Heap) (locs : List Loc) (ls : Array Slot) (Q : State → Prop), CX K n d M Z p R s m args meth c → lv_has ls M.2.2.2.1 lv → (∀ ls2, lv_has ls2 M.2.2.2.1 lv2 → W p l e R s m args below meth c H locs Z.1 Z.2.1 Q (F0 m pc2 ls2 st2)) → W p l e R s m args below meth c H locs Z.1 Z.2.1 Q (F0 m pc ls st)) (k : RP l K n d M Z pc2 lv2 st2 en t) : RP l K n d M Z pc lv st en t := by
  intro σ r σ' h p e R s m args below meth c C H locs ls hP hS hl
  exact f p e R s m args below meth c H locs ls _ C hl (fun ls2 hl2 => k σ r σ' h p e R s m args below meth c C H locs ls2 hP hS hl2)
theorem rp_sub {t : PP ρ} {lv2 : List (Nat × Value)} (ks : List Nat) (h : lv_pick lv ks = lv2) (k : RP l K n d M Z pc lv2 st en t) : RP l K n d M Z pc lv st en t := RP.gol (fun p e R s m args below meth c H locs ls Q C hl w => w ls (lv_sub hl ks h)) k
theorem rp_id {t : PP ρ} (k : RP l K n d M Z pc lv st en (bd t pu)) : RP l K n d M Z pc lv st en t := by rw [bd_pu] at k; exact k
theorem rp_as {α β : Type} {a : PP α} {f : α → PP β} {k : β → PP ρ} (h : RP l K n d M Z pc lv st en (bd a (fun x => bd (f x) k))) : RP l K n d M Z pc lv st en (bd (bd a f) k) := by rw [bd_as]; exact h
theorem rp_pu {α : Type} {a : α} {k : α → PP ρ} (h : RP l K n d M Z pc lv st en (k a)) : RP l K n d M Z pc lv st en (bd (pu a) k) := h
theorem rp_lti {α : Type} {x : Int32} {f : Int32 → PP α} {k : α → PP ρ} (h : ∀ y, RP l K n d M Z pc lv (.int y :: st) en (bd (f y) k)) : RP l K n d M Z pc lv (.int x :: st) en (bd (lt x f) k) := h x
theorem rp_ltl {α : Type} {x : Int64} {f : Int64 → PP α} {k : α → PP ρ} (h : ∀ y, RP l K n d M Z pc lv (.long y :: st) en (bd (f y) k)) : RP l K n d M Z pc lv (.long x :: st) en (bd (lt x f) k) := h x
theorem rp_join {α : Type} {r : PP α} {k : α → PP ρ} (pJ : Nat) (lvJ : α → List (Nat × Value)) (stJ : α → List Value) (hk : ∀ v, RP l K n d M Z pJ (lvJ v) (stJ v) en (k v)) (hr : (∀ v, RP l K n d M Z pJ (lvJ v) (stJ v) en (k v)) → RP l K n d M Z pc lv st en (bd r k)) : RP l K n d M Z pc lv st en (bd r k) := hr hk
theorem rp_jn {α β γ : Type} {f : α → PP γ} {body : (α → PP γ) → PP β} {k : β → PP ρ} (h : RP l K n d M Z pc lv st en (bd (body f) k)) : RP l K n d M Z pc lv st en (bd (jn f body) k) := h
theorem rp_it {α β : Type} {body : α → PP (α ⊕ β)} {k : β → PP ρ} (lvJ : α → List (Nat × Value)) (h : ∀ N, (∀ a, RP l K n d M Z pc (lvJ a) st en (bd (pu (Sum.inl a)) (Sum.elim (fun x => bd (it body N x) k) k))) → ∀ a, RP l K n d M Z pc (lvJ a) st en (bd (body a) (Sum.elim (fun x => bd (it body N x) k) k))) : ∀ (N : Nat) (a : α), RP l K n d M Z pc (lvJ a) st en (bd (it body N a) k) := by
  intro N
  induction N with
  | zero =>
    intro a σ r σ' e
    cases e
  | succ N ih =>
    intro a
    have e : bd (it body (N + 1) a) k = bd (body a) (Sum.elim (fun x => bd (it body N x) k) k) := by
      show bd (bd (body a) (Sum.elim (it body N) pu)) k = _
      rw [bd_as]
      congr 1
      funext x
      cases x <;> rfl
    rw [e]
    exact h N ih a
/-! ===== constants, locals, stack ===== -/
theorem rp_iconst {t : PP ρ} {i : Int} (v : Int32) (hd : decode M.2.2.1 pc = .ok (.iconst i, 1)) (hv : Int32.ofInt i = v) (k : RP l K n d M Z (pc + 1) lv (.int v :: st) en t) : RP l K n d M Z pc lv st en t := RP.go (fun p e R s m args below meth c H locs ls Q C hl w => lv_iconst C.1 C.2.1 hd hv w) k
theorem rp_bipush {t : PP ρ} {i : Int} (v : Int32) (hd : decode M.2.2.1 pc = .ok (.bipush i, 2)) (hv : (Int8.ofInt i).toInt32 = v) (k : RP l K n d M Z (pc + 2) lv (.int v :: st) en t) : RP l K n d M Z pc lv st en t := RP.go (fun p e R s m args below meth c H locs ls Q C hl w => lv_bipush C.1 C.2.1 hd hv w) k
theorem rp_sipush {t : PP ρ} {i : Int} (v : Int32) (hd : decode M.2.2.1 pc = .ok (.sipush i, 3)) (hv : (Int16.ofInt i).toInt32 = v) (k : RP l K n d M Z (pc + 3) lv (.int v :: st) en t) : RP l K n d M Z pc lv st en t := RP.go (fun p e R s m args below meth c H locs ls Q C hl w => lv_sipush C.1 C.2.1 hd hv w) k
theorem rp_lconst {t : PP ρ} {i : Fin 2} (v : Int64) (hd : decode M.2.2.1 pc = .ok (.lconst i, 1)) (hv : Int64.ofNat (i : Nat) = v) (k : RP l K n d M Z (pc + 1) lv (.long v :: st) en t) : RP l K n d M Z pc lv st en t := RP.go (fun p e R s m args below meth c H locs ls Q C hl w => lv_lconst C.1 C.2.1 hd hv w) k
theorem rp_ldc {t : PP ρ} {i : Nat} {v : Int32} (hw : Cond.constant M.1 i v ∈ lg) (hd : decode M.2.2.1 pc = .ok (.ldc i, 2)) (k : RP l K n d M Z (pc + 2) lv (.int v :: st) en t) : RP l K n d M Z pc lv st en t := RP.go (fun p e R s m args below meth c H locs ls Q C hl w => lv_ldc C.1 C.2.1 C.2.2.2.2.1 (C.2.2.2.2.2.1 _ (List.mem_cons_of_mem _ hw)) hd w) k
theorem rp_ldcw {t : PP ρ} {i : Nat} {v : Int32} (hw : Cond.constant M.1 i v ∈ lg) (hd : decode M.2.2.1 pc = .ok (.ldc_w i, 3)) (k : RP l K n d M Z (pc + 3) lv (.int v :: st) en t) : RP l K n d M Z pc lv st en t := RP.go (fun p e R s m args below meth c H locs ls Q C hl w => lv_ldcw C.1 C.2.1 C.2.2.2.2.1 (C.2.2.2.2.2.1 _ (List.mem_cons_of_mem _ hw)) hd w) k
theorem rp_ldc2 {t : PP ρ} {i : Nat} {v : Int64} (hw : Cond.constantLong M.1 i v ∈ lg) (hd : decode M.2.2.1 pc = .ok (.ldc2_w i, 3)) (k : RP l K n d M Z (pc + 3) lv (.long v :: st) en t) : RP l K n d M Z pc lv st en t := RP.go (fun p e R s m args below meth c H locs ls Q C hl w => lv_ldc2 C.1 C.2.1 C.2.2.2.2.1 (C.2.2.2.2.2.1 _ (List.mem_cons_of_mem _ hw)) hd w) k
theorem rp_iload {t : PP ρ} {i : Nat} {x : Int32} (j : Nat) (hd : decode M.2.2.1 pc = .ok (.iload i, 2)) (hj : lv[j]? = some (i, .int x)) (k : RP l K n d M Z (pc + 2) lv (.int x :: st) en t) : RP l K n d M Z pc lv st en t := RP.go (fun p e R s m args below meth c H locs ls Q C hl w => lv_iload C.1 C.2.1 hd (lv_at hl j hj) w) k
theorem rp_iload_n {t : PP ρ} {i : Fin 4} {x : Int32} (j : Nat) (hd : decode M.2.2.1 pc = .ok (.iload_n i, 1)) (hj : lv[j]? = some (i.val, .int x)) (k : RP l K n d M Z (pc + 1) lv (.int x :: st) en t) : RP l K n d M Z pc lv st en t := RP.go (fun p e R s m args below meth c H locs ls Q C hl w => lv_iload_n C.1 C.2.1 hd rfl (lv_at hl j hj) w) k
theorem rp_lload {t : PP ρ} {i : Nat} {x : Int64} (j : Nat) (hd : decode M.2.2.1 pc = .ok (.lload i, 2)) (hj : lv[j]? = some (i, .long x)) (k : RP l K n d M Z (pc + 2) lv (.long x :: st) en t) : RP l K n d M Z pc lv st en t := RP.go (fun p e R s m args below meth c H locs ls Q C hl w => lv_lload C.1 C.2.1 hd (lv_at hl j hj) w) k
theorem rp_lload_n {t : PP ρ} {i : Fin 4} {x : Int64} (j : Nat) (hd : decode M.2.2.1 pc = .ok (.lload_n i, 1)) (hj : lv[j]? = some (i.val, .long x)) (k : RP l K n d M Z (pc + 1) lv (.long x :: st) en t) : RP l K n d M Z pc lv st en t := RP.go (fun p e R s m args below meth c H locs ls Q C hl w => lv_lload_n C.1 C.2.1 hd rfl (lv_at hl j hj) w) k
theorem rp_aload {t : PP ρ} {i : Nat} {x : Nat} (j : Nat) (hd : decode M.2.2.1 pc = .ok (.aload i, 2)) (hj : lv[j]? = some (i, .ref x)) (k : RP l K n d M Z (pc + 2) lv (.ref x :: st) en t) : RP l K n d M Z pc lv st en t := RP.go (fun p e R s m args below meth c H locs ls Q C hl w => lv_aload C.1 C.2.1 hd (lv_at hl j hj) w) k
theorem rp_aload_n {t : PP ρ} {i : Fin 4} {x : Nat} (j : Nat) (hd : decode M.2.2.1 pc = .ok (.aload_n i, 1)) (hj : lv[j]? = some (i.val, .ref x)) (k : RP l K n d M Z (pc + 1) lv (.ref x :: st) en t) : RP l K n d M Z pc lv st en t := RP.go (fun p e R s m args below meth c H locs ls Q C hl w => lv_aload_n C.1 C.2.1 hd rfl (lv_at hl j hj) w) k
theorem rp_wload_n {t : PP ρ} {i : Fin 4} {x : Option (Fin 23)} (j : Nat) (hd : decode M.2.2.1 pc = .ok (.aload_n i, 1)) (hj : lv[j]? = some (i.val, wr K x)) (k : RP l K n d M Z (pc + 1) lv (wr K x :: st) en t) : RP l K n d M Z pc lv st en t := by
  cases x with
  | none => exact RP.go (fun p e R s m args below meth c H locs ls Q C hl w => lv_aload_nN C.1 C.2.1 hd rfl (lv_at hl j hj) w) k
  | some y => exact RP.go (fun p e R s m args below meth c H locs ls Q C hl w => lv_aload_n C.1 C.2.1 hd rfl (lv_at hl j hj) w) k
theorem rp_istore {t : PP ρ} {i : Nat} {x : Int32} (lv2 : List (Nat × Value)) (hd : decode M.2.2.1 pc = .ok (.istore i, 2)) (hn : i < M.2.2.2.1) (hl2 : (i, Value.int x) :: lv.filter (fun q => !(q.1 == i) && !(q.1 + 1 == i && q.2.category == 2)) = lv2) (k : RP l K n d M Z (pc + 2) lv2 st en t) : RP l K n d M Z pc lv (.int x :: st) en t := RP.gol (fun p e R s m args below meth c H locs ls Q C hl w => lv_istore C.1 C.2.1 hd hl hn hl2 w) k
theorem rp_istore_n {t : PP ρ} {i : Fin 4} {x : Int32} (lv2 : List (Nat × Value)) (hd : decode M.2.2.1 pc = .ok (.istore_n i, 1)) (hn : i.val < M.2.2.2.1) (hl2 : (i.val, Value.int x) :: lv.filter (fun q => !(q.1 == i.val) && !(q.1 + 1 == i.val && q.2.category == 2)) = lv2) (k : RP l K n d M Z (pc + 1) lv2 st en t) : RP l K n d M Z pc lv (.int x :: st) en t := RP.gol (fun p e R s m args below meth c H locs ls Q C hl w => lv_istore_n C.1 C.2.1 hd rfl hl hn hl2 w) k
theorem rp_lstore {t : PP ρ} {i : Nat} {x : Int64} (lv2 : List (Nat × Value)) (hd : decode M.2.2.1 pc = .ok (.lstore i, 2)) (hn : i + 1 < M.2.2.2.1) (hl2 : (i, Value.long x) :: lv.filter (fun q => !(q.1 == i) && (!(q.1 == i + 1) && !(q.1 + 1 == i && q.2.category == 2))) = lv2) (k : RP l K n d M Z (pc + 2) lv2 st en t) : RP l K n d M Z pc lv (.long x :: st) en t := RP.gol (fun p e R s m args below meth c H locs ls Q C hl w => lv_lstore C.1 C.2.1 hd hl hn hl2 w) k
theorem rp_lstore_n {t : PP ρ} {i : Fin 4} {x : Int64} (lv2 : List (Nat × Value)) (hd : decode M.2.2.1 pc = .ok (.lstore_n i, 1)) (hn : i.val + 1 < M.2.2.2.1) (hl2 : (i.val, Value.long x) :: lv.filter (fun q => !(q.1 == i.val) && (!(q.1 == i.val + 1) && !(q.1 + 1 == i.val && q.2.category == 2))) = lv2) (k : RP l K n d M Z (pc + 1) lv2 st en t) : RP l K n d M Z pc lv (.long x :: st) en t := RP.gol (fun p e R s m args below meth c H locs ls Q C hl w => lv_lstore_n C.1 C.2.1 hd rfl hl hn hl2 w) k
theorem rp_astore {t : PP ρ} {i : Nat} {x : Nat} (lv2 : List (Nat × Value)) (hd : decode M.2.2.1 pc = .ok (.astore i, 2)) (hn : i < M.2.2.2.1) (hl2 : (i, Value.ref x) :: lv.filter (fun q => !(q.1 == i) && !(q.1 + 1 == i && q.2.category == 2)) = lv2) (k : RP l K n d M Z (pc + 2) lv2 st en t) : RP l K n d M Z pc lv (.ref x :: st) en t := RP.gol (fun p e R s m args below meth c H locs ls Q C hl w => lv_astore C.1 C.2.1 hd hl hn hl2 w) k
theorem rp_astore_n {t : PP ρ} {i : Fin 4} {x : Nat} (lv2 : List (Nat × Value)) (hd : decode M.2.2.1 pc = .ok (.astore_n i, 1)) (hn : i.val < M.2.2.2.1) (hl2 : (i.val, Value.ref x) :: lv.filter (fun q => !(q.1 == i.val) && !(q.1 + 1 == i.val && q.2.category == 2)) = lv2) (k : RP l K n d M Z (pc + 1) lv2 st en t) : RP l K n d M Z pc lv (.ref x :: st) en t := RP.gol (fun p e R s m args below meth c H locs ls Q C hl w => lv_astore_n C.1 C.2.1 hd rfl hl hn hl2 w) k
theorem rp_wstore_n {t : PP ρ} {i : Fin 4} {x : Option (Fin 23)} (lv2 : List (Nat × Value)) (hd : decode M.2.2.1 pc = .ok (.astore_n i, 1)) (hn : i.val < M.2.2.2.1) (hl2 : (i.val, wr K x) :: lv.filter (fun q => !(q.1 == i.val) && !(q.1 + 1 == i.val && q.2.category == 2)) = lv2) (k : RP l K n d M Z (pc + 1) lv2 st en t) : RP l K n d M Z pc lv (wr K x :: st) en t := by
  cases x with
  | none => exact RP.gol (fun p e R s m args below meth c H locs ls Q C hl w => lv_astore_nN C.1 C.2.1 hd rfl hl hn hl2 w) k
  | some y => exact RP.gol (fun p e R s m args below meth c H locs ls Q C hl w => lv_astore_n C.1 C.2.1 hd rfl hl hn hl2 w) k
/-- iinc: the new number gets a name -/
theorem rp_iinc {α : Type} {f : Int32 → PP α} {k : α → PP ρ} {i : Nat} {z : Int} {x x2 : Int32} (lvJ : Int32 → List (Nat × Value)) (j : Nat) (hd : decode M.2.2.1 pc = .ok (.iinc i z, 3)) (hj : lv[j]? = some (i, .int x)) (hz : x + Int32.ofInt z = x2) (hn : i < M.2.2.2.1) (hl2 : ∀ y, (i, Value.int y) :: lv.filter (fun q => !(q.1 == i) && !(q.1 + 1 == i && q.2.category == 2)) = lvJ y) (h : ∀ y, RP l K n d M Z (pc + 3) (lvJ y) st en (bd (f y) k)) : RP l K n d M Z pc lv st en (bd (lt x2 f) k) := RP.gol (fun p e R s m args below meth c H locs ls Q C hl w => lv_iinc C.1 C.2.1 hd hl hj hz hn (hl2 x2) w) (h x2)
theorem rp_dup {t : PP ρ} {v : Value} (hd : decode M.2.2.1 pc = .ok (.dup, 1)) (hv : v.category = 1) (k : RP l K n d M Z (pc + 1) lv (v :: v :: st) en t) : RP l K n d M Z pc lv (v :: st) en t := RP.go (fun p e R s m args below meth c H locs ls Q C hl w => lv_dup C.1 C.2.1 hd hv w) k
theorem rp_dup2 {t : PP ρ} {v u : Value} (hd : decode M.2.2.1 pc = .ok (.dup2, 1)) (hv : v.category = 1) (hu : u.category = 1) (k : RP l K n d M Z (pc + 1) lv (v :: u :: v :: u :: st) en t) : RP l K n d M Z pc lv (v :: u :: st) en t := RP.go (fun p e R s m args below meth c H locs ls Q C hl w => lv_dup2_11 C.1 C.2.1 hd hv hu w) k
theorem rp_pop {t : PP ρ} {v : Value} (hd : decode M.2.2.1 pc = .ok (.pop, 1)) (hv : v.category = 1) (k : RP l K n d M Z (pc + 1) lv st en t) : RP l K n d M Z pc lv (v :: st) en t := RP.go (fun p e R s m args below meth c H locs ls Q C hl w => lv_pop C.1 C.2.1 hd hv w) k
theorem rp_null {t : PP ρ} (hd : decode M.2.2.1 pc = .ok (.aconst_null, 1)) (k : RP l K n d M Z (pc + 1) lv (wr K none :: st) en t) : RP l K n d M Z pc lv st en t := RP.go (fun p e R s m args below meth c H locs ls Q C hl w => lv_null C.1 C.2.1 hd w) k
theorem rp_goto {t : PP ρ} {off : Int} (tgt : Nat) (hd : decode M.2.2.1 pc = .ok (.goto off, 3)) (ht : (pc : Int) + off = (tgt : Int)) (k : RP l K n d M Z tgt lv st en t) : RP l K n d M Z pc lv st en t := RP.go (fun p e R s m args below meth c H locs ls Q C hl w => lv_goto C.1 C.2.1 hd ht w) k
theorem rp_iadd {t : PP ρ} {x y : Int32} (hd : decode M.2.2.1 pc = .ok (.iadd, 1)) (k : RP l K n d M Z (pc + 1) lv (.int (x + y) :: st) en t) : RP l K n d M Z pc lv (.int y :: .int x :: st) en t := RP.go (fun p e R s m args below meth c H locs ls Q C hl w => lv_iadd C.1 C.2.1 hd w) k
theorem rp_isub {t : PP ρ} {x y : Int32} (hd : decode M.2.2.1 pc = .ok (.isub, 1)) (k : RP l K n d M Z (pc + 1) lv (.int (x - y) :: st) en t) : RP l K n d M Z pc lv (.int y :: .int x :: st) en t := RP.go (fun p e R s m args below meth c H locs ls Q C hl w => lv_isub C.1 C.2.1 hd w) k
theorem rp_imul {t : PP ρ} {x y : Int32} (hd : decode M.2.2.1 pc = .ok (.imul, 1)) (k : RP l K n d M Z (pc + 1) lv (.int (x * y) :: st) en t) : RP l K n d M Z pc lv (.int y :: .int x :: st) en t := RP.go (fun p e R s m args below meth c H locs ls Q C hl w => lv_imul C.1 C.2.1 hd w) k
theorem rp_iand {t : PP ρ} {x y : Int32} (hd : decode M.2.2.1 pc = .ok (.iand, 1)) (k : RP l K n d M Z (pc + 1) lv (.int (x &&& y) :: st) en t) : RP l K n d M Z pc lv (.int y :: .int x :: st) en t := RP.go (fun p e R s m args below meth c H locs ls Q C hl w => lv_iand C.1 C.2.1 hd w) k
theorem rp_ior {t : PP ρ} {x y : Int32} (hd : decode M.2.2.1 pc = .ok (.ior, 1)) (k : RP l K n d M Z (pc + 1) lv (.int (x ||| y) :: st) en t) : RP l K n d M Z pc lv (.int y :: .int x :: st) en t := RP.go (fun p e R s m args below meth c H locs ls Q C hl w => lv_ior C.1 C.2.1 hd w) k
theorem rp_ixor {t : PP ρ} {x y : Int32} (hd : decode M.2.2.1 pc = .ok (.ixor, 1)) (k : RP l K n d M Z (pc + 1) lv (.int (x ^^^ y) :: st) en t) : RP l K n d M Z pc lv (.int y :: .int x :: st) en t := RP.go (fun p e R s m args below meth c H locs ls Q C hl w => lv_ixor C.1 C.2.1 hd w) k
theorem rp_ishl {t : PP ρ} {x y : Int32} (hd : decode M.2.2.1 pc = .ok (.ishl, 1)) (k : RP l K n d M Z (pc + 1) lv (.int (x <<< (y &&& 31)) :: st) en t) : RP l K n d M Z pc lv (.int y :: .int x :: st) en t := RP.go (fun p e R s m args below meth c H locs ls Q C hl w => lv_ishl C.1 C.2.1 hd w) k
theorem rp_ishr {t : PP ρ} {x y : Int32} (hd : decode M.2.2.1 pc = .ok (.ishr, 1)) (k : RP l K n d M Z (pc + 1) lv (.int (x >>> (y &&& 31)) :: st) en t) : RP l K n d M Z pc lv (.int y :: .int x :: st) en t := RP.go (fun p e R s m args below meth c H locs ls Q C hl w => lv_ishr C.1 C.2.1 hd w) k
theorem rp_ladd {t : PP ρ} {x y : Int64} (hd : decode M.2.2.1 pc = .ok (.ladd, 1)) (k : RP l K n d M Z (pc + 1) lv (.long (x + y) :: st) en t) : RP l K n d M Z pc lv (.long y :: .long x :: st) en t := RP.go (fun p e R s m args below meth c H locs ls Q C hl w => lv_ladd C.1 C.2.1 hd w) k
theorem rp_lsub {t : PP ρ} {x y : Int64} (hd : decode M.2.2.1 pc = .ok (.lsub, 1)) (k : RP l K n d M Z (pc + 1) lv (.long (x - y) :: st) en t) : RP l K n d M Z pc lv (.long y :: .long x :: st) en t := RP.go (fun p e R s m args below meth c H locs ls Q C hl w => lv_lsub C.1 C.2.1 hd w) k
theorem rp_lmul {t : PP ρ} {x y : Int64} (hd : decode M.2.2.1 pc = .ok (.lmul, 1)) (k : RP l K n d M Z (pc + 1) lv (.long (x * y) :: st) en t) : RP l K n d M Z pc lv (.long y :: .long x :: st) en t := RP.go (fun p e R s m args below meth c H locs ls Q C hl w => lv_lmul C.1 C.2.1 hd w) k
theorem rp_land {t : PP ρ} {x y : Int64} (hd : decode M.2.2.1 pc = .ok (.land, 1)) (k : RP l K n d M Z (pc + 1) lv (.long (x &&& y) :: st) en t) : RP l K n d M Z pc lv (.long y :: .long x :: st) en t := RP.go (fun p e R s m args below meth c H locs ls Q C hl w => lv_land C.1 C.2.1 hd w) k
theorem rp_lor {t : PP ρ} {x y : Int64} (hd : decode M.2.2.1 pc = .ok (.lor, 1)) (k : RP l K n d M Z (pc + 1) lv (.long (x ||| y) :: st) en t) : RP l K n d M Z pc lv (.long y :: .long x :: st) en t := RP.go (fun p e R s m args below meth c H locs ls Q C hl w => lv_lor C.1 C.2.1 hd w) k
theorem rp_iushr {t : PP ρ} {x y : Int32} (hd : decode M.2.2.1 pc = .ok (.iushr, 1)) (k : RP l K n d M Z (pc + 1) lv (.int (x.toUInt32 >>> (y.toUInt32 &&& Int32.toUInt32 31)).toInt32 :: st) en t) : RP l K n d M Z pc lv (.int y :: .int x :: st) en t := RP.go (fun p e R s m args below meth c H locs ls Q C hl w => lv_iushr C.1 C.2.1 hd rfl w) k
theorem rp_lushr {t : PP ρ} {x : Int64} {y : Int32} (hd : decode M.2.2.1 pc = .ok (.lushr, 1)) (k : RP l K n d M Z (pc + 1) lv (.long ((x.toUInt64 >>> (y.toInt64.toUInt64 &&& Int64.toUInt64 63)).toInt64) :: st) en t) : RP l K n d M Z pc lv (.int y :: .long x :: st) en t := RP.go (fun p e R s m args below meth c H locs ls Q C hl w => lv_lushr C.1 C.2.1 hd rfl w) k
theorem rp_lshl {t : PP ρ} {x : Int64} {y : Int32} (hd : decode M.2.2.1 pc = .ok (.lshl, 1)) (k : RP l K n d M Z (pc + 1) lv (.long (x <<< (y.toInt64 &&& 63)) :: st) en t) : RP l K n d M Z pc lv (.int y :: .long x :: st) en t := RP.go (fun p e R s m args below meth c H locs ls Q C hl w => lv_lshl C.1 C.2.1 hd rfl w) k
theorem rp_lshr {t : PP ρ} {x : Int64} {y : Int32} (hd : decode M.2.2.1 pc = .ok (.lshr, 1)) (k : RP l K n d M Z (pc + 1) lv (.long (x >>> (y.toInt64 &&& 63)) :: st) en t) : RP l K n d M Z pc lv (.int y :: .long x :: st) en t := RP.go (fun p e R s m args below meth c H locs ls Q C hl w => lv_lshr C.1 C.2.1 hd rfl w) k
theorem rp_i2l {t : PP ρ} {x : Int32} (hd : decode M.2.2.1 pc = .ok (.i2l, 1)) (k : RP l K n d M Z (pc + 1) lv (.long (x.toInt64) :: st) en t) : RP l K n d M Z pc lv (.int x :: st) en t := RP.go (fun p e R s m args below meth c H locs ls Q C hl w => lv_i2l C.1 C.2.1 hd rfl w) k
theorem rp_l2i {t : PP ρ} {x : Int64} (hd : decode M.2.2.1 pc = .ok (.l2i, 1)) (k : RP l K n d M Z (pc + 1) lv (.int (x.toInt32) :: st) en t) : RP l K n d M Z pc lv (.long x :: st) en t := RP.go (fun p e R s m args below meth c H locs ls Q C hl w => lv_l2i C.1 C.2.1 hd rfl w) k
theorem rp_i2c {t : PP ρ} {x : Int32} (hd : decode M.2.2.1 pc = .ok (.i2c, 1)) (k : RP l K n d M Z (pc + 1) lv (.int ((x.toUInt32 % 65536).toInt32) :: st) en t) : RP l K n d M Z pc lv (.int x :: st) en t := RP.go (fun p e R s m args below meth c H locs ls Q C hl w => lv_i2c C.1 C.2.1 hd rfl w) k
theorem rp_ineg {t : PP ρ} {x : Int32} (hd : decode M.2.2.1 pc = .ok (.ineg, 1)) (k : RP l K n d M Z (pc + 1) lv (.int (-x) :: st) en t) : RP l K n d M Z pc lv (.int x :: st) en t := RP.go (fun p e R s m args below meth c H locs ls Q C hl w => lv_ineg C.1 C.2.1 hd w) k
theorem rp_lcmp {t : PP ρ} {x y : Int64} (hd : decode M.2.2.1 pc = .ok (.lcmp, 1)) (k : RP l K n d M Z (pc + 1) lv (.int (lg_cmp x y) :: st) en t) : RP l K n d M Z pc lv (.long y :: .long x :: st) en t := RP.go (fun p e R s m args below meth c H locs ls Q C hl w => W.lcmp C.1 C.2.1 hd w) k
theorem rp_idiv {α : Type} {f : Unit → PP α} {k : α → PP ρ} {x y : Int32} (hd : decode M.2.2.1 pc = .ok (.idiv, 1)) (h : RP l K n d M Z (pc + 1) lv (.int (x / y) :: st) en (bd (f ()) k)) : RP l K n d M Z pc lv (.int y :: .int x :: st) en (bd (bd (gd (¬ y = 0)) f) k) := by
  intro σ r σ' q
  by_cases hy : ¬ y = 0
  · have q2 : bd (f ()) k σ = some (r, σ') := by simpa [bd, gd, hy] using q
    exact RP.go (fun p e R s m args below meth c H locs ls Q C hl w => lv_idiv C.1 C.2.1 hd hy w) h σ r σ' q2
  · simp [bd, gd, hy] at q
theorem rp_irem {α : Type} {f : Unit → PP α} {k : α → PP ρ} {x y : Int32} (hd : decode M.2.2.1 pc = .ok (.irem, 1)) (h : RP l K n d M Z (pc + 1) lv (.int (x - x / y * y) :: st) en (bd (f ()) k)) : RP l K n d M Z pc lv (.int y :: .int x :: st) en (bd (bd (gd (¬ y = 0)) f) k) := by
  intro σ r σ' q
  by_cases hy : ¬ y = 0
  · have q2 : bd (f ()) k σ = some (r, σ') := by simpa [bd, gd, hy] using q
    exact RP.go (fun p e R s m args below meth c H locs ls Q C hl w => lv_irem C.1 C.2.1 hd hy w) h σ r σ' q2
  · simp [bd, gd, hy] at q
theorem rp_ldiv {α : Type} {f : Unit → PP α} {k : α → PP ρ} {x y : Int64} (hd : decode M.2.2.1 pc = .ok (.ldiv, 1)) (h : RP l K n d M Z (pc + 1) lv (.long (x / y) :: st) en (bd (f ()) k)) : RP l K n d M Z pc lv (.long y :: .long x :: st) en (bd (bd (gd (¬ y = 0)) f) k) := by
  intro σ r σ' q
  by_cases hy : ¬ y = 0
  · have q2 : bd (f ()) k σ = some (r, σ') := by simpa [bd, gd, hy] using q
    exact RP.go (fun p e R s m args below meth c H locs ls Q C hl w => lv_ldiv C.1 C.2.1 hd hy w) h σ r σ' q2
  · simp [bd, gd, hy] at q
theorem rp_lrem {α : Type} {f : Unit → PP α} {k : α → PP ρ} {x y : Int64} (hd : decode M.2.2.1 pc = .ok (.lrem, 1)) (h : RP l K n d M Z (pc + 1) lv (.long (x - x / y * y) :: st) en (bd (f ()) k)) : RP l K n d M Z pc lv (.long y :: .long x :: st) en (bd (bd (gd (¬ y = 0)) f) k) := by
  intro σ r σ' q
  by_cases hy : ¬ y = 0
  · have q2 : bd (f ()) k σ = some (r, σ') := by simpa [bd, gd, hy] using q
    exact RP.go (fun p e R s m args below meth c H locs ls Q C hl w => lv_lrem C.1 C.2.1 hd hy w) h σ r σ' q2
  · simp [bd, gd, hy] at q
theorem rp_icmp_eq {α : Type} {A B : PP α} {k : α → PP ρ} {x y : Int32} {i : Decidable (x = y)} {off : Int} (tgt : Nat) (hd : decode M.2.2.1 pc = .ok (.if_icmp .eq off, 3)) (ht : (pc : Int) + off = (tgt : Int)) (kt : RP l K n d M Z tgt lv st en (bd A k)) (kf : RP l K n d M Z (pc + 3) lv st en (bd B k)) : RP l K n d M Z pc lv (.int y :: .int x :: st) en (bd (@ite _ (x = y) i A B) k) := by
  intro σ r σ' h p e R s m args below meth c C H locs ls hP hS hl
  refine lv_icmp_eq C.1 C.2.1 hd ht (fun q => kt σ r σ' ?_ p e R s m args below meth c C H locs ls hP hS hl) (fun q => kf σ r σ' ?_ p e R s m args below meth c C H locs ls hP hS hl)
  · simpa only [if_pos q] using h
  · simpa only [if_neg q] using h
theorem rp_icmp_ne {α : Type} {A B : PP α} {k : α → PP ρ} {x y : Int32} {i : Decidable (x = y)} {off : Int} (tgt : Nat) (hd : decode M.2.2.1 pc = .ok (.if_icmp .ne off, 3)) (ht : (pc : Int) + off = (tgt : Int)) (kt : RP l K n d M Z tgt lv st en (bd B k)) (kf : RP l K n d M Z (pc + 3) lv st en (bd A k)) : RP l K n d M Z pc lv (.int y :: .int x :: st) en (bd (@ite _ (x = y) i A B) k) := by
  intro σ r σ' h p e R s m args below meth c C H locs ls hP hS hl
  refine lv_icmp_ne C.1 C.2.1 hd ht (fun q => kt σ r σ' ?_ p e R s m args below meth c C H locs ls hP hS hl) (fun q => kf σ r σ' ?_ p e R s m args below meth c C H locs ls hP hS hl)
  · simpa only [if_neg q] using h
  · simpa only [if_pos q] using h
theorem rp_icmp_lt {α : Type} {A B : PP α} {k : α → PP ρ} {x y : Int32} {i : Decidable (x < y)} {off : Int} (tgt : Nat) (hd : decode M.2.2.1 pc = .ok (.if_icmp .lt off, 3)) (ht : (pc : Int) + off = (tgt : Int)) (kt : RP l K n d M Z tgt lv st en (bd A k)) (kf : RP l K n d M Z (pc + 3) lv st en (bd B k)) : RP l K n d M Z pc lv (.int y :: .int x :: st) en (bd (@ite _ (x < y) i A B) k) := by
  intro σ r σ' h p e R s m args below meth c C H locs ls hP hS hl
  refine lv_icmp_lt C.1 C.2.1 hd ht (fun q => kt σ r σ' ?_ p e R s m args below meth c C H locs ls hP hS hl) (fun q => kf σ r σ' ?_ p e R s m args below meth c C H locs ls hP hS hl)
  · simpa only [if_pos q] using h
  · simpa only [if_neg q] using h
theorem rp_icmp_ge {α : Type} {A B : PP α} {k : α → PP ρ} {x y : Int32} {i : Decidable (y ≤ x)} {off : Int} (tgt : Nat) (hd : decode M.2.2.1 pc = .ok (.if_icmp .ge off, 3)) (ht : (pc : Int) + off = (tgt : Int)) (kt : RP l K n d M Z tgt lv st en (bd A k)) (kf : RP l K n d M Z (pc + 3) lv st en (bd B k)) : RP l K n d M Z pc lv (.int y :: .int x :: st) en (bd (@ite _ (y ≤ x) i A B) k) := by
  intro σ r σ' h p e R s m args below meth c C H locs ls hP hS hl
  refine lv_icmp_ge C.1 C.2.1 hd ht (fun q => kt σ r σ' ?_ p e R s m args below meth c C H locs ls hP hS hl) (fun q => kf σ r σ' ?_ p e R s m args below meth c C H locs ls hP hS hl)
  · simpa only [if_pos q] using h
  · simpa only [if_neg q] using h
theorem rp_icmp_gt {α : Type} {A B : PP α} {k : α → PP ρ} {x y : Int32} {i : Decidable (y < x)} {off : Int} (tgt : Nat) (hd : decode M.2.2.1 pc = .ok (.if_icmp .gt off, 3)) (ht : (pc : Int) + off = (tgt : Int)) (kt : RP l K n d M Z tgt lv st en (bd A k)) (kf : RP l K n d M Z (pc + 3) lv st en (bd B k)) : RP l K n d M Z pc lv (.int y :: .int x :: st) en (bd (@ite _ (y < x) i A B) k) := by
  intro σ r σ' h p e R s m args below meth c C H locs ls hP hS hl
  refine lv_icmp_gt C.1 C.2.1 hd ht (fun q => kt σ r σ' ?_ p e R s m args below meth c C H locs ls hP hS hl) (fun q => kf σ r σ' ?_ p e R s m args below meth c C H locs ls hP hS hl)
  · simpa only [if_pos q] using h
  · simpa only [if_neg q] using h
theorem rp_icmp_le {α : Type} {A B : PP α} {k : α → PP ρ} {x y : Int32} {i : Decidable (x ≤ y)} {off : Int} (tgt : Nat) (hd : decode M.2.2.1 pc = .ok (.if_icmp .le off, 3)) (ht : (pc : Int) + off = (tgt : Int)) (kt : RP l K n d M Z tgt lv st en (bd A k)) (kf : RP l K n d M Z (pc + 3) lv st en (bd B k)) : RP l K n d M Z pc lv (.int y :: .int x :: st) en (bd (@ite _ (x ≤ y) i A B) k) := by
  intro σ r σ' h p e R s m args below meth c C H locs ls hP hS hl
  refine lv_icmp_le C.1 C.2.1 hd ht (fun q => kt σ r σ' ?_ p e R s m args below meth c C H locs ls hP hS hl) (fun q => kf σ r σ' ?_ p e R s m args below meth c C H locs ls hP hS hl)
  · simpa only [if_pos q] using h
  · simpa only [if_neg q] using h
theorem rp_if_eq {α : Type} {A B : PP α} {k : α → PP ρ} {x : Int32} {i : Decidable (x = 0)} {off : Int} (tgt : Nat) (hd : decode M.2.2.1 pc = .ok (.ifCond .eq off, 3)) (ht : (pc : Int) + off = (tgt : Int)) (kt : RP l K n d M Z tgt lv st en (bd A k)) (kf : RP l K n d M Z (pc + 3) lv st en (bd B k)) : RP l K n d M Z pc lv (.int x :: st) en (bd (@ite _ (x = 0) i A B) k) := by
  intro σ r σ' h p e R s m args below meth c C H locs ls hP hS hl
  refine lv_if_eq C.1 C.2.1 hd ht (fun q => kt σ r σ' ?_ p e R s m args below meth c C H locs ls hP hS hl) (fun q => kf σ r σ' ?_ p e R s m args below meth c C H locs ls hP hS hl)
  · simpa only [if_pos q] using h
  · simpa only [if_neg q] using h
theorem rp_if_ne {α : Type} {A B : PP α} {k : α → PP ρ} {x : Int32} {i : Decidable (x = 0)} {off : Int} (tgt : Nat) (hd : decode M.2.2.1 pc = .ok (.ifCond .ne off, 3)) (ht : (pc : Int) + off = (tgt : Int)) (kt : RP l K n d M Z tgt lv st en (bd B k)) (kf : RP l K n d M Z (pc + 3) lv st en (bd A k)) : RP l K n d M Z pc lv (.int x :: st) en (bd (@ite _ (x = 0) i A B) k) := by
  intro σ r σ' h p e R s m args below meth c C H locs ls hP hS hl
  refine lv_if_ne C.1 C.2.1 hd ht (fun q => kt σ r σ' ?_ p e R s m args below meth c C H locs ls hP hS hl) (fun q => kf σ r σ' ?_ p e R s m args below meth c C H locs ls hP hS hl)
  · simpa only [if_neg q] using h
  · simpa only [if_pos q] using h
theorem rp_if_lt {α : Type} {A B : PP α} {k : α → PP ρ} {x : Int32} {i : Decidable (x < 0)} {off : Int} (tgt : Nat) (hd : decode M.2.2.1 pc = .ok (.ifCond .lt off, 3)) (ht : (pc : Int) + off = (tgt : Int)) (kt : RP l K n d M Z tgt lv st en (bd A k)) (kf : RP l K n d M Z (pc + 3) lv st en (bd B k)) : RP l K n d M Z pc lv (.int x :: st) en (bd (@ite _ (x < 0) i A B) k) := by
  intro σ r σ' h p e R s m args below meth c C H locs ls hP hS hl
  refine lv_if_lt C.1 C.2.1 hd ht (fun q => kt σ r σ' ?_ p e R s m args below meth c C H locs ls hP hS hl) (fun q => kf σ r σ' ?_ p e R s m args below meth c C H locs ls hP hS hl)
  · simpa only [if_pos q] using h
  · simpa only [if_neg q] using h
theorem rp_if_ge {α : Type} {A B : PP α} {k : α → PP ρ} {x : Int32} {i : Decidable (0 ≤ x)} {off : Int} (tgt : Nat) (hd : decode M.2.2.1 pc = .ok (.ifCond .ge off, 3)) (ht : (pc : Int) + off = (tgt : Int)) (kt : RP l K n d M Z tgt lv st en (bd A k)) (kf : RP l K n d M Z (pc + 3) lv st en (bd B k)) : RP l K n d M Z pc lv (.int x :: st) en (bd (@ite _ (0 ≤ x) i A B) k) := by
  intro σ r σ' h p e R s m args below meth c C H locs ls hP hS hl
  refine lv_if_ge C.1 C.2.1 hd ht (fun q => kt σ r σ' ?_ p e R s m args below meth c C H locs ls hP hS hl) (fun q => kf σ r σ' ?_ p e R s m args below meth c C H locs ls hP hS hl)
  · simpa only [if_pos q] using h
  · simpa only [if_neg q] using h
theorem rp_if_gt {α : Type} {A B : PP α} {k : α → PP ρ} {x : Int32} {i : Decidable (0 < x)} {off : Int} (tgt : Nat) (hd : decode M.2.2.1 pc = .ok (.ifCond .gt off, 3)) (ht : (pc : Int) + off = (tgt : Int)) (kt : RP l K n d M Z tgt lv st en (bd A k)) (kf : RP l K n d M Z (pc + 3) lv st en (bd B k)) : RP l K n d M Z pc lv (.int x :: st) en (bd (@ite _ (0 < x) i A B) k) := by
  intro σ r σ' h p e R s m args below meth c C H locs ls hP hS hl
  refine lv_if_gt C.1 C.2.1 hd ht (fun q => kt σ r σ' ?_ p e R s m args below meth c C H locs ls hP hS hl) (fun q => kf σ r σ' ?_ p e R s m args below meth c C H locs ls hP hS hl)
  · simpa only [if_pos q] using h
  · simpa only [if_neg q] using h
theorem rp_if_le {α : Type} {A B : PP α} {k : α → PP ρ} {x : Int32} {i : Decidable (x ≤ 0)} {off : Int} (tgt : Nat) (hd : decode M.2.2.1 pc = .ok (.ifCond .le off, 3)) (ht : (pc : Int) + off = (tgt : Int)) (kt : RP l K n d M Z tgt lv st en (bd A k)) (kf : RP l K n d M Z (pc + 3) lv st en (bd B k)) : RP l K n d M Z pc lv (.int x :: st) en (bd (@ite _ (x ≤ 0) i A B) k) := by
  intro σ r σ' h p e R s m args below meth c C H locs ls hP hS hl
  refine lv_if_le C.1 C.2.1 hd ht (fun q => kt σ r σ' ?_ p e R s m args below meth c C H locs ls hP hS hl) (fun q => kf σ r σ' ?_ p e R s m args below meth c C H locs ls hP hS hl)
  · simpa only [if_pos q] using h
  · simpa only [if_neg q] using h
end RPS
end
section
section RPH
variable {ρ : Type} {l : Launch} {K : KK} {n d : Nat} {M : MI} {Z : ZZ} {pc : Nat} {lv : List (Nat × Value)} {st : List Value} {en : ρ → Option Value}
theorem CX.own {p : Program} {R : Room} {s : State} {m : MethodId} {args : Array Value} {meth : Method} {c : Code} (C : CX K n d M Z p R s m args meth c) : s.vm.findClass M.1 = some m.cls := C.2.2.2.2.1
theorem CX.w {p : Program} {R : Room} {s : State} {m : MethodId} {args : Array Value} {meth : Method} {c : Code} (C : CX K n d M Z p R s m args meth c) {w : Cond} (h : w ∈ lg) : w.before args s = true := C.2.2.2.2.2.1 w (List.mem_cons_of_mem _ h)
theorem CX.k {p : Program} {R : Room} {s : State} {m : MethodId} {args : Array Value} {meth : Method} {c : Code} (C : CX K n d M Z p R s m args meth c) : va_K K.1 cl0 (tys K) s := C.2.2.2.2.2.2.2.1.1
theorem CX.ks {p : Program} {R : Room} {s : State} {m : MethodId} {args : Array Value} {meth : Method} {c : Code} (C : CX K n d M Z p R s m args meth c) : KS K s := C.2.2.2.2.2.2.2.1.2
theorem CX.nn {p : Program} {R : Room} {s : State} {m : MethodId} {args : Array Value} {meth : Method} {c : Code} (C : CX K n d M Z p R s m args meth c) : 270 ≤ n := C.2.2.2.2.2.2.2.2.2
theorem wl_ob {a c : Nat} {σ : MM} (hn : 270 ≤ n) (h : ob a c) (hc : c < 100) : (wl K n σ)[a]? = some (K.2.1 + a, .inr (c, (List.range (nfd c)).map (fv K σ c a))) := by
  rw [wl_at (Nat.lt_of_lt_of_le h.1 hn), ce_ob h hc]
theorem wl_ar {a t m : Nat} {σ : MM} (hn : 270 ≤ n) (h : ar a t m) : (wl K n σ)[a]? = some (K.2.1 + a, ca K σ a t m) := by
  rw [wl_at (Nat.lt_of_lt_of_le h.1 hn), ce_ar h]
theorem fst_at {α : Type} {f : Nat → α} {N k : Nat} (h : k < N) : ((List.range N).map f)[k]? = some (f k) := by simp [h]
/-- getfield, whatever the field holds -/
theorem rw_get {t : PP ρ} {idx cl j a : Nat} {v : MM → Value} (hi : FI M.1 idx cl j) (h : ob a cl) (hc : cl < 100) (hv : ∀ σ, fv K σ cl a j = v σ) (hd : decode M.2.2.1 pc = .ok (.getfield idx, 3)) {σ : MM} {Q : Option Value → MM → Prop} (k : RW l K n d M Z (pc + 3) lv (v σ :: st) σ Q) : RW l K n d M Z pc lv (.ref (K.2.1 + a) :: st) σ Q := by
  intro p e R s m args below meth c C H locs ls hP hS hl
  obtain ⟨Cn, T, N, ty, h1, h2, h3, h4, h5, h6, h7, h8⟩ := hi
  subst h3
  refine va_get (D := K.1) (ci := cl) (C := Cn) (T := T) (N := nfd cl) (ref := Cn) C.1 C.2.1 (fun w q => C.w q) h6 C.own C.k hP a (wl_ob C.nn h hc) h1 j h2 (C.w h4) (fun x q => by rw [h5] at q; exact q) (fst_at h2) hd ?_
  rw [hv σ]
  exact k p e R s m args below meth c C H locs ls hP hS hl
theorem fv0 {σ : MM} {c a j : Nat} (h : fty c j = 0) : fv K σ c a j = .int (σ.1 a j) := by unfold fv; rw [h]; rfl
theorem fv1 {σ : MM} {c a j : Nat} (h : fty c j = 1) : fv K σ c a j = .long (σ.2.1 a j) := by unfold fv; rw [h]; rfl
theorem fv2 {σ : MM} {c a j : Nat} (h : fty c j = 2) : fv K σ c a j = .ref (K.2.1 + rf a j) := by unfold fv; rw [h]; rfl
theorem fv3 {σ : MM} {c a j : Nat} (h : fty c j = 3) : fv K σ c a j = wr K σ.2.2 := by unfold fv; rw [h]; rfl
theorem rp_getI {α : Type} {f : Int32 → PP α} {k : α → PP ρ} {idx cl j a : Nat} (hi : FI M.1 idx cl j) (h : ob a cl) (hc : (decide (cl < 100) && decide (fty cl j = 0)) = true) (hd : decode M.2.2.1 pc = .ok (.getfield idx, 3)) (kk : ∀ x, RP l K n d M Z (pc + 3) lv (.int x :: st) en (bd (f x) k)) : RP l K n d M Z pc lv (.ref (K.2.1 + a) :: st) en (bd (bd (gI a j) f) k) := by
  simp only [Bool.and_eq_true, decide_eq_true_eq] at hc
  intro σ r σ' q
  exact rw_get (t := bd (bd (gI a j) f) k) (v := fun σ => .int (σ.1 a j)) hi h hc.1 (fun σ => fv0 hc.2) hd (kk _ σ r σ' q)
theorem rp_getL {α : Type} {f : Int64 → PP α} {k : α → PP ρ} {idx cl j a : Nat} (hi : FI M.1 idx cl j) (h : ob a cl) (hc : (decide (cl < 100) && decide (fty cl j = 1)) = true) (hd : decode M.2.2.1 pc = .ok (.getfield idx, 3)) (kk : ∀ x, RP l K n d M Z (pc + 3) lv (.long x :: st) en (bd (f x) k)) : RP l K n d M Z pc lv (.ref (K.2.1 + a) :: st) en (bd (bd (gL a j) f) k) := by
  simp only [Bool.and_eq_true, decide_eq_true_eq] at hc
  intro σ r σ' q
  exact rw_get (t := bd (bd (gL a j) f) k) (v := fun σ => .long (σ.2.1 a j)) hi h hc.1 (fun σ => fv1 hc.2) hd (kk _ σ r σ' q)
theorem rp_getW {α : Type} {f : Option (Fin 23) → PP α} {k : α → PP ρ} {idx cl j a : Nat} (hi : FI M.1 idx cl j) (h : ob a cl) (hc : (decide (cl < 100) && decide (fty cl j = 3)) = true) (hd : decode M.2.2.1 pc = .ok (.getfield idx, 3)) (kk : ∀ x, RP l K n d M Z (pc + 3) lv (wr K x :: st) en (bd (f x) k)) : RP l K n d M Z pc lv (.ref (K.2.1 + a) :: st) en (bd (bd gW f) k) := by
  simp only [Bool.and_eq_true, decide_eq_true_eq] at hc
  intro σ r σ' q
  exact rw_get (t := bd (bd gW f) k) (v := fun σ => wr K σ.2.2) hi h hc.1 (fun σ => fv3 hc.2) hd (kk _ σ r σ' q)
theorem rp_getR {t : PP ρ} {idx cl j a : Nat} (hi : FI M.1 idx cl j) (h : ob a cl) (hc : (decide (cl < 100) && decide (fty cl j = 2)) = true) (hd : decode M.2.2.1 pc = .ok (.getfield idx, 3)) (kk : RP l K n d M Z (pc + 3) lv (.ref (K.2.1 + rf a j) :: st) en t) : RP l K n d M Z pc lv (.ref (K.2.1 + a) :: st) en t := by
  simp only [Bool.and_eq_true, decide_eq_true_eq] at hc
  intro σ r σ' q
  exact rw_get (t := t) (v := fun σ => .ref (K.2.1 + rf a j)) hi h hc.1 (fun σ => fv2 hc.2) hd (kk σ r σ' q)
/-- putfield, whatever it is -/
theorem rw_put {idx cl j a : Nat} {v : Value} {ty : FieldType} {σ σ2 : MM} (hi : FI M.1 idx cl j) (hp : FP cl j ty) (h : ob a cl) (hc : cl < 100) (hn : narrow ty v = v) (hf : fits ty v = true) (hw : ∀ b, b < n → b ≠ a → ce K σ2 b = ce K σ b) (hv : fv K σ2 cl a j = v) (ho : ∀ i, i < nfd cl → i ≠ j → fv K σ2 cl a i = fv K σ cl a i) (hd : decode M.2.2.1 pc = .ok (.putfield idx, 3)) {Q : Option Value → MM → Prop} (k : RW l K n d M Z (pc + 3) lv st σ2 Q) : RW l K n d M Z pc lv (v :: .ref (K.2.1 + a) :: st) σ Q := by
  intro p e R s m args below meth c C H locs ls hP hS hl
  obtain ⟨Cn, T, N, ty0, h1, h2, h3, h4, h5, h6, h7, h8⟩ := hi
  subst h3
  obtain ⟨g1, g2⟩ := hp Cn T (nfd cl) h1
  have han : a < n := Nat.lt_of_lt_of_le h.1 C.nn
  refine va_put (D := K.1) (ci := cl) (C := Cn) (T := T) (N := nfd cl) (ref := Cn) C.1 C.2.1 (fun w q => C.w q) h6 ty0 h7 h8 C.own C.k hP (wl_D K n σ) hS a (wl_ob C.nn h hc) h1 j h2 (C.w h4) (fun x q => by rw [h5] at q; exact q) g2 g1 hn hf (by simp [h2]) hd (fun H1 locs1 hP1 hD1 hS1 => ?_)
  rw [fst_set h2 hv ho, wl_set han (ce_ob h hc) hw] at hP1
  exact k p e R s m args below meth c C H1 locs1 ls hP1 hS1 hl
theorem fv_upI {σ : MM} {c a i j : Nat} {x : Int32} (h : i ≠ j) : fv K (up2 σ.1 a j x, σ.2) c a i = fv K σ c a i := by
  unfold fv
  have : up2 σ.1 a j x a i = σ.1 a i := by simp [up2, h]
  simp only [this]
theorem fv_upL {σ : MM} {c a i j : Nat} {x : Int64} (h : i ≠ j) : fv K (σ.1, up2 σ.2.1 a j x, σ.2.2) c a i = fv K σ c a i := by
  unfold fv
  have : up2 σ.2.1 a j x a i = σ.2.1 a i := by simp [up2, h]
  simp only [this]
theorem rp_putI {α : Type} {f : Unit → PP α} {k : α → PP ρ} {idx cl j a : Nat} {x : Int32} (hi : FI M.1 idx cl j) (hp : FP cl j .int) (h : ob a cl) (hc : (decide (cl < 100) && decide (fty cl j = 0)) = true) (hd : decode M.2.2.1 pc = .ok (.putfield idx, 3)) (kk : RP l K n d M Z (pc + 3) lv st en (bd (f ()) k)) : RP l K n d M Z pc lv (.int x :: .ref (K.2.1 + a) :: st) en (bd (bd (sI a j x) f) k) := by
  simp only [Bool.and_eq_true, decide_eq_true_eq] at hc
  intro σ r σ' q
  exact rw_put hi hp h hc.1 rfl rfl (fun b _ hb => ce_oI hb) (by rw [fv0 hc.2]; simp [up2]) (fun i _ hij => fv_upI hij) hd (kk _ r σ' q)
theorem rp_putZ {α : Type} {f : Unit → PP α} {k : α → PP ρ} {idx cl j a : Nat} {x : Int32} (hx : x = 0 ∨ x = 1) (hi : FI M.1 idx cl j) (hp : FP cl j .boolean) (h : ob a cl) (hc : (decide (cl < 100) && decide (fty cl j = 0)) = true) (hd : decode M.2.2.1 pc = .ok (.putfield idx, 3)) (kk : RP l K n d M Z (pc + 3) lv st en (bd (f ()) k)) : RP l K n d M Z pc lv (.int x :: .ref (K.2.1 + a) :: st) en (bd (bd (sI a j x) f) k) := by
  simp only [Bool.and_eq_true, decide_eq_true_eq] at hc
  intro σ r σ' q
  exact rw_put hi hp h hc.1 (by rcases hx with rfl | rfl <;> rfl) (by rcases hx with rfl | rfl <;> rfl) (fun b _ hb => ce_oI hb) (by rw [fv0 hc.2]; simp [up2]) (fun i _ hij => fv_upI hij) hd (kk _ r σ' q)
theorem rp_putL {α : Type} {f : Unit → PP α} {k : α → PP ρ} {idx cl j a : Nat} {x : Int64} (hi : FI M.1 idx cl j) (hp : FP cl j .long) (h : ob a cl) (hc : (decide (cl < 100) && decide (fty cl j = 1)) = true) (hd : decode M.2.2.1 pc = .ok (.putfield idx, 3)) (kk : RP l K n d M Z (pc + 3) lv st en (bd (f ()) k)) : RP l K n d M Z pc lv (.long x :: .ref (K.2.1 + a) :: st) en (bd (bd (sL a j x) f) k) := by
  simp only [Bool.and_eq_true, decide_eq_true_eq] at hc
  intro σ r σ' q
  exact rw_put hi hp h hc.1 rfl rfl (fun b _ hb => ce_oL hb) (by rw [fv1 hc.2]; simp [up2]) (fun i _ hij => fv_upL hij) hd (kk _ r σ' q)
/-! ===== arrays ===== -/
theorem rp_iald {α : Type} {f : Int32 → PP α} {k : α → PP ρ} {a m : Nat} {i : Int32} (h : ar a 0 m) (hd : decode M.2.2.1 pc = .ok (.iaload, 1)) (kk : ∀ x, RP l K n d M Z (pc + 1) lv (.int x :: st) en (bd (f x) k)) : RP l K n d M Z pc lv (.int i :: .ref (K.2.1 + a) :: st) en (bd (bd (aI a m i) f) k) := by
  intro σ r σ' q p e R s me args below meth c C H locs ls hP hS hl
  by_cases hb : ib i m = true
  · have q2 : bd (f (σ.1 a i.toNatClampNeg)) k σ = some (r, σ') := by simpa [bd, aI, hb] using q
    exact va_iald C.1 C.2.1 C.k hP a 0 (wl_ar C.nn h) rfl (ib_in hb) hd (kk _ σ r σ' q2 p e R s me args below meth c C H locs ls hP hS hl)
  · simp [bd, aI, hb] at q
theorem rp_cald {α : Type} {f : Int32 → PP α} {k : α → PP ρ} {a m : Nat} {i : Int32} (h : ar a 2 m) (hd : decode M.2.2.1 pc = .ok (.caload, 1)) (kk : ∀ x, RP l K n d M Z (pc + 1) lv (.int x :: st) en (bd (f x) k)) : RP l K n d M Z pc lv (.int i :: .ref (K.2.1 + a) :: st) en (bd (bd (aI a m i) f) k) := by
  intro σ r σ' q p e R s me args below meth c C H locs ls hP hS hl
  by_cases hb : ib i m = true
  · have q2 : bd (f (σ.1 a i.toNatClampNeg)) k σ = some (r, σ') := by simpa [bd, aI, hb] using q
    exact va_cald C.1 C.2.1 C.k hP a 2 (wl_ar C.nn h) rfl (ib_in hb) hd (kk _ σ r σ' q2 p e R s me args below meth c C H locs ls hP hS hl)
  · simp [bd, aI, hb] at q
theorem rp_zald {α : Type} {f : Int32 → PP α} {k : α → PP ρ} {a m : Nat} {i : Int32} (h : ar a 3 m) (hd : decode M.2.2.1 pc = .ok (.baload, 1)) (kk : ∀ x, RP l K n d M Z (pc + 1) lv (.int x :: st) en (bd (f x) k)) : RP l K n d M Z pc lv (.int i :: .ref (K.2.1 + a) :: st) en (bd (bd (aI a m i) f) k) := by
  intro σ r σ' q p e R s me args below meth c C H locs ls hP hS hl
  by_cases hb : ib i m = true
  · have q2 : bd (f (σ.1 a i.toNatClampNeg)) k σ = some (r, σ') := by simpa [bd, aI, hb] using q
    exact va_zald C.1 C.2.1 C.k hP a 3 (wl_ar C.nn h) rfl (ib_in hb) hd (kk _ σ r σ' q2 p e R s me args below meth c C H locs ls hP hS hl)
  · simp [bd, aI, hb] at q
theorem rp_lald {α : Type} {f : Int64 → PP α} {k : α → PP ρ} {a m : Nat} {i : Int32} (h : ar a 1 m) (hd : decode M.2.2.1 pc = .ok (.laload, 1)) (kk : ∀ x, RP l K n d M Z (pc + 1) lv (.long x :: st) en (bd (f x) k)) : RP l K n d M Z pc lv (.int i :: .ref (K.2.1 + a) :: st) en (bd (bd (aL a m i) f) k) := by
  intro σ r σ' q p e R s me args below meth c C H locs ls hP hS hl
  by_cases hb : ib i m = true
  · have q2 : bd (f (σ.2.1 a i.toNatClampNeg)) k σ = some (r, σ') := by simpa [bd, aL, hb] using q
    exact va_lald C.1 C.2.1 C.k hP a 1 (wl_ar C.nn h) rfl (ib_in hb) hd (kk _ σ r σ' q2 p e R s me args below meth c C H locs ls hP hS hl)
  · simp [bd, aL, hb] at q
theorem up2_row {β : Type} {f : Nat → Nat → β} {a k : Nat} {x : β} : (fun j => up2 f a k x a j) = (fun j => if j = k then x else f a j) := by funext j; simp [up2]
theorem rp_iast {α : Type} {f : Unit → PP α} {k : α → PP ρ} {a m : Nat} {i x : Int32} (h : ar a 0 m) (hd : decode M.2.2.1 pc = .ok (.iastore, 1)) (kk : RP l K n d M Z (pc + 1) lv st en (bd (f ()) k)) : RP l K n d M Z pc lv (.int x :: .int i :: .ref (K.2.1 + a) :: st) en (bd (bd (uI a m i x) f) k) := by
  intro σ r σ' q p e R s me args below meth c C H locs ls hP hS hl
  have han : a < n := Nat.lt_of_lt_of_le h.1 C.nn
  by_cases hb : ib i m = true
  · have q2 : bd (f ()) k (up2 σ.1 a i.toNatClampNeg x, σ.2) = some (r, σ') := by simpa [bd, uI, hb] using q
    refine va_iast C.1 C.2.1 C.k hP (wl_D K n σ) hS a 0 (wl_ar C.nn h) rfl (ib_in hb) hd (fun H1 locs1 hP1 hD1 hS1 => ?_)
    rw [wl_set (σ' := (up2 σ.1 a i.toNatClampNeg x, σ.2)) han (by rw [ce_ar h]; unfold ca; simp only [up2_row]; rfl) (fun b _ hb2 => ce_oI hb2)] at hP1
    exact kk _ r σ' q2 p e R s me args below meth c C H1 locs1 ls hP1 hS1 hl
  · simp [bd, uI, hb] at q
/-- char, boolean: what is stored is cut first; here it must be so already -/
theorem rp_cast {α : Type} {f : Unit → PP α} {k : α → PP ρ} {a m : Nat} {i x : Int32} (h : ar a 2 m) (hx : vp_nar .char x = x) (hd : decode M.2.2.1 pc = .ok (.castore, 1)) (kk : RP l K n d M Z (pc + 1) lv st en (bd (f ()) k)) : RP l K n d M Z pc lv (.int x :: .int i :: .ref (K.2.1 + a) :: st) en (bd (bd (uI a m i x) f) k) := by
  intro σ r σ' q p e R s me args below meth c C H locs ls hP hS hl
  have han : a < n := Nat.lt_of_lt_of_le h.1 C.nn
  by_cases hb : ib i m = true
  · have q2 : bd (f ()) k (up2 σ.1 a i.toNatClampNeg x, σ.2) = some (r, σ') := by simpa [bd, uI, hb] using q
    refine va_cast C.1 C.2.1 C.k hP (wl_D K n σ) hS a 2 (wl_ar C.nn h) rfl (ib_in hb) hd (fun H1 locs1 hP1 hD1 hS1 => ?_)
    rw [hx, wl_set (σ' := (up2 σ.1 a i.toNatClampNeg x, σ.2)) han (by rw [ce_ar h]; unfold ca; simp only [up2_row]; rfl) (fun b _ hb2 => ce_oI hb2)] at hP1
    exact kk _ r σ' q2 p e R s me args below meth c C H1 locs1 ls hP1 hS1 hl
  · simp [bd, uI, hb] at q
theorem rp_zast {α : Type} {f : Unit → PP α} {k : α → PP ρ} {a m : Nat} {i x : Int32} (h : ar a 3 m) (hx : vp_nar .boolean x = x) (hd : decode M.2.2.1 pc = .ok (.bastore, 1)) (kk : RP l K n d M Z (pc + 1) lv st en (bd (f ()) k)) : RP l K n d M Z pc lv (.int x :: .int i :: .ref (K.2.1 + a) :: st) en (bd (bd (uI a m i x) f) k) := by
  intro σ r σ' q p e R s me args below meth c C H locs ls hP hS hl
  have han : a < n := Nat.lt_of_lt_of_le h.1 C.nn
  by_cases hb : ib i m = true
  · have q2 : bd (f ()) k (up2 σ.1 a i.toNatClampNeg x, σ.2) = some (r, σ') := by simpa [bd, uI, hb] using q
    refine va_zast C.1 C.2.1 C.k hP (wl_D K n σ) hS a 3 (wl_ar C.nn h) rfl (ib_in hb) hd (fun H1 locs1 hP1 hD1 hS1 => ?_)
    rw [hx, wl_set (σ' := (up2 σ.1 a i.toNatClampNeg x, σ.2)) han (by rw [ce_ar h]; unfold ca; simp only [up2_row]; rfl) (fun b _ hb2 => ce_oI hb2)] at hP1
    exact kk _ r σ' q2 p e R s me args below meth c C H1 locs1 ls hP1 hS1 hl
  · simp [bd, uI, hb] at q
theorem rp_last {α : Type} {f : Unit → PP α} {k : α → PP ρ} {a m : Nat} {i : Int32} {x : Int64} (h : ar a 1 m) (hd : decode M.2.2.1 pc = .ok (.lastore, 1)) (kk : RP l K n d M Z (pc + 1) lv st en (bd (f ()) k)) : RP l K n d M Z pc lv (.long x :: .int i :: .ref (K.2.1 + a) :: st) en (bd (bd (uL a m i x) f) k) := by
  intro σ r σ' q p e R s me args below meth c C H locs ls hP hS hl
  have han : a < n := Nat.lt_of_lt_of_le h.1 C.nn
  by_cases hb : ib i m = true
  · have q2 : bd (f ()) k (σ.1, up2 σ.2.1 a i.toNatClampNeg x, σ.2.2) = some (r, σ') := by simpa [bd, uL, hb] using q
    refine va_last C.1 C.2.1 C.k hP (wl_D K n σ) hS a 1 (wl_ar C.nn h) rfl (ib_in hb) hd (fun H1 locs1 hP1 hD1 hS1 => ?_)
    rw [wl_set (σ' := (σ.1, up2 σ.2.1 a i.toNatClampNeg x, σ.2.2)) han (by rw [ce_ar h]; unfold ca; simp only [up2_row]; rfl) (fun b _ hb2 => ce_oL hb2)] at hP1
    exact kk _ r σ' q2 p e R s me args below meth c C H1 locs1 ls hP1 hS1 hl
  · simp [bd, uL, hb] at q
theorem rp_alen {t : PP ρ} {a u m : Nat} {v : Int32} (h : ar a u m) (hu : (decide (u < 6)) = true) (hv : Int32.ofNat m = v) (hd : decode M.2.2.1 pc = .ok (.arraylength, 1)) (kk : RP l K n d M Z (pc + 1) lv (.int v :: st) en t) : RP l K n d M Z pc lv (.ref (K.2.1 + a) :: st) en t := by
  intro σ r σ' q p e R s me args below meth c C H locs ls hP hS hl
  have hk := kk σ r σ' q p e R s me args below meth c C H locs ls hP hS hl
  simp only [decide_eq_true_eq] at hu
  have ha := wl_ar (K := K) (σ := σ) C.nn h
  rcases (show u = 0 ∨ u = 1 ∨ u = 2 ∨ u = 3 ∨ u = 4 ∨ u = 5 by omega) with rfl | rfl | rfl | rfl | rfl | rfl
  · exact va_alen C.1 C.2.1 C.k hP a 0 ha (ty := .int) rfl hv hd hk
  · exact va_alen C.1 C.2.1 C.k hP a 1 ha (ty := .long) rfl hv hd hk
  · exact va_alen C.1 C.2.1 C.k hP a 2 ha (ty := .char) rfl hv hd hk
  · exact va_alen C.1 C.2.1 C.k hP a 3 ha (ty := .boolean) rfl hv hd hk
  · exact va_alen C.1 C.2.1 C.k hP a 4 ha (ty := .object RX4) rfl hv hd hk
  · exact va_alen C.1 C.2.1 C.k hP a 5 ha (ty := .object RX1) rfl hv hd hk
/-- an array of references: the place must be in range; the cell is told by the table -/
theorem rp_aald {α : Type} {f : Unit → PP α} {k : α → PP ρ} {a u m : Nat} {i : Int32} (h : ar a u m) (hu : u = 4 ∨ u = 5) (hd : decode M.2.2.1 pc = .ok (.aaload, 1)) (kk : ib i m = true → RP l K n d M Z (pc + 1) lv (.ref (K.2.1 + rf a i.toNatClampNeg) :: st) en (bd (f ()) k)) : RP l K n d M Z pc lv (.int i :: .ref (K.2.1 + a) :: st) en (bd (bd (gd (ib i m = true)) f) k) := by
  intro σ r σ' q p e R s me args below meth c C H locs ls hP hS hl
  by_cases hb : ib i m = true
  · have q2 : bd (f ()) k σ = some (r, σ') := by simpa [bd, gd, hb] using q
    have hk := kk hb σ r σ' q2 p e R s me args below meth c C H locs ls hP hS hl
    rcases hu with rfl | rfl
    · exact va_aldq C.1 C.2.1 C.k hP a 4 (wl_ar C.nn h) rfl (ib_in hb) hd hk
    · exact va_aldq C.1 C.2.1 C.k hP a 5 (wl_ar C.nn h) rfl (ib_in hb) hd hk
  · simp [bd, gd, hb] at q
/-! ===== calls ===== -/
theorem good_tbl : lg.all goodWord = true := by
  rw [List.all_eq_true]
  intro w h
  exact (List.mem_filter.mp h).2
theorem good_mws {M M' : MI} (hc : Cond.code M'.2.1 M'.2.2.1 M'.2.2.2.1 M'.2.2.2.2 ∈ lg) : GoodIn (mws M) (mws M') := by
  intro w hw
  rcases List.mem_cons.mp hw with rfl | h
  · exact ⟨List.mem_cons_of_mem _ hc, good_of_word (List.all_eq_true.mp good_tbl _ hc)⟩
  · exact ⟨List.mem_cons_of_mem _ h, good_of_word (List.all_eq_true.mp good_tbl _ h)⟩
/-- what a call of a method needs of the tables -/
def CC (M' : MI) (ps : Nat) : Prop := Cond.code M'.2.1 M'.2.2.1 M'.2.2.2.1 M'.2.2.2.2 ∈ lg ∧ Cond.initialized M'.2.1.cls ∈ lg ∧ (M'.2.1.cls ≠ "java/lang/invoke/MethodHandle" ∧ M'.2.1.cls ≠ "java/lang/invoke/VarHandle" ∧ (parseMethodDescriptor M'.2.1.desc).map (fun d => d.parameters.length) = some ps) ∧ M'.2.2.2.1 ≤ 13
def CV (M' : MI) (ps : Nat) : Prop := CC M' ps ∧ Cond.instanceMethod M'.2.1 ∈ lg ∧ Cond.selects M'.2.1.cls M'.2.1 M'.2.1 ∈ lg
def CS (M' : MI) (ps : Nat) : Prop := CC M' ps ∧ Cond.static M'.2.1 ∈ lg
theorem CC.b {M' : MI} {ps idx d' : Nat} {p : Program} {R : Room} {s : State} {m : MethodId} {args : Array Value} {meth : Method} {c : Code} (h : CC M' ps) (C : CX K n d M Z p R s m args meth c) (hl : Cond.methodLink M.1 idx M'.2.1 ∈ lg) (hdd : d' + 1 ≤ d) : CallB R s args M.1 idx M'.2.1 M'.2.2.1 M'.2.2.2.1 M'.2.2.2.2 (mws M') (rmd d') 0 0 ps := by
  have hR := C.2.2.2.2.2.2.2.2.1
  exact callB_of (ws' := lg) ps C.2.2.2.2.2.1 (good_mws h.1) rfl rfl rfl (C.w h.2.1) (C.w hl) h.2.2.1 ⟨Nat.le_trans hdd hR.1, by have := h.2.2.2; have := hR.2.1; show 8 + (M'.2.2.2.1 + 11) + 32 * d' ≤ R.locals; omega⟩
theorem rw_back {M' : MI} {ps idx d' : Nat} {p : Program} {e : Env} {R : Room} {s : State} {m : MethodId} {args : Array Value} {below : List Frame} {meth : Method} {c : Code} {H : Heap} {locs : List Loc} {ls : Array Slot} {stk : List Value} {av : List Value} {Q' : Option Value → MM → Prop} {Q : Option Value → MM → Prop} (hr : va_Run p l e R s m args below meth c H locs Z.1 Z.2.1 0 0 (F0 m pc ls stk) st (QC K n Q' av.toArray) (AA K)) (C : CX K n d M Z p R s m args meth c) (hS : va_S (AA K) s.heap H locs) (hl : lv_has ls M.2.2.2.1 lv) (k : ∀ v σ', Q' v σ' → RW l K n d M Z (pc + 3) lv (v.toList ++ st) σ' Q) : W p l e R s m args below meth c H locs Z.1 Z.2.1 (Z.2.2 below args s Q) (F0 m pc ls stk) := by
  intro T hT X
  obtain ⟨v, st₀, t, T', L, h0, X', hL, e1, e2, ⟨⟨v2, σ', hv, hq, hP'⟩, hz, hk⟩, stp⟩ := hr T hT X
  cases hv
  rw [h0] at hz hk
  have hS' : va_S (AA K) s.heap T'.heap (locs ++ L) := ⟨Nat.le_trans hS.1 (by rw [e1]; exact hz), fun q h1 h2 => by rw [e1, hk q (Nat.lt_of_lt_of_le h1 hS.1) h2]; exact hS.2.1 q h1 h2, fun q hq => by
    rcases List.mem_append.mp hq with h | h
    · exact hS.2.2 q h
    · exact hL q h⟩
  obtain ⟨t2, a1, b1⟩ := k v σ' hq p e R s m args below meth c C T'.heap (locs ++ L) ls (by rw [e1]; exact hP') hS' hl T' rfl X'
  exact ⟨t2, stp t2 a1, b1⟩
theorem ct_blind {av : List Value} {σ : MM} : FrameBlind (va_Pc av (fun U => KU K U ∧ va_P K.1 cl0 (wl K n σ) U.heap)) := by
  intro a U g mk q
  exact ⟨q.1, q.2.1.calling, q.2.2⟩
theorem rw_callV {α : Type} {M' : MI} {ps idx d' b cl : Nat} {As stk : List Value} {en' : α → Option Value} {f : PP α} {σ σ1 : MM} {r : α} (hM : CT l K n d' M' (.ref (K.2.1 + b) :: As) en' f) (hv : CV M' ps) (hl : Cond.methodLink M.1 idx M'.2.1 ∈ lg) (hdd : d' + 1 ≤ d) (hob : ob b cl) (hcl : cl < 100) (hcn : (cl0[cl]?).map (fun q => q.1) = some M'.2.1.cls) (hn : As.length = ps) (hst : stk = As.reverse ++ .ref (K.2.1 + b) :: st) (hW : (st.map fun v => v.category).sum ≤ 8) (hd : decode M.2.2.1 pc = .ok (.invokevirtual idx, 3)) (q : f σ = some (r, σ1)) {Q : Option Value → MM → Prop} (k : RW l K n d M Z (pc + 3) lv ((en' r).toList ++ st) σ1 Q) : RW l K n d M Z pc lv stk σ Q := by
  subst hst
  intro p e R s m args below meth c C H locs ls hP hS hl2
  obtain ⟨cq, hc1, hc2⟩ : ∃ q, cl0[cl]? = some q ∧ q.1 = M'.2.1.cls := by
    cases h : cl0[cl]? with
    | none => rw [h] at hcn; cases hcn
    | some q => rw [h] at hcn; exact ⟨q, rfl, Option.some.inj hcn⟩
  have hrecv := va_recv C.k hP hc1 (wl_ob C.nn hob hcl)
  rw [hc2] at hrecv
  refine rw_back (av := .ref (K.2.1 + b) :: As) (M' := M') (ps := ps) (idx := idx) (d' := d') (va_runV (As := As) (rest := st) (nL := M.2.2.2.1) (Ts := mws M) (own := M.1) (C := M'.2.1.cls) ⟨C.1, C.2.1, C.2.2.2.1, C.own, C.2.2.2.2.2.1⟩ (hM σ r σ1 q) ⟨hv.1.b C hl hdd, C.w hv.2.1, C.w hv.2.2⟩ ⟨ct_blind, hrecv, fun U hU hW2 => ⟨rfl, C.2.2.2.2.2.2.2.1.mv hS hU hW2, by rw [hU]; exact hP⟩⟩ rfl hn hl2.1 rfl (lv_room hW) hd ⟨C.2.2.2.2.2.2.2.2.1.2.2.1, C.2.2.2.2.2.2.2.2.1.2.2.2⟩) C hS hl2 ?_
  rintro v σ' ⟨rfl, rfl⟩
  exact k
theorem rw_callS {α : Type} {M' : MI} {ps idx d' : Nat} {As stk : List Value} {en' : α → Option Value} {f : PP α} {σ σ1 : MM} {r : α} (hM : CT l K n d' M' As en' f) (hv : CS M' ps) (hl : Cond.methodLink M.1 idx M'.2.1 ∈ lg) (hdd : d' + 1 ≤ d) (hn : As.length = ps) (hst : stk = As.reverse ++ st) (hW : (st.map fun v => v.category).sum ≤ 8) (hd : decode M.2.2.1 pc = .ok (.invokestatic idx, 3)) (q : f σ = some (r, σ1)) {Q : Option Value → MM → Prop} (k : RW l K n d M Z (pc + 3) lv ((en' r).toList ++ st) σ1 Q) : RW l K n d M Z pc lv stk σ Q := by
  subst hst
  intro p e R s m args below meth c C H locs ls hP hS hl2
  refine rw_back (av := As) (M' := M') (ps := ps) (idx := idx) (d' := d') (va_runS (As := As) (rest := st) (nL := M.2.2.2.1) (Ts := mws M) (own := M.1) ⟨C.1, C.2.1, C.2.2.2.1, C.own, C.2.2.2.2.2.1⟩ (hM σ r σ1 q) ⟨hv.1.b C hl hdd, C.w hv.2⟩ ⟨ct_blind, fun U hU hW2 => ⟨rfl, C.2.2.2.2.2.2.2.1.mv hS hU hW2, by rw [hU]; exact hP⟩⟩ rfl hn hl2.1 rfl (lv_room hW) hd ⟨C.2.2.2.2.2.2.2.2.1.2.2.1, C.2.2.2.2.2.2.2.2.1.2.2.2⟩) C hS hl2 ?_
  rintro v σ' ⟨rfl, rfl⟩
  exact k
theorem bd_some {α β : Type} {c : PP α} {k : α → PP β} {σ : MM} {x : β × MM} (h : bd c k σ = some x) : ∃ r σ1, c σ = some (r, σ1) ∧ k r σ1 = some x := by
  unfold bd at h
  cases hc : c σ with
  | none => rw [hc] at h; cases h
  | some q => rw [hc] at h; exact ⟨q.1, q.2, rfl, h⟩
theorem bd2_some {α β γ : Type} {c : PP α} {f : α → PP β} {k : β → PP γ} {σ : MM} {x : γ × MM} (h : bd (bd c f) k σ = some x) : ∃ r σ1, c σ = some (r, σ1) ∧ bd (f r) k σ1 = some x := by
  rw [bd_as] at h
  exact bd_some h
theorem rp_callVi {α : Type} {g : Int32 → PP α} {k : α → PP ρ} {M' : MI} {ps idx d' b cl : Nat} {stk : List Value} {f : PP Int32} (As : List Value) (hM : CT l K n d' M' (.ref (K.2.1 + b) :: As) enI f) (hv : CV M' ps) (hl : Cond.methodLink M.1 idx M'.2.1 ∈ lg) (hdd : d' + 1 ≤ d) (hob : ob b cl) (hcl : cl < 100) (hcn : (cl0[cl]?).map (fun q => q.1) = some M'.2.1.cls) (hn : As.length = ps) (hst : stk = As.reverse ++ .ref (K.2.1 + b) :: st) (hW : (st.map fun v => v.category).sum ≤ 8) (hd : decode M.2.2.1 pc = .ok (.invokevirtual idx, 3)) (kk : ∀ x, RP l K n d M Z (pc + 3) lv (.int x :: st) en (bd (g x) k)) : RP l K n d M Z pc lv stk en (bd (bd f g) k) := by
  intro σ r σ' q
  obtain ⟨x, σ1, q1, q2⟩ := bd2_some q
  exact rw_callV hM hv hl hdd hob hcl hcn hn hst hW hd q1 (kk x σ1 r σ' q2)
theorem rp_callSi {α : Type} {g : Int32 → PP α} {k : α → PP ρ} {M' : MI} {ps idx d' : Nat} {stk : List Value} {f : PP Int32} (As : List Value) (hM : CT l K n d' M' As enI f) (hv : CS M' ps) (hl : Cond.methodLink M.1 idx M'.2.1 ∈ lg) (hdd : d' + 1 ≤ d) (hn : As.length = ps) (hst : stk = As.reverse ++ st) (hW : (st.map fun v => v.category).sum ≤ 8) (hd : decode M.2.2.1 pc = .ok (.invokestatic idx, 3)) (kk : ∀ x, RP l K n d M Z (pc + 3) lv (.int x :: st) en (bd (g x) k)) : RP l K n d M Z pc lv stk en (bd (bd f g) k) := by
  intro σ r σ' q
  obtain ⟨x, σ1, q1, q2⟩ := bd2_some q
  exact rw_callS hM hv hl hdd hn hst hW hd q1 (kk x σ1 r σ' q2)
theorem rp_callVz {α : Type} {g : Bool → PP α} {k : α → PP ρ} {M' : MI} {ps idx d' b cl : Nat} {stk : List Value} {f : PP Bool} (As : List Value) (hM : CT l K n d' M' (.ref (K.2.1 + b) :: As) enZ f) (hv : CV M' ps) (hl : Cond.methodLink M.1 idx M'.2.1 ∈ lg) (hdd : d' + 1 ≤ d) (hob : ob b cl) (hcl : cl < 100) (hcn : (cl0[cl]?).map (fun q => q.1) = some M'.2.1.cls) (hn : As.length = ps) (hst : stk = As.reverse ++ .ref (K.2.1 + b) :: st) (hW : (st.map fun v => v.category).sum ≤ 8) (hd : decode M.2.2.1 pc = .ok (.invokevirtual idx, 3)) (kk : ∀ x, RP l K n d M Z (pc + 3) lv (.int (b2i x) :: st) en (bd (g x) k)) : RP l K n d M Z pc lv stk en (bd (bd f g) k) := by
  intro σ r σ' q
  obtain ⟨x, σ1, q1, q2⟩ := bd2_some q
  exact rw_callV hM hv hl hdd hob hcl hcn hn hst hW hd q1 (kk x σ1 r σ' q2)
theorem rp_callSz {α : Type} {g : Bool → PP α} {k : α → PP ρ} {M' : MI} {ps idx d' : Nat} {stk : List Value} {f : PP Bool} (As : List Value) (hM : CT l K n d' M' As enZ f) (hv : CS M' ps) (hl : Cond.methodLink M.1 idx M'.2.1 ∈ lg) (hdd : d' + 1 ≤ d) (hn : As.length = ps) (hst : stk = As.reverse ++ st) (hW : (st.map fun v => v.category).sum ≤ 8) (hd : decode M.2.2.1 pc = .ok (.invokestatic idx, 3)) (kk : ∀ x, RP l K n d M Z (pc + 3) lv (.int (b2i x) :: st) en (bd (g x) k)) : RP l K n d M Z pc lv stk en (bd (bd f g) k) := by
  intro σ r σ' q
  obtain ⟨x, σ1, q1, q2⟩ := bd2_some q
  exact rw_callS hM hv hl hdd hn hst hW hd q1 (kk x σ1 r σ' q2)
theorem rp_callVl {α : Type} {g : Int64 → PP α} {k : α → PP ρ} {M' : MI} {ps idx d' b cl : Nat} {stk : List Value} {f : PP Int64} (As : List Value) (hM : CT l K n d' M' (.ref (K.2.1 + b) :: As) enL f) (hv : CV M' ps) (hl : Cond.methodLink M.1 idx M'.2.1 ∈ lg) (hdd : d' + 1 ≤ d) (hob : ob b cl) (hcl : cl < 100) (hcn : (cl0[cl]?).map (fun q => q.1) = some M'.2.1.cls) (hn : As.length = ps) (hst : stk = As.reverse ++ .ref (K.2.1 + b) :: st) (hW : (st.map fun v => v.category).sum ≤ 8) (hd : decode M.2.2.1 pc = .ok (.invokevirtual idx, 3)) (kk : ∀ x, RP l K n d M Z (pc + 3) lv (.long x :: st) en (bd (g x) k)) : RP l K n d M Z pc lv stk en (bd (bd f g) k) := by
  intro σ r σ' q
  obtain ⟨x, σ1, q1, q2⟩ := bd2_some q
  exact rw_callV hM hv hl hdd hob hcl hcn hn hst hW hd q1 (kk x σ1 r σ' q2)
theorem rp_callSl {α : Type} {g : Int64 → PP α} {k : α → PP ρ} {M' : MI} {ps idx d' : Nat} {stk : List Value} {f : PP Int64} (As : List Value) (hM : CT l K n d' M' As enL f) (hv : CS M' ps) (hl : Cond.methodLink M.1 idx M'.2.1 ∈ lg) (hdd : d' + 1 ≤ d) (hn : As.length = ps) (hst : stk = As.reverse ++ st) (hW : (st.map fun v => v.category).sum ≤ 8) (hd : decode M.2.2.1 pc = .ok (.invokestatic idx, 3)) (kk : ∀ x, RP l K n d M Z (pc + 3) lv (.long x :: st) en (bd (g x) k)) : RP l K n d M Z pc lv stk en (bd (bd f g) k) := by
  intro σ r σ' q
  obtain ⟨x, σ1, q1, q2⟩ := bd2_some q
  exact rw_callS hM hv hl hdd hn hst hW hd q1 (kk x σ1 r σ' q2)
theorem rp_callVv {α : Type} {g : Unit → PP α} {k : α → PP ρ} {M' : MI} {ps idx d' b cl : Nat} {stk : List Value} {f : PP Unit} (As : List Value) (hM : CT l K n d' M' (.ref (K.2.1 + b) :: As) enU f) (hv : CV M' ps) (hl : Cond.methodLink M.1 idx M'.2.1 ∈ lg) (hdd : d' + 1 ≤ d) (hob : ob b cl) (hcl : cl < 100) (hcn : (cl0[cl]?).map (fun q => q.1) = some M'.2.1.cls) (hn : As.length = ps) (hst : stk = As.reverse ++ .ref (K.2.1 + b) :: st) (hW : (st.map fun v => v.category).sum ≤ 8) (hd : decode M.2.2.1 pc = .ok (.invokevirtual idx, 3)) (kk : ∀ x, RP l K n d M Z (pc + 3) lv (st) en (bd (g x) k)) : RP l K n d M Z pc lv stk en (bd (bd f g) k) := by
  intro σ r σ' q
  obtain ⟨x, σ1, q1, q2⟩ := bd2_some q
  exact rw_callV hM hv hl hdd hob hcl hcn hn hst hW hd q1 (kk x σ1 r σ' q2)
theorem rp_callSv {α : Type} {g : Unit → PP α} {k : α → PP ρ} {M' : MI} {ps idx d' : Nat} {stk : List Value} {f : PP Unit} (As : List Value) (hM : CT l K n d' M' As enU f) (hv : CS M' ps) (hl : Cond.methodLink M.1 idx M'.2.1 ∈ lg) (hdd : d' + 1 ≤ d) (hn : As.length = ps) (hst : stk = As.reverse ++ st) (hW : (st.map fun v => v.category).sum ≤ 8) (hd : decode M.2.2.1 pc = .ok (.invokestatic idx, 3)) (kk : ∀ x, RP l K n d M Z (pc + 3) lv (st) en (bd (g x) k)) : RP l K n d M Z pc lv stk en (bd (bd f g) k) := by
  intro σ r σ' q
  obtain ⟨x, σ1, q1, q2⟩ := bd2_some q
  exact rw_callS hM hv hl hdd hn hst hW hd q1 (kk x σ1 r σ' q2)
/-! ===== returns ===== -/
theorem rp_iret {x : Int32} (hr : M.2.2.2.2 = some .int) (hd : decode M.2.2.1 pc = .ok (.ireturn, 1)) : RP l K n d M (Z0 K n) pc lv [.int x] enI (pu x) := by
  intro σ r σ' q p e R s m args below meth c C H locs ls hP hS hl
  cases q
  exact W.iret (hlocks := C.2.2.2.2.2.2.1) C.1 C.2.1 (C.2.2.1.trans hr) (fun t ht hW => ⟨⟨_, _, rfl, ⟨rfl, rfl⟩, by rw [ht]; exact hP⟩, hS.F ht⟩) hS.2.2 hd
theorem rp_zret {x : Int32} (hr : M.2.2.2.2 = some .boolean) (hd : decode M.2.2.1 pc = .ok (.ireturn, 1)) : RP l K n d M (Z0 K n) pc lv [.int x] enZ (zb x) := by
  intro σ r σ' q p e R s m args below meth c C H locs ls hP hS hl
  unfold zb at q
  by_cases h0 : x = 0
  · subst h0
    cases q
    exact W.zret (hlocks := C.2.2.2.2.2.2.1) C.1 C.2.1 (C.2.2.1.trans hr) rfl (fun t ht hW => ⟨⟨_, _, rfl, ⟨rfl, rfl⟩, by rw [ht]; exact hP⟩, hS.F ht⟩) hS.2.2 hd
  · by_cases h1 : x = 1
    · subst h1
      cases q
      exact W.zret (hlocks := C.2.2.2.2.2.2.1) C.1 C.2.1 (C.2.2.1.trans hr) rfl (fun t ht hW => ⟨⟨_, _, rfl, ⟨rfl, rfl⟩, by rw [ht]; exact hP⟩, hS.F ht⟩) hS.2.2 hd
    · rw [if_neg h0, if_neg h1] at q
      cases q
theorem rp_lret {x : Int64} (hr : M.2.2.2.2 = some .long) (hd : decode M.2.2.1 pc = .ok (.lreturn, 1)) : RP l K n d M (Z0 K n) pc lv [.long x] enL (pu x) := by
  intro σ r σ' q p e R s m args below meth c C H locs ls hP hS hl
  cases q
  exact W.lret (hlocks := C.2.2.2.2.2.2.1) C.1 C.2.1 (C.2.2.1.trans hr) (fun t ht hW => ⟨⟨_, _, rfl, ⟨rfl, rfl⟩, by rw [ht]; exact hP⟩, hS.F ht⟩) hS.2.2 hd
theorem rp_vret {x : Unit} (hr : M.2.2.2.2 = none) (hd : decode M.2.2.1 pc = .ok (.return_, 1)) : RP l K n d M (Z0 K n) pc lv [] enU (pu x) := by
  intro σ r σ' q p e R s m args below meth c C H locs ls hP hS hl
  cases q
  exact W.vret (hlocks := C.2.2.2.2.2.2.1) C.1 C.2.1 (C.2.2.1.trans hr) (fun t ht hW => ⟨⟨_, _, rfl, ⟨rfl, rfl⟩, by rw [ht]; exact hP⟩, hS.F ht⟩) hS.2.2 hd
end RPH
end
section
def FU : Nat := 10000
theorem mp {i : Nat} {q : MethodName × Nat} (h : lw_privs[i]? = some q) : Cond.selects q.1.cls q.1 q.1 ∈ lg := by
  refine List.mem_filter.mpr ⟨List.mem_append_left _ (List.mem_map.mpr ⟨q, List.mem_of_getElem? h, rfl⟩), rfl⟩
theorem arr4 {a m : Nat} {i : Int32} (h : ar a 4 m) (hb : ib i m = true) : ob (rf a i.toNatClampNeg) 4 := by
  have := rf_arr4 a h.1 (by rw [h.2]) i.toNatClampNeg (by rw [h.2]; unfold ib at hb; simp only [Bool.and_eq_true, decide_eq_true_eq] at hb; exact hb.2)
  exact this
theorem arr5 {a m : Nat} {i : Int32} (h : ar a 5 m) (hb : ib i m = true) : ob (rf a i.toNatClampNeg) 1 := by
  have := rf_arr5 a h.1 (by rw [h.2]) i.toNatClampNeg (by rw [h.2]; unfold ib at hb; simp only [Bool.and_eq_true, decide_eq_true_eq] at hb; exact hb.2)
  exact this
theorem arr6 {a m : Nat} {i : Int32} (h : ar a 6 m) (hb : ib i m = true) : ar (rf a i.toNatClampNeg) 0 5 := by
  have := rf_arr6 a h.1 (by rw [h.2]) i.toNatClampNeg (by rw [h.2]; unfold ib at hb; simp only [Bool.and_eq_true, decide_eq_true_eq] at hb; exact hb.2)
  exact this
def nn (o : Option (Fin 23)) : PP (Fin 23) := fun σ => match o with
  | some x => some (x, σ)
  | none => none
def rnk : List Int32 := [2, 3, 0, 1]
def aR (i : Int32) : PP Int32 := fun σ => if ib i 4 = true then some (rnk.getD i.toNatClampNeg 0, σ) else none
def aW (i : Int32) : PP (Fin 23) := fun σ => if h : i.toNatClampNeg < 23 then (if ¬ i < 0 then some (⟨i.toNatClampNeg, h⟩, σ) else none) else none
def cpf {α : Type} (f : Nat → Nat → α) (a b n : Nat) : Nat → Nat → α := fun x j => if x = b ∧ j < n then f a j else f x j
def cpI (a b n : Nat) : PP Unit := fun σ => some ((), (cpf σ.1 a b n, σ.2))
def cpL (a b n : Nat) : PP Unit := fun σ => some ((), (σ.1, cpf σ.2.1 a b n, σ.2.2))
def tsw {α : Type} (x : Int32) : List Int32 → List (PP α) → PP α → PP α
  | c :: r, t :: z, d => if x = c then t else tsw x r z d
  | _, _, d => d
theorem tsw_out {α : Type} {x : Int32} {d : PP α} : ∀ {cs : List Int32} {ts : List (PP α)}, (∀ c ∈ cs, x ≠ c) → tsw x cs ts d = d
  | [], ts, _ => by unfold tsw; rfl
  | c :: r, [], _ => by unfold tsw; rfl
  | c :: r, t :: z, h => by
    show (if x = c then t else tsw x r z d) = d
    rw [if_neg (h c List.mem_cons_self)]
    exact tsw_out (fun q hq => h q (List.mem_cons_of_mem _ hq))
theorem tsw_in {α : Type} {x : Int32} {d t : PP α} : ∀ {cs : List Int32} {ts : List (PP α)} {i : Nat}, cs[i]? = some x → ts[i]? = some t → (∀ (j : Nat) (c : Int32), j < i → cs[j]? = some c → x ≠ c) → tsw x cs ts d = t
  | [], ts, i, h, _, _ => by simp at h
  | c :: r, [], i, _, h, _ => by simp at h
  | c :: r, t0 :: z, 0, h, h2, _ => by
    simp at h h2
    subst h
    subst h2
    show (if c = c then t0 else _) = t0
    rw [if_pos rfl]
  | c :: r, t0 :: z, i + 1, h, h2, hn => by
    show (if x = c then t0 else tsw x r z d) = t
    rw [if_neg (hn 0 c (Nat.succ_pos i) rfl)]
    exact tsw_in (i := i) (by simpa using h) (by simpa using h2) (fun j q hj hz => hn (j + 1) q (Nat.succ_lt_succ hj) (by simpa using hz))
def tchk (pc : Nat) (dflt lo hi : Int) (offs : Array Int) (cs : List Int32) (tgs : List Nat) (td : Nat) : Bool := decide (hi = lo + cs.length - 1) && (decide ((pc : Int) + dflt = td) && (decide (tgs.length = cs.length) && (List.range cs.length).all (fun i => decide ((cs.getD i 0).toInt = lo + i) && (match offs[i]? with
  | some o => decide ((pc : Int) + o = tgs.getD i 0)
  | none => false))))
section RPM
variable {ρ : Type} {l : Launch} {K : KK} {n d : Nat} {M : MI} {Z : ZZ} {pc : Nat} {lv : List (Nat × Value)} {st : List Value} {en : ρ → Option Value}
theorem CT.of2 {t : PP ρ} {av : List Value} {lv2 : List (Nat × Value)} (hy : plainName M.2.1.cls = true) (ho : M.1 = M.2.1.cls) (hn : 270 ≤ n) (hL : (lg_sl av).length ≤ M.2.2.2.1) (e : lv_args 0 av = lv2) (h : RP l K n d M (Z0 K n) 0 lv2 [] en t) : CT l K n d M av en t := CT.of hy ho hn hL (by rw [e]; exact h)
theorem rp_join2 {β1 β2 : Type} {r : PP (β1 ⊕ β2)} {α : Type} {f1 : β1 → PP α} {f2 : β2 → PP α} {k : α → PP ρ} (p1 : Nat) (lv1 : β1 → List (Nat × Value)) (st1 : β1 → List Value) (p2 : Nat) (lv2 : β2 → List (Nat × Value)) (st2 : β2 → List Value) (h1 : ∀ v, RP l K n d M Z p1 (lv1 v) (st1 v) en (bd (f1 v) k)) (h2 : ∀ v, RP l K n d M Z p2 (lv2 v) (st2 v) en (bd (f2 v) k)) (hr : (∀ v, RP l K n d M Z p1 (lv1 v) (st1 v) en (bd (f1 v) k)) → (∀ v, RP l K n d M Z p2 (lv2 v) (st2 v) en (bd (f2 v) k)) → RP l K n d M Z pc lv st en (bd r (fun x => bd (Sum.elim f1 f2 x) k))) : RP l K n d M Z pc lv st en (bd r (fun x => bd (Sum.elim f1 f2 x) k)) := hr h1 h2
theorem rp_join3 {β1 β2 β3 : Type} {r : PP (β1 ⊕ (β2 ⊕ β3))} {α : Type} {f1 : β1 → PP α} {f2 : β2 → PP α} {f3 : β3 → PP α} {k : α → PP ρ} (p1 : Nat) (lv1 : β1 → List (Nat × Value)) (st1 : β1 → List Value) (p2 : Nat) (lv2 : β2 → List (Nat × Value)) (st2 : β2 → List Value) (p3 : Nat) (lv3 : β3 → List (Nat × Value)) (st3 : β3 → List Value) (h1 : ∀ v, RP l K n d M Z p1 (lv1 v) (st1 v) en (bd (f1 v) k)) (h2 : ∀ v, RP l K n d M Z p2 (lv2 v) (st2 v) en (bd (f2 v) k)) (h3 : ∀ v, RP l K n d M Z p3 (lv3 v) (st3 v) en (bd (f3 v) k)) (hr : (∀ v, RP l K n d M Z p1 (lv1 v) (st1 v) en (bd (f1 v) k)) → (∀ v, RP l K n d M Z p2 (lv2 v) (st2 v) en (bd (f2 v) k)) → (∀ v, RP l K n d M Z p3 (lv3 v) (st3 v) en (bd (f3 v) k)) → RP l K n d M Z pc lv st en (bd r (fun x => bd (Sum.elim f1 (Sum.elim f2 f3) x) k))) : RP l K n d M Z pc lv st en (bd r (fun x => bd (Sum.elim f1 (Sum.elim f2 f3) x) k)) := hr h1 h2 h3
theorem rp_jn2 {α γ : Type} {f : α → PP γ} {body : (α → PP γ) → PP γ} {k : γ → PP ρ} (pJ : Nat) (lvJ : α → List (Nat × Value)) (stJ : α → List Value) (hk : ∀ v, RP l K n d M Z pJ (lvJ v) (stJ v) en (bd (f v) k)) (hr : (∀ v, RP l K n d M Z pJ (lvJ v) (stJ v) en (bd (f v) k)) → RP l K n d M Z pc lv st en (bd (body f) k)) : RP l K n d M Z pc lv st en (bd (jn f body) k) := hr hk
theorem rp_zretb {x : Int32} (hr : M.2.2.2.2 = some .boolean) (hd : decode M.2.2.1 pc = .ok (.ireturn, 1)) : RP l K n d M (Z0 K n) pc lv [.int x] enZ (bd (zb x) pu) := by rw [bd_pu]; exact rp_zret hr hd
theorem rp_aald6 {α : Type} {f : Unit → PP α} {k : α → PP ρ} {a m : Nat} {i : Int32} (h : ar a 6 m) (hd : decode M.2.2.1 pc = .ok (.aaload, 1)) (kk : ib i m = true → RP l K n d M Z (pc + 1) lv (.ref (K.2.1 + rf a i.toNatClampNeg) :: st) en (bd (f ()) k)) : RP l K n d M Z pc lv (.int i :: .ref (K.2.1 + a) :: st) en (bd (bd (gd (ib i m = true)) f) k) := by
  intro σ r σ' q p e R s me args below meth c C H locs ls hP hS hl
  by_cases hb : ib i m = true
  · have q2 : bd (f ()) k σ = some (r, σ') := by simpa [bd, gd, hb] using q
    have hk := kk hb σ r σ' q2 p e R s me args below meth c C H locs ls hP hS hl
    have hin := ib_in hb
    have hlt : i.toNatClampNeg < m := Nat.not_le.mp fun q => hin (Or.inr q)
    have hc := hP a _ (wl_ar C.nn h)
    exact W.aald (v := .ref (K.2.1 + rf a i.toNatClampNeg)) (ty := .array .int) C.1 C.2.1 hc ((C.k.2 6 _ rfl).1 m (fun j => va_rf (some (K.2.1 + rf a j)))) rfl (fun q => by cases q) (by show ¬ (i < 0 ∨ (arrV _ _ _).slots.size ≤ _); rw [arrV_size]; exact hin) (by show (arrV _ _ _).slots[_]? = _; rw [arrV_read _ _ hlt]; rfl) rfl rfl hd hk
  · simp [bd, gd, hb] at q
theorem ce_oW {σ : MM} {b : Nat} {w : Option (Fin 23)} (hn : b < 271) (hb : b ≠ 1) : ce K (σ.1, σ.2.1, w) b = ce K σ b := by
  unfold ce
  by_cases h : (sh b).1 < 100
  · rw [if_pos h, if_pos h]
    have e2 : ∀ j, j < nfd (sh b).1 → fv K (σ.1, σ.2.1, w) (sh b).1 b j = fv K σ (sh b).1 b j := by
      intro j hj
      unfold fv
      by_cases h0 : fty (sh b).1 j = 0
      · rw [h0]; rfl
      · by_cases h1 : fty (sh b).1 j = 1
        · rw [h1]; rfl
        · by_cases h2 : fty (sh b).1 j = 2
          · rw [h2]; rfl
          · have h5 := fty3 _ h j hj h0 h1 h2
            have : sh b = (5, 0) := by
              have h6 : (sh b).2 = 0 := (show ∀ b, b < 271 → (sh b).1 = 5 → (sh b).2 = 0 by decide +kernel) b hn h5
              exact Prod.ext h5 h6
            exact absurd (sh5 b hn this) hb
    congr 2
    apply List.map_congr_left
    intro j hj
    exact e2 j (List.mem_range.mp hj)
  · rw [if_neg h, if_neg h]
    rfl
theorem shbig : ∀ b, 271 ≤ b → sh b = (0, 0) := by
  intro b h
  unfold sh
  have : shp.length ≤ b := Nat.le_trans (by decide +kernel) h
  simp [List.getD, List.getElem?_eq_none this]
theorem ce_oW2 {σ : MM} {b : Nat} {w : Option (Fin 23)} (hb : b ≠ 1) : ce K (σ.1, σ.2.1, w) b = ce K σ b := by
  by_cases hn : b < 271
  · exact ce_oW hn hb
  · have h := shbig b (by omega)
    unfold ce
    rw [h]
    rw [if_pos (by decide), if_pos (by decide)]
    congr 2
theorem wr_or (w : Option (Fin 23)) : wr K w = .null ∨ ∃ a, wr K w = .ref a := va_re_or _ _
theorem rp_putW {α : Type} {f : Unit → PP α} {k : α → PP ρ} {idx cl j a : Nat} {x : Option (Fin 23)} (hi : FI M.1 idx cl j) (hp : FP cl j (.object "LaundrySky$Word")) (h : ob a cl) (hc : (decide (cl < 100) && decide (fty cl j = 3) && decide (cl = 5) && decide (j = 3)) = true) (hd : decode M.2.2.1 pc = .ok (.putfield idx, 3)) (kk : RP l K n d M Z (pc + 3) lv st en (bd (f ()) k)) : RP l K n d M Z pc lv (wr K x :: .ref (K.2.1 + a) :: st) en (bd (bd (sW x) f) k) := by
  simp only [Bool.and_eq_true, decide_eq_true_eq] at hc
  obtain ⟨⟨⟨hc1, hc2⟩, rfl⟩, rfl⟩ := hc
  have ha : a = 1 := sh5 a (Nat.lt_succ_of_lt h.1) h.2
  intro σ r σ' q
  refine rw_put (σ2 := (σ.1, σ.2.1, x)) hi hp h hc1 ?_ ?_ (fun b _ hb => ce_oW2 (by rw [← ha]; exact hb)) (by rw [fv3 hc2]) (fun i hi2 hij => ?_) hd (kk _ r σ' q)
  · cases x <;> rfl
  · cases x <;> rfl
  · have : ∀ i, i < nfd 5 → i ≠ 3 → fty 5 i = 0 ∨ fty 5 i = 1 ∨ fty 5 i = 2 := by decide +kernel
    rcases this i hi2 hij with e | e | e
    · rw [fv0 e, fv0 e]
    · rw [fv1 e, fv1 e]
    · rw [fv2 e, fv2 e]
theorem rp_getWord {t : PP ρ} {idx : Nat} (w : Fin 23) (hw : Cond.fieldLink M.1 idx eW (wnm.getD w.val "") dW ∈ lg) (hd : decode M.2.2.1 pc = .ok (.getstatic idx, 3)) (k : RP l K n d M Z (pc + 3) lv (wr K (some w) :: st) en t) : RP l K n d M Z pc lv st en t := by
  intro σ r σ' q p e R s m args below meth c C H locs ls hP hS hl
  exact va_gets C.1 C.2.1 (C.ks.1.1 w.val w.isLt).1 hS C.own (C.w hw) (fun _ h => h) hd (k σ r σ' q p e R s m args below meth c C H locs ls hP hS hl)
theorem rp_getGg {α : Type} {f : Fin 23 → PP α} {k : α → PP ρ} {idx : Nat} {o : Option (Fin 23)} (hw : Cond.fieldLink M.1 idx eW "group" "I" ∈ lg) (hd : decode M.2.2.1 pc = .ok (.getfield idx, 3)) (kk : ∀ x : Fin 23, RP l K n d M Z (pc + 3) lv (.int (wgr.getD x.val 0) :: st) en (bd (f x) k)) : RP l K n d M Z pc lv (wr K o :: st) en (bd (bd (nn o) f) k) := by
  intro σ r σ' q p e R s m args below meth c C H locs ls hP hS hl
  cases o with
  | none => cases q
  | some w => exact va_getE C.1 C.2.1 C.ks.1 w.isLt hS C.own (q := (eW, "group", "I", wgr)) List.mem_cons_self (C.w hw) (fun _ h => h) hd (kk w σ r σ' q p e R s m args below meth c C H locs ls hP hS hl)
theorem rp_getGv {α : Type} {f : Fin 23 → PP α} {k : α → PP ρ} {idx : Nat} {o : Option (Fin 23)} (hw : Cond.fieldLink M.1 idx eW "value" "I" ∈ lg) (hd : decode M.2.2.1 pc = .ok (.getfield idx, 3)) (kk : ∀ x : Fin 23, RP l K n d M Z (pc + 3) lv (.int (wva.getD x.val 0) :: st) en (bd (f x) k)) : RP l K n d M Z pc lv (wr K o :: st) en (bd (bd (nn o) f) k) := by
  intro σ r σ' q p e R s m args below meth c C H locs ls hP hS hl
  cases o with
  | none => cases q
  | some w => exact va_getE C.1 C.2.1 C.ks.1 w.isLt hS C.own (q := (eW, "value", "I", wva)) (List.mem_cons_of_mem _ List.mem_cons_self) (C.w hw) (fun _ h => h) hd (kk w σ r σ' q p e R s m args below meth c C H locs ls hP hS hl)
theorem rp_getRanks {t : PP ρ} {idx : Nat} (hw : (M.1, idx, "LaundrySky", "RANKS", "[I") ∈ nwF) (hd : decode M.2.2.1 pc = .ok (.getstatic idx, 3)) (k : RP l K n d M Z (pc + 3) lv (.ref (K.2.2.2 300) :: st) en t) : RP l K n d M Z pc lv st en t := by
  intro σ r σ' q p e R s m args below meth c C H locs ls hP hS hl
  exact va_getsN C.1 C.2.1 C.ks.2.2.2.1 hS C.own (va_Nw.use rfl (C.ks.2.2.2.2.2.2.2.2.2.2.1 _ hw)) (fun _ h => h) hd (k σ r σ' q p e R s m args below meth c C H locs ls hP hS hl)
theorem rp_getAll {t : PP ρ} {idx : Nat} (hw : (M.1, idx, eW, "ALL", "[LLaundrySky$Word;") ∈ nwF) (hd : decode M.2.2.1 pc = .ok (.getstatic idx, 3)) (k : RP l K n d M Z (pc + 3) lv (.ref (K.2.2.2 301) :: st) en t) : RP l K n d M Z pc lv st en t := by
  intro σ r σ' q p e R s m args below meth c C H locs ls hP hS hl
  exact va_getsN C.1 C.2.1 C.ks.2.2.2.2.2.1 hS C.own (va_Nw.use rfl (C.ks.2.2.2.2.2.2.2.2.2.2.1 _ hw)) (fun _ h => h) hd (k σ r σ' q p e R s m args below meth c C H locs ls hP hS hl)
theorem rp_aldRanks {α : Type} {f : Int32 → PP α} {k : α → PP ρ} {i : Int32} (hd : decode M.2.2.1 pc = .ok (.iaload, 1)) (kk : ∀ x, RP l K n d M Z (pc + 1) lv (.int x :: st) en (bd (f x) k)) : RP l K n d M Z pc lv (.int i :: .ref (K.2.2.2 300) :: st) en (bd (bd (aR i) f) k) := by
  intro σ r σ' q p e R s m args below meth c C H locs ls hP hS hl
  by_cases hb : ib i 4 = true
  · have q2 : bd (f (rnk.getD i.toNatClampNeg 0)) k σ = some (r, σ') := by simpa [bd, aR, hb] using q
    exact va_ti C.1 C.2.1 C.ks.2.2.2.2.1 hS (ib_in hb) rfl hd (kk _ σ r σ' q2 p e R s m args below meth c C H locs ls hP hS hl)
  · simp [bd, aR, hb] at q
theorem rp_lenAll {t : PP ρ} (hd : decode M.2.2.1 pc = .ok (.arraylength, 1)) (k : RP l K n d M Z (pc + 1) lv (.int 23 :: st) en t) : RP l K n d M Z pc lv (.ref (K.2.2.2 301) :: st) en t := by
  intro σ r σ' q p e R s m args below meth c C H locs ls hP hS hl
  exact va_tlen C.1 C.2.1 C.ks.2.2.2.2.2.2.1 hS rfl hd (k σ r σ' q p e R s m args below meth c C H locs ls hP hS hl)
theorem rp_aldAll {α : Type} {f : Fin 23 → PP α} {k : α → PP ρ} {i : Int32} (hd : decode M.2.2.1 pc = .ok (.aaload, 1)) (kk : ∀ x, RP l K n d M Z (pc + 1) lv (wr K (some x) :: st) en (bd (f x) k)) : RP l K n d M Z pc lv (.int i :: .ref (K.2.2.2 301) :: st) en (bd (bd (aW i) f) k) := by
  intro σ r σ' q p e R s m args below meth c C H locs ls hP hS hl
  by_cases h1 : i.toNatClampNeg < 23
  · by_cases h2 : i < 0
    · simp [bd, aW, h1, h2] at q
    · have q2 : bd (f ⟨i.toNatClampNeg, h1⟩) k σ = some (r, σ') := by simpa [bd, aW, h1, h2] using q
      exact vb_tq C.1 C.2.1 C.ks.2.2.2.2.2.2.1 hS (fun z => by rcases z with z | z; exact h2 z; omega) rfl hd (kk _ σ r σ' q2 p e R s m args below meth c C H locs ls hP hS hl)
  · simp [bd, aW, h1] at q
theorem wr_inj {p : Program} {R : Room} {s : State} {m : MethodId} {args : Array Value} {meth : Method} {c : Code} (C : CX K n d M Z p R s m args meth c) {x y : Option (Fin 23)} : ((x.map Fin.val).map K.2.2.2 = (y.map Fin.val).map K.2.2.2) ↔ x = y := by
  constructor
  · intro h
    cases x with
    | none => cases y with
      | none => rfl
      | some b => simp at h
    | some a => cases y with
      | none => simp at h
      | some b =>
        simp at h
        have := C.ks.1.2 a.val b.val a.isLt b.isLt h
        rw [Fin.ext this]
  · rintro rfl; rfl
theorem rp_acmp_eq {α : Type} {A B : PP α} {k : α → PP ρ} {x y : Option (Fin 23)} {i : Decidable (x = y)} {off : Int} (tgt : Nat) (hd : decode M.2.2.1 pc = .ok (.if_acmp .eq off, 3)) (ht : (pc : Int) + off = (tgt : Int)) (kt : RP l K n d M Z tgt lv st en (bd A k)) (kf : RP l K n d M Z (pc + 3) lv st en (bd B k)) : RP l K n d M Z pc lv (wr K y :: wr K x :: st) en (bd (@ite _ (x = y) i A B) k) := by
  intro σ r σ' h p e R s m args below meth c C H locs ls hP hS hl
  refine lv_acmp_eq C.1 C.2.1 hd ht (fun q => kt σ r σ' ?_ p e R s m args below meth c C H locs ls hP hS hl) (fun q => kf σ r σ' ?_ p e R s m args below meth c C H locs ls hP hS hl)
  · simpa only [if_pos ((wr_inj C).mp q)] using h
  · simpa only [if_neg (fun z => q ((wr_inj C).mpr z))] using h
theorem rp_acmp_ne {α : Type} {A B : PP α} {k : α → PP ρ} {x y : Option (Fin 23)} {i : Decidable (x = y)} {off : Int} (tgt : Nat) (hd : decode M.2.2.1 pc = .ok (.if_acmp .ne off, 3)) (ht : (pc : Int) + off = (tgt : Int)) (kt : RP l K n d M Z tgt lv st en (bd B k)) (kf : RP l K n d M Z (pc + 3) lv st en (bd A k)) : RP l K n d M Z pc lv (wr K y :: wr K x :: st) en (bd (@ite _ (x = y) i A B) k) := by
  intro σ r σ' h p e R s m args below meth c C H locs ls hP hS hl
  refine lv_acmp_ne C.1 C.2.1 hd ht (fun q => kt σ r σ' ?_ p e R s m args below meth c C H locs ls hP hS hl) (fun q => kf σ r σ' ?_ p e R s m args below meth c C H locs ls hP hS hl)
  · simpa only [if_neg (fun z => q ((wr_inj C).mpr z))] using h
  · simpa only [if_pos ((wr_inj C).mp q)] using h
theorem rp_ifnull {α : Type} {A B : PP α} {k : α → PP ρ} {x : Option (Fin 23)} {i : Decidable (x = none)} {off : Int} (tgt : Nat) (hd : decode M.2.2.1 pc = .ok (.ifnull off, 3)) (ht : (pc : Int) + off = (tgt : Int)) (kt : RP l K n d M Z tgt lv st en (bd A k)) (kf : RP l K n d M Z (pc + 3) lv st en (bd B k)) : RP l K n d M Z pc lv (wr K x :: st) en (bd (@ite _ (x = none) i A B) k) := by
  intro σ r σ' h p e R s m args below meth c C H locs ls hP hS hl
  cases x with
  | none => exact lv_ifnullN C.1 C.2.1 hd ht (kt σ r σ' (by simpa using h) p e R s m args below meth c C H locs ls hP hS hl)
  | some w => exact lv_ifnull C.1 C.2.1 hd (kf σ r σ' (by simpa using h) p e R s m args below meth c C H locs ls hP hS hl)
theorem rp_ifnonnull {α : Type} {A B : PP α} {k : α → PP ρ} {x : Option (Fin 23)} {i : Decidable (x = none)} {off : Int} (tgt : Nat) (hd : decode M.2.2.1 pc = .ok (.ifnonnull off, 3)) (ht : (pc : Int) + off = (tgt : Int)) (kt : RP l K n d M Z tgt lv st en (bd B k)) (kf : RP l K n d M Z (pc + 3) lv st en (bd A k)) : RP l K n d M Z pc lv (wr K x :: st) en (bd (@ite _ (x = none) i A B) k) := by
  intro σ r σ' h p e R s m args below meth c C H locs ls hP hS hl
  cases x with
  | none => exact lv_ifnonnullN C.1 C.2.1 hd (kf σ r σ' (by simpa using h) p e R s m args below meth c C H locs ls hP hS hl)
  | some w => exact lv_ifnonnull C.1 C.2.1 hd ht (kt σ r σ' (by simpa using h) p e R s m args below meth c C H locs ls hP hS hl)
def RPL {α : Type} (l : Launch) (K : KK) (n d : Nat) (M : MI) (Z : ZZ) (lv : List (Nat × Value)) (st : List Value) (en : ρ → Option Value) (k : α → PP ρ) : List Nat → List (PP α) → Prop
  | tg :: r, t :: z => RP l K n d M Z tg lv st en (bd t k) ∧ RPL l K n d M Z lv st en k r z
  | _, _ => True
theorem RPL.at {α : Type} {k : α → PP ρ} : ∀ {tgs : List Nat} {ts : List (PP α)} {i : Nat} {t : PP α} {tg : Nat}, RPL l K n d M Z lv st en k tgs ts → ts[i]? = some t → tgs[i]? = some tg → RP l K n d M Z tg lv st en (bd t k)
  | [], ts, i, q, tg, _, _, h2 => by simp at h2
  | t0 :: r, [], i, q, tg, _, h1, _ => by simp at h1
  | t0 :: r, q0 :: z, 0, q, tg, h, h1, h2 => by
    simp at h1 h2
    subst h1
    subst h2
    exact h.1
  | t0 :: r, q0 :: z, i + 1, q, tg, h, h1, h2 => RPL.at (i := i) h.2 (by simpa using h1) (by simpa using h2)
theorem rp_tsw {α : Type} {cs : List Int32} {ts : List (PP α)} {B : PP α} {k : α → PP ρ} {x : Int32} {dflt lo hi : Int} {offs : Array Int} {len : Nat} (tgs : List Nat) (td : Nat) (hd : decode M.2.2.1 pc = .ok (.tableswitch dflt lo hi offs, len)) (hcs : ts.length = cs.length) (hc : tchk pc dflt lo hi offs cs tgs td = true) (ht : RPL l K n d M Z lv st en k tgs ts) (kd : RP l K n d M Z td lv st en (bd B k)) : RP l K n d M Z pc lv (.int x :: st) en (bd (tsw x cs ts B) k) := by
  intro σ r σ' h p e R s m args below meth c C H locs ls hP hS hl
  unfold tchk at hc
  simp only [Bool.and_eq_true, decide_eq_true_eq, List.all_eq_true, List.mem_range] at hc
  obtain ⟨h1, h2, h3, h4⟩ := hc
  have hat : ∀ i q, cs[i]? = some q → i < cs.length ∧ q.toInt = lo + i := by
    intro i q hq
    have hi2 : i < cs.length := (List.getElem?_eq_some_iff.mp hq).1
    refine ⟨hi2, ?_⟩
    have h5 := (h4 i hi2).1
    rw [List.getD_eq_getElem?_getD, hq] at h5
    exact h5
  by_cases hx : x.toInt < lo ∨ hi < x.toInt
  · have e1 : tsw x cs ts B = B := tsw_out (fun q hq => by
      obtain ⟨i, hi⟩ := List.getElem?_of_mem hq
      obtain ⟨g1, g2⟩ := hat i q hi
      intro ex
      rw [ex, g2] at hx
      omega)
    rw [e1] at h
    exact lv_tableOut C.1 C.2.1 hd hx h2 (kd σ r σ' h p e R s m args below meth c C H locs ls hP hS hl)
  · have hx1 : ¬ x.toInt < lo := fun z => hx (Or.inl z)
    have hx2 : ¬ hi < x.toInt := fun z => hx (Or.inr z)
    have hi : (x.toInt - lo).toNat < cs.length := by omega
    obtain ⟨q, hq⟩ : ∃ q, cs[(x.toInt - lo).toNat]? = some q := ⟨_, List.getElem?_eq_getElem hi⟩
    obtain ⟨t, hq2⟩ : ∃ t, ts[(x.toInt - lo).toNat]? = some t := ⟨_, List.getElem?_eq_getElem (by omega)⟩
    obtain ⟨g1, g2⟩ := hat _ q hq
    have hqx : q = x := Int32.toInt_inj.mp (by omega)
    have e1 : tsw x cs ts B = t := tsw_in (i := (x.toInt - lo).toNat) (by rw [hq, hqx]) hq2 (fun j z hj hz ex => by
      obtain ⟨_, f2⟩ := hat j z hz
      rw [← ex] at f2
      omega)
    rw [e1] at h
    have h6 := (h4 _ g1).2
    cases ho : offs[(x.toInt - lo).toNat]? with
    | none => rw [ho] at h6; cases h6
    | some off =>
      rw [ho] at h6
      simp only [decide_eq_true_eq] at h6
      have htg : tgs[(x.toInt - lo).toNat]? = some (tgs.getD (x.toInt - lo).toNat 0) := by
        rw [List.getD_eq_getElem?_getD, List.getElem?_eq_getElem (by omega)]
        rfl
      exact lv_tableIn C.1 C.2.1 hd hx1 hx2 ho h6 (RPL.at ht hq2 htg σ r σ' h p e R s m args below meth c C H locs ls hP hS hl)
theorem arcp : (Cond.native arraycopyName ∈ lg) ∧ (Cond.static arraycopyName ∈ lg) ∧ (Cond.initialized "java/lang/System" ∈ lg) := ⟨mw (i := 725) (by decide +kernel), mw (i := 724) (by decide +kernel), mw (i := 22) (by decide +kernel)⟩
theorem nfw : nativeFrameWords "java/lang/System" "arraycopy" 5 + 11 ≤ 24 := by decide +kernel
theorem rp_cpI {α : Type} {f : Unit → PP α} {k : α → PP ρ} {a b n0 n1 idx : Nat} (m : Nat) (ha : ar a 0 n0) (hb : ar b 0 n1) (h0 : m ≤ n0) (h1 : m ≤ n1) (hm : (Int32.ofNat m).toNatClampNeg = m ∧ ¬ Int32.ofNat m < 0) (hw : Cond.methodLink M.1 idx arraycopyName ∈ lg) (hd1 : 1 ≤ d) (hW : (st.map fun v => v.category).sum ≤ 8) (hd : decode M.2.2.1 pc = .ok (.invokestatic idx, 3)) (kk : RP l K n d M Z (pc + 3) lv st en (bd (f ()) k)) : RP l K n d M Z pc lv (.int (Int32.ofNat m) :: .int 0 :: .ref (K.2.1 + b) :: .int 0 :: .ref (K.2.1 + a) :: st) en (bd (bd (cpI a b m) f) k) := by
  intro σ r σ' q p e R s me args below meth c C H locs ls hP hS hl
  have hbn : b < n := Nat.lt_of_lt_of_le hb.1 C.nn
  have hR := C.2.2.2.2.2.2.2.2.1
  have z0 : (0 : Int32).toNatClampNeg = 0 := rfl
  refine va_copyi (ty := .int) C.1 C.2.1 (C.2.2.2.1.trans hl.1.symm) C.own (C.w hw) (C.w arcp.1) (C.w arcp.2.1) (C.w arcp.2.2) C.k hP (wl_D K n σ) hS a b 0 0 (wl_ar C.nn ha) (wl_ar C.nn hb) rfl rfl rfl (by decide) (by decide) hm.2 (by rw [z0, hm.1]; omega) (by rw [z0, hm.1]; omega) (fun i _ => rfl) (Nat.le_trans hd1 hR.1) (by have := nfw; have := hR.2.1; omega) hd (fun H1 locs1 hP1 hD1 hS1 => ?_)
  rw [wl_set (σ' := (cpf σ.1 a b m, σ.2)) hbn (by
    rw [ce_ar hb]
    unfold ca
    simp only [hm.1, z0]
    congr 4
    funext j
    simp [cpf, va_cpy]) (fun b2 _ hb2 => by
      have e : ∀ j, cpf σ.1 a b m b2 j = σ.1 b2 j := fun j => by simp [cpf, hb2]
      have e2 : ∀ c : Nat, fv K (cpf σ.1 a b m, σ.2) c b2 = fv K σ c b2 := fun c => by
        funext j
        unfold fv
        simp only [e]
      unfold ce ca
      simp only [e, e2])] at hP1
  exact kk _ r σ' q p e R s me args below meth c C H1 locs1 ls hP1 hS1 hl
theorem rp_cpL {α : Type} {f : Unit → PP α} {k : α → PP ρ} {a b n0 n1 idx : Nat} (m : Nat) (ha : ar a 1 n0) (hb : ar b 1 n1) (h0 : m ≤ n0) (h1 : m ≤ n1) (hm : (Int32.ofNat m).toNatClampNeg = m ∧ ¬ Int32.ofNat m < 0) (hw : Cond.methodLink M.1 idx arraycopyName ∈ lg) (hd1 : 1 ≤ d) (hW : (st.map fun v => v.category).sum ≤ 8) (hd : decode M.2.2.1 pc = .ok (.invokestatic idx, 3)) (kk : RP l K n d M Z (pc + 3) lv st en (bd (f ()) k)) : RP l K n d M Z pc lv (.int (Int32.ofNat m) :: .int 0 :: .ref (K.2.1 + b) :: .int 0 :: .ref (K.2.1 + a) :: st) en (bd (bd (cpL a b m) f) k) := by
  intro σ r σ' q p e R s me args below meth c C H locs ls hP hS hl
  have hbn : b < n := Nat.lt_of_lt_of_le hb.1 C.nn
  have hR := C.2.2.2.2.2.2.2.2.1
  have z0 : (0 : Int32).toNatClampNeg = 0 := rfl
  refine va_copyl (ty := .long) C.1 C.2.1 (C.2.2.2.1.trans hl.1.symm) C.own (C.w hw) (C.w arcp.1) (C.w arcp.2.1) (C.w arcp.2.2) C.k hP (wl_D K n σ) hS a b 1 1 (wl_ar C.nn ha) (wl_ar C.nn hb) rfl rfl rfl (by decide) (by decide) hm.2 (by rw [z0, hm.1]; omega) (by rw [z0, hm.1]; omega) (fun i _ => rfl) (Nat.le_trans hd1 hR.1) (by have := nfw; have := hR.2.1; omega) hd (fun H1 locs1 hP1 hD1 hS1 => ?_)
  rw [wl_set (σ' := (σ.1, cpf σ.2.1 a b m, σ.2.2)) hbn (by
    rw [ce_ar hb]
    unfold ca
    simp only [hm.1, z0]
    congr 5
    funext j
    simp [cpf, va_cpy]) (fun b2 _ hb2 => by
      have e : ∀ j, cpf σ.2.1 a b m b2 j = σ.2.1 b2 j := fun j => by simp [cpf, hb2]
      have e2 : ∀ c : Nat, fv K (σ.1, cpf σ.2.1 a b m, σ.2.2) c b2 = fv K σ c b2 := fun c => by
        funext j
        unfold fv
        simp only [e]
      unfold ce ca
      simp only [e, e2])] at hP1
  exact kk _ r σ' q p e R s me args below meth c C H1 locs1 ls hP1 hS1 hl
end RPM
section RPX
variable {ρ : Type} {l : Launch} {K : KK} {n d : Nat} {M : MI} {Z : ZZ} {pc : Nat} {lv : List (Nat × Value)} {st : List Value} {en : ρ → Option Value}
theorem mp2 {i : Nat} {y : MethodName} (k : Nat) (h : lw_privs[i]? = some (y, k)) : Cond.selects y.cls y y ∈ lg := mp h
theorem mxw : (Cond.static Lib.Math.max.name ∈ lg) ∧ (Cond.initialized "java/lang/Math" ∈ lg) ∧ (Cond.code Lib.Math.max.name Lib.Math.max.code 2 (some .int) ∈ lg) := ⟨mw (i := 535) (by decide +kernel), mw (i := 19) (by decide +kernel), mw (i := 536) (by decide +kernel)⟩
theorem mnw : (Cond.static Lib.Math.min.name ∈ lg) ∧ (Cond.initialized "java/lang/Math" ∈ lg) ∧ (Cond.code Lib.Math.min.name Lib.Math.min.code 2 (some .int) ∈ lg) := ⟨mw (i := 538) (by decide +kernel), mw (i := 19) (by decide +kernel), mw (i := 539) (by decide +kernel)⟩
theorem rp_mmax {t : PP ρ} {idx : Nat} {x y : Int32} (hw : Cond.methodLink M.1 idx Lib.Math.max.name ∈ lg) (hd1 : 1 ≤ d) (hW : (st.map fun v => v.category).sum ≤ 8) (hd : decode M.2.2.1 pc = .ok (.invokestatic idx, 3)) (k : RP l K n d M Z (pc + 3) lv (.int (if x < y then y else x) :: st) en t) : RP l K n d M Z pc lv (.int y :: .int x :: st) en t := by
  intro σ r σ' q p e R s m args below meth c C H locs ls hP hS hl
  have hR := C.2.2.2.2.2.2.2.2.1
  exact va_mmax C.1 C.2.1 (C.2.2.2.1.trans hl.1.symm) C.own (C.w hw) (C.w mxw.1) (C.w mxw.2.1) (C.w mxw.2.2) (Nat.le_trans hd1 hR.1) (by have := hR.2.1; omega) hR.2.2.1 hR.2.2.2 hd (k σ r σ' q p e R s m args below meth c C H locs ls hP hS hl)
theorem rp_mmin {t : PP ρ} {idx : Nat} {x y : Int32} (hw : Cond.methodLink M.1 idx Lib.Math.min.name ∈ lg) (hd1 : 1 ≤ d) (hW : (st.map fun v => v.category).sum ≤ 8) (hd : decode M.2.2.1 pc = .ok (.invokestatic idx, 3)) (k : RP l K n d M Z (pc + 3) lv (.int (if y < x then y else x) :: st) en t) : RP l K n d M Z pc lv (.int y :: .int x :: st) en t := by
  intro σ r σ' q p e R s m args below meth c C H locs ls hP hS hl
  have hR := C.2.2.2.2.2.2.2.2.1
  exact va_mmin C.1 C.2.1 (C.2.2.2.1.trans hl.1.symm) C.own (C.w hw) (C.w mnw.1) (C.w mnw.2.1) (C.w mnw.2.2) (Nat.le_trans hd1 hR.1) (by have := hR.2.1; omega) hR.2.2.1 hR.2.2.2 hd (k σ r σ' q p e R s m args below meth c C H locs ls hP hS hl)
end RPX
section RPN
variable {ρ : Type} {l : Launch} {K : KK} {n d : Nat} {M : MI} {Z : ZZ} {pc : Nat} {lv : List (Nat × Value)} {st : List Value} {en : ρ → Option Value}
/-- a private method of a nest mate, void -/
theorem rp_callVNv {α : Type} {g : Unit → PP α} {k : α → PP ρ} {M' : MI} {ps idx d' b cl : Nat} {stk : List Value} {f : PP Unit} (As : List Value) (hM : CT l K n d' M' (.ref (K.2.1 + b) :: As) enU f) (hv : CV M' ps) (hl : (M.1, idx, M'.2.1) ∈ nwM) (hdd : d' + 1 ≤ d) (hob : ob b cl) (hcl : cl < 100) (hcn : (cl0[cl]?).map (fun q => q.1) = some M'.2.1.cls) (hn : As.length = ps) (hst : stk = As.reverse ++ .ref (K.2.1 + b) :: st) (hW : (st.map fun v => v.category).sum ≤ 8) (hd : decode M.2.2.1 pc = .ok (.invokevirtual idx, 3)) (kk : ∀ x, RP l K n d M Z (pc + 3) lv (st) en (bd (g x) k)) : RP l K n d M Z pc lv stk en (bd (bd f g) k) := by
  intro σ r σ' q
  obtain ⟨x, σ1, q1, q2⟩ := bd2_some q
  subst hst
  intro p e R s m args below meth c C H locs ls hP hS hl2
  obtain ⟨cq, hc1, hc2⟩ : ∃ q, cl0[cl]? = some q ∧ q.1 = M'.2.1.cls := by
    cases h : cl0[cl]? with
    | none => rw [h] at hcn; cases hcn
    | some q => rw [h] at hcn; exact ⟨q, rfl, Option.some.inj hcn⟩
  have hrecv := va_recv C.k hP hc1 (wl_ob C.nn hob hcl)
  rw [hc2] at hrecv
  have hR := C.2.2.2.2.2.2.2.2.1
  have hcn2 : va_CN R s args M.1 idx M'.2.1 "LaundrySky" M'.2.2.1 M'.2.2.2.1 M'.2.2.2.2 (mws M') (rmd d') 0 0 ps := ⟨⟨rfl, rfl, Nat.le_trans hdd hR.1, by have := hv.1.2.2.2; have := hR.2.1; show 8 + (M'.2.2.2.1 + 11) + 32 * d' ≤ R.locals; omega, pay_in C.2.2.2.2.2.1 (good_mws hv.1.1), List.mem_cons_self⟩, C.w hv.1.1, C.w hv.1.2.1, ⟨hv.1.2.2.1.1, hv.1.2.2.1.2.1⟩, fun sig h => by
    have h2 := hv.1.2.2.1.2.2
    rw [h] at h2
    exact (Option.some.inj h2).symm, va_Nw.use rfl (C.ks.2.2.2.2.2.2.2.2.2.2.2 _ hl)⟩
  refine rw_back (av := .ref (K.2.1 + b) :: As) (M' := M') (ps := ps) (idx := idx) (d' := d') (va_runVN (As := As) (rest := st) (nL := M.2.2.2.1) (Ts := mws M) (own := M.1) (C := M'.2.1.cls) ⟨C.1, C.2.1, C.2.2.2.1, C.own, C.2.2.2.2.2.1⟩ (hM σ x σ1 q1) ⟨hcn2, C.w hv.2.1, C.w hv.2.2⟩ ⟨ct_blind, hrecv, fun U hU hW2 => ⟨rfl, C.2.2.2.2.2.2.2.1.mv hS hU hW2, by rw [hU]; exact hP⟩⟩ rfl hn hl2.1 rfl (lv_room hW) hd ⟨hR.2.2.1, hR.2.2.2⟩) C hS hl2 ?_
  rintro v σ2 ⟨rfl, rfl⟩
  exact kk x _ r σ' q2
end RPN
end
section
def aB (i : Nat) (j : Int32) : PP Int32 := fun σ => if ib j (sln.getD i 0) = true then some ((sby.getD i []).getD j.toNatClampNeg 0, σ) else none
section RPT
variable {ρ : Type} {l : Launch} {K : KK} {n d : Nat} {M : MI} {Z : ZZ} {pc : Nat} {lv : List (Nat × Value)} {st : List Value} {en : ρ → Option Value}
theorem rp_fl {α : Type} {k : α → PP ρ} : RP l K n d M Z pc lv st en (bd fl k) := fun σ r σ' q => by cases q
theorem rp_i2b {t : PP ρ} {x : Int32} (hd : decode M.2.2.1 pc = .ok (.i2b, 1)) (k : RP l K n d M Z (pc + 1) lv (.int (x.toInt8.toInt32) :: st) en t) : RP l K n d M Z pc lv (.int x :: st) en t := RP.go (fun p e R s m args below meth c H locs ls Q C hl w => lv_i2b C.1 C.2.1 hd rfl w) k
theorem rp_getVal {t : PP ρ} {idx i : Nat} (hi : i < 24) (hw : Cond.fieldLink M.1 idx "java/lang/String" "value" "[B" ∈ lg) (hd : decode M.2.2.1 pc = .ok (.getfield idx, 3)) (k : RP l K n d M Z (pc + 3) lv (.ref (K.2.2.2 (200 + i)) :: st) en t) : RP l K n d M Z pc lv (.ref (K.2.2.2 (100 + i)) :: st) en t := by
  intro σ r σ' q p e R s m args below meth c C H locs ls hP hS hl
  exact vk_getf C.1 C.2.1 (C.ks.2.2.1.1 i hi).2.2.1 hS C.own (C.w hw) (fun _ h => h) hd (k σ r σ' q p e R s m args below meth c C H locs ls hP hS hl)
theorem rp_getCoder {t : PP ρ} {idx i : Nat} (hi : i < 24) (hw : Cond.fieldLink M.1 idx "java/lang/String" "coder" "B" ∈ lg) (hd : decode M.2.2.1 pc = .ok (.getfield idx, 3)) (k : RP l K n d M Z (pc + 3) lv (.int 0 :: st) en t) : RP l K n d M Z pc lv (.ref (K.2.2.2 (100 + i)) :: st) en t := by
  intro σ r σ' q p e R s m args below meth c C H locs ls hP hS hl
  exact vk_getf C.1 C.2.1 (C.ks.2.2.1.1 i hi).2.1 hS C.own (C.w hw) (fun _ h => h) hd (k σ r σ' q p e R s m args below meth c C H locs ls hP hS hl)
theorem rp_getCompact {t : PP ρ} {idx : Nat} (hw : Cond.fieldLink M.1 idx "java/lang/String" "COMPACT_STRINGS" "Z" ∈ lg) (hd : decode M.2.2.1 pc = .ok (.getstatic idx, 3)) (k : RP l K n d M Z (pc + 3) lv (.int 1 :: st) en t) : RP l K n d M Z pc lv st en t := by
  intro σ r σ' q p e R s m args below meth c C H locs ls hP hS hl
  exact va_gets C.1 C.2.1 C.ks.2.2.2.2.2.2.2.2.1 hS C.own (C.w hw) (fun _ h => h) hd (k σ r σ' q p e R s m args below meth c C H locs ls hP hS hl)
theorem rp_getFmt {t : PP ρ} {idx : Nat} (hw : Cond.fieldLink M.1 idx "jdk/internal/util/Preconditions" "SIOOBE_FORMATTER" "Ljava/util/function/BiFunction;" ∈ lg) (hd : decode M.2.2.1 pc = .ok (.getstatic idx, 3)) (k : ∀ u : Value, (u = .null ∨ ∃ a, u = .ref a) → RP l K n d M Z (pc + 3) lv (u :: st) en t) : RP l K n d M Z pc lv st en t := by
  intro σ r σ' q p e R s m args below meth c C H locs ls hP hS hl
  rcases C.ks.2.2.2.2.2.2.2.2.2.1 with h | ⟨t, h⟩
  · exact va_gets C.1 C.2.1 h hS C.own (C.w hw) (fun _ h => h) hd (k _ (Or.inl rfl) σ r σ' q p e R s m args below meth c C H locs ls hP hS hl)
  · exact va_gets C.1 C.2.1 h hS C.own (C.w hw) (fun _ h => h) hd (k _ (Or.inr ⟨t, rfl⟩) σ r σ' q p e R s m args below meth c C H locs ls hP hS hl)
theorem rp_lenB {t : PP ρ} {i : Nat} (hi : i < 24) (hd : decode M.2.2.1 pc = .ok (.arraylength, 1)) (k : RP l K n d M Z (pc + 1) lv (.int (Int32.ofNat (sln.getD i 0)) :: st) en t) : RP l K n d M Z pc lv (.ref (K.2.2.2 (200 + i)) :: st) en t := by
  intro σ r σ' q p e R s m args below meth c C H locs ls hP hS hl
  exact va_tlen C.1 C.2.1 (C.ks.2.2.1.1 i hi).2.2.2 hS rfl hd (k σ r σ' q p e R s m args below meth c C H locs ls hP hS hl)
theorem rp_aldB {α : Type} {f : Int32 → PP α} {k : α → PP ρ} {i : Nat} {j : Int32} (hi : i < 24) (hd : decode M.2.2.1 pc = .ok (.baload, 1)) (kk : ∀ x, RP l K n d M Z (pc + 1) lv (.int x :: st) en (bd (f x) k)) : RP l K n d M Z pc lv (.int j :: .ref (K.2.2.2 (200 + i)) :: st) en (bd (bd (aB i j) f) k) := by
  intro σ r σ' q p e R s m args below meth c C H locs ls hP hS hl
  by_cases hb : ib j (sln.getD i 0) = true
  · have q2 : bd (f ((sby.getD i []).getD j.toNatClampNeg 0)) k σ = some (r, σ') := by simpa only [bd, aB, hb, if_true] using q
    exact va_tb C.1 C.2.1 (C.ks.2.2.1.1 i hi).2.2.2 hS (ib_in hb) rfl hd (kk _ σ r σ' q2 p e R s m args below meth c C H locs ls hP hS hl)
  · simp only [bd, aB, hb] at q
    cases q
theorem rp_getText {t : PP ρ} {idx : Nat} {w : Fin 23} (hw : Cond.fieldLink M.1 idx eW "text" "Ljava/lang/String;" ∈ lg) (hd : decode M.2.2.1 pc = .ok (.getfield idx, 3)) (k : RP l K n d M Z (pc + 3) lv (.ref (K.2.2.2 (100 + w.val)) :: st) en t) : RP l K n d M Z pc lv (wr K (some w) :: st) en t := by
  intro σ r σ' q p e R s m args below meth c C H locs ls hP hS hl
  exact va_getX (i := w.val) C.1 C.2.1 C.ks.2.1 w.isLt hS C.own (C.w hw) (fun _ h => h) hd (k σ r σ' q p e R s m args below meth c C H locs ls hP hS hl)
theorem rp_ldcS {t : PP ρ} (ho : M.1 = "LaundrySky$Tape") (hd : decode M.2.2.1 pc = .ok (.ldc 61, 2)) (k : RP l K n d M Z (pc + 2) lv (.ref (K.2.2.2 (100 + 23)) :: st) en t) : RP l K n d M Z pc lv st en t := by
  intro σ r σ' q p e R s m args below meth c C H locs ls hP hS hl
  have hown := C.own
  rw [ho] at hown
  exact va_ldcS C.1 C.2.1 hown C.ks.2.2.2.2.2.2.2.1 hd (k σ r σ' q p e R s m args below meth c C H locs ls hP hS hl)
theorem rp_cret {x : Int32} (hr : M.2.2.2.2 = some .char) (hd : decode M.2.2.1 pc = .ok (.ireturn, 1)) : RP l K n d M (Z0 K n) pc lv [.int x] enI (bd (bd (gd ((x.toUInt32 % 65536).toInt32 = x)) (fun (_ : Unit) => pu x)) pu) := by
  intro σ r σ' q p e R s m args below meth c C H locs ls hP hS hl
  by_cases hb : (x.toUInt32 % 65536).toInt32 = x
  · have q2 : pu x σ = some (r, σ') := by simpa only [bd, gd, hb, if_true] using q
    cases q2
    exact W.zret (hlocks := C.2.2.2.2.2.2.1) C.1 C.2.1 (C.2.2.1.trans hr) (by have := pk_nc x; rwa [hb] at this) (fun t ht hW => ⟨⟨_, _, rfl, ⟨rfl, rfl⟩, by rw [ht]; exact hP⟩, hS.F ht⟩) hS.2.2 hd
  · simp only [bd, gd, hb] at q
    cases q
theorem rp_bret {x : Int32} (hr : M.2.2.2.2 = some .byte) (hd : decode M.2.2.1 pc = .ok (.ireturn, 1)) : RP l K n d M (Z0 K n) pc lv [.int x] enI (bd (bd (gd (x.toInt8.toInt32 = x)) (fun (_ : Unit) => pu x)) pu) := by
  intro σ r σ' q p e R s m args below meth c C H locs ls hP hS hl
  by_cases hb : x.toInt8.toInt32 = x
  · have q2 : pu x σ = some (r, σ') := by simpa only [bd, gd, hb, if_true] using q
    cases q2
    exact W.zret (hlocks := C.2.2.2.2.2.2.1) C.1 C.2.1 (C.2.2.1.trans hr) (by have := pk_nb x; rwa [hb] at this) (fun t ht hW => ⟨⟨_, _, rfl, ⟨rfl, rfl⟩, by rw [ht]; exact hP⟩, hS.F ht⟩) hS.2.2 hd
  · simp only [bd, gd, hb] at q
    cases q
/-- a call on a constant object of class C, that stands at b -/
theorem rw_callK {α : Type} {M' : MI} {ps idx d' b : Nat} {As stk : List Value} {en' : α → Option Value} {f : PP α} {σ σ1 : MM} {r : α} (hM : CT l K n d' M' (.ref b :: As) en' f) (hv : CV M' ps) (hl : Cond.methodLink M.1 idx M'.2.1 ∈ lg) (hdd : d' + 1 ≤ d) (hO : ∀ s : State, KS K s → va_O M'.2.1.cls b (AA K) s s.heap) (hn : As.length = ps) (hst : stk = As.reverse ++ .ref b :: st) (hW : (st.map fun v => v.category).sum ≤ 8) (hd : decode M.2.2.1 pc = .ok (.invokevirtual idx, 3)) (q : f σ = some (r, σ1)) {Q : Option Value → MM → Prop} (k : RW l K n d M Z (pc + 3) lv ((en' r).toList ++ st) σ1 Q) : RW l K n d M Z pc lv stk σ Q := by
  subst hst
  intro p e R s m args below meth c C H locs ls hP hS hl2
  have hrecv := va_Orecv (hO s C.ks) hS
  refine rw_back (av := .ref b :: As) (M' := M') (ps := ps) (idx := idx) (d' := d') (va_runV (As := As) (rest := st) (nL := M.2.2.2.1) (Ts := mws M) (own := M.1) (C := M'.2.1.cls) ⟨C.1, C.2.1, C.2.2.2.1, C.own, C.2.2.2.2.2.1⟩ (hM σ r σ1 q) ⟨hv.1.b C hl hdd, C.w hv.2.1, C.w hv.2.2⟩ ⟨ct_blind, hrecv, fun U hU hW2 => ⟨rfl, C.2.2.2.2.2.2.2.1.mv hS hU hW2, by rw [hU]; exact hP⟩⟩ rfl hn hl2.1 rfl (lv_room hW) hd ⟨C.2.2.2.2.2.2.2.2.1.2.2.1, C.2.2.2.2.2.2.2.2.1.2.2.2⟩) C hS hl2 ?_
  rintro v σ' ⟨rfl, rfl⟩
  exact k
theorem hO_S {i : Nat} (hi : i < 24) : ∀ s : State, KS K s → va_O "java/lang/String" (K.2.2.2 (100 + i)) (AA K) s s.heap := fun s h => (h.2.2.1.1 i hi).1
theorem hO_W (w : Fin 23) : ∀ s : State, KS K s → va_O eW (K.2.2.2 w.val) (AA K) s s.heap := fun s h => (h.1.1 w.val w.isLt).2.1
theorem rp_callKi {α : Type} {g : Int32 → PP α} {k : α → PP ρ} {M' : MI} {ps idx d' b : Nat} {stk : List Value} {f : PP Int32} (As : List Value) (hM : CT l K n d' M' (.ref b :: As) enI f) (hv : CV M' ps) (hl : Cond.methodLink M.1 idx M'.2.1 ∈ lg) (hdd : d' + 1 ≤ d) (hO : ∀ s : State, KS K s → va_O M'.2.1.cls b (AA K) s s.heap) (hn : As.length = ps) (hst : stk = As.reverse ++ .ref b :: st) (hW : (st.map fun v => v.category).sum ≤ 8) (hd : decode M.2.2.1 pc = .ok (.invokevirtual idx, 3)) (kk : ∀ x, RP l K n d M Z (pc + 3) lv (.int x :: st) en (bd (g x) k)) : RP l K n d M Z pc lv stk en (bd (bd f g) k) := by
  intro σ r σ' q
  obtain ⟨x, σ1, q1, q2⟩ := bd2_some q
  exact rw_callK hM hv hl hdd hO hn hst hW hd q1 (kk x σ1 r σ' q2)
theorem rp_callKz {α : Type} {g : Bool → PP α} {k : α → PP ρ} {M' : MI} {ps idx d' b : Nat} {stk : List Value} {f : PP Bool} (As : List Value) (hM : CT l K n d' M' (.ref b :: As) enZ f) (hv : CV M' ps) (hl : Cond.methodLink M.1 idx M'.2.1 ∈ lg) (hdd : d' + 1 ≤ d) (hO : ∀ s : State, KS K s → va_O M'.2.1.cls b (AA K) s s.heap) (hn : As.length = ps) (hst : stk = As.reverse ++ .ref b :: st) (hW : (st.map fun v => v.category).sum ≤ 8) (hd : decode M.2.2.1 pc = .ok (.invokevirtual idx, 3)) (kk : ∀ x, RP l K n d M Z (pc + 3) lv (.int (b2i x) :: st) en (bd (g x) k)) : RP l K n d M Z pc lv stk en (bd (bd f g) k) := by
  intro σ r σ' q
  obtain ⟨x, σ1, q1, q2⟩ := bd2_some q
  exact rw_callK hM hv hl hdd hO hn hst hW hd q1 (kk x σ1 r σ' q2)
end RPT
end
