section
-- ===== PART A: goes FIRST, ahead of the names: the tables' words, and 'selects' of the private methods out of them =====
/-- a private method of a class that the tables say can be made, by its rows of tables_1 -/
def lw_okq (q : MethodName × Nat) : Prop := (q.1.cls ≠ "java/lang/invoke/MethodHandle" ∧ q.1.cls ≠ "java/lang/invoke/VarHandle") ∧ Cond.instantiable q.1.cls q.2 ∈ tables_1 ∧ Cond.privateMethod q.1 ∈ tables_1 ∧ Cond.instanceMethod q.1 ∈ tables_1
theorem lw_p0 : lw_okq (⟨"FireRows", "found", "(I)I"⟩, 11) := ⟨⟨by decide +kernel, by decide +kernel⟩, List.mem_of_getElem? (i := 23) (by decide +kernel), List.mem_of_getElem? (i := 443) (by decide +kernel), List.mem_of_getElem? (i := 444) (by decide +kernel)⟩
theorem lw_p1 : lw_okq (⟨"FireRows", "unfound", "(I)I"⟩, 11) := ⟨⟨by decide +kernel, by decide +kernel⟩, List.mem_of_getElem? (i := 23) (by decide +kernel), List.mem_of_getElem? (i := 455) (by decide +kernel), List.mem_of_getElem? (i := 456) (by decide +kernel)⟩
theorem lw_p2 : lw_okq (⟨"FireRows$Reader", "advance", "()V"⟩, 7) := ⟨⟨by decide +kernel, by decide +kernel⟩, List.mem_of_getElem? (i := 49) (by decide +kernel), List.mem_of_getElem? (i := 514) (by decide +kernel), List.mem_of_getElem? (i := 515) (by decide +kernel)⟩
theorem lw_p3 : lw_okq (⟨"FireRows$Reader", "advanceNumber", "()V"⟩, 7) := ⟨⟨by decide +kernel, by decide +kernel⟩, List.mem_of_getElem? (i := 49) (by decide +kernel), List.mem_of_getElem? (i := 525) (by decide +kernel), List.mem_of_getElem? (i := 526) (by decide +kernel)⟩
theorem lw_p4 : lw_okq (⟨"FireRows$Reader", "readLines", "(LFireRows$Lines;I)Z"⟩, 7) := ⟨⟨by decide +kernel, by decide +kernel⟩, List.mem_of_getElem? (i := 49) (by decide +kernel), List.mem_of_getElem? (i := 532) (by decide +kernel), List.mem_of_getElem? (i := 533) (by decide +kernel)⟩
theorem lw_p5 : lw_okq (⟨"FireRows$Reader", "isWord", "(Ljava/lang/String;)Z"⟩, 7) := ⟨⟨by decide +kernel, by decide +kernel⟩, List.mem_of_getElem? (i := 49) (by decide +kernel), List.mem_of_getElem? (i := 536) (by decide +kernel), List.mem_of_getElem? (i := 537) (by decide +kernel)⟩
theorem lw_p6 : lw_okq (⟨"FireRows$Reader", "readLine", "(LFireRows$Lines;)Z"⟩, 7) := ⟨⟨by decide +kernel, by decide +kernel⟩, List.mem_of_getElem? (i := 49) (by decide +kernel), List.mem_of_getElem? (i := 588) (by decide +kernel), List.mem_of_getElem? (i := 589) (by decide +kernel)⟩
theorem lw_p7 : lw_okq (⟨"FireRows$Reader", "refuse", "(I)Z"⟩, 7) := ⟨⟨by decide +kernel, by decide +kernel⟩, List.mem_of_getElem? (i := 49) (by decide +kernel), List.mem_of_getElem? (i := 596) (by decide +kernel), List.mem_of_getElem? (i := 597) (by decide +kernel)⟩
theorem lw_p8 : lw_okq (⟨"FireRows$Reader", "takeWhich", "()Z"⟩, 7) := ⟨⟨by decide +kernel, by decide +kernel⟩, List.mem_of_getElem? (i := 49) (by decide +kernel), List.mem_of_getElem? (i := 604) (by decide +kernel), List.mem_of_getElem? (i := 605) (by decide +kernel)⟩
theorem lw_p9 : lw_okq (⟨"FireRows$Reader", "takeNumber", "(LFireRows$Lines;I)Z"⟩, 7) := ⟨⟨by decide +kernel, by decide +kernel⟩, List.mem_of_getElem? (i := 49) (by decide +kernel), List.mem_of_getElem? (i := 616) (by decide +kernel), List.mem_of_getElem? (i := 617) (by decide +kernel)⟩
theorem lw_p10 : lw_okq (⟨"FireRows$Reader", "readCrack", "()Z"⟩, 7) := ⟨⟨by decide +kernel, by decide +kernel⟩, List.mem_of_getElem? (i := 49) (by decide +kernel), List.mem_of_getElem? (i := 628) (by decide +kernel), List.mem_of_getElem? (i := 629) (by decide +kernel)⟩
theorem lw_p11 : lw_okq (⟨"FireRows$Floor", "addDrift", "()V"⟩, 8) := ⟨⟨by decide +kernel, by decide +kernel⟩, List.mem_of_getElem? (i := 55) (by decide +kernel), List.mem_of_getElem? (i := 646) (by decide +kernel), List.mem_of_getElem? (i := 647) (by decide +kernel)⟩
theorem lw_p12 : lw_okq (⟨"FireRows", "isStory", "(I)Z"⟩, 11) := ⟨⟨by decide +kernel, by decide +kernel⟩, List.mem_of_getElem? (i := 23) (by decide +kernel), List.mem_of_getElem? (i := 671) (by decide +kernel), List.mem_of_getElem? (i := 672) (by decide +kernel)⟩
theorem lw_p13 : lw_okq (⟨"FireRows", "isFireOf", "(II)Z"⟩, 11) := ⟨⟨by decide +kernel, by decide +kernel⟩, List.mem_of_getElem? (i := 23) (by decide +kernel), List.mem_of_getElem? (i := 675) (by decide +kernel), List.mem_of_getElem? (i := 676) (by decide +kernel)⟩
theorem lw_p14 : lw_okq (⟨"FireRows", "isHill", "(I)Z"⟩, 11) := ⟨⟨by decide +kernel, by decide +kernel⟩, List.mem_of_getElem? (i := 23) (by decide +kernel), List.mem_of_getElem? (i := 728) (by decide +kernel), List.mem_of_getElem? (i := 729) (by decide +kernel)⟩
theorem lw_p15 : lw_okq (⟨"FireRows", "isHouse", "(I)Z"⟩, 11) := ⟨⟨by decide +kernel, by decide +kernel⟩, List.mem_of_getElem? (i := 23) (by decide +kernel), List.mem_of_getElem? (i := 732) (by decide +kernel), List.mem_of_getElem? (i := 733) (by decide +kernel)⟩
def lw_privs_1 : List (MethodName × Nat) := [(⟨"FireRows", "found", "(I)I"⟩, 11), (⟨"FireRows", "unfound", "(I)I"⟩, 11), (⟨"FireRows$Reader", "advance", "()V"⟩, 7), (⟨"FireRows$Reader", "advanceNumber", "()V"⟩, 7), (⟨"FireRows$Reader", "readLines", "(LFireRows$Lines;I)Z"⟩, 7), (⟨"FireRows$Reader", "isWord", "(Ljava/lang/String;)Z"⟩, 7), (⟨"FireRows$Reader", "readLine", "(LFireRows$Lines;)Z"⟩, 7), (⟨"FireRows$Reader", "refuse", "(I)Z"⟩, 7), (⟨"FireRows$Reader", "takeWhich", "()Z"⟩, 7), (⟨"FireRows$Reader", "takeNumber", "(LFireRows$Lines;I)Z"⟩, 7), (⟨"FireRows$Reader", "readCrack", "()Z"⟩, 7), (⟨"FireRows$Floor", "addDrift", "()V"⟩, 8), (⟨"FireRows", "isStory", "(I)Z"⟩, 11), (⟨"FireRows", "isFireOf", "(II)Z"⟩, 11), (⟨"FireRows", "isHill", "(I)Z"⟩, 11), (⟨"FireRows", "isHouse", "(I)Z"⟩, 11)]
theorem lw_r1 : ∀ q ∈ lw_privs_1, lw_okq q := List.forall_mem_cons.mpr ⟨lw_p0, List.forall_mem_cons.mpr ⟨lw_p1, List.forall_mem_cons.mpr ⟨lw_p2, List.forall_mem_cons.mpr ⟨lw_p3, List.forall_mem_cons.mpr ⟨lw_p4, List.forall_mem_cons.mpr ⟨lw_p5, List.forall_mem_cons.mpr ⟨lw_p6, List.forall_mem_cons.mpr ⟨lw_p7, List.forall_mem_cons.mpr ⟨lw_p8, List.forall_mem_cons.mpr ⟨lw_p9, List.forall_mem_cons.mpr ⟨lw_p10, List.forall_mem_cons.mpr ⟨lw_p11, List.forall_mem_cons.mpr ⟨lw_p12, List.forall_mem_cons.mpr ⟨lw_p13, List.forall_mem_cons.mpr ⟨lw_p14, List.forall_mem_cons.mpr ⟨lw_p15, fun _ h => absurd h List.not_mem_nil⟩⟩⟩⟩⟩⟩⟩⟩⟩⟩⟩⟩⟩⟩⟩⟩
theorem lw_p16 : lw_okq (⟨"FireRows$Hills", "findEnds", "(ILFireRows$Lines;)V"⟩, 11) := ⟨⟨by decide +kernel, by decide +kernel⟩, List.mem_of_getElem? (i := 199) (by decide +kernel), List.mem_of_getElem? (i := 740) (by decide +kernel), List.mem_of_getElem? (i := 741) (by decide +kernel)⟩
theorem lw_p17 : lw_okq (⟨"FireRows$Stories", "findBy", "(IIII)V"⟩, 6) := ⟨⟨by decide +kernel, by decide +kernel⟩, List.mem_of_getElem? (i := 281) (by decide +kernel), List.mem_of_getElem? (i := 778) (by decide +kernel), List.mem_of_getElem? (i := 779) (by decide +kernel)⟩
theorem lw_p18 : lw_okq (⟨"FireRows", "takeRow", "(IIII)I"⟩, 11) := ⟨⟨by decide +kernel, by decide +kernel⟩, List.mem_of_getElem? (i := 23) (by decide +kernel), List.mem_of_getElem? (i := 848) (by decide +kernel), List.mem_of_getElem? (i := 849) (by decide +kernel)⟩
theorem lw_p19 : lw_okq (⟨"FireRows$Turn", "offBy", "(II)I"⟩, 5) := ⟨⟨by decide +kernel, by decide +kernel⟩, List.mem_of_getElem? (i := 332) (by decide +kernel), List.mem_of_getElem? (i := 905) (by decide +kernel), List.mem_of_getElem? (i := 906) (by decide +kernel)⟩
theorem lw_p20 : lw_okq (⟨"FireRows$Turn", "offFires", "(II)I"⟩, 5) := ⟨⟨by decide +kernel, by decide +kernel⟩, List.mem_of_getElem? (i := 332) (by decide +kernel), List.mem_of_getElem? (i := 909) (by decide +kernel), List.mem_of_getElem? (i := 910) (by decide +kernel)⟩
theorem lw_p21 : lw_okq (⟨"FireRows$Row", "olderThan", "(I)I"⟩, 5) := ⟨⟨by decide +kernel, by decide +kernel⟩, List.mem_of_getElem? (i := 310) (by decide +kernel), List.mem_of_getElem? (i := 958) (by decide +kernel), List.mem_of_getElem? (i := 959) (by decide +kernel)⟩
theorem lw_p22 : lw_okq (⟨"FireRows$Hills", "areOnLine", "(III)Z"⟩, 11) := ⟨⟨by decide +kernel, by decide +kernel⟩, List.mem_of_getElem? (i := 199) (by decide +kernel), List.mem_of_getElem? (i := 970) (by decide +kernel), List.mem_of_getElem? (i := 971) (by decide +kernel)⟩
theorem lw_p23 : lw_okq (⟨"FireRows$Stories", "agesApart", "(I)I"⟩, 6) := ⟨⟨by decide +kernel, by decide +kernel⟩, List.mem_of_getElem? (i := 281) (by decide +kernel), List.mem_of_getElem? (i := 983) (by decide +kernel), List.mem_of_getElem? (i := 984) (by decide +kernel)⟩
theorem lw_p24 : lw_okq (⟨"FireRows", "kindOf", "(I)I"⟩, 11) := ⟨⟨by decide +kernel, by decide +kernel⟩, List.mem_of_getElem? (i := 23) (by decide +kernel), List.mem_of_getElem? (i := 1020) (by decide +kernel), List.mem_of_getElem? (i := 1021) (by decide +kernel)⟩
theorem lw_p25 : lw_okq (⟨"FireRows$Asks", "body11", "()I"⟩, 6) := ⟨⟨by decide +kernel, by decide +kernel⟩, List.mem_of_getElem? (i := 357) (by decide +kernel), List.mem_of_getElem? (i := 1049) (by decide +kernel), List.mem_of_getElem? (i := 1050) (by decide +kernel)⟩
theorem lw_p26 : lw_okq (⟨"FireRows$Asks", "leave", "(I)V"⟩, 6) := ⟨⟨by decide +kernel, by decide +kernel⟩, List.mem_of_getElem? (i := 357) (by decide +kernel), List.mem_of_getElem? (i := 1053) (by decide +kernel), List.mem_of_getElem? (i := 1054) (by decide +kernel)⟩
theorem lw_p27 : lw_okq (⟨"FireRows$Asks", "body10", "()I"⟩, 6) := ⟨⟨by decide +kernel, by decide +kernel⟩, List.mem_of_getElem? (i := 357) (by decide +kernel), List.mem_of_getElem? (i := 1057) (by decide +kernel), List.mem_of_getElem? (i := 1058) (by decide +kernel)⟩
theorem lw_p28 : lw_okq (⟨"FireRows$Asks", "body12", "()I"⟩, 6) := ⟨⟨by decide +kernel, by decide +kernel⟩, List.mem_of_getElem? (i := 357) (by decide +kernel), List.mem_of_getElem? (i := 1061) (by decide +kernel), List.mem_of_getElem? (i := 1062) (by decide +kernel)⟩
theorem lw_p29 : lw_okq (⟨"FireRows$Asks", "body13", "()I"⟩, 6) := ⟨⟨by decide +kernel, by decide +kernel⟩, List.mem_of_getElem? (i := 357) (by decide +kernel), List.mem_of_getElem? (i := 1065) (by decide +kernel), List.mem_of_getElem? (i := 1066) (by decide +kernel)⟩
theorem lw_p30 : lw_okq (⟨"FireRows$Asks", "body21", "()I"⟩, 6) := ⟨⟨by decide +kernel, by decide +kernel⟩, List.mem_of_getElem? (i := 357) (by decide +kernel), List.mem_of_getElem? (i := 1069) (by decide +kernel), List.mem_of_getElem? (i := 1070) (by decide +kernel)⟩
theorem lw_p31 : lw_okq (⟨"FireRows$Asks", "body20", "()I"⟩, 6) := ⟨⟨by decide +kernel, by decide +kernel⟩, List.mem_of_getElem? (i := 357) (by decide +kernel), List.mem_of_getElem? (i := 1073) (by decide +kernel), List.mem_of_getElem? (i := 1074) (by decide +kernel)⟩
def lw_privs_2 : List (MethodName × Nat) := [(⟨"FireRows$Hills", "findEnds", "(ILFireRows$Lines;)V"⟩, 11), (⟨"FireRows$Stories", "findBy", "(IIII)V"⟩, 6), (⟨"FireRows", "takeRow", "(IIII)I"⟩, 11), (⟨"FireRows$Turn", "offBy", "(II)I"⟩, 5), (⟨"FireRows$Turn", "offFires", "(II)I"⟩, 5), (⟨"FireRows$Row", "olderThan", "(I)I"⟩, 5), (⟨"FireRows$Hills", "areOnLine", "(III)Z"⟩, 11), (⟨"FireRows$Stories", "agesApart", "(I)I"⟩, 6), (⟨"FireRows", "kindOf", "(I)I"⟩, 11), (⟨"FireRows$Asks", "body11", "()I"⟩, 6), (⟨"FireRows$Asks", "leave", "(I)V"⟩, 6), (⟨"FireRows$Asks", "body10", "()I"⟩, 6), (⟨"FireRows$Asks", "body12", "()I"⟩, 6), (⟨"FireRows$Asks", "body13", "()I"⟩, 6), (⟨"FireRows$Asks", "body21", "()I"⟩, 6), (⟨"FireRows$Asks", "body20", "()I"⟩, 6)]
theorem lw_r2 : ∀ q ∈ lw_privs_2, lw_okq q := List.forall_mem_cons.mpr ⟨lw_p16, List.forall_mem_cons.mpr ⟨lw_p17, List.forall_mem_cons.mpr ⟨lw_p18, List.forall_mem_cons.mpr ⟨lw_p19, List.forall_mem_cons.mpr ⟨lw_p20, List.forall_mem_cons.mpr ⟨lw_p21, List.forall_mem_cons.mpr ⟨lw_p22, List.forall_mem_cons.mpr ⟨lw_p23, List.forall_mem_cons.mpr ⟨lw_p24, List.forall_mem_cons.mpr ⟨lw_p25, List.forall_mem_cons.mpr ⟨lw_p26, List.forall_mem_cons.mpr ⟨lw_p27, List.forall_mem_cons.mpr ⟨lw_p28, List.forall_mem_cons.mpr ⟨lw_p29, List.forall_mem_cons.mpr ⟨lw_p30, List.forall_mem_cons.mpr ⟨lw_p31, fun _ h => absurd h List.not_mem_nil⟩⟩⟩⟩⟩⟩⟩⟩⟩⟩⟩⟩⟩⟩⟩⟩
theorem lw_p32 : lw_okq (⟨"FireRows$Asks", "sizeOfBare", "()I"⟩, 6) := ⟨⟨by decide +kernel, by decide +kernel⟩, List.mem_of_getElem? (i := 357) (by decide +kernel), List.mem_of_getElem? (i := 1077) (by decide +kernel), List.mem_of_getElem? (i := 1078) (by decide +kernel)⟩
theorem lw_p33 : lw_okq (⟨"FireRows$Asks", "body14", "()I"⟩, 6) := ⟨⟨by decide +kernel, by decide +kernel⟩, List.mem_of_getElem? (i := 357) (by decide +kernel), List.mem_of_getElem? (i := 1081) (by decide +kernel), List.mem_of_getElem? (i := 1082) (by decide +kernel)⟩
theorem lw_p34 : lw_okq (⟨"FireRows$Asks", "body22", "()I"⟩, 6) := ⟨⟨by decide +kernel, by decide +kernel⟩, List.mem_of_getElem? (i := 357) (by decide +kernel), List.mem_of_getElem? (i := 1089) (by decide +kernel), List.mem_of_getElem? (i := 1090) (by decide +kernel)⟩
theorem lw_p35 : lw_okq (⟨"FireRows$Asks", "body23", "()I"⟩, 6) := ⟨⟨by decide +kernel, by decide +kernel⟩, List.mem_of_getElem? (i := 357) (by decide +kernel), List.mem_of_getElem? (i := 1093) (by decide +kernel), List.mem_of_getElem? (i := 1094) (by decide +kernel)⟩
theorem lw_p36 : lw_okq (⟨"FireRows", "sheetsThere", "()I"⟩, 11) := ⟨⟨by decide +kernel, by decide +kernel⟩, List.mem_of_getElem? (i := 23) (by decide +kernel), List.mem_of_getElem? (i := 1105) (by decide +kernel), List.mem_of_getElem? (i := 1106) (by decide +kernel)⟩
theorem lw_p37 : lw_okq (⟨"FireRowsModel", "finding", "(I)I"⟩, 42) := ⟨⟨by decide +kernel, by decide +kernel⟩, List.mem_of_getElem? (i := 1118) (by decide +kernel), List.mem_of_getElem? (i := 1264) (by decide +kernel), List.mem_of_getElem? (i := 1265) (by decide +kernel)⟩
theorem lw_p38 : lw_okq (⟨"FireRowsModel", "next", "()V"⟩, 42) := ⟨⟨by decide +kernel, by decide +kernel⟩, List.mem_of_getElem? (i := 1118) (by decide +kernel), List.mem_of_getElem? (i := 1292) (by decide +kernel), List.mem_of_getElem? (i := 1293) (by decide +kernel)⟩
theorem lw_p39 : lw_okq (⟨"FireRowsModel", "byteAt", "(I)I"⟩, 42) := ⟨⟨by decide +kernel, by decide +kernel⟩, List.mem_of_getElem? (i := 1118) (by decide +kernel), List.mem_of_getElem? (i := 1296) (by decide +kernel), List.mem_of_getElem? (i := 1297) (by decide +kernel)⟩
theorem lw_p40 : lw_okq (⟨"FireRowsModel", "nextNumber", "()V"⟩, 42) := ⟨⟨by decide +kernel, by decide +kernel⟩, List.mem_of_getElem? (i := 1118) (by decide +kernel), List.mem_of_getElem? (i := 1307) (by decide +kernel), List.mem_of_getElem? (i := 1308) (by decide +kernel)⟩
theorem lw_p41 : lw_okq (⟨"FireRowsModel", "word", "()J"⟩, 42) := ⟨⟨by decide +kernel, by decide +kernel⟩, List.mem_of_getElem? (i := 1118) (by decide +kernel), List.mem_of_getElem? (i := 1312) (by decide +kernel), List.mem_of_getElem? (i := 1313) (by decide +kernel)⟩
theorem lw_p42 : lw_okq (⟨"FireRowsModel", "bad", "(I)V"⟩, 42) := ⟨⟨by decide +kernel, by decide +kernel⟩, List.mem_of_getElem? (i := 1118) (by decide +kernel), List.mem_of_getElem? (i := 1317) (by decide +kernel), List.mem_of_getElem? (i := 1318) (by decide +kernel)⟩
theorem lw_p43 : lw_okq (⟨"FireRowsModel", "readFloor", "()V"⟩, 42) := ⟨⟨by decide +kernel, by decide +kernel⟩, List.mem_of_getElem? (i := 1118) (by decide +kernel), List.mem_of_getElem? (i := 1321) (by decide +kernel), List.mem_of_getElem? (i := 1322) (by decide +kernel)⟩
theorem lw_p44 : lw_okq (⟨"FireRowsModel", "begins", "(II)V"⟩, 42) := ⟨⟨by decide +kernel, by decide +kernel⟩, List.mem_of_getElem? (i := 1118) (by decide +kernel), List.mem_of_getElem? (i := 1325) (by decide +kernel), List.mem_of_getElem? (i := 1326) (by decide +kernel)⟩
theorem lw_p45 : lw_okq (⟨"FireRowsModel", "must", "(Z)V"⟩, 42) := ⟨⟨by decide +kernel, by decide +kernel⟩, List.mem_of_getElem? (i := 1118) (by decide +kernel), List.mem_of_getElem? (i := 1329) (by decide +kernel), List.mem_of_getElem? (i := 1330) (by decide +kernel)⟩
theorem lw_p46 : lw_okq (⟨"FireRowsModel", "number", "(III)V"⟩, 42) := ⟨⟨by decide +kernel, by decide +kernel⟩, List.mem_of_getElem? (i := 1118) (by decide +kernel), List.mem_of_getElem? (i := 1333) (by decide +kernel), List.mem_of_getElem? (i := 1334) (by decide +kernel)⟩
theorem lw_p47 : lw_okq (⟨"FireRowsModel", "ends", "(I)V"⟩, 42) := ⟨⟨by decide +kernel, by decide +kernel⟩, List.mem_of_getElem? (i := 1118) (by decide +kernel), List.mem_of_getElem? (i := 1337) (by decide +kernel), List.mem_of_getElem? (i := 1338) (by decide +kernel)⟩
def lw_privs_3 : List (MethodName × Nat) := [(⟨"FireRows$Asks", "sizeOfBare", "()I"⟩, 6), (⟨"FireRows$Asks", "body14", "()I"⟩, 6), (⟨"FireRows$Asks", "body22", "()I"⟩, 6), (⟨"FireRows$Asks", "body23", "()I"⟩, 6), (⟨"FireRows", "sheetsThere", "()I"⟩, 11), (⟨"FireRowsModel", "finding", "(I)I"⟩, 42), (⟨"FireRowsModel", "next", "()V"⟩, 42), (⟨"FireRowsModel", "byteAt", "(I)I"⟩, 42), (⟨"FireRowsModel", "nextNumber", "()V"⟩, 42), (⟨"FireRowsModel", "word", "()J"⟩, 42), (⟨"FireRowsModel", "bad", "(I)V"⟩, 42), (⟨"FireRowsModel", "readFloor", "()V"⟩, 42), (⟨"FireRowsModel", "begins", "(II)V"⟩, 42), (⟨"FireRowsModel", "must", "(Z)V"⟩, 42), (⟨"FireRowsModel", "number", "(III)V"⟩, 42), (⟨"FireRowsModel", "ends", "(I)V"⟩, 42)]
theorem lw_r3 : ∀ q ∈ lw_privs_3, lw_okq q := List.forall_mem_cons.mpr ⟨lw_p32, List.forall_mem_cons.mpr ⟨lw_p33, List.forall_mem_cons.mpr ⟨lw_p34, List.forall_mem_cons.mpr ⟨lw_p35, List.forall_mem_cons.mpr ⟨lw_p36, List.forall_mem_cons.mpr ⟨lw_p37, List.forall_mem_cons.mpr ⟨lw_p38, List.forall_mem_cons.mpr ⟨lw_p39, List.forall_mem_cons.mpr ⟨lw_p40, List.forall_mem_cons.mpr ⟨lw_p41, List.forall_mem_cons.mpr ⟨lw_p42, List.forall_mem_cons.mpr ⟨lw_p43, List.forall_mem_cons.mpr ⟨lw_p44, List.forall_mem_cons.mpr ⟨lw_p45, List.forall_mem_cons.mpr ⟨lw_p46, List.forall_mem_cons.mpr ⟨lw_p47, fun _ h => absurd h List.not_mem_nil⟩⟩⟩⟩⟩⟩⟩⟩⟩⟩⟩⟩⟩⟩⟩⟩
theorem lw_p48 : lw_okq (⟨"FireRowsModel", "readFire", "()V"⟩, 42) := ⟨⟨by decide +kernel, by decide +kernel⟩, List.mem_of_getElem? (i := 1118) (by decide +kernel), List.mem_of_getElem? (i := 1342) (by decide +kernel), List.mem_of_getElem? (i := 1343) (by decide +kernel)⟩
theorem lw_p49 : lw_okq (⟨"FireRowsModel", "readHouse", "()V"⟩, 42) := ⟨⟨by decide +kernel, by decide +kernel⟩, List.mem_of_getElem? (i := 1118) (by decide +kernel), List.mem_of_getElem? (i := 1347) (by decide +kernel), List.mem_of_getElem? (i := 1348) (by decide +kernel)⟩
theorem lw_p50 : lw_okq (⟨"FireRowsModel", "readCrack", "()V"⟩, 42) := ⟨⟨by decide +kernel, by decide +kernel⟩, List.mem_of_getElem? (i := 1118) (by decide +kernel), List.mem_of_getElem? (i := 1352) (by decide +kernel), List.mem_of_getElem? (i := 1353) (by decide +kernel)⟩
theorem lw_p51 : lw_okq (⟨"FireRowsModel", "readStory", "()V"⟩, 42) := ⟨⟨by decide +kernel, by decide +kernel⟩, List.mem_of_getElem? (i := 1118) (by decide +kernel), List.mem_of_getElem? (i := 1357) (by decide +kernel), List.mem_of_getElem? (i := 1358) (by decide +kernel)⟩
theorem lw_p52 : lw_okq (⟨"FireRowsModel", "layDrift", "()V"⟩, 42) := ⟨⟨by decide +kernel, by decide +kernel⟩, List.mem_of_getElem? (i := 1118) (by decide +kernel), List.mem_of_getElem? (i := 1365) (by decide +kernel), List.mem_of_getElem? (i := 1366) (by decide +kernel)⟩
theorem lw_p53 : lw_okq (⟨"FireRowsModel", "isStory", "(I)Z"⟩, 42) := ⟨⟨by decide +kernel, by decide +kernel⟩, List.mem_of_getElem? (i := 1118) (by decide +kernel), List.mem_of_getElem? (i := 1386) (by decide +kernel), List.mem_of_getElem? (i := 1387) (by decide +kernel)⟩
theorem lw_p54 : lw_okq (⟨"FireRowsModel", "firesOf", "(I)I"⟩, 42) := ⟨⟨by decide +kernel, by decide +kernel⟩, List.mem_of_getElem? (i := 1118) (by decide +kernel), List.mem_of_getElem? (i := 1390) (by decide +kernel), List.mem_of_getElem? (i := 1391) (by decide +kernel)⟩
theorem lw_p55 : lw_okq (⟨"FireRowsModel", "which", "(I)I"⟩, 42) := ⟨⟨by decide +kernel, by decide +kernel⟩, List.mem_of_getElem? (i := 1118) (by decide +kernel), List.mem_of_getElem? (i := 1394) (by decide +kernel), List.mem_of_getElem? (i := 1395) (by decide +kernel)⟩
theorem lw_p56 : lw_okq (⟨"FireRowsModel", "placeX", "(III)I"⟩, 42) := ⟨⟨by decide +kernel, by decide +kernel⟩, List.mem_of_getElem? (i := 1118) (by decide +kernel), List.mem_of_getElem? (i := 1398) (by decide +kernel), List.mem_of_getElem? (i := 1399) (by decide +kernel)⟩
theorem lw_p57 : lw_okq (⟨"FireRowsModel", "fireOf", "(II)I"⟩, 42) := ⟨⟨by decide +kernel, by decide +kernel⟩, List.mem_of_getElem? (i := 1118) (by decide +kernel), List.mem_of_getElem? (i := 1402) (by decide +kernel), List.mem_of_getElem? (i := 1403) (by decide +kernel)⟩
theorem lw_p58 : lw_okq (⟨"FireRowsModel", "placeY", "(III)I"⟩, 42) := ⟨⟨by decide +kernel, by decide +kernel⟩, List.mem_of_getElem? (i := 1118) (by decide +kernel), List.mem_of_getElem? (i := 1406) (by decide +kernel), List.mem_of_getElem? (i := 1407) (by decide +kernel)⟩
theorem lw_p59 : lw_okq (⟨"FireRowsModel", "newHill", "(II)I"⟩, 42) := ⟨⟨by decide +kernel, by decide +kernel⟩, List.mem_of_getElem? (i := 1118) (by decide +kernel), List.mem_of_getElem? (i := 1419) (by decide +kernel), List.mem_of_getElem? (i := 1420) (by decide +kernel)⟩
theorem lw_p60 : lw_okq (⟨"FireRowsModel", "isHill", "(I)Z"⟩, 42) := ⟨⟨by decide +kernel, by decide +kernel⟩, List.mem_of_getElem? (i := 1118) (by decide +kernel), List.mem_of_getElem? (i := 1432) (by decide +kernel), List.mem_of_getElem? (i := 1433) (by decide +kernel)⟩
theorem lw_p61 : lw_okq (⟨"FireRowsModel", "isHouse", "(I)Z"⟩, 42) := ⟨⟨by decide +kernel, by decide +kernel⟩, List.mem_of_getElem? (i := 1118) (by decide +kernel), List.mem_of_getElem? (i := 1436) (by decide +kernel), List.mem_of_getElem? (i := 1437) (by decide +kernel)⟩
theorem lw_p62 : lw_okq (⟨"FireRowsModel", "look", "(I)V"⟩, 42) := ⟨⟨by decide +kernel, by decide +kernel⟩, List.mem_of_getElem? (i := 1118) (by decide +kernel), List.mem_of_getElem? (i := 1450) (by decide +kernel), List.mem_of_getElem? (i := 1451) (by decide +kernel)⟩
theorem lw_p63 : lw_okq (⟨"FireRowsModel", "endOf", "(III)I"⟩, 42) := ⟨⟨by decide +kernel, by decide +kernel⟩, List.mem_of_getElem? (i := 1118) (by decide +kernel), List.mem_of_getElem? (i := 1454) (by decide +kernel), List.mem_of_getElem? (i := 1455) (by decide +kernel)⟩
def lw_privs_4 : List (MethodName × Nat) := [(⟨"FireRowsModel", "readFire", "()V"⟩, 42), (⟨"FireRowsModel", "readHouse", "()V"⟩, 42), (⟨"FireRowsModel", "readCrack", "()V"⟩, 42), (⟨"FireRowsModel", "readStory", "()V"⟩, 42), (⟨"FireRowsModel", "layDrift", "()V"⟩, 42), (⟨"FireRowsModel", "isStory", "(I)Z"⟩, 42), (⟨"FireRowsModel", "firesOf", "(I)I"⟩, 42), (⟨"FireRowsModel", "which", "(I)I"⟩, 42), (⟨"FireRowsModel", "placeX", "(III)I"⟩, 42), (⟨"FireRowsModel", "fireOf", "(II)I"⟩, 42), (⟨"FireRowsModel", "placeY", "(III)I"⟩, 42), (⟨"FireRowsModel", "newHill", "(II)I"⟩, 42), (⟨"FireRowsModel", "isHill", "(I)Z"⟩, 42), (⟨"FireRowsModel", "isHouse", "(I)Z"⟩, 42), (⟨"FireRowsModel", "look", "(I)V"⟩, 42), (⟨"FireRowsModel", "endOf", "(III)I"⟩, 42)]
theorem lw_r4 : ∀ q ∈ lw_privs_4, lw_okq q := List.forall_mem_cons.mpr ⟨lw_p48, List.forall_mem_cons.mpr ⟨lw_p49, List.forall_mem_cons.mpr ⟨lw_p50, List.forall_mem_cons.mpr ⟨lw_p51, List.forall_mem_cons.mpr ⟨lw_p52, List.forall_mem_cons.mpr ⟨lw_p53, List.forall_mem_cons.mpr ⟨lw_p54, List.forall_mem_cons.mpr ⟨lw_p55, List.forall_mem_cons.mpr ⟨lw_p56, List.forall_mem_cons.mpr ⟨lw_p57, List.forall_mem_cons.mpr ⟨lw_p58, List.forall_mem_cons.mpr ⟨lw_p59, List.forall_mem_cons.mpr ⟨lw_p60, List.forall_mem_cons.mpr ⟨lw_p61, List.forall_mem_cons.mpr ⟨lw_p62, List.forall_mem_cons.mpr ⟨lw_p63, fun _ h => absurd h List.not_mem_nil⟩⟩⟩⟩⟩⟩⟩⟩⟩⟩⟩⟩⟩⟩⟩⟩
theorem lw_p64 : lw_okq (⟨"FireRowsModel", "seek", "(II)V"⟩, 42) := ⟨⟨by decide +kernel, by decide +kernel⟩, List.mem_of_getElem? (i := 1118) (by decide +kernel), List.mem_of_getElem? (i := 1466) (by decide +kernel), List.mem_of_getElem? (i := 1467) (by decide +kernel)⟩
theorem lw_p65 : lw_okq (⟨"FireRowsModel", "fitting", "(II)I"⟩, 42) := ⟨⟨by decide +kernel, by decide +kernel⟩, List.mem_of_getElem? (i := 1118) (by decide +kernel), List.mem_of_getElem? (i := 1477) (by decide +kernel), List.mem_of_getElem? (i := 1478) (by decide +kernel)⟩
theorem lw_p66 : lw_okq (⟨"FireRowsModel", "oddsOf", "(I)I"⟩, 42) := ⟨⟨by decide +kernel, by decide +kernel⟩, List.mem_of_getElem? (i := 1118) (by decide +kernel), List.mem_of_getElem? (i := 1489) (by decide +kernel), List.mem_of_getElem? (i := 1490) (by decide +kernel)⟩
theorem lw_p67 : lw_okq (⟨"FireRowsModel", "highOf", "(I)I"⟩, 42) := ⟨⟨by decide +kernel, by decide +kernel⟩, List.mem_of_getElem? (i := 1118) (by decide +kernel), List.mem_of_getElem? (i := 1507) (by decide +kernel), List.mem_of_getElem? (i := 1508) (by decide +kernel)⟩
theorem lw_p68 : lw_okq (⟨"FireRowsModel", "lowOf", "(I)I"⟩, 42) := ⟨⟨by decide +kernel, by decide +kernel⟩, List.mem_of_getElem? (i := 1118) (by decide +kernel), List.mem_of_getElem? (i := 1511) (by decide +kernel), List.mem_of_getElem? (i := 1512) (by decide +kernel)⟩
theorem lw_p69 : lw_okq (⟨"FireRowsModel", "apart", "(II)I"⟩, 42) := ⟨⟨by decide +kernel, by decide +kernel⟩, List.mem_of_getElem? (i := 1118) (by decide +kernel), List.mem_of_getElem? (i := 1515) (by decide +kernel), List.mem_of_getElem? (i := 1516) (by decide +kernel)⟩
theorem lw_p70 : lw_okq (⟨"FireRowsModel", "layRow", "(IIII)I"⟩, 42) := ⟨⟨by decide +kernel, by decide +kernel⟩, List.mem_of_getElem? (i := 1118) (by decide +kernel), List.mem_of_getElem? (i := 1523) (by decide +kernel), List.mem_of_getElem? (i := 1524) (by decide +kernel)⟩
theorem lw_p71 : lw_okq (⟨"FireRowsModel", "isEven", "(II)Z"⟩, 42) := ⟨⟨by decide +kernel, by decide +kernel⟩, List.mem_of_getElem? (i := 1118) (by decide +kernel), List.mem_of_getElem? (i := 1527) (by decide +kernel), List.mem_of_getElem? (i := 1528) (by decide +kernel)⟩
theorem lw_p72 : lw_okq (⟨"FireRowsModel", "isOlder", "(II)Z"⟩, 42) := ⟨⟨by decide +kernel, by decide +kernel⟩, List.mem_of_getElem? (i := 1118) (by decide +kernel), List.mem_of_getElem? (i := 1539) (by decide +kernel), List.mem_of_getElem? (i := 1540) (by decide +kernel)⟩
theorem lw_p73 : lw_okq (⟨"FireRowsModel", "dates", "()I"⟩, 42) := ⟨⟨by decide +kernel, by decide +kernel⟩, List.mem_of_getElem? (i := 1118) (by decide +kernel), List.mem_of_getElem? (i := 1551) (by decide +kernel), List.mem_of_getElem? (i := 1552) (by decide +kernel)⟩
theorem lw_p74 : lw_okq (⟨"FireRowsModel", "offBy", "(II)I"⟩, 42) := ⟨⟨by decide +kernel, by decide +kernel⟩, List.mem_of_getElem? (i := 1118) (by decide +kernel), List.mem_of_getElem? (i := 1555) (by decide +kernel), List.mem_of_getElem? (i := 1556) (by decide +kernel)⟩
theorem lw_p75 : lw_okq (⟨"FireRowsModel", "toldBy", "(II)I"⟩, 42) := ⟨⟨by decide +kernel, by decide +kernel⟩, List.mem_of_getElem? (i := 1118) (by decide +kernel), List.mem_of_getElem? (i := 1571) (by decide +kernel), List.mem_of_getElem? (i := 1572) (by decide +kernel)⟩
theorem lw_p76 : lw_okq (⟨"FireRowsModel", "kindOf", "(I)I"⟩, 42) := ⟨⟨by decide +kernel, by decide +kernel⟩, List.mem_of_getElem? (i := 1118) (by decide +kernel), List.mem_of_getElem? (i := 1603) (by decide +kernel), List.mem_of_getElem? (i := 1604) (by decide +kernel)⟩
theorem lw_p77 : lw_okq (⟨"FireRowsModel", "sizeOf", "(II)I"⟩, 42) := ⟨⟨by decide +kernel, by decide +kernel⟩, List.mem_of_getElem? (i := 1118) (by decide +kernel), List.mem_of_getElem? (i := 1619) (by decide +kernel), List.mem_of_getElem? (i := 1620) (by decide +kernel)⟩
theorem lw_p78 : lw_okq (⟨"FireRowsModel", "bareSize", "(I)I"⟩, 42) := ⟨⟨by decide +kernel, by decide +kernel⟩, List.mem_of_getElem? (i := 1118) (by decide +kernel), List.mem_of_getElem? (i := 1623) (by decide +kernel), List.mem_of_getElem? (i := 1624) (by decide +kernel)⟩
theorem lw_p79 : lw_okq (⟨"FireRowsModel", "began", "(I)V"⟩, 42) := ⟨⟨by decide +kernel, by decide +kernel⟩, List.mem_of_getElem? (i := 1118) (by decide +kernel), List.mem_of_getElem? (i := 1627) (by decide +kernel), List.mem_of_getElem? (i := 1628) (by decide +kernel)⟩
def lw_privs_5 : List (MethodName × Nat) := [(⟨"FireRowsModel", "seek", "(II)V"⟩, 42), (⟨"FireRowsModel", "fitting", "(II)I"⟩, 42), (⟨"FireRowsModel", "oddsOf", "(I)I"⟩, 42), (⟨"FireRowsModel", "highOf", "(I)I"⟩, 42), (⟨"FireRowsModel", "lowOf", "(I)I"⟩, 42), (⟨"FireRowsModel", "apart", "(II)I"⟩, 42), (⟨"FireRowsModel", "layRow", "(IIII)I"⟩, 42), (⟨"FireRowsModel", "isEven", "(II)Z"⟩, 42), (⟨"FireRowsModel", "isOlder", "(II)Z"⟩, 42), (⟨"FireRowsModel", "dates", "()I"⟩, 42), (⟨"FireRowsModel", "offBy", "(II)I"⟩, 42), (⟨"FireRowsModel", "toldBy", "(II)I"⟩, 42), (⟨"FireRowsModel", "kindOf", "(I)I"⟩, 42), (⟨"FireRowsModel", "sizeOf", "(II)I"⟩, 42), (⟨"FireRowsModel", "bareSize", "(I)I"⟩, 42), (⟨"FireRowsModel", "began", "(I)V"⟩, 42)]
theorem lw_r5 : ∀ q ∈ lw_privs_5, lw_okq q := List.forall_mem_cons.mpr ⟨lw_p64, List.forall_mem_cons.mpr ⟨lw_p65, List.forall_mem_cons.mpr ⟨lw_p66, List.forall_mem_cons.mpr ⟨lw_p67, List.forall_mem_cons.mpr ⟨lw_p68, List.forall_mem_cons.mpr ⟨lw_p69, List.forall_mem_cons.mpr ⟨lw_p70, List.forall_mem_cons.mpr ⟨lw_p71, List.forall_mem_cons.mpr ⟨lw_p72, List.forall_mem_cons.mpr ⟨lw_p73, List.forall_mem_cons.mpr ⟨lw_p74, List.forall_mem_cons.mpr ⟨lw_p75, List.forall_mem_cons.mpr ⟨lw_p76, List.forall_mem_cons.mpr ⟨lw_p77, List.forall_mem_cons.mpr ⟨lw_p78, List.forall_mem_cons.mpr ⟨lw_p79, fun _ h => absurd h List.not_mem_nil⟩⟩⟩⟩⟩⟩⟩⟩⟩⟩⟩⟩⟩⟩⟩⟩
theorem lw_p80 : lw_okq (⟨"FireRowsModel", "markOf", "(II)I"⟩, 42) := ⟨⟨by decide +kernel, by decide +kernel⟩, List.mem_of_getElem? (i := 1118) (by decide +kernel), List.mem_of_getElem? (i := 1631) (by decide +kernel), List.mem_of_getElem? (i := 1632) (by decide +kernel)⟩
def lw_privs_6 : List (MethodName × Nat) := [(⟨"FireRowsModel", "markOf", "(II)I"⟩, 42)]
theorem lw_r6 : ∀ q ∈ lw_privs_6, lw_okq q := List.forall_mem_cons.mpr ⟨lw_p80, fun _ h => absurd h List.not_mem_nil⟩
def lw_privs : List (MethodName × Nat) := lw_privs_1 ++ (lw_privs_2 ++ (lw_privs_3 ++ (lw_privs_4 ++ (lw_privs_5 ++ (lw_privs_6)))))
def lw_tbl : List Cond := k2_sels lw_privs ++ tables_1
theorem lw_privs_ok : ∀ q ∈ lw_privs, lw_okq q := by
  show ∀ q ∈ lw_privs_1 ++ (lw_privs_2 ++ (lw_privs_3 ++ (lw_privs_4 ++ (lw_privs_5 ++ (lw_privs_6))))), lw_okq q
  exact List.forall_mem_append.mpr ⟨lw_r1, List.forall_mem_append.mpr ⟨lw_r2, List.forall_mem_append.mpr ⟨lw_r3, List.forall_mem_append.mpr ⟨lw_r4, List.forall_mem_append.mpr ⟨lw_r5, lw_r6⟩⟩⟩⟩⟩
end
section
def tx0 : u_T := fun k => match k with
  | 0 => ("FireRows$Asks", "bodies", "[I", true)
  | 1 => ("FireRows$Asks", "begun", "I", false)
  | 2 => ("FireRows$Asks", "hill", "I", false)
  | 3 => ("FireRows$Asks", "kind", "I", false)
  | 4 => ("FireRows$Asks", "dates", "I", false)
  | _ => ("FireRows$Asks", "lower", "I", false)
def tt0 : Nat → FieldType := fun k => match k with
  | 0 => .array .int
  | 1 => .int
  | 2 => .int
  | 3 => .int
  | 4 => .int
  | _ => .int
theorem tn0 : ∀ a, a < 6 → ∀ b, b < 6 → a ≠ b → (tx0 a).2.1 ≠ (tx0 b).2.1 := by decide +kernel
theorem tk0 : ∀ k, k < 6 → parseFieldDescriptor (tx0 k).2.2.1 = some (tt0 k) := by decide +kernel
theorem ti0 : ∀ w ∈ u_ws "FireRows$Asks" tx0 6, w ∈ lw_tbl := by
  have h : u_ws "FireRows$Asks" tx0 6 = [451, 453, 455, 457, 459, 461].filterMap (fun i => lw_tbl[i]?) := by decide +kernel
  intro w hw
  rw [h] at hw
  obtain ⟨i, -, hi⟩ := List.mem_filterMap.mp hw
  exact List.mem_of_getElem? hi
def tx1 : u_T := fun k => match k with
  | 0 => ("FireRows$Floor", "floors", "LFireRows$Lines;", true)
  | 1 => ("FireRows$Floor", "fires", "LFireRows$Lines;", true)
  | 2 => ("FireRows$Floor", "houses", "LFireRows$Lines;", true)
  | 3 => ("FireRows$Floor", "cracks", "LFireRows$Lines;", true)
  | 4 => ("FireRows$Floor", "stories", "LFireRows$Lines;", true)
  | 5 => ("FireRows$Floor", "driftX", "[I", true)
  | 6 => ("FireRows$Floor", "driftY", "[I", true)
  | _ => ("FireRows$Floor", "noDrift", "[I", true)
def tt1 : Nat → FieldType := fun k => match k with
  | 0 => .object "FireRows$Lines"
  | 1 => .object "FireRows$Lines"
  | 2 => .object "FireRows$Lines"
  | 3 => .object "FireRows$Lines"
  | 4 => .object "FireRows$Lines"
  | 5 => .array .int
  | 6 => .array .int
  | _ => .array .int
theorem tn1 : ∀ a, a < 8 → ∀ b, b < 8 → a ≠ b → (tx1 a).2.1 ≠ (tx1 b).2.1 := by decide +kernel
theorem tk1 : ∀ k, k < 8 → parseFieldDescriptor (tx1 k).2.2.1 = some (tt1 k) := by decide +kernel
theorem ti1 : ∀ w ∈ u_ws "FireRows$Floor" tx1 8, w ∈ lw_tbl := by
  have h : u_ws "FireRows$Floor" tx1 8 = [229, 231, 233, 235, 237, 239, 241, 243].filterMap (fun i => lw_tbl[i]?) := by decide +kernel
  intro w hw
  rw [h] at hw
  obtain ⟨i, -, hi⟩ := List.mem_filterMap.mp hw
  exact List.mem_of_getElem? hi
def tx2 : u_T := fun k => match k with
  | 0 => ("FireRows$Hills", "x", "[I", true)
  | 1 => ("FireRows$Hills", "y", "[I", true)
  | 2 => ("FireRows$Hills", "dates", "[I", true)
  | 3 => ("FireRows$Hills", "lower", "[I", true)
  | 4 => ("FireRows$Hills", "upper", "[I", true)
  | 5 => ("FireRows$Hills", "again", "[Z", true)
  | 6 => ("FireRows$Hills", "needleY", "[I", true)
  | 7 => ("FireRows$Hills", "needleWide", "[I", true)
  | 8 => ("FireRows$Hills", "number", "I", false)
  | 9 => ("FireRows$Hills", "house", "[I", true)
  | _ => ("FireRows$Hills", "value", "[I", true)
def tt2 : Nat → FieldType := fun k => match k with
  | 0 => .array .int
  | 1 => .array .int
  | 2 => .array .int
  | 3 => .array .int
  | 4 => .array .int
  | 5 => .array .boolean
  | 6 => .array .int
  | 7 => .array .int
  | 8 => .int
  | 9 => .array .int
  | _ => .array .int
theorem tn2 : ∀ a, a < 11 → ∀ b, b < 11 → a ≠ b → (tx2 a).2.1 ≠ (tx2 b).2.1 := by decide +kernel
theorem tk2 : ∀ k, k < 11 → parseFieldDescriptor (tx2 k).2.2.1 = some (tt2 k) := by decide +kernel
theorem ti2 : ∀ w ∈ u_ws "FireRows$Hills" tx2 11, w ∈ lw_tbl := by
  have h : u_ws "FireRows$Hills" tx2 11 = [323, 325, 327, 329, 331, 333, 335, 337, 339, 341, 343].filterMap (fun i => lw_tbl[i]?) := by decide +kernel
  intro w hw
  rw [h] at hw
  obtain ⟨i, -, hi⟩ := List.mem_filterMap.mp hw
  exact List.mem_of_getElem? hi
def tx3 : u_T := fun k => match k with
  | 0 => ("FireRows$Lines", "word", "Ljava/lang/String;", true)
  | 1 => ("FireRows$Lines", "columns", "I", true)
  | 2 => ("FireRows$Lines", "number", "I", false)
  | 3 => ("FireRows$Lines", "first", "I", true)
  | 4 => ("FireRows$Lines", "least", "[I", true)
  | 5 => ("FireRows$Lines", "most", "[I", true)
  | _ => ("FireRows$Lines", "numbers", "[I", true)
def tt3 : Nat → FieldType := fun k => match k with
  | 0 => .object "java/lang/String"
  | 1 => .int
  | 2 => .int
  | 3 => .int
  | 4 => .array .int
  | 5 => .array .int
  | _ => .array .int
theorem tn3 : ∀ a, a < 7 → ∀ b, b < 7 → a ≠ b → (tx3 a).2.1 ≠ (tx3 b).2.1 := by decide +kernel
theorem tk3 : ∀ k, k < 7 → parseFieldDescriptor (tx3 k).2.2.1 = some (tt3 k) := by decide +kernel
theorem ti3 : ∀ w ∈ u_ws "FireRows$Lines" tx3 7, w ∈ lw_tbl := by
  have h : u_ws "FireRows$Lines" tx3 7 = [170, 172, 174, 176, 178, 180, 182].filterMap (fun i => lw_tbl[i]?) := by decide +kernel
  intro w hw
  rw [h] at hw
  obtain ⟨i, -, hi⟩ := List.mem_filterMap.mp hw
  exact List.mem_of_getElem? hi
def tx4 : u_T := fun k => match k with
  | 0 => ("FireRows$Reader", "floor", "LFireRows$Floor;", true)
  | 1 => ("FireRows$Reader", "fault", "I", false)
  | 2 => ("FireRows$Reader", "start", "I", false)
  | 3 => ("FireRows$Reader", "tape", "LFireRows$Tape;", true)
  | 4 => ("FireRows$Reader", "sort", "I", false)
  | 5 => ("FireRows$Reader", "value", "I", false)
  | _ => ("FireRows$Reader", "behind", "I", false)
def tt4 : Nat → FieldType := fun k => match k with
  | 0 => .object "FireRows$Floor"
  | 1 => .int
  | 2 => .int
  | 3 => .object "FireRows$Tape"
  | 4 => .int
  | 5 => .int
  | _ => .int
theorem tn4 : ∀ a, a < 7 → ∀ b, b < 7 → a ≠ b → (tx4 a).2.1 ≠ (tx4 b).2.1 := by decide +kernel
theorem tk4 : ∀ k, k < 7 → parseFieldDescriptor (tx4 k).2.2.1 = some (tt4 k) := by decide +kernel
theorem ti4 : ∀ w ∈ u_ws "FireRows$Reader" tx4 7, w ∈ lw_tbl := by
  have h : u_ws "FireRows$Reader" tx4 7 = [256, 258, 260, 262, 264, 266, 268].filterMap (fun i => lw_tbl[i]?) := by decide +kernel
  intro w hw
  rw [h] at hw
  obtain ⟨i, -, hi⟩ := List.mem_filterMap.mp hw
  exact List.mem_of_getElem? hi
def tx5 : u_T := fun k => match k with
  | 0 => ("FireRows$Row", "hills", "LFireRows$Hills;", true)
  | 1 => ("FireRows$Row", "member", "[I", true)
  | 2 => ("FireRows$Row", "far", "[I", true)
  | 3 => ("FireRows$Row", "ways", "[I", true)
  | _ => ("FireRows$Row", "length", "I", false)
def tt5 : Nat → FieldType := fun k => match k with
  | 0 => .object "FireRows$Hills"
  | 1 => .array .int
  | 2 => .array .int
  | 3 => .array .int
  | _ => .int
theorem tn5 : ∀ a, a < 5 → ∀ b, b < 5 → a ≠ b → (tx5 a).2.1 ≠ (tx5 b).2.1 := by decide +kernel
theorem tk5 : ∀ k, k < 5 → parseFieldDescriptor (tx5 k).2.2.1 = some (tt5 k) := by decide +kernel
theorem ti5 : ∀ w ∈ u_ws "FireRows$Row" tx5 5, w ∈ lw_tbl := by
  have h : u_ws "FireRows$Row" tx5 5 = [401, 403, 405, 407, 409].filterMap (fun i => lw_tbl[i]?) := by decide +kernel
  intro w hw
  rw [h] at hw
  obtain ⟨i, -, hi⟩ := List.mem_filterMap.mp hw
  exact List.mem_of_getElem? hi
def tx6 : u_T := fun k => match k with
  | 0 => ("FireRows$Sheet", "item", "[I", true)
  | 1 => ("FireRows$Sheet", "lane", "I", false)
  | _ => ("FireRows$Sheet", "items", "I", false)
def tt6 : Nat → FieldType := fun k => match k with
  | 0 => .array .int
  | 1 => .int
  | _ => .int
theorem tn6 : ∀ a, a < 3 → ∀ b, b < 3 → a ≠ b → (tx6 a).2.1 ≠ (tx6 b).2.1 := by decide +kernel
theorem tk6 : ∀ k, k < 3 → parseFieldDescriptor (tx6 k).2.2.1 = some (tt6 k) := by decide +kernel
theorem ti6 : ∀ w ∈ u_ws "FireRows$Sheet" tx6 3, w ∈ lw_tbl := by
  have h : u_ws "FireRows$Sheet" tx6 3 = [474, 476, 478].filterMap (fun i => lw_tbl[i]?) := by decide +kernel
  intro w hw
  rw [h] at hw
  obtain ⟨i, -, hi⟩ := List.mem_filterMap.mp hw
  exact List.mem_of_getElem? hi
def tx7 : u_T := fun k => match k with
  | 0 => ("FireRows$Stories", "floor", "LFireRows$Floor;", true)
  | 1 => ("FireRows$Stories", "hills", "LFireRows$Hills;", true)
  | 2 => ("FireRows$Stories", "fire", "I", false)
  | 3 => ("FireRows$Stories", "age", "I", false)
  | 4 => ("FireRows$Stories", "off", "I", false)
  | _ => ("FireRows$Stories", "fit", "Z", false)
def tt7 : Nat → FieldType := fun k => match k with
  | 0 => .object "FireRows$Floor"
  | 1 => .object "FireRows$Hills"
  | 2 => .int
  | 3 => .int
  | 4 => .int
  | _ => .boolean
theorem tn7 : ∀ a, a < 6 → ∀ b, b < 6 → a ≠ b → (tx7 a).2.1 ≠ (tx7 b).2.1 := by decide +kernel
theorem tk7 : ∀ k, k < 6 → parseFieldDescriptor (tx7 k).2.2.1 = some (tt7 k) := by decide +kernel
theorem ti7 : ∀ w ∈ u_ws "FireRows$Stories" tx7 6, w ∈ lw_tbl := by
  have h : u_ws "FireRows$Stories" tx7 6 = [377, 379, 381, 383, 385, 387].filterMap (fun i => lw_tbl[i]?) := by decide +kernel
  intro w hw
  rw [h] at hw
  obtain ⟨i, -, hi⟩ := List.mem_filterMap.mp hw
  exact List.mem_of_getElem? hi
def tx8 : u_T := fun k => match k with
  | 0 => ("FireRows$Tape", "bytes", "[B", true)
  | _ => ("FireRows$Tape", "size", "I", false)
def tt8 : Nat → FieldType := fun k => match k with
  | 0 => .array .byte
  | _ => .int
theorem tn8 : ∀ a, a < 2 → ∀ b, b < 2 → a ≠ b → (tx8 a).2.1 ≠ (tx8 b).2.1 := by decide +kernel
theorem tk8 : ∀ k, k < 2 → parseFieldDescriptor (tx8 k).2.2.1 = some (tt8 k) := by decide +kernel
theorem ti8 : ∀ w ∈ u_ws "FireRows$Tape" tx8 2, w ∈ lw_tbl := by
  have h : u_ws "FireRows$Tape" tx8 2 = [123, 125].filterMap (fun i => lw_tbl[i]?) := by decide +kernel
  intro w hw
  rw [h] at hw
  obtain ⟨i, -, hi⟩ := List.mem_filterMap.mp hw
  exact List.mem_of_getElem? hi
def tx9 : u_T := fun k => match k with
  | 0 => ("FireRows$Turn", "floor", "LFireRows$Floor;", true)
  | 1 => ("FireRows$Turn", "hills", "LFireRows$Hills;", true)
  | 2 => ("FireRows$Turn", "x", "I", false)
  | 3 => ("FireRows$Turn", "y", "I", false)
  | _ => ("FireRows$Turn", "off", "I", false)
def tt9 : Nat → FieldType := fun k => match k with
  | 0 => .object "FireRows$Floor"
  | 1 => .object "FireRows$Hills"
  | 2 => .int
  | 3 => .int
  | _ => .int
theorem tn9 : ∀ a, a < 5 → ∀ b, b < 5 → a ≠ b → (tx9 a).2.1 ≠ (tx9 b).2.1 := by decide +kernel
theorem tk9 : ∀ k, k < 5 → parseFieldDescriptor (tx9 k).2.2.1 = some (tt9 k) := by decide +kernel
theorem ti9 : ∀ w ∈ u_ws "FireRows$Turn" tx9 5, w ∈ lw_tbl := by
  have h : u_ws "FireRows$Turn" tx9 5 = [426, 428, 430, 432, 434].filterMap (fun i => lw_tbl[i]?) := by decide +kernel
  intro w hw
  rw [h] at hw
  obtain ⟨i, -, hi⟩ := List.mem_filterMap.mp hw
  exact List.mem_of_getElem? hi
def tx10 : u_T := fun k => match k with
  | 0 => ("FireRows$World", "floor", "LFireRows$Floor;", true)
  | _ => ("FireRows$World", "hills", "LFireRows$Hills;", true)
def tt10 : Nat → FieldType := fun k => match k with
  | 0 => .object "FireRows$Floor"
  | _ => .object "FireRows$Hills"
theorem tn10 : ∀ a, a < 2 → ∀ b, b < 2 → a ≠ b → (tx10 a).2.1 ≠ (tx10 b).2.1 := by decide +kernel
theorem tk10 : ∀ k, k < 2 → parseFieldDescriptor (tx10 k).2.2.1 = some (tt10 k) := by decide +kernel
theorem ti10 : ∀ w ∈ u_ws "FireRows$World" tx10 2, w ∈ lw_tbl := by
  have h : u_ws "FireRows$World" tx10 2 = [355, 357].filterMap (fun i => lw_tbl[i]?) := by decide +kernel
  intro w hw
  rw [h] at hw
  obtain ⟨i, -, hi⟩ := List.mem_filterMap.mp hw
  exact List.mem_of_getElem? hi
def tx11 : u_T := fun k => match k with
  | 0 => ("FireRows", "sheets", "[LFireRows$Sheet;", true)
  | 1 => ("FireRows", "tape", "LFireRows$Tape;", true)
  | 2 => ("FireRows", "reader", "LFireRows$Reader;", true)
  | 3 => ("FireRows", "world", "LFireRows$World;", true)
  | 4 => ("FireRows", "images", "[LFireRows$World;", true)
  | 5 => ("FireRows", "stories", "LFireRows$Stories;", true)
  | 6 => ("FireRows", "row", "LFireRows$Row;", true)
  | 7 => ("FireRows", "best", "LFireRows$Turn;", true)
  | 8 => ("FireRows", "asks", "LFireRows$Asks;", true)
  | 9 => ("FireRows", "latestFault", "I", false)
  | _ => ("FireRows", "latestFinding", "I", false)
def tt11 : Nat → FieldType := fun k => match k with
  | 0 => .array (.object "FireRows$Sheet")
  | 1 => .object "FireRows$Tape"
  | 2 => .object "FireRows$Reader"
  | 3 => .object "FireRows$World"
  | 4 => .array (.object "FireRows$World")
  | 5 => .object "FireRows$Stories"
  | 6 => .object "FireRows$Row"
  | 7 => .object "FireRows$Turn"
  | 8 => .object "FireRows$Asks"
  | 9 => .int
  | _ => .int
theorem tn11 : ∀ a, a < 11 → ∀ b, b < 11 → a ≠ b → (tx11 a).2.1 ≠ (tx11 b).2.1 := by decide +kernel
theorem tk11 : ∀ k, k < 11 → parseFieldDescriptor (tx11 k).2.2.1 = some (tt11 k) := by decide +kernel
theorem ti11 : ∀ w ∈ u_ws "FireRows" tx11 11, w ∈ lw_tbl := by
  have h : u_ws "FireRows" tx11 11 = [492, 494, 496, 498, 500, 502, 504, 506, 508, 510, 512].filterMap (fun i => lw_tbl[i]?) := by decide +kernel
  intro w hw
  rw [h] at hw
  obtain ⟨i, -, hi⟩ := List.mem_filterMap.mp hw
  exact List.mem_of_getElem? hi
def tx12 : u_T := fun k => match k with
  | 0 => ("FireRowsModel", "thrown", "I", false)
  | 1 => ("FireRowsModel", "status", "I", false)
  | 2 => ("FireRowsModel", "lane", "[I", true)
  | 3 => ("FireRowsModel", "many", "[I", true)
  | 4 => ("FireRowsModel", "item", "[I", true)
  | 5 => ("FireRowsModel", "land", "[I", true)
  | 6 => ("FireRowsModel", "fresh", "[I", true)
  | 7 => ("FireRowsModel", "isThere", "Z", false)
  | 8 => ("FireRowsModel", "now", "[I", true)
  | 9 => ("FireRowsModel", "tape", "[I", true)
  | 10 => ("FireRowsModel", "taped", "I", false)
  | 11 => ("FireRowsModel", "latest", "I", false)
  | 12 => ("FireRowsModel", "length", "I", false)
  | 13 => ("FireRowsModel", "cursor", "I", false)
  | 14 => ("FireRowsModel", "token", "I", false)
  | 15 => ("FireRowsModel", "from", "I", false)
  | 16 => ("FireRowsModel", "till", "I", false)
  | 17 => ("FireRowsModel", "value", "I", false)
  | 18 => ("FireRowsModel", "fault", "I", false)
  | 19 => ("FireRowsModel", "faultAt", "I", false)
  | 20 => ("FireRowsModel", "driftX", "[I", true)
  | 21 => ("FireRowsModel", "driftY", "[I", true)
  | 22 => ("FireRowsModel", "low", "I", false)
  | 23 => ("FireRowsModel", "high", "I", false)
  | 24 => ("FireRowsModel", "isAgain", "Z", false)
  | 25 => ("FireRowsModel", "nearFire", "I", false)
  | 26 => ("FireRowsModel", "nearAge", "I", false)
  | 27 => ("FireRowsModel", "nearOff", "I", false)
  | 28 => ("FireRowsModel", "isFit", "Z", false)
  | 29 => ("FireRowsModel", "row", "[I", true)
  | 30 => ("FireRowsModel", "far", "[I", true)
  | 31 => ("FireRowsModel", "lows", "[I", true)
  | 32 => ("FireRowsModel", "highs", "[I", true)
  | 33 => ("FireRowsModel", "turnX", "I", false)
  | 34 => ("FireRowsModel", "turnY", "I", false)
  | 35 => ("FireRowsModel", "turnOff", "I", false)
  | 36 => ("FireRowsModel", "ways", "[I", true)
  | 37 => ("FireRowsModel", "isKept", "[Z", true)
  | 38 => ("FireRowsModel", "keptLand", "[I", true)
  | 39 => ("FireRowsModel", "keptNow", "[I", true)
  | 40 => ("FireRowsModel", "trace", "[I", true)
  | _ => ("FireRowsModel", "traced", "I", false)
def tt12 : Nat → FieldType := fun k => match k with
  | 0 => .int
  | 1 => .int
  | 2 => .array .int
  | 3 => .array .int
  | 4 => .array .int
  | 5 => .array .int
  | 6 => .array .int
  | 7 => .boolean
  | 8 => .array .int
  | 9 => .array .int
  | 10 => .int
  | 11 => .int
  | 12 => .int
  | 13 => .int
  | 14 => .int
  | 15 => .int
  | 16 => .int
  | 17 => .int
  | 18 => .int
  | 19 => .int
  | 20 => .array .int
  | 21 => .array .int
  | 22 => .int
  | 23 => .int
  | 24 => .boolean
  | 25 => .int
  | 26 => .int
  | 27 => .int
  | 28 => .boolean
  | 29 => .array .int
  | 30 => .array .int
  | 31 => .array .int
  | 32 => .array .int
  | 33 => .int
  | 34 => .int
  | 35 => .int
  | 36 => .array .int
  | 37 => .array .boolean
  | 38 => .array .int
  | 39 => .array .int
  | 40 => .array .int
  | _ => .int
theorem tn12 : ∀ a, a < 42 → ∀ b, b < 42 → a ≠ b → (tx12 a).2.1 ≠ (tx12 b).2.1 := by decide +kernel
theorem tk12 : ∀ k, k < 42 → parseFieldDescriptor (tx12 k).2.2.1 = some (tt12 k) := by decide +kernel
theorem ti12 : ∀ w ∈ u_ws "FireRowsModel" tx12 42, w ∈ lw_tbl := by
  have h : u_ws "FireRowsModel" tx12 42 = [1246, 1248, 1250, 1252, 1254, 1256, 1258, 1260, 1262, 1264, 1266, 1268, 1270, 1272, 1274, 1276, 1278, 1280, 1282, 1284, 1286, 1288, 1290, 1292, 1294, 1296, 1298, 1300, 1302, 1304, 1306, 1308, 1310, 1312, 1314, 1316, 1318, 1320, 1322, 1324, 1326, 1328].filterMap (fun i => lw_tbl[i]?) := by decide +kernel
  intro w hw
  rw [h] at hw
  obtain ⟨i, -, hi⟩ := List.mem_filterMap.mp hw
  exact List.mem_of_getElem? hi
def cls : List vw_C := [("FireRows$Asks", tx0, 6), ("FireRows$Floor", tx1, 8), ("FireRows$Hills", tx2, 11), ("FireRows$Lines", tx3, 7), ("FireRows$Reader", tx4, 7), ("FireRows$Row", tx5, 5), ("FireRows$Sheet", tx6, 3), ("FireRows$Stories", tx7, 6), ("FireRows$Tape", tx8, 2), ("FireRows$Turn", tx9, 5), ("FireRows$World", tx10, 2), ("FireRows", tx11, 11), ("FireRowsModel", tx12, 42)]
/-- the types of cells: rows of ints 0, of bytes 1, of booleans 2, of cells 3; objects 4; given rows 5, given texts 6, the script 7 -/
def shl : List (Nat × Nat × List (Nat × Nat × Nat)) := [
  (0, 40, []),
  (0, 12, []),
  (0, 100, []),
  (0, 48, []),
  (0, 4096, []),
  (0, 16, []),
  (0, 24, []),
  (0, 8, []),
  (0, 20, []),
  (0, 320, []),
  (0, 62, []),
  (0, 169, []),
  (0, 500, []),
  (0, 124, []),
  (0, 338, []),
  (1, 500, []),
  (2, 12, []),
  (2, 2, []),
  (5, 0, []),
  (5, 1, []),
  (5, 2, []),
  (5, 3, []),
  (5, 4, []),
  (5, 5, []),
  (5, 6, []),
  (5, 7, []),
  (5, 8, []),
  (5, 9, []),
  (5, 10, []),
  (6, 0, []),
  (6, 1, []),
  (6, 2, []),
  (6, 3, []),
  (6, 4, []),
  (6, 5, []),
  (6, 6, []),
  (6, 7, []),
  (4, 3, [(3, 29, 1100), (1, 3, 0), (0, 0, 0), (1, 1, 0), (3, 18, 1000), (3, 19, 1001), (2, 1, 1)]),
  (4, 3, [(3, 30, 1101), (1, 6, 0), (0, 0, 0), (1, 0, 0), (3, 20, 1002), (3, 21, 1003), (2, 6, 1)]),
  (4, 3, [(3, 31, 1102), (1, 2, 0), (0, 0, 0), (1, 0, 0), (3, 22, 1004), (3, 23, 1005), (2, 7, 1)]),
  (4, 3, [(3, 32, 1103), (1, 5, 0), (0, 0, 0), (1, 0, 0), (3, 24, 1006), (3, 25, 1007), (2, 8, 1)]),
  (4, 3, [(3, 33, 1104), (1, 2, 0), (0, 0, 0), (1, 2, 0), (3, 26, 1008), (3, 27, 1009), (2, 7, 1)]),
  (4, 1, [(2, 37, 1), (2, 38, 3), (2, 39, 5), (2, 40, 7), (2, 41, 9), (2, 2, 11), (2, 2, 12), (2, 2, 13)]),
  (4, 2, [(2, 1, 1), (2, 1, 2), (2, 1, 3), (2, 1, 4), (2, 1, 5), (2, 16, 6), (2, 1, 7), (2, 1, 8), (0, 0, 0), (2, 3, 9), (2, 3, 10)]),
  (4, 10, [(2, 42, 1), (2, 43, 15)]),
  (4, 6, [(2, 0, 1), (0, 0, 0), (0, 0, 0)]),
  (3, 8, [(45, 2, 2)]),
  (3, 2, [(44, 62, 26)]),
  (4, 8, [(2, 15, 1), (0, 0, 0)]),
  (4, 4, [(2, 42, 1), (0, 0, 0), (0, 0, 0), (3, 48, 18), (0, 0, 0), (0, 0, 0), (0, 0, 0)]),
  (4, 7, [(3, 42, 36), (3, 43, 50), (0, 0, 0), (0, 0, 0), (0, 0, 0), (4, 0, 0)]),
  (4, 5, [(3, 43, 50), (2, 1, 1), (2, 1, 2), (2, 4, 3), (0, 0, 0)]),
  (4, 9, [(3, 42, 36), (3, 43, 50), (0, 0, 0), (0, 0, 0), (0, 0, 0)]),
  (4, 0, [(2, 5, 1), (0, 0, 0), (0, 0, 0), (0, 0, 0), (0, 0, 0), (0, 0, 0)]),
  (4, 11, [(3, 46, 1), (3, 48, 18), (3, 49, 20), (3, 44, 35), (3, 47, 61), (3, 50, 114), (3, 51, 115), (3, 52, 119), (3, 53, 120), (0, 0, 0), (0, 0, 0)]),
  (4, 12, [(0, 0, 0), (0, 0, 0), (3, 7, 123), (3, 7, 124), (3, 9, 125), (3, 10, 126), (3, 10, 127), (4, 0, 0), (3, 11, 128), (3, 12, 129), (0, 0, 0), (0, 0, 0), (0, 0, 0), (0, 0, 0), (0, 0, 0), (0, 0, 0), (0, 0, 0), (0, 0, 0), (0, 0, 0), (0, 0, 0), (3, 2, 130), (3, 2, 131), (0, 0, 0), (0, 0, 0), (4, 0, 0), (0, 0, 0), (0, 0, 0), (0, 0, 0), (4, 0, 0), (3, 1, 132), (3, 1, 133), (3, 1, 134), (3, 1, 135), (0, 0, 0), (0, 0, 0), (0, 0, 0), (3, 4, 136), (3, 17, 137), (3, 13, 138), (3, 14, 139), (3, 5, 140), (0, 0, 0)]),
  (7, 0, [])]
def tabl : List Nat := [54, 46, 45, 0, 45, 0, 45, 0, 45, 0, 45, 0, 45, 0, 45, 0, 45, 0, 48, 15, 49, 42, 37, 1, 38, 6, 39, 7, 40, 8, 41, 7, 2, 2, 2, 44, 42, 37, 1, 38, 6, 39, 7, 40, 8, 41, 7, 2, 2, 2, 43, 1, 1, 1, 1, 1, 16, 1, 1, 3, 3, 47, 44, 42, 37, 1, 38, 6, 39, 7, 40, 8, 41, 7, 2, 2, 2, 43, 1, 1, 1, 1, 1, 16, 1, 1, 3, 3, 44, 42, 37, 1, 38, 6, 39, 7, 40, 8, 41, 7, 2, 2, 2, 43, 1, 1, 1, 1, 1, 16, 1, 1, 3, 3, 50, 51, 1, 1, 4, 52, 53, 5, 55, 7, 7, 9, 10, 10, 11, 12, 2, 2, 1, 1, 1, 1, 4, 17, 13, 14, 5]
def stl : List (List Int32) := [[1, (-99), (-99)], [99, 99, 99], [(-9999), (-9999), (-9), (-9), 1, 0], [9999, 9999, 9, 9, 20, 99], [(-9), 0], [9, 20], [(-9999), (-9999), (-99), (-99), 0], [9999, 9999, 99, 99, 99], [0, 1], [3, 9], [0, 0, 1, 1, 0, 4]]
def stx : List (List Int32) := [[102, 108, 111, 111, 114], [102, 105, 114, 101], [104, 111, 117, 115, 101], [99, 114, 97, 99, 107], [115, 116, 111, 114, 121], [115, 116, 97, 121, 115], [119, 97, 110, 100, 101, 114, 115], [108, 97, 116, 101]]
end
section
/-! the abstract machine: cells by numbers with known types, ints by a table; its steps -/
abbrev St : Type := Nat → Nat → Int32
abbrev AV : Type := (Nat × Nat) ⊕ (Int32 ⊕ Int64)
abbrev rf (t i : Nat) : AV := .inl (t, i)
abbrev iv (x : Int32) : AV := .inr (.inl x)
abbrev jv (x : Int64) : AV := .inr (.inr x)
def up (σ : St) (k j : Nat) (v : Int32) : St := fun a => if a = k then upd (σ k) j v else σ a
def upr (σ : St) (k : Nat) (f : Nat → Int32) : St := fun a => if a = k then f else σ a
def lnth {α : Type} : List α → Nat → Option α
  | [], _ => none
  | a :: _, 0 => some a
  | _ :: l, n + 1 => lnth l n
theorem lnth_eq {α : Type} : ∀ (l : List α) (n : Nat), lnth l n = l[n]?
  | [], n => by simp [lnth]
  | a :: l, 0 => rfl
  | a :: l, n + 1 => by rw [lnth, lnth_eq l n]; simp
def sh (t : Nat) : Nat × Nat × List (Nat × Nat × Nat) := (lnth shl t).getD (9, 0, [])
def tab (k : Nat) : Nat := (lnth tabl k).getD 999
abbrev nCells : Nat := 141
/-- a method: its name, bytes, locals, answer; the frames and words of locals that its calls may need; whether static; how many arguments; its words' places: code, initialized, and instanceMethod with selects, or static -/
abbrev HD : Type := MethodName × ByteArray × Nat × Option FieldType × Nat × Nat × Bool × Nat × (Nat × Nat × Nat × Nat)
abbrev HD.y (h : HD) : MethodName := h.1
abbrev HD.by (h : HD) : ByteArray := h.2.1
abbrev HD.ml (h : HD) : Nat := h.2.2.1
abbrev HD.rt (h : HD) : Option FieldType := h.2.2.2.1
abbrev HD.fr (h : HD) : Nat := h.2.2.2.2.1
abbrev HD.lo (h : HD) : Nat := h.2.2.2.2.2.1
abbrev HD.st (h : HD) : Bool := h.2.2.2.2.2.2.1
abbrev HD.na (h : HD) : Nat := h.2.2.2.2.2.2.2.1
abbrev HD.pl (h : HD) : Nat × Nat × Nat × Nat := h.2.2.2.2.2.2.2.2
abbrev Od : Type := (Nat × Nat × Nat) ⊕ ((HD × Nat) ⊕ ((Int32 × Nat) ⊕ (Int64 × Nat)))
/-- an instruction: pc, length, itself, whether walks stop there, what it names -/
abbrev Ent : Type := Nat × Nat × Instr × Bool × Od
/-- the script: its length, its ints -/
abbrev Ro : Type := Nat × (Nat → Int32)
def lget : List (Option AV) → Nat → Option AV
  | [], _ => none
  | a :: _, 0 => a
  | _ :: l, n + 1 => lget l n
def nolong : Option AV → Option AV
  | some (.inr (.inr _)) => none
  | x => x
def lset : List (Option AV) → Nat → AV → List (Option AV)
  | [], _, _ => []
  | _ :: l, 0, v => some v :: l
  | a :: l, n + 1, v => match n with
    | 0 => nolong a :: lset l 0 v
    | k + 1 => a :: lset l (k + 1) v
def lset2 : List (Option AV) → Nat → AV → List (Option AV)
  | [], _, _ => []
  | _ :: l, 0, v => match l with
    | [] => []
    | _ :: l' => some v :: none :: l'
  | a :: l, n + 1, v => match n with
    | 0 => nolong a :: lset2 l 0 v
    | k + 1 => a :: lset2 l (k + 1) v
def vcat : AV → Nat
  | .inr (.inr _) => 2
  | _ => 1
def scat : List AV → Nat
  | [] => 0
  | v :: l => vcat v + scat l
def lent : List AV → Nat → List (Option AV)
  | _, 0 => []
  | [], n + 1 => none :: lent [] n
  | v :: l, n + 1 => match vcat v with
    | 2 => match n with
      | 0 => []
      | k + 1 => some v :: none :: lent l k
    | _ => some v :: lent l n
def sk (code : List Ent) (t : Nat) : List Ent := match code with
  | [] => []
  | e :: es => match Nat.beq e.1 t with
    | true => e :: es
    | false => sk es t
def tgt (pc : Nat) (off : Int) : Nat := ((pc : Int) + off).toNat
def poprev : Nat → List AV → List AV → Option (List AV × List AV)
  | 0, acc, S => some (acc, S)
  | n + 1, acc, v :: S => poprev n (v :: acc) S
  | _ + 1, _, [] => none
/-! what stands for the machine -/
abbrev Gh : Type := (Nat → Nat) × (Nat → ClassId) × (Nat → Nat → Nat) × (Nat → ClassId)
abbrev Gh.ad (g : Gh) : Nat → Nat := g.1
abbrev Gh.D (g : Gh) : va_G := (g.2.1, g.2.2.1)
abbrev Gh.dA (g : Gh) : Nat → ClassId := g.2.2.2
def cv (g : Gh) : AV → Value
  | .inl q => .ref (g.ad q.2)
  | .inr (.inl x) => .int x
  | .inr (.inr x) => .long x
def tyl (g : Gh) : List (ClassId × FieldType) := [(g.dA 0, .int), (g.dA 1, .byte), (g.dA 2, .boolean), (g.dA 3, .object "FireRows$Sheet"), (g.dA 4, .object "FireRows$World")]
def fval (g : Gh) (σ : St) (k j : Nat) (f : Nat × Nat × Nat) : Value := match f.1 with
  | 1 => .int (Int32.ofNat f.2.1)
  | 2 => .ref (g.ad (k + f.2.2))
  | 3 => .ref (g.ad f.2.2)
  | _ => .int (σ k j)
def fvals (g : Gh) (σ : St) (k : Nat) : Nat → List (Nat × Nat × Nat) → List Value
  | _, [] => []
  | j, f :: fs => fval g σ k j f :: fvals g σ k (j + 1) fs
def cellS (g : Gh) (σ : St) (k : Nat) (q : Nat × Nat × List (Nat × Nat × Nat)) : va_E := match q.1 with
  | 0 => .inl (g.dA 0, q.2.1, .inl (σ k))
  | 1 => .inl (g.dA 1, q.2.1, .inl (σ k))
  | 2 => .inl (g.dA 2, q.2.1, .inl (σ k))
  | 3 => match q.2.2 with
    | (t, b, d) :: _ => .inl (g.dA (if t = 45 then 3 else 4), q.2.1, .inr (.inr (.inr (.inr (fun i => some (g.ad (b + d * i)))))))
    | [] => .inr (99, [])
  | _ => .inr (q.2.1, fvals g σ k 0 q.2.2)
def cellOf (g : Gh) (σ : St) (k : Nat) : va_E := cellS g σ k (sh (tab k))
def wl (g : Gh) (σ : St) : va_W := (List.range nCells).map fun k => (g.ad k, cellOf g σ k)
/-- the cells that methods may change -/
def WA (g : Gh) : Nat → Prop := fun q => ∃ k, k < nCells ∧ q = g.ad k
def inj (g : Gh) : Prop := ∀ i j, i < nCells → j < nCells → g.ad i = g.ad j → i = j
/-- given rows and texts -/
def Sx (g : Gh) (A : Nat → Prop) (U : State) (H : Heap) : Prop :=
  (∀ j, j < 11 → va_T .int (g.ad (1000 + j)) (stl.getD j []).length (fun i => .int ((stl.getD j []).getD i 0)) A U H) ∧
  va_Z "FireRows$Asks" "ABOVE" "[I" (.ref (g.ad 1010)) A U H ∧ va_Z "java/lang/String" "COMPACT_STRINGS" "Z" (.int 1) A U H ∧
  (∀ i, i < 8 → va_O "java/lang/String" (g.ad (1100 + i)) A U H ∧ va_OF "java/lang/String" "coder" "B" (.int 0) (g.ad (1100 + i)) A U H ∧ va_OF "java/lang/String" "value" "[B" (.ref (g.ad (1200 + i))) (g.ad (1100 + i)) A U H ∧ va_T .byte (g.ad (1200 + i)) (stx.getD i []).length (fun j => .int ((stx.getD i []).getD j 0)) A U H)
def strk : List (Nat × String × Nat × Nat) := [(0, "FireRows$Floor", 11, 143), (1, "FireRows$Floor", 29, 186), (2, "FireRows$Floor", 40, 191), (3, "FireRows$Floor", 51, 196), (4, "FireRows$Floor", 62, 201), (5, "FireRows$Reader", 107, 688), (6, "FireRows$Reader", 109, 689), (7, "FireRows$Reader", 111, 690), (3, "FireRows$Reader", 113, 691)]
def Sr (g : Gh) (U : State) : Prop := ∀ q ∈ strk, vk_R q.2.1 q.2.2.1 ((["floor", "fire", "house", "crack", "story", "stays", "wanders", "late"] : List String).getD q.1 "") (g.ad (1100 + q.1)) U
def wfv : AV → Prop
  | .inl q => (q.2 < nCells ∧ tab q.2 = q.1) ∨ ((sh q.1).1 = 5 ∧ q.2 = 1000 + (sh q.1).2.1 ∧ (sh q.1).2.1 < 11) ∨ ((sh q.1).1 = 6 ∧ q.2 = 1100 + (sh q.1).2.1 ∧ (sh q.1).2.1 < 8) ∨ ((sh q.1).1 = 7 ∧ q.2 = 2000)
  | _ => True
def Wd (g : Gh) (σ : St) (U : State) (H : Heap) : Prop := va_P g.D cls (wl g σ) H ∧ inj g ∧ va_K g.D cls (tyl g) U ∧ Sx g (WA g) U H ∧ Sr g U
def HD.ws (h : HD) : List Cond := .code h.y h.by h.ml h.rt :: lw_tbl
def HD.rm (h : HD) : Room := { frames := h.fr, cells := 0, slots := 0, locals := h.lo }
def QcG (g : Gh) (Q : Option AV → St → Prop) : Array Value → State → Outcome → State → Prop := fun _ st oc t => (∃ (v : Option AV) (σ' : St), oc = .returned (v.map (cv g)) ∧ (∀ w, v = some w → wfv w) ∧ Q v σ' ∧ Wd g σ' t t.heap) ∧ va_F (WA g) st t
/-- a call of h with these arguments in this world ends, with Q -/
def CallOk (h : HD) (as : List AV) (σ : St) (Q : Option AV → St → Prop) : Prop :=
  ∀ (l : Launch) (g : Gh), (∀ a ∈ as, wfv a) → Met l h.y h.ws h.rm (va_Pc (as.map (cv g)) (fun U => Wd g σ U U.heap)) (QcG g Q) 0 0 (WA g)
def Cx (h : HD) (X : Ro) (g : Gh) (A : Nat → Prop) (p : Program) (R : Room) (s : State) (m : MethodId) (args : Array Value) (meth : Method) (c : Code) (cells slots : Nat) : Prop :=
  p.tables.exec = Jvm.exec ∧ c.code = h.by ∧ c.maxLocals = h.ml ∧ s.vm.findClass h.y.cls = some m.cls ∧ (∀ w ∈ lw_tbl, w.before args s = true) ∧ va_K g.D cls (tyl g) s ∧ inj g ∧ (∀ k, k < nCells → A (g.ad k)) ∧ Sx g A s s.heap ∧ Sr g s ∧ h.fr ≤ R.frames ∧ h.lo ≤ R.locals ∧ cells ≤ R.cells ∧ slots ≤ R.slots ∧
  (X.1 = 0 ∨ (va_X (g.ad 2000) X.1 X.2 s s.heap ∧ g.ad 2000 < s.heap.size ∧ ¬ A (g.ad 2000)))
def lpairs (g : Gh) : Nat → List (Option AV) → List (Nat × Value)
  | _, [] => []
  | i, none :: l => lpairs g (i + 1) l
  | i, some v :: l => (i, cv g v) :: lpairs g (i + 1) l
def lwf (L : List (Option AV)) : Prop := ∀ v, some v ∈ L → wfv v
def swf (S : List AV) : Prop := ∀ v ∈ S, wfv v
def rtok (rt : Option FieldType) (v : Option AV) : Prop := match v with
  | none => rt = none
  | some (.inr (.inl x)) => rt = some .int ∨ (rt = some .boolean ∧ (x = 0 ∨ x = 1))
  | some (.inr (.inr _)) => rt = some .long
  | some (.inl _) => rt = some (.array .int)
def rins (i : Instr) (v : Option AV) : Prop := match v with
  | none => i = .return_
  | some (.inr (.inl _)) => i = .ireturn
  | some (.inr (.inr _)) => i = .lreturn
  | some (.inl _) => i = .areturn
/-- from pc, with these locals, this stack, in this world, the method ends, with Q -/
def At (h : HD) (X : Ro) (pc : Nat) (L : List (Option AV)) (S : List AV) (σ : St) (Q : Option AV → St → Prop) : Prop :=
  ∀ (p : Program) (l : Launch) (e : Env) (R : Room) (s : State) (m : MethodId) (args : Array Value) (below : List Frame) (meth : Method) (c : Code) (cells slots : Nat) (g : Gh) (A : Nat → Prop) (Z : State → Prop),
    Cx h X g A p R s m args meth c cells slots →
    (∀ (v : Option AV) (σ' : St) (H : Heap) (locs : List Loc) (ls : Array Slot) (k : Nat) (i : Instr), decode h.by k = .ok (i, 1) → rins i v → rtok h.rt v → (∀ w, v = some w → wfv w) → Q v σ' → va_P g.D cls (wl g σ') H → va_S A s.heap H locs → W p l e R s m args below meth c H locs cells slots Z (F0 m k ls (v.toList.map (cv g)))) →
    lwf L → swf S → ∀ (H : Heap) (locs : List Loc) (ls : Array Slot), va_P g.D cls (wl g σ) H → va_S A s.heap H locs → lv_has ls h.ml (lpairs g 0 L) →
    W p l e R s m args below meth c H locs cells slots Z (F0 m pc ls (S.map (cv g)))
def icmp (c : ClassFile.Cond) (x y : Int32) (P N : Prop) : Prop := match c with
  | .eq => (x = y → P) ∧ (¬ x = y → N)
  | .ne => (¬ x = y → P) ∧ (x = y → N)
  | .lt => (x < y → P) ∧ (¬ x < y → N)
  | .ge => (y ≤ x → P) ∧ (¬ y ≤ x → N)
  | .gt => (y < x → P) ∧ (¬ y < x → N)
  | .le => (x ≤ y → P) ∧ (¬ x ≤ y → N)
def tsw (x : Int32) (F : Int → Prop) : Int → List Int → Prop
  | _, [] => True
  | v, o :: os => (x.toInt = v → F o) ∧ tsw x F (v + 1) os
/-- one step, with what is to hold behind it -/
def stp (h : HD) (X : Ro) (code : List Ent) (K : List Ent → List (Option AV) → List AV → St → Prop) (Q : Option AV → St → Prop) (e : Ent) (es : List Ent) (L : List (Option AV)) (S : List AV) (σ : St) : Prop :=
  match e.2.2.1 with
  | .aload_n k => (match lget L k.val with | some (.inl r) => K es L (.inl r :: S) σ | _ => False)
  | .aload k => (match lget L k with | some (.inl r) => K es L (.inl r :: S) σ | _ => False)
  | .iload_n k => (match lget L k.val with | some (.inr (.inl x)) => K es L (.inr (.inl x) :: S) σ | _ => False)
  | .iload k => (match lget L k with | some (.inr (.inl x)) => K es L (.inr (.inl x) :: S) σ | _ => False)
  | .lload_n k => (match lget L k.val with | some (.inr (.inr x)) => K es L (.inr (.inr x) :: S) σ | _ => False)
  | .lload k => (match lget L k with | some (.inr (.inr x)) => K es L (.inr (.inr x) :: S) σ | _ => False)
  | .istore_n k => (match S with | .inr (.inl x) :: S' => K es (lset L k.val (.inr (.inl x))) S' σ | _ => False)
  | .istore k => (match S with | .inr (.inl x) :: S' => K es (lset L k (.inr (.inl x))) S' σ | _ => False)
  | .astore_n k => (match S with | .inl x :: S' => K es (lset L k.val (.inl x)) S' σ | _ => False)
  | .astore k => (match S with | .inl x :: S' => K es (lset L k (.inl x)) S' σ | _ => False)
  | .lstore_n k => (match S with | .inr (.inr x) :: S' => K es (lset2 L k.val (.inr (.inr x))) S' σ | _ => False)
  | .lstore k => (match S with | .inr (.inr x) :: S' => K es (lset2 L k (.inr (.inr x))) S' σ | _ => False)
  | .iinc k _ => (match lget L k, e.2.2.2.2 with | some (.inr (.inl x)), .inr (.inr (.inl (d, _))) => K es (lset L k (.inr (.inl (x + d)))) S σ | _, _ => False)
  | .iconst _ => (match e.2.2.2.2 with | .inr (.inr (.inl (v, _))) => K es L (.inr (.inl v) :: S) σ | _ => False)
  | .bipush _ => (match e.2.2.2.2 with | .inr (.inr (.inl (v, _))) => K es L (.inr (.inl v) :: S) σ | _ => False)
  | .sipush _ => (match e.2.2.2.2 with | .inr (.inr (.inl (v, _))) => K es L (.inr (.inl v) :: S) σ | _ => False)
  | .ldc _ => (match e.2.2.2.2 with | .inr (.inr (.inl (v, _))) => K es L (.inr (.inl v) :: S) σ | .inl (t, i, _) => K es L (.inl (t, i) :: S) σ | _ => False)
  | .ldc_w _ => (match e.2.2.2.2 with | .inr (.inr (.inl (v, _))) => K es L (.inr (.inl v) :: S) σ | _ => False)
  | .lconst _ => (match e.2.2.2.2 with | .inr (.inr (.inr (v, _))) => K es L (.inr (.inr v) :: S) σ | _ => False)
  | .ldc2_w _ => (match e.2.2.2.2 with | .inr (.inr (.inr (v, _))) => K es L (.inr (.inr v) :: S) σ | _ => False)
  | .iadd => (match S with | .inr (.inl y) :: .inr (.inl x) :: S' => K es L (.inr (.inl (x + y)) :: S') σ | _ => False)
  | .isub => (match S with | .inr (.inl y) :: .inr (.inl x) :: S' => K es L (.inr (.inl (x - y)) :: S') σ | _ => False)
  | .imul => (match S with | .inr (.inl y) :: .inr (.inl x) :: S' => K es L (.inr (.inl (x * y)) :: S') σ | _ => False)
  | .iand => (match S with | .inr (.inl y) :: .inr (.inl x) :: S' => K es L (.inr (.inl (x &&& y)) :: S') σ | _ => False)
  | .ior => (match S with | .inr (.inl y) :: .inr (.inl x) :: S' => K es L (.inr (.inl (x ||| y)) :: S') σ | _ => False)
  | .ixor => (match S with | .inr (.inl y) :: .inr (.inl x) :: S' => K es L (.inr (.inl (x ^^^ y)) :: S') σ | _ => False)
  | .ishl => (match S with | .inr (.inl y) :: .inr (.inl x) :: S' => K es L (.inr (.inl (x <<< (y &&& 31))) :: S') σ | _ => False)
  | .ishr => (match S with | .inr (.inl y) :: .inr (.inl x) :: S' => K es L (.inr (.inl (x >>> (y &&& 31))) :: S') σ | _ => False)
  | .iushr => (match S with | .inr (.inl y) :: .inr (.inl x) :: S' => K es L (.inr (.inl (x.toUInt32 >>> (y.toUInt32 &&& Int32.toUInt32 31)).toInt32) :: S') σ | _ => False)
  | .idiv => (match S with | .inr (.inl y) :: .inr (.inl x) :: S' => ¬ y = 0 ∧ K es L (.inr (.inl (x / y)) :: S') σ | _ => False)
  | .irem => (match S with | .inr (.inl y) :: .inr (.inl x) :: S' => ¬ y = 0 ∧ K es L (.inr (.inl (x - x / y * y)) :: S') σ | _ => False)
  | .ineg => (match S with | .inr (.inl x) :: S' => K es L (.inr (.inl (-x)) :: S') σ | _ => False)
  | .ladd => (match S with | .inr (.inr y) :: .inr (.inr x) :: S' => K es L (.inr (.inr (x + y)) :: S') σ | _ => False)
  | .lmul => (match S with | .inr (.inr y) :: .inr (.inr x) :: S' => K es L (.inr (.inr (x * y)) :: S') σ | _ => False)
  | .land => (match S with | .inr (.inr y) :: .inr (.inr x) :: S' => K es L (.inr (.inr (x &&& y)) :: S') σ | _ => False)
  | .lor => (match S with | .inr (.inr y) :: .inr (.inr x) :: S' => K es L (.inr (.inr (x ||| y)) :: S') σ | _ => False)
  | .lneg => (match S with | .inr (.inr x) :: S' => K es L (.inr (.inr (-x)) :: S') σ | _ => False)
  | .lshl => (match S with | .inr (.inl y) :: .inr (.inr x) :: S' => K es L (.inr (.inr (x <<< (y.toInt64 &&& 63))) :: S') σ | _ => False)
  | .lshr => (match S with | .inr (.inl y) :: .inr (.inr x) :: S' => K es L (.inr (.inr (x >>> (y.toInt64 &&& 63))) :: S') σ | _ => False)
  | .lcmp => (match S with | .inr (.inr y) :: .inr (.inr x) :: S' => K es L (.inr (.inl (lg_cmp x y)) :: S') σ | _ => False)
  | .i2l => (match S with | .inr (.inl x) :: S' => K es L (.inr (.inr x.toInt64) :: S') σ | _ => False)
  | .l2i => (match S with | .inr (.inr x) :: S' => K es L (.inr (.inl x.toInt32) :: S') σ | _ => False)
  | .i2b => (match S with | .inr (.inl x) :: S' => K es L (.inr (.inl x.toInt8.toInt32) :: S') σ | _ => False)
  | .i2s => (match S with | .inr (.inl x) :: S' => K es L (.inr (.inl x.toInt16.toInt32) :: S') σ | _ => False)
  | .dup => (match S with | .inr (.inl x) :: S' => K es L (.inr (.inl x) :: .inr (.inl x) :: S') σ | .inl x :: S' => K es L (.inl x :: .inl x :: S') σ | _ => False)
  | .dup2 => (match S with | .inr (.inl y) :: .inl x :: S' => K es L (.inr (.inl y) :: .inl x :: .inr (.inl y) :: .inl x :: S') σ | _ => False)
  | .goto off => K (sk code (tgt e.1 off)) L S σ
  | .if_icmp c off => (match S with | .inr (.inl y) :: .inr (.inl x) :: S' => icmp c x y (K (sk code (tgt e.1 off)) L S' σ) (K es L S' σ) | _ => False)
  | .ifCond c off => (match S with | .inr (.inl x) :: S' => icmp c x 0 (K (sk code (tgt e.1 off)) L S' σ) (K es L S' σ) | _ => False)
  | .tableswitch d lo hi offs => (match S with | .inr (.inl x) :: S' => (x.toInt < lo ∨ hi < x.toInt → K (sk code (tgt e.1 d)) L S' σ) ∧ tsw x (fun o => K (sk code (tgt e.1 o)) L S' σ) lo offs.toList | _ => False)
  | .getfield _ => (match S, e.2.2.2.2 with
    | .inl r :: S', .inl (ci, k, _) => (match sh r.1 with
      | (4, c, fs) => (match Nat.beq c ci with
        | true => (match lnth fs k with
          | some (1, x, _) => K es L (.inr (.inl (Int32.ofNat x)) :: S') σ
          | some (2, t, d) => K es L (.inl (t, r.2 + d) :: S') σ
          | some (3, t, i) => K es L (.inl (t, i) :: S') σ
          | some _ => K es L (.inr (.inl (σ r.2 k)) :: S') σ
          | none => False)
        | false => False)
      | _ => False)
    | _, _ => False)
  | .putfield _ => (match S, e.2.2.2.2 with
    | .inr (.inl v) :: .inl r :: S', .inl (ci, k, _) => (match sh r.1 with
      | (4, c, fs) => (match Nat.beq c ci with
        | true => (match lnth fs k with
          | some (0, _, _) => K es L S' (up σ r.2 k v)
          | some (4, _, _) => (v = 0 ∨ v = 1) ∧ K es L S' (up σ r.2 k v)
          | _ => False)
        | false => False)
      | _ => False)
    | _, _ => False)
  | .getstatic _ => (match e.2.2.2.2 with | .inl (t, i, _) => K es L (.inl (t, i) :: S) σ | _ => False)
  | .iaload => (match S with
    | .inr (.inl i) :: .inl r :: S' => (match sh r.1 with
      | (0, n, _) => vp_in i n ∧ K es L (.inr (.inl (σ r.2 i.toNatClampNeg)) :: S') σ
      | (5, j, _) => vp_in i (stl.getD j []).length ∧ K es L (.inr (.inl ((stl.getD j []).getD i.toNatClampNeg 0)) :: S') σ
      | (7, _, _) => vp_in i X.1 ∧ K es L (.inr (.inl (X.2 i.toNatClampNeg)) :: S') σ
      | _ => False)
    | _ => False)
  | .baload => (match S with
    | .inr (.inl i) :: .inl r :: S' => (match sh r.1 with
      | (1, n, _) => vp_in i n ∧ K es L (.inr (.inl (σ r.2 i.toNatClampNeg)) :: S') σ
      | (2, n, _) => vp_in i n ∧ K es L (.inr (.inl (σ r.2 i.toNatClampNeg)) :: S') σ
      | _ => False)
    | _ => False)
  | .aaload => (match S with
    | .inr (.inl i) :: .inl r :: S' => (match sh r.1 with
      | (3, n, (t, b, d) :: _) => vp_in i n ∧ K es L (.inl (t, b + d * i.toNatClampNeg) :: S') σ
      | _ => False)
    | _ => False)
  | .iastore => (match S with
    | .inr (.inl v) :: .inr (.inl i) :: .inl r :: S' => (match sh r.1 with
      | (0, n, _) => vp_in i n ∧ K es L S' (up σ r.2 i.toNatClampNeg v)
      | _ => False)
    | _ => False)
  | .bastore => (match S with
    | .inr (.inl v) :: .inr (.inl i) :: .inl r :: S' => (match sh r.1 with
      | (1, n, _) => vp_in i n ∧ K es L S' (up σ r.2 i.toNatClampNeg (vp_nar .byte v))
      | (2, n, _) => vp_in i n ∧ K es L S' (up σ r.2 i.toNatClampNeg (vp_nar .boolean v))
      | _ => False)
    | _ => False)
  | .arraylength => (match S with
    | .inl r :: S' => (match sh r.1 with
      | (0, n, _) => K es L (.inr (.inl (Int32.ofNat n)) :: S') σ
      | (7, _, _) => K es L (.inr (.inl (Int32.ofNat X.1)) :: S') σ
      | _ => False)
    | _ => False)
  | .invokestatic _ => (match e.2.2.2.2 with
    | .inr (.inl (f, _)) => (match poprev f.na [] S with
      | some (as, S') => (match Nat.ble (scat S') 8 with
        | true => CallOk f as σ (fun v σ' => K es L (v.toList ++ S') σ')
        | false => False)
      | none => False)
    | .inl _ => (match S with
      | .inr (.inl n) :: .inr (.inl dp) :: .inl b :: .inr (.inl sp) :: .inl a :: S' => (match sh a.1, sh b.1, S' with
        | (0, n0, _), (0, n1, _), [] => (¬ sp < 0 ∧ ¬ dp < 0 ∧ ¬ n < 0 ∧ sp.toNatClampNeg + n.toNatClampNeg ≤ n0 ∧ dp.toNatClampNeg + n.toNatClampNeg ≤ n1) ∧ K es L [] (upr σ b.2 (va_cpy (σ a.2) (σ b.2) sp.toNatClampNeg dp.toNatClampNeg n.toNatClampNeg))
        | (2, n0, _), (2, n1, _), [] => (¬ sp < 0 ∧ ¬ dp < 0 ∧ ¬ n < 0 ∧ sp.toNatClampNeg + n.toNatClampNeg ≤ n0 ∧ dp.toNatClampNeg + n.toNatClampNeg ≤ n1 ∧ ∀ i, i < n.toNatClampNeg → fits .boolean (.int (σ a.2 (sp.toNatClampNeg + i))) = true) ∧ K es L [] (upr σ b.2 (va_cpy (σ a.2) (σ b.2) sp.toNatClampNeg dp.toNatClampNeg n.toNatClampNeg))
        | _, _, _ => False)
      | _ => False)
    | _ => False)
  | .invokevirtual _ => (match e.2.2.2.2 with
    | .inr (.inl (f, _)) => (match poprev f.na [] S with
      | some (as, S') => (match as with
        | .inl r :: _ => (match sh r.1 with
          | (4, c, _) => (match Nat.beq c f.pl.2.2.2, Nat.ble (scat S') 8 with
            | true, true => CallOk f as σ (fun v σ' => K es L (v.toList ++ S') σ')
            | _, _ => False)
          | (6, _, _) => (match Nat.beq 98 f.pl.2.2.2, Nat.ble (scat S') 8 with
            | true, true => CallOk f as σ (fun v σ' => K es L (v.toList ++ S') σ')
            | _, _ => False)
          | _ => False)
        | _ => False)
      | none => False)
    | _ => False)
  | .ireturn => (match S with
    | .inr (.inl x) :: [] => (match h.rt with
      | some .int => Q (some (.inr (.inl x))) σ
      | some .boolean => (x = 0 ∨ x = 1) ∧ Q (some (.inr (.inl x))) σ
      | _ => False)
    | _ => False)
  | .lreturn => (match S with
    | .inr (.inr x) :: [] => (match h.rt with
      | some .long => Q (some (.inr (.inr x))) σ
      | _ => False)
    | _ => False)
  | .areturn => (match S with
    | .inl r :: [] => (match h.rt with
      | some (.array .int) => Q (some (.inl r)) σ
      | _ => False)
    | _ => False)
  | .return_ => (match S with
    | [] => (match h.rt with
      | none => Q none σ
      | _ => False)
    | _ => False)
  | _ => False
def wp (h : HD) (X : Ro) (code : List Ent) (Q : Option AV → St → Prop) : Nat → List Ent → List (Option AV) → List AV → St → Prop
  | 0, _, _, _, _ => False
  | n + 1, es, L, S, σ => match es with
    | [] => False
    | e :: es' => match e.2.2.2.1 with
      | true => At h X e.1 L S σ Q
      | false => stp h X code (wp h X code Q n) Q e es' L S σ
/-- a walk from an entry: its own mark does not stop it -/
def wp1 (h : HD) (X : Ro) (code : List Ent) (Q : Option AV → St → Prop) (n : Nat) (es : List Ent) (L : List (Option AV)) (S : List AV) (σ : St) : Prop := match es with
  | [] => False
  | e :: es' => stp h X code (wp h X code Q n) Q e es' L S σ
end
