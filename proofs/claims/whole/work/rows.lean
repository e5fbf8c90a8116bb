section
-- ===== PART A: goes FIRST, ahead of the names: the tables' words, and 'selects' of the private methods out of them =====
/-- a private method of a class that the tables say can be made, by its rows of tables_1 -/
def lw_okq (q : MethodName × Nat) : Prop := (q.1.cls ≠ "java/lang/invoke/MethodHandle" ∧ q.1.cls ≠ "java/lang/invoke/VarHandle") ∧ Cond.instantiable q.1.cls q.2 ∈ tables_1 ∧ Cond.privateMethod q.1 ∈ tables_1 ∧ Cond.instanceMethod q.1 ∈ tables_1
theorem lw_p0 : lw_okq (⟨"MailChain$PartLine", "number", "(LMailChain$Row;Ljava/lang/String;J)J"⟩, 5) := ⟨⟨by decide +kernel, by decide +kernel⟩, List.mem_of_getElem? (i := 190) (by decide +kernel), List.mem_of_getElem? (i := 392) (by decide +kernel), List.mem_of_getElem? (i := 393) (by decide +kernel)⟩
theorem lw_p1 : lw_okq (⟨"MailChain$Expander", "begin", "()V"⟩, 7) := ⟨⟨by decide +kernel, by decide +kernel⟩, List.mem_of_getElem? (i := 274) (by decide +kernel), List.mem_of_getElem? (i := 554) (by decide +kernel), List.mem_of_getElem? (i := 555) (by decide +kernel)⟩
theorem lw_p2 : lw_okq (⟨"MailChain$Expander", "readCode", "(LMailChain$Row;)I"⟩, 7) := ⟨⟨by decide +kernel, by decide +kernel⟩, List.mem_of_getElem? (i := 274) (by decide +kernel), List.mem_of_getElem? (i := 558) (by decide +kernel), List.mem_of_getElem? (i := 559) (by decide +kernel)⟩
theorem lw_p3 : lw_okq (⟨"MailChain$Expander", "changeWidth", "(I)V"⟩, 7) := ⟨⟨by decide +kernel, by decide +kernel⟩, List.mem_of_getElem? (i := 274) (by decide +kernel), List.mem_of_getElem? (i := 562) (by decide +kernel), List.mem_of_getElem? (i := 563) (by decide +kernel)⟩
theorem lw_p4 : lw_okq (⟨"MailChain$Expander", "tell", "(ILMailChain$Row;)Z"⟩, 7) := ⟨⟨by decide +kernel, by decide +kernel⟩, List.mem_of_getElem? (i := 274) (by decide +kernel), List.mem_of_getElem? (i := 567) (by decide +kernel), List.mem_of_getElem? (i := 568) (by decide +kernel)⟩
theorem lw_p5 : lw_okq (⟨"MailChain$Expander", "restart", "()V"⟩, 7) := ⟨⟨by decide +kernel, by decide +kernel⟩, List.mem_of_getElem? (i := 274) (by decide +kernel), List.mem_of_getElem? (i := 573) (by decide +kernel), List.mem_of_getElem? (i := 574) (by decide +kernel)⟩
theorem lw_p6 : lw_okq (⟨"MailChain$Squeezer", "begin", "(I)V"⟩, 9) := ⟨⟨by decide +kernel, by decide +kernel⟩, List.mem_of_getElem? (i := 240) (by decide +kernel), List.mem_of_getElem? (i := 584) (by decide +kernel), List.mem_of_getElem? (i := 585) (by decide +kernel)⟩
theorem lw_p7 : lw_okq (⟨"MailChain$Squeezer", "forget", "()V"⟩, 9) := ⟨⟨by decide +kernel, by decide +kernel⟩, List.mem_of_getElem? (i := 240) (by decide +kernel), List.mem_of_getElem? (i := 588) (by decide +kernel), List.mem_of_getElem? (i := 589) (by decide +kernel)⟩
theorem lw_p8 : lw_okq (⟨"java/lang/Throwable", "fillInStackTrace", "(I)Ljava/lang/Throwable;"⟩, 6) := ⟨⟨by decide +kernel, by decide +kernel⟩, List.mem_of_getElem? (i := 638) (by decide +kernel), List.mem_of_getElem? (i := 636) (by decide +kernel), List.mem_of_getElem? (i := 637) (by decide +kernel)⟩
theorem lw_p9 : lw_okq (⟨"MailChain$Squeezer", "childOf", "(II)I"⟩, 9) := ⟨⟨by decide +kernel, by decide +kernel⟩, List.mem_of_getElem? (i := 240) (by decide +kernel), List.mem_of_getElem? (i := 900) (by decide +kernel), List.mem_of_getElem? (i := 901) (by decide +kernel)⟩
theorem lw_p10 : lw_okq (⟨"MailChain$Squeezer", "putCode", "(ILMailChain$Row;)V"⟩, 9) := ⟨⟨by decide +kernel, by decide +kernel⟩, List.mem_of_getElem? (i := 240) (by decide +kernel), List.mem_of_getElem? (i := 904) (by decide +kernel), List.mem_of_getElem? (i := 905) (by decide +kernel)⟩
theorem lw_p11 : lw_okq (⟨"MailChain$Squeezer", "changeWidth", "(ILMailChain$Row;)V"⟩, 9) := ⟨⟨by decide +kernel, by decide +kernel⟩, List.mem_of_getElem? (i := 240) (by decide +kernel), List.mem_of_getElem? (i := 908) (by decide +kernel), List.mem_of_getElem? (i := 909) (by decide +kernel)⟩
theorem lw_p12 : lw_okq (⟨"MailChain$Squeezer", "putBits", "(ILMailChain$Row;)V"⟩, 9) := ⟨⟨by decide +kernel, by decide +kernel⟩, List.mem_of_getElem? (i := 240) (by decide +kernel), List.mem_of_getElem? (i := 912) (by decide +kernel), List.mem_of_getElem? (i := 913) (by decide +kernel)⟩
theorem lw_p13 : lw_okq (⟨"MailChain$Squeezer", "learn", "(IILMailChain$Row;)V"⟩, 9) := ⟨⟨by decide +kernel, by decide +kernel⟩, List.mem_of_getElem? (i := 240) (by decide +kernel), List.mem_of_getElem? (i := 916) (by decide +kernel), List.mem_of_getElem? (i := 917) (by decide +kernel)⟩
theorem lw_p14 : lw_okq (⟨"MailChain$Tree", "insertDraft", "()I"⟩, 4) := ⟨⟨by decide +kernel, by decide +kernel⟩, List.mem_of_getElem? (i := 64) (by decide +kernel), List.mem_of_getElem? (i := 970) (by decide +kernel), List.mem_of_getElem? (i := 971) (by decide +kernel)⟩
theorem lw_p15 : lw_okq (⟨"MailChain$Entry", "isName", "(II)Z"⟩, 9) := ⟨⟨by decide +kernel, by decide +kernel⟩, List.mem_of_getElem? (i := 71) (by decide +kernel), List.mem_of_getElem? (i := 979) (by decide +kernel), List.mem_of_getElem? (i := 980) (by decide +kernel)⟩
def lw_privs_1 : List (MethodName × Nat) := [(⟨"MailChain$PartLine", "number", "(LMailChain$Row;Ljava/lang/String;J)J"⟩, 5), (⟨"MailChain$Expander", "begin", "()V"⟩, 7), (⟨"MailChain$Expander", "readCode", "(LMailChain$Row;)I"⟩, 7), (⟨"MailChain$Expander", "changeWidth", "(I)V"⟩, 7), (⟨"MailChain$Expander", "tell", "(ILMailChain$Row;)Z"⟩, 7), (⟨"MailChain$Expander", "restart", "()V"⟩, 7), (⟨"MailChain$Squeezer", "begin", "(I)V"⟩, 9), (⟨"MailChain$Squeezer", "forget", "()V"⟩, 9), (⟨"java/lang/Throwable", "fillInStackTrace", "(I)Ljava/lang/Throwable;"⟩, 6), (⟨"MailChain$Squeezer", "childOf", "(II)I"⟩, 9), (⟨"MailChain$Squeezer", "putCode", "(ILMailChain$Row;)V"⟩, 9), (⟨"MailChain$Squeezer", "changeWidth", "(ILMailChain$Row;)V"⟩, 9), (⟨"MailChain$Squeezer", "putBits", "(ILMailChain$Row;)V"⟩, 9), (⟨"MailChain$Squeezer", "learn", "(IILMailChain$Row;)V"⟩, 9), (⟨"MailChain$Tree", "insertDraft", "()I"⟩, 4), (⟨"MailChain$Entry", "isName", "(II)Z"⟩, 9)]
theorem lw_r1 : ∀ q ∈ lw_privs_1, lw_okq q := List.forall_mem_cons.mpr ⟨lw_p0, List.forall_mem_cons.mpr ⟨lw_p1, List.forall_mem_cons.mpr ⟨lw_p2, List.forall_mem_cons.mpr ⟨lw_p3, List.forall_mem_cons.mpr ⟨lw_p4, List.forall_mem_cons.mpr ⟨lw_p5, List.forall_mem_cons.mpr ⟨lw_p6, List.forall_mem_cons.mpr ⟨lw_p7, List.forall_mem_cons.mpr ⟨lw_p8, List.forall_mem_cons.mpr ⟨lw_p9, List.forall_mem_cons.mpr ⟨lw_p10, List.forall_mem_cons.mpr ⟨lw_p11, List.forall_mem_cons.mpr ⟨lw_p12, List.forall_mem_cons.mpr ⟨lw_p13, List.forall_mem_cons.mpr ⟨lw_p14, List.forall_mem_cons.mpr ⟨lw_p15, fun _ h => absurd h List.not_mem_nil⟩⟩⟩⟩⟩⟩⟩⟩⟩⟩⟩⟩⟩⟩⟩⟩
theorem lw_p16 : lw_okq (⟨"MailChain$Tree", "hasParentOf", "(LMailChain$Entry;)Z"⟩, 4) := ⟨⟨by decide +kernel, by decide +kernel⟩, List.mem_of_getElem? (i := 64) (by decide +kernel), List.mem_of_getElem? (i := 983) (by decide +kernel), List.mem_of_getElem? (i := 984) (by decide +kernel)⟩
theorem lw_p17 : lw_okq (⟨"MailChain$Tree", "placeOf", "(LMailChain$Row;I)I"⟩, 4) := ⟨⟨by decide +kernel, by decide +kernel⟩, List.mem_of_getElem? (i := 64) (by decide +kernel), List.mem_of_getElem? (i := 991) (by decide +kernel), List.mem_of_getElem? (i := 992) (by decide +kernel)⟩
theorem lw_p18 : lw_okq (⟨"MailChain", "swapYours", "()V"⟩, 14) := ⟨⟨by decide +kernel, by decide +kernel⟩, List.mem_of_getElem? (i := 33) (by decide +kernel), List.mem_of_getElem? (i := 1039) (by decide +kernel), List.mem_of_getElem? (i := 1040) (by decide +kernel)⟩
theorem lw_p19 : lw_okq (⟨"MailChain", "afterEntering", "(I)I"⟩, 14) := ⟨⟨by decide +kernel, by decide +kernel⟩, List.mem_of_getElem? (i := 33) (by decide +kernel), List.mem_of_getElem? (i := 1099) (by decide +kernel), List.mem_of_getElem? (i := 1100) (by decide +kernel)⟩
theorem lw_p20 : lw_okq (⟨"MailChain", "refreshArchive", "()V"⟩, 14) := ⟨⟨by decide +kernel, by decide +kernel⟩, List.mem_of_getElem? (i := 33) (by decide +kernel), List.mem_of_getElem? (i := 1151) (by decide +kernel), List.mem_of_getElem? (i := 1152) (by decide +kernel)⟩
theorem lw_p21 : lw_okq (⟨"MailChain$Mail", "pieceEnd", "(I)I"⟩, 5) := ⟨⟨by decide +kernel, by decide +kernel⟩, List.mem_of_getElem? (i := 149) (by decide +kernel), List.mem_of_getElem? (i := 1160) (by decide +kernel), List.mem_of_getElem? (i := 1161) (by decide +kernel)⟩
theorem lw_p22 : lw_okq (⟨"MailChain", "textOfTape", "(II)LMailChain$Row;"⟩, 14) := ⟨⟨by decide +kernel, by decide +kernel⟩, List.mem_of_getElem? (i := 33) (by decide +kernel), List.mem_of_getElem? (i := 1226) (by decide +kernel), List.mem_of_getElem? (i := 1227) (by decide +kernel)⟩
theorem lw_p23 : lw_okq (⟨"MailChainModel", "added", "(IIIIII)I"⟩, 62) := ⟨⟨by decide +kernel, by decide +kernel⟩, List.mem_of_getElem? (i := 1259) (by decide +kernel), List.mem_of_getElem? (i := 1474) (by decide +kernel), List.mem_of_getElem? (i := 1475) (by decide +kernel)⟩
theorem lw_p24 : lw_okq (⟨"MailChainModel", "look", "([BII)V"⟩, 62) := ⟨⟨by decide +kernel, by decide +kernel⟩, List.mem_of_getElem? (i := 1259) (by decide +kernel), List.mem_of_getElem? (i := 1481) (by decide +kernel), List.mem_of_getElem? (i := 1482) (by decide +kernel)⟩
theorem lw_p25 : lw_okq (⟨"MailChainModel", "mayBe", "(II)Z"⟩, 62) := ⟨⟨by decide +kernel, by decide +kernel⟩, List.mem_of_getElem? (i := 1259) (by decide +kernel), List.mem_of_getElem? (i := 1485) (by decide +kernel), List.mem_of_getElem? (i := 1486) (by decide +kernel)⟩
theorem lw_p26 : lw_okq (⟨"MailChainModel", "isPath", "()Z"⟩, 62) := ⟨⟨by decide +kernel, by decide +kernel⟩, List.mem_of_getElem? (i := 1259) (by decide +kernel), List.mem_of_getElem? (i := 1492) (by decide +kernel), List.mem_of_getElem? (i := 1493) (by decide +kernel)⟩
theorem lw_p27 : lw_okq (⟨"MailChainModel", "hasParent", "(I)Z"⟩, 62) := ⟨⟨by decide +kernel, by decide +kernel⟩, List.mem_of_getElem? (i := 1259) (by decide +kernel), List.mem_of_getElem? (i := 1496) (by decide +kernel), List.mem_of_getElem? (i := 1497) (by decide +kernel)⟩
theorem lw_p28 : lw_okq (⟨"MailChainModel", "find", "(II)I"⟩, 62) := ⟨⟨by decide +kernel, by decide +kernel⟩, List.mem_of_getElem? (i := 1259) (by decide +kernel), List.mem_of_getElem? (i := 1500) (by decide +kernel), List.mem_of_getElem? (i := 1501) (by decide +kernel)⟩
theorem lw_p29 : lw_okq (⟨"MailChainModel", "compare", "(II)I"⟩, 62) := ⟨⟨by decide +kernel, by decide +kernel⟩, List.mem_of_getElem? (i := 1259) (by decide +kernel), List.mem_of_getElem? (i := 1507) (by decide +kernel), List.mem_of_getElem? (i := 1508) (by decide +kernel)⟩
theorem lw_p30 : lw_okq (⟨"MailChainModel", "bytesOf", "(I)I"⟩, 62) := ⟨⟨by decide +kernel, by decide +kernel⟩, List.mem_of_getElem? (i := 1259) (by decide +kernel), List.mem_of_getElem? (i := 1511) (by decide +kernel), List.mem_of_getElem? (i := 1512) (by decide +kernel)⟩
theorem lw_p31 : lw_okq (⟨"MailChainModel", "enter", "(I)I"⟩, 62) := ⟨⟨by decide +kernel, by decide +kernel⟩, List.mem_of_getElem? (i := 1259) (by decide +kernel), List.mem_of_getElem? (i := 1515) (by decide +kernel), List.mem_of_getElem? (i := 1516) (by decide +kernel)⟩
def lw_privs_2 : List (MethodName × Nat) := [(⟨"MailChain$Tree", "hasParentOf", "(LMailChain$Entry;)Z"⟩, 4), (⟨"MailChain$Tree", "placeOf", "(LMailChain$Row;I)I"⟩, 4), (⟨"MailChain", "swapYours", "()V"⟩, 14), (⟨"MailChain", "afterEntering", "(I)I"⟩, 14), (⟨"MailChain", "refreshArchive", "()V"⟩, 14), (⟨"MailChain$Mail", "pieceEnd", "(I)I"⟩, 5), (⟨"MailChain", "textOfTape", "(II)LMailChain$Row;"⟩, 14), (⟨"MailChainModel", "added", "(IIIIII)I"⟩, 62), (⟨"MailChainModel", "look", "([BII)V"⟩, 62), (⟨"MailChainModel", "mayBe", "(II)Z"⟩, 62), (⟨"MailChainModel", "isPath", "()Z"⟩, 62), (⟨"MailChainModel", "hasParent", "(I)Z"⟩, 62), (⟨"MailChainModel", "find", "(II)I"⟩, 62), (⟨"MailChainModel", "compare", "(II)I"⟩, 62), (⟨"MailChainModel", "bytesOf", "(I)I"⟩, 62), (⟨"MailChainModel", "enter", "(I)I"⟩, 62)]
theorem lw_r2 : ∀ q ∈ lw_privs_2, lw_okq q := List.forall_mem_cons.mpr ⟨lw_p16, List.forall_mem_cons.mpr ⟨lw_p17, List.forall_mem_cons.mpr ⟨lw_p18, List.forall_mem_cons.mpr ⟨lw_p19, List.forall_mem_cons.mpr ⟨lw_p20, List.forall_mem_cons.mpr ⟨lw_p21, List.forall_mem_cons.mpr ⟨lw_p22, List.forall_mem_cons.mpr ⟨lw_p23, List.forall_mem_cons.mpr ⟨lw_p24, List.forall_mem_cons.mpr ⟨lw_p25, List.forall_mem_cons.mpr ⟨lw_p26, List.forall_mem_cons.mpr ⟨lw_p27, List.forall_mem_cons.mpr ⟨lw_p28, List.forall_mem_cons.mpr ⟨lw_p29, List.forall_mem_cons.mpr ⟨lw_p30, List.forall_mem_cons.mpr ⟨lw_p31, fun _ h => absurd h List.not_mem_nil⟩⟩⟩⟩⟩⟩⟩⟩⟩⟩⟩⟩⟩⟩⟩⟩
theorem lw_p32 : lw_okq (⟨"MailChainModel", "copyEntry", "(II)V"⟩, 62) := ⟨⟨by decide +kernel, by decide +kernel⟩, List.mem_of_getElem? (i := 1259) (by decide +kernel), List.mem_of_getElem? (i := 1519) (by decide +kernel), List.mem_of_getElem? (i := 1520) (by decide +kernel)⟩
theorem lw_p33 : lw_okq (⟨"MailChainModel", "linkedNow", "(I)I"⟩, 62) := ⟨⟨by decide +kernel, by decide +kernel⟩, List.mem_of_getElem? (i := 1259) (by decide +kernel), List.mem_of_getElem? (i := 1527) (by decide +kernel), List.mem_of_getElem? (i := 1528) (by decide +kernel)⟩
theorem lw_p34 : lw_okq (⟨"MailChainModel", "copyAttributes", "(II)V"⟩, 62) := ⟨⟨by decide +kernel, by decide +kernel⟩, List.mem_of_getElem? (i := 1259) (by decide +kernel), List.mem_of_getElem? (i := 1531) (by decide +kernel), List.mem_of_getElem? (i := 1532) (by decide +kernel)⟩
theorem lw_p35 : lw_okq (⟨"MailChainModel", "isLarge", "(I)Z"⟩, 62) := ⟨⟨by decide +kernel, by decide +kernel⟩, List.mem_of_getElem? (i := 1259) (by decide +kernel), List.mem_of_getElem? (i := 1554) (by decide +kernel), List.mem_of_getElem? (i := 1555) (by decide +kernel)⟩
theorem lw_p36 : lw_okq (⟨"MailChainModel", "archiveOf", "(I)V"⟩, 62) := ⟨⟨by decide +kernel, by decide +kernel⟩, List.mem_of_getElem? (i := 1259) (by decide +kernel), List.mem_of_getElem? (i := 1559) (by decide +kernel), List.mem_of_getElem? (i := 1560) (by decide +kernel)⟩
theorem lw_p37 : lw_okq (⟨"MailChainModel", "firstOf", "(II)I"⟩, 62) := ⟨⟨by decide +kernel, by decide +kernel⟩, List.mem_of_getElem? (i := 1259) (by decide +kernel), List.mem_of_getElem? (i := 1565) (by decide +kernel), List.mem_of_getElem? (i := 1566) (by decide +kernel)⟩
theorem lw_p38 : lw_okq (⟨"MailChainModel", "linksOf", "(II)I"⟩, 62) := ⟨⟨by decide +kernel, by decide +kernel⟩, List.mem_of_getElem? (i := 1259) (by decide +kernel), List.mem_of_getElem? (i := 1569) (by decide +kernel), List.mem_of_getElem? (i := 1570) (by decide +kernel)⟩
theorem lw_p39 : lw_okq (⟨"MailChainModel", "header", "(IIIIIIII)V"⟩, 62) := ⟨⟨by decide +kernel, by decide +kernel⟩, List.mem_of_getElem? (i := 1259) (by decide +kernel), List.mem_of_getElem? (i := 1573) (by decide +kernel), List.mem_of_getElem? (i := 1574) (by decide +kernel)⟩
theorem lw_p40 : lw_okq (⟨"MailChainModel", "octal", "(JI)V"⟩, 62) := ⟨⟨by decide +kernel, by decide +kernel⟩, List.mem_of_getElem? (i := 1259) (by decide +kernel), List.mem_of_getElem? (i := 1578) (by decide +kernel), List.mem_of_getElem? (i := 1579) (by decide +kernel)⟩
theorem lw_p41 : lw_okq (⟨"MailChainModel", "zero", "()V"⟩, 62) := ⟨⟨by decide +kernel, by decide +kernel⟩, List.mem_of_getElem? (i := 1259) (by decide +kernel), List.mem_of_getElem? (i := 1583) (by decide +kernel), List.mem_of_getElem? (i := 1584) (by decide +kernel)⟩
theorem lw_p42 : lw_okq (⟨"MailChainModel", "compressRow", "([BII)V"⟩, 62) := ⟨⟨by decide +kernel, by decide +kernel⟩, List.mem_of_getElem? (i := 1259) (by decide +kernel), List.mem_of_getElem? (i := 1587) (by decide +kernel), List.mem_of_getElem? (i := 1588) (by decide +kernel)⟩
theorem lw_p43 : lw_okq (⟨"MailChainModel", "clearTable", "()V"⟩, 62) := ⟨⟨by decide +kernel, by decide +kernel⟩, List.mem_of_getElem? (i := 1259) (by decide +kernel), List.mem_of_getElem? (i := 1591) (by decide +kernel), List.mem_of_getElem? (i := 1592) (by decide +kernel)⟩
theorem lw_p44 : lw_okq (⟨"MailChainModel", "goOn", "(II)I"⟩, 62) := ⟨⟨by decide +kernel, by decide +kernel⟩, List.mem_of_getElem? (i := 1259) (by decide +kernel), List.mem_of_getElem? (i := 1596) (by decide +kernel), List.mem_of_getElem? (i := 1597) (by decide +kernel)⟩
theorem lw_p45 : lw_okq (⟨"MailChainModel", "putCode", "(II)V"⟩, 62) := ⟨⟨by decide +kernel, by decide +kernel⟩, List.mem_of_getElem? (i := 1259) (by decide +kernel), List.mem_of_getElem? (i := 1600) (by decide +kernel), List.mem_of_getElem? (i := 1601) (by decide +kernel)⟩
theorem lw_p46 : lw_okq (⟨"MailChainModel", "fill", "()V"⟩, 62) := ⟨⟨by decide +kernel, by decide +kernel⟩, List.mem_of_getElem? (i := 1259) (by decide +kernel), List.mem_of_getElem? (i := 1604) (by decide +kernel), List.mem_of_getElem? (i := 1605) (by decide +kernel)⟩
theorem lw_p47 : lw_okq (⟨"MailChainModel", "putBits", "(II)V"⟩, 62) := ⟨⟨by decide +kernel, by decide +kernel⟩, List.mem_of_getElem? (i := 1259) (by decide +kernel), List.mem_of_getElem? (i := 1608) (by decide +kernel), List.mem_of_getElem? (i := 1609) (by decide +kernel)⟩
def lw_privs_3 : List (MethodName × Nat) := [(⟨"MailChainModel", "copyEntry", "(II)V"⟩, 62), (⟨"MailChainModel", "linkedNow", "(I)I"⟩, 62), (⟨"MailChainModel", "copyAttributes", "(II)V"⟩, 62), (⟨"MailChainModel", "isLarge", "(I)Z"⟩, 62), (⟨"MailChainModel", "archiveOf", "(I)V"⟩, 62), (⟨"MailChainModel", "firstOf", "(II)I"⟩, 62), (⟨"MailChainModel", "linksOf", "(II)I"⟩, 62), (⟨"MailChainModel", "header", "(IIIIIIII)V"⟩, 62), (⟨"MailChainModel", "octal", "(JI)V"⟩, 62), (⟨"MailChainModel", "zero", "()V"⟩, 62), (⟨"MailChainModel", "compressRow", "([BII)V"⟩, 62), (⟨"MailChainModel", "clearTable", "()V"⟩, 62), (⟨"MailChainModel", "goOn", "(II)I"⟩, 62), (⟨"MailChainModel", "putCode", "(II)V"⟩, 62), (⟨"MailChainModel", "fill", "()V"⟩, 62), (⟨"MailChainModel", "putBits", "(II)V"⟩, 62)]
theorem lw_r3 : ∀ q ∈ lw_privs_3, lw_okq q := List.forall_mem_cons.mpr ⟨lw_p32, List.forall_mem_cons.mpr ⟨lw_p33, List.forall_mem_cons.mpr ⟨lw_p34, List.forall_mem_cons.mpr ⟨lw_p35, List.forall_mem_cons.mpr ⟨lw_p36, List.forall_mem_cons.mpr ⟨lw_p37, List.forall_mem_cons.mpr ⟨lw_p38, List.forall_mem_cons.mpr ⟨lw_p39, List.forall_mem_cons.mpr ⟨lw_p40, List.forall_mem_cons.mpr ⟨lw_p41, List.forall_mem_cons.mpr ⟨lw_p42, List.forall_mem_cons.mpr ⟨lw_p43, List.forall_mem_cons.mpr ⟨lw_p44, List.forall_mem_cons.mpr ⟨lw_p45, List.forall_mem_cons.mpr ⟨lw_p46, List.forall_mem_cons.mpr ⟨lw_p47, fun _ h => absurd h List.not_mem_nil⟩⟩⟩⟩⟩⟩⟩⟩⟩⟩⟩⟩⟩⟩⟩⟩
theorem lw_p48 : lw_okq (⟨"MailChainModel", "spellRow", "([BI)V"⟩, 62) := ⟨⟨by decide +kernel, by decide +kernel⟩, List.mem_of_getElem? (i := 1259) (by decide +kernel), List.mem_of_getElem? (i := 1612) (by decide +kernel), List.mem_of_getElem? (i := 1613) (by decide +kernel)⟩
theorem lw_p49 : lw_okq (⟨"MailChainModel", "lay", "(I)V"⟩, 62) := ⟨⟨by decide +kernel, by decide +kernel⟩, List.mem_of_getElem? (i := 1259) (by decide +kernel), List.mem_of_getElem? (i := 1616) (by decide +kernel), List.mem_of_getElem? (i := 1617) (by decide +kernel)⟩
theorem lw_p50 : lw_okq (⟨"MailChainModel", "six", "(I)V"⟩, 62) := ⟨⟨by decide +kernel, by decide +kernel⟩, List.mem_of_getElem? (i := 1259) (by decide +kernel), List.mem_of_getElem? (i := 1620) (by decide +kernel), List.mem_of_getElem? (i := 1621) (by decide +kernel)⟩
theorem lw_p51 : lw_okq (⟨"MailChainModel", "writePart", "(I)V"⟩, 62) := ⟨⟨by decide +kernel, by decide +kernel⟩, List.mem_of_getElem? (i := 1259) (by decide +kernel), List.mem_of_getElem? (i := 1628) (by decide +kernel), List.mem_of_getElem? (i := 1629) (by decide +kernel)⟩
theorem lw_p52 : lw_okq (⟨"MailChainModel", "putWord", "([B)V"⟩, 62) := ⟨⟨by decide +kernel, by decide +kernel⟩, List.mem_of_getElem? (i := 1259) (by decide +kernel), List.mem_of_getElem? (i := 1632) (by decide +kernel), List.mem_of_getElem? (i := 1633) (by decide +kernel)⟩
theorem lw_p53 : lw_okq (⟨"MailChainModel", "putChar", "(I)V"⟩, 62) := ⟨⟨by decide +kernel, by decide +kernel⟩, List.mem_of_getElem? (i := 1259) (by decide +kernel), List.mem_of_getElem? (i := 1636) (by decide +kernel), List.mem_of_getElem? (i := 1637) (by decide +kernel)⟩
theorem lw_p54 : lw_okq (⟨"MailChainModel", "putDecimal", "(J)V"⟩, 62) := ⟨⟨by decide +kernel, by decide +kernel⟩, List.mem_of_getElem? (i := 1259) (by decide +kernel), List.mem_of_getElem? (i := 1640) (by decide +kernel), List.mem_of_getElem? (i := 1641) (by decide +kernel)⟩
theorem lw_p55 : lw_okq (⟨"MailChainModel", "come", "()I"⟩, 62) := ⟨⟨by decide +kernel, by decide +kernel⟩, List.mem_of_getElem? (i := 1259) (by decide +kernel), List.mem_of_getElem? (i := 1654) (by decide +kernel), List.mem_of_getElem? (i := 1655) (by decide +kernel)⟩
theorem lw_p56 : lw_okq (⟨"MailChainModel", "word", "([B)Z"⟩, 62) := ⟨⟨by decide +kernel, by decide +kernel⟩, List.mem_of_getElem? (i := 1259) (by decide +kernel), List.mem_of_getElem? (i := 1658) (by decide +kernel), List.mem_of_getElem? (i := 1659) (by decide +kernel)⟩
theorem lw_p57 : lw_okq (⟨"MailChainModel", "decimal", "(I)J"⟩, 62) := ⟨⟨by decide +kernel, by decide +kernel⟩, List.mem_of_getElem? (i := 1259) (by decide +kernel), List.mem_of_getElem? (i := 1662) (by decide +kernel), List.mem_of_getElem? (i := 1663) (by decide +kernel)⟩
theorem lw_p58 : lw_okq (⟨"MailChainModel", "keep", "(II[BII)V"⟩, 62) := ⟨⟨by decide +kernel, by decide +kernel⟩, List.mem_of_getElem? (i := 1259) (by decide +kernel), List.mem_of_getElem? (i := 1670) (by decide +kernel), List.mem_of_getElem? (i := 1671) (by decide +kernel)⟩
theorem lw_p59 : lw_okq (⟨"MailChainModel", "emptyBox", "()V"⟩, 62) := ⟨⟨by decide +kernel, by decide +kernel⟩, List.mem_of_getElem? (i := 1259) (by decide +kernel), List.mem_of_getElem? (i := 1682) (by decide +kernel), List.mem_of_getElem? (i := 1683) (by decide +kernel)⟩
theorem lw_p60 : lw_okq (⟨"MailChainModel", "unpacked", "()I"⟩, 62) := ⟨⟨by decide +kernel, by decide +kernel⟩, List.mem_of_getElem? (i := 1259) (by decide +kernel), List.mem_of_getElem? (i := 1694) (by decide +kernel), List.mem_of_getElem? (i := 1695) (by decide +kernel)⟩
theorem lw_p61 : lw_okq (⟨"MailChainModel", "unspell", "()V"⟩, 62) := ⟨⟨by decide +kernel, by decide +kernel⟩, List.mem_of_getElem? (i := 1259) (by decide +kernel), List.mem_of_getElem? (i := 1698) (by decide +kernel), List.mem_of_getElem? (i := 1699) (by decide +kernel)⟩
theorem lw_p62 : lw_okq (⟨"MailChainModel", "expand", "(I)Z"⟩, 62) := ⟨⟨by decide +kernel, by decide +kernel⟩, List.mem_of_getElem? (i := 1259) (by decide +kernel), List.mem_of_getElem? (i := 1705) (by decide +kernel), List.mem_of_getElem? (i := 1706) (by decide +kernel)⟩
theorem lw_p63 : lw_okq (⟨"MailChainModel", "code", "(I)I"⟩, 62) := ⟨⟨by decide +kernel, by decide +kernel⟩, List.mem_of_getElem? (i := 1259) (by decide +kernel), List.mem_of_getElem? (i := 1709) (by decide +kernel), List.mem_of_getElem? (i := 1710) (by decide +kernel)⟩
def lw_privs_4 : List (MethodName × Nat) := [(⟨"MailChainModel", "spellRow", "([BI)V"⟩, 62), (⟨"MailChainModel", "lay", "(I)V"⟩, 62), (⟨"MailChainModel", "six", "(I)V"⟩, 62), (⟨"MailChainModel", "writePart", "(I)V"⟩, 62), (⟨"MailChainModel", "putWord", "([B)V"⟩, 62), (⟨"MailChainModel", "putChar", "(I)V"⟩, 62), (⟨"MailChainModel", "putDecimal", "(J)V"⟩, 62), (⟨"MailChainModel", "come", "()I"⟩, 62), (⟨"MailChainModel", "word", "([B)Z"⟩, 62), (⟨"MailChainModel", "decimal", "(I)J"⟩, 62), (⟨"MailChainModel", "keep", "(II[BII)V"⟩, 62), (⟨"MailChainModel", "emptyBox", "()V"⟩, 62), (⟨"MailChainModel", "unpacked", "()I"⟩, 62), (⟨"MailChainModel", "unspell", "()V"⟩, 62), (⟨"MailChainModel", "expand", "(I)Z"⟩, 62), (⟨"MailChainModel", "code", "(I)I"⟩, 62)]
theorem lw_r4 : ∀ q ∈ lw_privs_4, lw_okq q := List.forall_mem_cons.mpr ⟨lw_p48, List.forall_mem_cons.mpr ⟨lw_p49, List.forall_mem_cons.mpr ⟨lw_p50, List.forall_mem_cons.mpr ⟨lw_p51, List.forall_mem_cons.mpr ⟨lw_p52, List.forall_mem_cons.mpr ⟨lw_p53, List.forall_mem_cons.mpr ⟨lw_p54, List.forall_mem_cons.mpr ⟨lw_p55, List.forall_mem_cons.mpr ⟨lw_p56, List.forall_mem_cons.mpr ⟨lw_p57, List.forall_mem_cons.mpr ⟨lw_p58, List.forall_mem_cons.mpr ⟨lw_p59, List.forall_mem_cons.mpr ⟨lw_p60, List.forall_mem_cons.mpr ⟨lw_p61, List.forall_mem_cons.mpr ⟨lw_p62, List.forall_mem_cons.mpr ⟨lw_p63, fun _ h => absurd h List.not_mem_nil⟩⟩⟩⟩⟩⟩⟩⟩⟩⟩⟩⟩⟩⟩⟩⟩
theorem lw_p64 : lw_okq (⟨"MailChainModel", "firstByte", "(I)I"⟩, 62) := ⟨⟨by decide +kernel, by decide +kernel⟩, List.mem_of_getElem? (i := 1259) (by decide +kernel), List.mem_of_getElem? (i := 1713) (by decide +kernel), List.mem_of_getElem? (i := 1714) (by decide +kernel)⟩
theorem lw_p65 : lw_okq (⟨"MailChainModel", "layString", "(I)Z"⟩, 62) := ⟨⟨by decide +kernel, by decide +kernel⟩, List.mem_of_getElem? (i := 1259) (by decide +kernel), List.mem_of_getElem? (i := 1717) (by decide +kernel), List.mem_of_getElem? (i := 1718) (by decide +kernel)⟩
theorem lw_p66 : lw_okq (⟨"MailChainModel", "readTree", "()Z"⟩, 62) := ⟨⟨by decide +kernel, by decide +kernel⟩, List.mem_of_getElem? (i := 1259) (by decide +kernel), List.mem_of_getElem? (i := 1721) (by decide +kernel), List.mem_of_getElem? (i := 1722) (by decide +kernel)⟩
theorem lw_p67 : lw_okq (⟨"MailChainModel", "octalAt", "(II)J"⟩, 62) := ⟨⟨by decide +kernel, by decide +kernel⟩, List.mem_of_getElem? (i := 1259) (by decide +kernel), List.mem_of_getElem? (i := 1725) (by decide +kernel), List.mem_of_getElem? (i := 1726) (by decide +kernel)⟩
theorem lw_p68 : lw_okq (⟨"MailChainModel", "take", "(IIIIII)V"⟩, 62) := ⟨⟨by decide +kernel, by decide +kernel⟩, List.mem_of_getElem? (i := 1259) (by decide +kernel), List.mem_of_getElem? (i := 1731) (by decide +kernel), List.mem_of_getElem? (i := 1732) (by decide +kernel)⟩
theorem lw_p69 : lw_okq (⟨"MailChainModel", "areLinks", "()Z"⟩, 62) := ⟨⟨by decide +kernel, by decide +kernel⟩, List.mem_of_getElem? (i := 1259) (by decide +kernel), List.mem_of_getElem? (i := 1735) (by decide +kernel), List.mem_of_getElem? (i := 1736) (by decide +kernel)⟩
def lw_privs_5 : List (MethodName × Nat) := [(⟨"MailChainModel", "firstByte", "(I)I"⟩, 62), (⟨"MailChainModel", "layString", "(I)Z"⟩, 62), (⟨"MailChainModel", "readTree", "()Z"⟩, 62), (⟨"MailChainModel", "octalAt", "(II)J"⟩, 62), (⟨"MailChainModel", "take", "(IIIIII)V"⟩, 62), (⟨"MailChainModel", "areLinks", "()Z"⟩, 62)]
theorem lw_r5 : ∀ q ∈ lw_privs_5, lw_okq q := List.forall_mem_cons.mpr ⟨lw_p64, List.forall_mem_cons.mpr ⟨lw_p65, List.forall_mem_cons.mpr ⟨lw_p66, List.forall_mem_cons.mpr ⟨lw_p67, List.forall_mem_cons.mpr ⟨lw_p68, List.forall_mem_cons.mpr ⟨lw_p69, fun _ h => absurd h List.not_mem_nil⟩⟩⟩⟩⟩⟩
def lw_privs : List (MethodName × Nat) := lw_privs_1 ++ (lw_privs_2 ++ (lw_privs_3 ++ (lw_privs_4 ++ (lw_privs_5))))
def lw_tbl : List Cond := k2_sels lw_privs ++ tables_1
theorem lw_privs_ok : ∀ q ∈ lw_privs, lw_okq q := by
  show ∀ q ∈ lw_privs_1 ++ (lw_privs_2 ++ (lw_privs_3 ++ (lw_privs_4 ++ (lw_privs_5)))), lw_okq q
  exact List.forall_mem_append.mpr ⟨lw_r1, List.forall_mem_append.mpr ⟨lw_r2, List.forall_mem_append.mpr ⟨lw_r3, List.forall_mem_append.mpr ⟨lw_r4, lw_r5⟩⟩⟩⟩
end
section
-- names, fields, layout: by names.py out of the listing
abbrev R_Mc : String := "MailChain"
def F_Mc : u_T := fun k => match k with
  | 0 => ("MailChain", "tape", "LMailChain$Row;", true)
  | 1 => ("MailChain", "mine", "LMailChain$Tree;", true)
  | 2 => ("MailChain", "yours", "LMailChain$Tree;", false)
  | 3 => ("MailChain", "draftOfYours", "LMailChain$Tree;", false)
  | 4 => ("MailChain", "archive", "LMailChain$Row;", true)
  | 5 => ("MailChain", "archiveIsFresh", "Z", false)
  | 6 => ("MailChain", "mail", "LMailChain$Mail;", true)
  | 7 => ("MailChain", "box", "LMailChain$Box;", true)
  | 8 => ("MailChain", "squeezer", "LMailChain$Squeezer;", true)
  | 9 => ("MailChain", "expander", "LMailChain$Expander;", true)
  | 10 => ("MailChain", "plain", "LMailChain$Row;", true)
  | 11 => ("MailChain", "squeezed", "LMailChain$Row;", true)
  | 12 => ("MailChain", "text", "LMailChain$Row;", true)
  | _ => ("MailChain", "proof", "LMailChain$Row;", true)
def t_Mc : Nat → FieldType := fun k => match k with
  | 0 => .object "MailChain$Row"
  | 1 => .object "MailChain$Tree"
  | 2 => .object "MailChain$Tree"
  | 3 => .object "MailChain$Tree"
  | 4 => .object "MailChain$Row"
  | 5 => .boolean
  | 6 => .object "MailChain$Mail"
  | 7 => .object "MailChain$Box"
  | 8 => .object "MailChain$Squeezer"
  | 9 => .object "MailChain$Expander"
  | 10 => .object "MailChain$Row"
  | 11 => .object "MailChain$Row"
  | 12 => .object "MailChain$Row"
  | _ => .object "MailChain$Row"
theorem n_Mc : ∀ a, a < 14 → ∀ b, b < 14 → a ≠ b → (F_Mc a).2.1 ≠ (F_Mc b).2.1 := by decide +kernel
theorem t_Mc_ok : ∀ k, k < 14 → parseFieldDescriptor (F_Mc k).2.2.1 = some (t_Mc k) := by decide +kernel
abbrev R_Ro : String := "MailChain$Row"
def F_Ro : u_T := fun k => match k with
  | 0 => ("MailChain$Row", "bytes", "[B", true)
  | _ => ("MailChain$Row", "size", "I", false)
def t_Ro : Nat → FieldType := fun k => match k with
  | 0 => .array (.byte)
  | _ => .int
theorem n_Ro : ∀ a, a < 2 → ∀ b, b < 2 → a ≠ b → (F_Ro a).2.1 ≠ (F_Ro b).2.1 := by decide +kernel
theorem t_Ro_ok : ∀ k, k < 2 → parseFieldDescriptor (F_Ro k).2.2.1 = some (t_Ro k) := by decide +kernel
abbrev R_En : String := "MailChain$Entry"
def F_En : u_T := fun k => match k with
  | 0 => ("MailChain$Entry", "path", "LMailChain$Row;", true)
  | 1 => ("MailChain$Entry", "kind", "I", false)
  | 2 => ("MailChain$Entry", "mode", "I", false)
  | 3 => ("MailChain$Entry", "owner", "I", false)
  | 4 => ("MailChain$Entry", "group", "I", false)
  | 5 => ("MailChain$Entry", "time", "I", false)
  | 6 => ("MailChain$Entry", "start", "I", false)
  | 7 => ("MailChain$Entry", "size", "I", false)
  | _ => ("MailChain$Entry", "family", "I", false)
def t_En : Nat → FieldType := fun k => match k with
  | 0 => .object "MailChain$Row"
  | 1 => .int
  | 2 => .int
  | 3 => .int
  | 4 => .int
  | 5 => .int
  | 6 => .int
  | 7 => .int
  | _ => .int
theorem n_En : ∀ a, a < 9 → ∀ b, b < 9 → a ≠ b → (F_En a).2.1 ≠ (F_En b).2.1 := by decide +kernel
theorem t_En_ok : ∀ k, k < 9 → parseFieldDescriptor (F_En k).2.2.1 = some (t_En k) := by decide +kernel
abbrev R_Tr : String := "MailChain$Tree"
def F_Tr : u_T := fun k => match k with
  | 0 => ("MailChain$Tree", "entries", "[LMailChain$Entry;", true)
  | 1 => ("MailChain$Tree", "bodies", "LMailChain$Row;", true)
  | 2 => ("MailChain$Tree", "count", "I", false)
  | _ => ("MailChain$Tree", "contents", "I", false)
def t_Tr : Nat → FieldType := fun k => match k with
  | 0 => .array (.object "MailChain$Entry")
  | 1 => .object "MailChain$Row"
  | 2 => .int
  | _ => .int
theorem n_Tr : ∀ a, a < 4 → ∀ b, b < 4 → a ≠ b → (F_Tr a).2.1 ≠ (F_Tr b).2.1 := by decide +kernel
theorem t_Tr_ok : ∀ k, k < 4 → parseFieldDescriptor (F_Tr k).2.2.1 = some (t_Tr k) := by decide +kernel
abbrev R_Ma : String := "MailChain$Mail"
def F_Ma : u_T := fun k => match k with
  | 0 => ("MailChain$Mail", "squeezed", "LMailChain$Row;", true)
  | 1 => ("MailChain$Mail", "text", "LMailChain$Row;", true)
  | 2 => ("MailChain$Mail", "count", "I", false)
  | 3 => ("MailChain$Mail", "length", "I", false)
  | _ => ("MailChain$Mail", "sums", "[I", true)
def t_Ma : Nat → FieldType := fun k => match k with
  | 0 => .object "MailChain$Row"
  | 1 => .object "MailChain$Row"
  | 2 => .int
  | 3 => .int
  | _ => .array (.int)
theorem n_Ma : ∀ a, a < 5 → ∀ b, b < 5 → a ≠ b → (F_Ma a).2.1 ≠ (F_Ma b).2.1 := by decide +kernel
theorem t_Ma_ok : ∀ k, k < 5 → parseFieldDescriptor (F_Ma k).2.2.1 = some (t_Ma k) := by decide +kernel
abbrev R_Pl : String := "MailChain$PartLine"
def F_Pl : u_T := fun k => match k with
  | 0 => ("MailChain$PartLine", "k", "I", false)
  | 1 => ("MailChain$PartLine", "n", "I", false)
  | 2 => ("MailChain$PartLine", "size", "I", false)
  | 3 => ("MailChain$PartLine", "sum", "J", false)
  | _ => ("MailChain$PartLine", "end", "I", false)
def t_Pl : Nat → FieldType := fun k => match k with
  | 0 => .int
  | 1 => .int
  | 2 => .int
  | 3 => .long
  | _ => .int
theorem n_Pl : ∀ a, a < 5 → ∀ b, b < 5 → a ≠ b → (F_Pl a).2.1 ≠ (F_Pl b).2.1 := by decide +kernel
theorem t_Pl_ok : ∀ k, k < 5 → parseFieldDescriptor (F_Pl k).2.2.1 = some (t_Pl k) := by decide +kernel
abbrev R_Bo : String := "MailChain$Box"
def F_Bo : u_T := fun k => match k with
  | 0 => ("MailChain$Box", "pieces", "LMailChain$Row;", true)
  | 1 => ("MailChain$Box", "starts", "[I", true)
  | 2 => ("MailChain$Box", "sizes", "[I", true)
  | 3 => ("MailChain$Box", "line", "LMailChain$PartLine;", true)
  | 4 => ("MailChain$Box", "n", "I", false)
  | 5 => ("MailChain$Box", "bytes", "I", false)
  | _ => ("MailChain$Box", "count", "I", false)
def t_Bo : Nat → FieldType := fun k => match k with
  | 0 => .object "MailChain$Row"
  | 1 => .array (.int)
  | 2 => .array (.int)
  | 3 => .object "MailChain$PartLine"
  | 4 => .int
  | 5 => .int
  | _ => .int
theorem n_Bo : ∀ a, a < 7 → ∀ b, b < 7 → a ≠ b → (F_Bo a).2.1 ≠ (F_Bo b).2.1 := by decide +kernel
theorem t_Bo_ok : ∀ k, k < 7 → parseFieldDescriptor (F_Bo k).2.2.1 = some (t_Bo k) := by decide +kernel
abbrev R_Sq : String := "MailChain$Squeezer"
def F_Sq : u_T := fun k => match k with
  | 0 => ("MailChain$Squeezer", "firstChild", "[I", true)
  | 1 => ("MailChain$Squeezer", "nextChild", "[I", true)
  | 2 => ("MailChain$Squeezer", "lastByte", "[I", true)
  | 3 => ("MailChain$Squeezer", "greatest", "I", false)
  | 4 => ("MailChain$Squeezer", "next", "I", false)
  | 5 => ("MailChain$Squeezer", "width", "I", false)
  | 6 => ("MailChain$Squeezer", "codesOfWidth", "I", false)
  | 7 => ("MailChain$Squeezer", "bits", "I", false)
  | _ => ("MailChain$Squeezer", "bitCount", "I", false)
def t_Sq : Nat → FieldType := fun k => match k with
  | 0 => .array (.int)
  | 1 => .array (.int)
  | 2 => .array (.int)
  | 3 => .int
  | 4 => .int
  | 5 => .int
  | 6 => .int
  | 7 => .int
  | _ => .int
theorem n_Sq : ∀ a, a < 9 → ∀ b, b < 9 → a ≠ b → (F_Sq a).2.1 ≠ (F_Sq b).2.1 := by decide +kernel
theorem t_Sq_ok : ∀ k, k < 9 → parseFieldDescriptor (F_Sq k).2.2.1 = some (t_Sq k) := by decide +kernel
abbrev R_Ex : String := "MailChain$Expander"
def F_Ex : u_T := fun k => match k with
  | 0 => ("MailChain$Expander", "starts", "[I", true)
  | 1 => ("MailChain$Expander", "sizes", "[I", true)
  | 2 => ("MailChain$Expander", "greatest", "I", false)
  | 3 => ("MailChain$Expander", "next", "I", false)
  | 4 => ("MailChain$Expander", "width", "I", false)
  | 5 => ("MailChain$Expander", "codesOfWidth", "I", false)
  | _ => ("MailChain$Expander", "groupStart", "I", false)
def t_Ex : Nat → FieldType := fun k => match k with
  | 0 => .array (.int)
  | 1 => .array (.int)
  | 2 => .int
  | 3 => .int
  | 4 => .int
  | 5 => .int
  | _ => .int
theorem n_Ex : ∀ a, a < 7 → ∀ b, b < 7 → a ≠ b → (F_Ex a).2.1 ≠ (F_Ex b).2.1 := by decide +kernel
theorem t_Ex_ok : ∀ k, k < 7 → parseFieldDescriptor (F_Ex k).2.2.1 = some (t_Ex k) := by decide +kernel
abbrev R_Mo : String := "MailChainModel"
def F_Mo : u_T := fun k => match k with
  | 0 => ("MailChainModel", "trailerName", "[B", true)
  | 1 => ("MailChainModel", "beginLine", "[B", true)
  | 2 => ("MailChainModel", "partWord", "[B", true)
  | 3 => ("MailChainModel", "ofWord", "[B", true)
  | 4 => ("MailChainModel", "sizeWord", "[B", true)
  | 5 => ("MailChainModel", "sumWord", "[B", true)
  | 6 => ("MailChainModel", "thrown", "I", false)
  | 7 => ("MailChainModel", "taped", "I", false)
  | 8 => ("MailChainModel", "tape", "[B", true)
  | 9 => ("MailChainModel", "count", "[I", true)
  | 10 => ("MailChainModel", "paths", "[B", true)
  | 11 => ("MailChainModel", "pathSize", "[I", true)
  | 12 => ("MailChainModel", "kind", "[I", true)
  | 13 => ("MailChainModel", "mode", "[I", true)
  | 14 => ("MailChainModel", "owner", "[I", true)
  | 15 => ("MailChainModel", "group", "[I", true)
  | 16 => ("MailChainModel", "time", "[I", true)
  | 17 => ("MailChainModel", "from", "[I", true)
  | 18 => ("MailChainModel", "size", "[I", true)
  | 19 => ("MailChainModel", "linked", "[I", true)
  | 20 => ("MailChainModel", "used", "[I", true)
  | 21 => ("MailChainModel", "contents", "[B", true)
  | 22 => ("MailChainModel", "groups", "I", false)
  | 23 => ("MailChainModel", "path", "[B", true)
  | 24 => ("MailChainModel", "pathBytes", "I", false)
  | 25 => ("MailChainModel", "archived", "I", false)
  | 26 => ("MailChainModel", "archive", "[B", true)
  | 27 => ("MailChainModel", "compressed", "I", false)
  | 28 => ("MailChainModel", "compress", "[B", true)
  | 29 => ("MailChainModel", "spelled", "I", false)
  | 30 => ("MailChainModel", "spell", "[B", true)
  | 31 => ("MailChainModel", "parts", "I", false)
  | 32 => ("MailChainModel", "pieceSize", "I", false)
  | 33 => ("MailChainModel", "packedSize", "I", false)
  | 34 => ("MailChainModel", "packed", "[B", true)
  | 35 => ("MailChainModel", "textSize", "I", false)
  | 36 => ("MailChainModel", "text", "[B", true)
  | 37 => ("MailChainModel", "boxOf", "I", false)
  | 38 => ("MailChainModel", "boxParts", "I", false)
  | 39 => ("MailChainModel", "boxBytes", "J", false)
  | 40 => ("MailChainModel", "has", "[Z", true)
  | 41 => ("MailChainModel", "boxSize", "[I", true)
  | 42 => ("MailChainModel", "boxFrom", "[I", true)
  | 43 => ("MailChainModel", "boxUsed", "I", false)
  | 44 => ("MailChainModel", "box", "[B", true)
  | 45 => ("MailChainModel", "readSize", "I", false)
  | 46 => ("MailChainModel", "read", "[B", true)
  | 47 => ("MailChainModel", "backSize", "I", false)
  | 48 => ("MailChainModel", "back", "[B", true)
  | 49 => ("MailChainModel", "child", "[I", true)
  | 50 => ("MailChainModel", "beside", "[I", true)
  | 51 => ("MailChainModel", "last", "[I", true)
  | 52 => ("MailChainModel", "before", "[I", true)
  | 53 => ("MailChainModel", "next", "I", false)
  | 54 => ("MailChainModel", "width", "I", false)
  | 55 => ("MailChainModel", "codes", "I", false)
  | 56 => ("MailChainModel", "bits", "I", false)
  | 57 => ("MailChainModel", "bitCount", "I", false)
  | 58 => ("MailChainModel", "bitAt", "I", false)
  | 59 => ("MailChainModel", "partSize", "I", false)
  | 60 => ("MailChainModel", "one", "[B", true)
  | _ => ("MailChainModel", "head", "I", false)
def t_Mo : Nat → FieldType := fun k => match k with
  | 0 => .array (.byte)
  | 1 => .array (.byte)
  | 2 => .array (.byte)
  | 3 => .array (.byte)
  | 4 => .array (.byte)
  | 5 => .array (.byte)
  | 6 => .int
  | 7 => .int
  | 8 => .array (.byte)
  | 9 => .array (.int)
  | 10 => .array (.byte)
  | 11 => .array (.int)
  | 12 => .array (.int)
  | 13 => .array (.int)
  | 14 => .array (.int)
  | 15 => .array (.int)
  | 16 => .array (.int)
  | 17 => .array (.int)
  | 18 => .array (.int)
  | 19 => .array (.int)
  | 20 => .array (.int)
  | 21 => .array (.byte)
  | 22 => .int
  | 23 => .array (.byte)
  | 24 => .int
  | 25 => .int
  | 26 => .array (.byte)
  | 27 => .int
  | 28 => .array (.byte)
  | 29 => .int
  | 30 => .array (.byte)
  | 31 => .int
  | 32 => .int
  | 33 => .int
  | 34 => .array (.byte)
  | 35 => .int
  | 36 => .array (.byte)
  | 37 => .int
  | 38 => .int
  | 39 => .long
  | 40 => .array (.boolean)
  | 41 => .array (.int)
  | 42 => .array (.int)
  | 43 => .int
  | 44 => .array (.byte)
  | 45 => .int
  | 46 => .array (.byte)
  | 47 => .int
  | 48 => .array (.byte)
  | 49 => .array (.int)
  | 50 => .array (.int)
  | 51 => .array (.int)
  | 52 => .array (.int)
  | 53 => .int
  | 54 => .int
  | 55 => .int
  | 56 => .int
  | 57 => .int
  | 58 => .int
  | 59 => .int
  | 60 => .array (.byte)
  | _ => .int
theorem n_Mo : ∀ a, a < 62 → ∀ b, b < 62 → a ≠ b → (F_Mo a).2.1 ≠ (F_Mo b).2.1 := by decide +kernel
theorem t_Mo_ok : ∀ k, k < 62 → parseFieldDescriptor (F_Mo k).2.2.1 = some (t_Mo k) := by decide +kernel
abbrev R_Ar : String := "MailChain$Archive"
abbrev R_Sp : String := "MailChain$Spelling"
abbrev R_La : String := "MailChainLaw"
def kcl : List vw_C := [(R_Mc, F_Mc, 14), (R_Ro, F_Ro, 2), (R_En, F_En, 9), (R_Tr, F_Tr, 4), (R_Ma, F_Ma, 5), (R_Pl, F_Pl, 5), (R_Bo, F_Bo, 7), (R_Sq, F_Sq, 9), (R_Ex, F_Ex, 7), (R_Mo, F_Mo, 62)]
/-- the number of fields of a class -/
def nf (t : Nat) : Nat := match t with
  | 0 => 14
  | 1 => 2
  | 2 => 9
  | 3 => 4
  | 4 => 5
  | 5 => 5
  | 6 => 7
  | 7 => 9
  | 8 => 7
  | 9 => 62
  | _ => 0
/-- a field: 0 whole number, 1 long, 2 a reference that never changes, 3 a reference that may -/
def ft (t j : Nat) : Nat := match t with
  | 0 => [2, 2, 3, 3, 2, 0, 2, 2, 2, 2, 2, 2, 2, 2].getD j 0
  | 1 => [2, 0].getD j 0
  | 2 => [2, 0, 0, 0, 0, 0, 0, 0, 0].getD j 0
  | 3 => [2, 2, 0, 0].getD j 0
  | 4 => [2, 2, 0, 0, 2].getD j 0
  | 5 => [0, 0, 0, 1, 0].getD j 0
  | 6 => [2, 2, 2, 2, 0, 0, 0].getD j 0
  | 7 => [2, 2, 2, 0, 0, 0, 0, 0, 0].getD j 0
  | 8 => [2, 2, 0, 0, 0, 0, 0].getD j 0
  | 9 => [2, 2, 2, 2, 2, 2, 0, 0, 2, 2, 2, 2, 2, 2, 2, 2, 2, 2, 2, 2, 2, 2, 0, 2, 0, 0, 2, 0, 2, 0, 2, 0, 0, 0, 2, 0, 2, 0, 0, 1, 2, 2, 2, 0, 2, 0, 2, 0, 2, 2, 2, 2, 2, 0, 0, 0, 0, 0, 0, 0, 2, 0].getD j 0
  | _ => 0
/-- where the object of a reference that never changes lies, counted from its owner -/
def fo (t j : Nat) : Nat := match t with
  | 0 => [1, 3, 0, 0, 384, 0, 386, 392, 398, 402, 405, 407, 409, 411].getD j 0
  | 1 => [1, 0].getD j 0
  | 2 => [1, 0, 0, 0, 0, 0, 0, 0, 0].getD j 0
  | 3 => [1, 125, 0, 0].getD j 0
  | 4 => [1, 3, 0, 0, 5].getD j 0
  | 5 => [0, 0, 0, 0, 0].getD j 0
  | 6 => [1, 3, 4, 5, 0, 0, 0].getD j 0
  | 7 => [1, 2, 3, 0, 0, 0, 0, 0, 0].getD j 0
  | 8 => [1, 2, 0, 0, 0, 0, 0].getD j 0
  | 9 => [1, 2, 3, 4, 5, 6, 0, 0, 7, 8, 9, 10, 11, 12, 13, 14, 15, 16, 17, 18, 19, 20, 0, 21, 0, 0, 22, 0, 23, 0, 24, 0, 0, 0, 25, 0, 26, 0, 0, 0, 27, 28, 29, 0, 30, 0, 31, 0, 32, 33, 34, 35, 36, 0, 0, 0, 0, 0, 0, 0, 37, 0].getD j 0
  | _ => 0
def layL : List (Nat × Nat) := [(0, 0), (1, 0), (20, 8000), (3, 0), (24, 41), (2, 0), (1, 0), (20, 60), (2, 0), (1, 0), (20, 60), (2, 0), (1, 0), (20, 60), (2, 0), (1, 0), (20, 60), (2, 0), (1, 0), (20, 60), (2, 0), (1, 0), (20, 60), (2, 0), (1, 0), (20, 60), (2, 0), (1, 0), (20, 60), (2, 0), (1, 0), (20, 60), (2, 0), (1, 0), (20, 60), (2, 0), (1, 0), (20, 60), (2, 0), (1, 0), (20, 60), (2, 0), (1, 0), (20, 60), (2, 0), (1, 0), (20, 60), (2, 0), (1, 0), (20, 60), (2, 0), (1, 0), (20, 60), (2, 0), (1, 0), (20, 60), (2, 0), (1, 0), (20, 60), (2, 0), (1, 0), (20, 60), (2, 0), (1, 0), (20, 60), (2, 0), (1, 0), (20, 60), (2, 0), (1, 0), (20, 60), (2, 0), (1, 0), (20, 60), (2, 0), (1, 0), (20, 60), (2, 0), (1, 0), (20, 60), (2, 0), (1, 0), (20, 60), (2, 0), (1, 0), (20, 60), (2, 0), (1, 0), (20, 60), (2, 0), (1, 0), (20, 60), (2, 0), (1, 0), (20, 60), (2, 0), (1, 0), (20, 60), (2, 0), (1, 0), (20, 60), (2, 0), (1, 0), (20, 60), (2, 0), (1, 0), (20, 60), (2, 0), (1, 0), (20, 60), (2, 0), (1, 0), (20, 60), (2, 0), (1, 0), (20, 60), (2, 0), (1, 0), (20, 60), (2, 0), (1, 0), (20, 60), (2, 0), (1, 0), (20, 60), (2, 0), (1, 0), (20, 60), (1, 0), (20, 8400), (3, 0), (24, 41), (2, 0), (1, 0), (20, 60), (2, 0), (1, 0), (20, 60), (2, 0), (1, 0), (20, 60), (2, 0), (1, 0), (20, 60), (2, 0), (1, 0), (20, 60), (2, 0), (1, 0), (20, 60), (2, 0), (1, 0), (20, 60), (2, 0), (1, 0), (20, 60), (2, 0), (1, 0), (20, 60), (2, 0), (1, 0), (20, 60), (2, 0), (1, 0), (20, 60), (2, 0), (1, 0), (20, 60), (2, 0), (1, 0), (20, 60), (2, 0), (1, 0), (20, 60), (2, 0), (1, 0), (20, 60), (2, 0), (1, 0), (20, 60), (2, 0), (1, 0), (20, 60), (2, 0), (1, 0), (20, 60), (2, 0), (1, 0), (20, 60), (2, 0), (1, 0), (20, 60), (2, 0), (1, 0), (20, 60), (2, 0), (1, 0), (20, 60), (2, 0), (1, 0), (20, 60), (2, 0), (1, 0), (20, 60), (2, 0), (1, 0), (20, 60), (2, 0), (1, 0), (20, 60), (2, 0), (1, 0), (20, 60), (2, 0), (1, 0), (20, 60), (2, 0), (1, 0), (20, 60), (2, 0), (1, 0), (20, 60), (2, 0), (1, 0), (20, 60), (2, 0), (1, 0), (20, 60), (2, 0), (1, 0), (20, 60), (2, 0), (1, 0), (20, 60), (2, 0), (1, 0), (20, 60), (2, 0), (1, 0), (20, 60), (2, 0), (1, 0), (20, 60), (2, 0), (1, 0), (20, 60), (2, 0), (1, 0), (20, 60), (2, 0), (1, 0), (20, 60), (2, 0), (1, 0), (20, 60), (1, 0), (20, 8400), (3, 0), (24, 41), (2, 0), (1, 0), (20, 60), (2, 0), (1, 0), (20, 60), (2, 0), (1, 0), (20, 60), (2, 0), (1, 0), (20, 60), (2, 0), (1, 0), (20, 60), (2, 0), (1, 0), (20, 60), (2, 0), (1, 0), (20, 60), (2, 0), (1, 0), (20, 60), (2, 0), (1, 0), (20, 60), (2, 0), (1, 0), (20, 60), (2, 0), (1, 0), (20, 60), (2, 0), (1, 0), (20, 60), (2, 0), (1, 0), (20, 60), (2, 0), (1, 0), (20, 60), (2, 0), (1, 0), (20, 60), (2, 0), (1, 0), (20, 60), (2, 0), (1, 0), (20, 60), (2, 0), (1, 0), (20, 60), (2, 0), (1, 0), (20, 60), (2, 0), (1, 0), (20, 60), (2, 0), (1, 0), (20, 60), (2, 0), (1, 0), (20, 60), (2, 0), (1, 0), (20, 60), (2, 0), (1, 0), (20, 60), (2, 0), (1, 0), (20, 60), (2, 0), (1, 0), (20, 60), (2, 0), (1, 0), (20, 60), (2, 0), (1, 0), (20, 60), (2, 0), (1, 0), (20, 60), (2, 0), (1, 0), (20, 60), (2, 0), (1, 0), (20, 60), (2, 0), (1, 0), (20, 60), (2, 0), (1, 0), (20, 60), (2, 0), (1, 0), (20, 60), (2, 0), (1, 0), (20, 60), (2, 0), (1, 0), (20, 60), (2, 0), (1, 0), (20, 60), (2, 0), (1, 0), (20, 60), (2, 0), (1, 0), (20, 60), (2, 0), (1, 0), (20, 60), (2, 0), (1, 0), (20, 60), (1, 0), (20, 8400), (1, 0), (20, 14000), (4, 0), (1, 0), (20, 26000), (1, 0), (20, 36000), (21, 999), (6, 0), (1, 0), (20, 48000), (21, 1000), (21, 1000), (5, 0), (7, 0), (21, 16384), (21, 16384), (21, 16384), (8, 0), (21, 16384), (21, 16384), (1, 0), (20, 16000), (1, 0), (20, 36000), (1, 0), (20, 48000), (1, 0), (20, 50000), (9, 0), (20, 10), (20, 15), (20, 5), (20, 3), (20, 5), (20, 6), (20, 8000), (21, 3), (20, 7380), (21, 123), (21, 123), (21, 123), (21, 123), (21, 123), (21, 123), (21, 123), (21, 123), (21, 123), (21, 3), (20, 60000), (20, 60), (20, 24000), (20, 40000), (20, 56000), (20, 40000), (20, 56000), (22, 1000), (21, 1000), (21, 1000), (20, 70000), (20, 56000), (20, 56000), (21, 65537), (21, 65537), (21, 65537), (21, 65537), (20, 9000), (23, 1)]
def N0 : Nat := 452
/-- what a place holds: below 20 an object of that class, 20 byte[], 21 int[], 22 boolean[], 23 long[], 24 Entry[] -/
def tg (k : Nat) : Nat := (layL.getD k (99, 0)).1
def ln (k : Nat) : Nat := (layL.getD k (99, 0)).2
-- methods
abbrev b_Mc_init : ByteArray := prog_1_method_1_code
def y_Mc_init : MethodName := ⟨"MailChain", "<init>", "()V"⟩
abbrev b_JObject_init : ByteArray := object_method_1_code
def y_JObject_init : MethodName := ⟨"java/lang/Object", "<init>", "()V"⟩
abbrev b_Ro_init : ByteArray := prog_8_method_1_code
def y_Ro_init : MethodName := ⟨"MailChain$Row", "<init>", "(I)V"⟩
abbrev b_Tr_init : ByteArray := prog_11_method_1_code
def y_Tr_init : MethodName := ⟨"MailChain$Tree", "<init>", "()V"⟩
abbrev b_En_init : ByteArray := prog_4_method_1_code
def y_En_init : MethodName := ⟨"MailChain$Entry", "<init>", "()V"⟩
abbrev b_Ma_init : ByteArray := prog_6_method_1_code
def y_Ma_init : MethodName := ⟨"MailChain$Mail", "<init>", "()V"⟩
abbrev b_Bo_init : ByteArray := prog_3_method_1_code
def y_Bo_init : MethodName := ⟨"MailChain$Box", "<init>", "()V"⟩
abbrev b_JArrays_fill : ByteArray := prog_31_method_103_code
def y_JArrays_fill : MethodName := ⟨"java/util/Arrays", "fill", "([II)V"⟩
abbrev b_Pl_init : ByteArray := prog_7_method_1_code
def y_Pl_init : MethodName := ⟨"MailChain$PartLine", "<init>", "()V"⟩
abbrev b_Sq_init : ByteArray := prog_10_method_1_code
def y_Sq_init : MethodName := ⟨"MailChain$Squeezer", "<init>", "()V"⟩
abbrev b_Ex_init : ByteArray := prog_5_method_1_code
def y_Ex_init : MethodName := ⟨"MailChain$Expander", "<init>", "()V"⟩
abbrev b_Mc_clear : ByteArray := prog_1_method_7_code
def y_Mc_clear : MethodName := ⟨"MailChain", "clear", "()I"⟩
abbrev b_Tr_wipe : ByteArray := prog_11_method_2_code
def y_Tr_wipe : MethodName := ⟨"MailChain$Tree", "wipe", "()V"⟩
abbrev b_Ro_wipe : ByteArray := prog_8_method_2_code
def y_Ro_wipe : MethodName := ⟨"MailChain$Row", "wipe", "()V"⟩
abbrev b_Mc_checksum : ByteArray := prog_1_method_13_code
def y_Mc_checksum : MethodName := ⟨"MailChain", "checksum", "()I"⟩
abbrev b_Ro_sum : ByteArray := prog_8_method_16_code
def y_Ro_sum : MethodName := ⟨"MailChain$Row", "sum", "(II)I"⟩
abbrev b_Ro_at : ByteArray := prog_8_method_5_code
def y_Ro_at : MethodName := ⟨"MailChain$Row", "at", "(I)I"⟩
abbrev b_Ro_divide : ByteArray := prog_8_method_17_code
def y_Ro_divide : MethodName := ⟨"MailChain$Row", "divide", "(II)I"⟩
abbrev b_Mc_receive : ByteArray := prog_1_method_14_code
def y_Mc_receive : MethodName := ⟨"MailChain", "receive", "()I"⟩
abbrev b_Bo_take : ByteArray := prog_3_method_3_code
def y_Bo_take : MethodName := ⟨"MailChain$Box", "take", "(LMailChain$Row;)I"⟩
abbrev b_Pl_read : ByteArray := prog_7_method_2_code
def y_Pl_read : MethodName := ⟨"MailChain$PartLine", "read", "(LMailChain$Row;)Z"⟩
abbrev b_Pl_number : ByteArray := prog_7_method_3_code
def y_Pl_number : MethodName := ⟨"MailChain$PartLine", "number", "(LMailChain$Row;Ljava/lang/String;J)J"⟩
abbrev b_Ro_hasText : ByteArray := prog_8_method_13_code
def y_Ro_hasText : MethodName := ⟨"MailChain$Row", "hasText", "(Ljava/lang/String;I)Z"⟩
abbrev b_JString_length : ByteArray := prog_24_method_54_code
def y_JString_length : MethodName := ⟨"java/lang/String", "length", "()I"⟩
abbrev b_JString_coder : ByteArray := prog_24_method_152_code
def y_JString_coder : MethodName := ⟨"java/lang/String", "coder", "()B"⟩
abbrev b_JString_charAt : ByteArray := prog_24_method_56_code
def y_JString_charAt : MethodName := ⟨"java/lang/String", "charAt", "(I)C"⟩
abbrev b_JString_isLatin1 : ByteArray := prog_24_method_154_code
def y_JString_isLatin1 : MethodName := ⟨"java/lang/String", "isLatin1", "()Z"⟩
abbrev b_JStringLatin1_charAt : ByteArray := prog_26_method_2_code
def y_JStringLatin1_charAt : MethodName := ⟨"java/lang/StringLatin1", "charAt", "([BI)C"⟩
abbrev b_JString_checkIndex : ByteArray := prog_24_method_155_code
def y_JString_checkIndex : MethodName := ⟨"java/lang/String", "checkIndex", "(II)V"⟩
abbrev b_JPreconditions_checkIndex : ByteArray := prog_33_method_11_code
def y_JPreconditions_checkIndex : MethodName := ⟨"jdk/internal/util/Preconditions", "checkIndex", "(IILjava/util/function/BiFunction;)I"⟩
abbrev b_JStringUTF16_charAt : ByteArray := prog_27_method_83_code
def y_JStringUTF16_charAt : MethodName := ⟨"java/lang/StringUTF16", "charAt", "([BI)C"⟩
abbrev b_JStringUTF16_checkIndex : ByteArray := prog_27_method_91_code
def y_JStringUTF16_checkIndex : MethodName := ⟨"java/lang/StringUTF16", "checkIndex", "(I[B)V"⟩
abbrev b_JStringUTF16_length : ByteArray := prog_27_method_6_code
def y_JStringUTF16_length : MethodName := ⟨"java/lang/StringUTF16", "length", "([B)I"⟩
abbrev b_JStringUTF16_getChar : ByteArray := prog_27_method_5_code
def y_JStringUTF16_getChar : MethodName := ⟨"java/lang/StringUTF16", "getChar", "([BI)C"⟩
abbrev b_Pl_isDigit : ByteArray := prog_7_method_4_code
def y_Pl_isDigit : MethodName := ⟨"MailChain$PartLine", "isDigit", "(I)Z"⟩
abbrev b_Bo_keep : ByteArray := prog_3_method_4_code
def y_Bo_keep : MethodName := ⟨"MailChain$Box", "keep", "(IILMailChain$Row;I)V"⟩
abbrev b_Ro_putRange : ByteArray := prog_8_method_8_code
def y_Ro_putRange : MethodName := ⟨"MailChain$Row", "putRange", "(LMailChain$Row;II)V"⟩
abbrev b_Ro_room : ByteArray := prog_8_method_3_code
def y_Ro_room : MethodName := ⟨"MailChain$Row", "room", "()I"⟩
abbrev b_Mc_empty : ByteArray := prog_1_method_18_code
def y_Mc_empty : MethodName := ⟨"MailChain", "empty", "()I"⟩
abbrev b_Bo_wipe : ByteArray := prog_3_method_2_code
def y_Bo_wipe : MethodName := ⟨"MailChain$Box", "wipe", "()V"⟩
abbrev b_Mc_unpack : ByteArray := prog_1_method_19_code
def y_Mc_unpack : MethodName := ⟨"MailChain", "unpack", "()I"⟩
abbrev b_Bo_isWhole : ByteArray := prog_3_method_5_code
def y_Bo_isWhole : MethodName := ⟨"MailChain$Box", "isWhole", "()Z"⟩
abbrev b_Bo_join : ByteArray := prog_3_method_6_code
def y_Bo_join : MethodName := ⟨"MailChain$Box", "join", "(LMailChain$Row;)Z"⟩
abbrev b_Sp_read : ByteArray := prog_9_method_6_code
def y_Sp_read : MethodName := ⟨"MailChain$Spelling", "read", "(LMailChain$Row;LMailChain$Row;)V"⟩
abbrev b_Sp_sixOf : ByteArray := prog_9_method_5_code
def y_Sp_sixOf : MethodName := ⟨"MailChain$Spelling", "sixOf", "(I)I"⟩
abbrev b_Sp_readLine : ByteArray := prog_9_method_7_code
def y_Sp_readLine : MethodName := ⟨"MailChain$Spelling", "readLine", "(LMailChain$Row;IILMailChain$Row;)V"⟩
abbrev b_Ro_put : ByteArray := prog_8_method_6_code
def y_Ro_put : MethodName := ⟨"MailChain$Row", "put", "(I)V"⟩
abbrev b_Sp_write : ByteArray := prog_9_method_2_code
def y_Sp_write : MethodName := ⟨"MailChain$Spelling", "write", "(LMailChain$Row;LMailChain$Row;)V"⟩
abbrev b_Ro_putText : ByteArray := prog_8_method_10_code
def y_Ro_putText : MethodName := ⟨"MailChain$Row", "putText", "(Ljava/lang/String;)V"⟩
abbrev b_JMath_min : ByteArray := prog_22_method_69_code
def y_JMath_min : MethodName := ⟨"java/lang/Math", "min", "(II)I"⟩
abbrev b_Sp_writeLine : ByteArray := prog_9_method_3_code
def y_Sp_writeLine : MethodName := ⟨"MailChain$Spelling", "writeLine", "(LMailChain$Row;IILMailChain$Row;)V"⟩
abbrev b_Sp_letter : ByteArray := prog_9_method_4_code
def y_Sp_letter : MethodName := ⟨"MailChain$Spelling", "letter", "(I)I"⟩
abbrev b_JMath_max : ByteArray := prog_22_method_65_code
def y_JMath_max : MethodName := ⟨"java/lang/Math", "max", "(II)I"⟩
abbrev b_Ro_same : ByteArray := prog_8_method_14_code
def y_Ro_same : MethodName := ⟨"MailChain$Row", "same", "(LMailChain$Row;)Z"⟩
abbrev b_Ro_order : ByteArray := prog_8_method_15_code
def y_Ro_order : MethodName := ⟨"MailChain$Row", "order", "(LMailChain$Row;I)I"⟩
abbrev b_Ex_expand : ByteArray := prog_5_method_2_code
def y_Ex_expand : MethodName := ⟨"MailChain$Expander", "expand", "(LMailChain$Row;LMailChain$Row;)Z"⟩
abbrev b_Mc_isWidth : ByteArray := prog_1_method_9_code
def y_Mc_isWidth : MethodName := ⟨"MailChain", "isWidth", "(I)Z"⟩
abbrev b_Ex_begin : ByteArray := prog_5_method_3_code
def y_Ex_begin : MethodName := ⟨"MailChain$Expander", "begin", "()V"⟩
abbrev b_Ex_readCode : ByteArray := prog_5_method_6_code
def y_Ex_readCode : MethodName := ⟨"MailChain$Expander", "readCode", "(LMailChain$Row;)I"⟩
abbrev b_Ex_changeWidth : ByteArray := prog_5_method_5_code
def y_Ex_changeWidth : MethodName := ⟨"MailChain$Expander", "changeWidth", "(I)V"⟩
abbrev b_Ex_tell : ByteArray := prog_5_method_7_code
def y_Ex_tell : MethodName := ⟨"MailChain$Expander", "tell", "(ILMailChain$Row;)Z"⟩
abbrev b_Ex_restart : ByteArray := prog_5_method_4_code
def y_Ex_restart : MethodName := ⟨"MailChain$Expander", "restart", "()V"⟩
abbrev b_Sq_squeeze : ByteArray := prog_10_method_2_code
def y_Sq_squeeze : MethodName := ⟨"MailChain$Squeezer", "squeeze", "(LMailChain$Row;ILMailChain$Row;)V"⟩
abbrev b_Sq_begin : ByteArray := prog_10_method_3_code
def y_Sq_begin : MethodName := ⟨"MailChain$Squeezer", "begin", "(I)V"⟩
abbrev b_Sq_forget : ByteArray := prog_10_method_4_code
def y_Sq_forget : MethodName := ⟨"MailChain$Squeezer", "forget", "()V"⟩
abbrev b_JArrays_fillx : ByteArray := prog_31_method_104_code
def y_JArrays_fillx : MethodName := ⟨"java/util/Arrays", "fill", "([IIII)V"⟩
abbrev b_JArrays_rangeCheck : ByteArray := prog_31_method_30_code
def y_JArrays_rangeCheck : MethodName := ⟨"java/util/Arrays", "rangeCheck", "(III)V"⟩
abbrev b_JThrowable_init : ByteArray := prog_29_method_1_code
def y_JThrowable_init : MethodName := ⟨"java/lang/Throwable", "<init>", "()V"⟩
abbrev b_JThrowable_fillInStackTrace : ByteArray := prog_29_method_18_code
def y_JThrowable_fillInStackTrace : MethodName := ⟨"java/lang/Throwable", "fillInStackTrace", "()Ljava/lang/Throwable;"⟩
abbrev b_JStringBuilder_init : ByteArray := prog_25_method_1_code
def y_JStringBuilder_init : MethodName := ⟨"java/lang/StringBuilder", "<init>", "()V"⟩
abbrev b_JAbstractStringBuilder_init : ByteArray := prog_14_method_2_code
def y_JAbstractStringBuilder_init : MethodName := ⟨"java/lang/AbstractStringBuilder", "<init>", "(I)V"⟩
abbrev b_JStringUTF16_newBytesFor : ByteArray := prog_27_method_2_code
def y_JStringUTF16_newBytesFor : MethodName := ⟨"java/lang/StringUTF16", "newBytesFor", "(I)[B"⟩
abbrev b_JStringUTF16_newBytesLength : ByteArray := prog_27_method_3_code
def y_JStringUTF16_newBytesLength : MethodName := ⟨"java/lang/StringUTF16", "newBytesLength", "(I)I"⟩
abbrev b_JStringBuilder_append : ByteArray := prog_25_method_7_code
def y_JStringBuilder_append : MethodName := ⟨"java/lang/StringBuilder", "append", "(Ljava/lang/String;)Ljava/lang/StringBuilder;"⟩
abbrev b_JAbstractStringBuilder_append : ByteArray := prog_14_method_22_code
def y_JAbstractStringBuilder_append : MethodName := ⟨"java/lang/AbstractStringBuilder", "append", "(Ljava/lang/String;)Ljava/lang/AbstractStringBuilder;"⟩
abbrev b_JAbstractStringBuilder_appendNull : ByteArray := prog_14_method_26_code
def y_JAbstractStringBuilder_appendNull : MethodName := ⟨"java/lang/AbstractStringBuilder", "appendNull", "()Ljava/lang/AbstractStringBuilder;"⟩
abbrev b_JAbstractStringBuilder_ensureCapacityInternal : ByteArray := prog_14_method_9_code
def y_JAbstractStringBuilder_ensureCapacityInternal : MethodName := ⟨"java/lang/AbstractStringBuilder", "ensureCapacityInternal", "(I)V"⟩
abbrev b_JAbstractStringBuilder_newCapacity : ByteArray := prog_14_method_10_code
def y_JAbstractStringBuilder_newCapacity : MethodName := ⟨"java/lang/AbstractStringBuilder", "newCapacity", "(I)I"⟩
abbrev b_JArraysSupport_newLength : ByteArray := prog_32_method_27_code
def y_JArraysSupport_newLength : MethodName := ⟨"jdk/internal/util/ArraysSupport", "newLength", "(III)I"⟩
abbrev b_JArraysSupport_hugeLength : ByteArray := prog_32_method_28_code
def y_JArraysSupport_hugeLength : MethodName := ⟨"jdk/internal/util/ArraysSupport", "hugeLength", "(II)I"⟩
abbrev b_JArrays_copyOf : ByteArray := prog_31_method_121_code
def y_JArrays_copyOf : MethodName := ⟨"java/util/Arrays", "copyOf", "([BI)[B"⟩
abbrev b_JAbstractStringBuilder_isLatin1 : ByteArray := prog_14_method_68_code
def y_JAbstractStringBuilder_isLatin1 : MethodName := ⟨"java/lang/AbstractStringBuilder", "isLatin1", "()Z"⟩
abbrev b_JStringUTF16_putCharsAt : ByteArray := prog_27_method_81_code
def y_JStringUTF16_putCharsAt : MethodName := ⟨"java/lang/StringUTF16", "putCharsAt", "([BICCCC)I"⟩
abbrev b_JStringUTF16_checkBoundsBeginEnd : ByteArray := prog_27_method_93_code
def y_JStringUTF16_checkBoundsBeginEnd : MethodName := ⟨"java/lang/StringUTF16", "checkBoundsBeginEnd", "(II[B)V"⟩
abbrev b_JString_checkBoundsBeginEnd : ByteArray := prog_24_method_158_code
def y_JString_checkBoundsBeginEnd : MethodName := ⟨"java/lang/String", "checkBoundsBeginEnd", "(III)V"⟩
abbrev b_JPreconditions_checkFromToIndex : ByteArray := prog_33_method_12_code
def y_JPreconditions_checkFromToIndex : MethodName := ⟨"jdk/internal/util/Preconditions", "checkFromToIndex", "(IIILjava/util/function/BiFunction;)I"⟩
abbrev b_JStringUTF16_putChar : ByteArray := prog_27_method_4_code
def y_JStringUTF16_putChar : MethodName := ⟨"java/lang/StringUTF16", "putChar", "([BII)V"⟩
abbrev b_JAbstractStringBuilder_putStringAt : ByteArray := prog_14_method_73_code
def y_JAbstractStringBuilder_putStringAt : MethodName := ⟨"java/lang/AbstractStringBuilder", "putStringAt", "(ILjava/lang/String;)V"⟩
abbrev b_JAbstractStringBuilder_inflateIfNeededFor : ByteArray := prog_14_method_71_code
def y_JAbstractStringBuilder_inflateIfNeededFor : MethodName := ⟨"java/lang/AbstractStringBuilder", "inflateIfNeededFor", "(Ljava/lang/String;)V"⟩
abbrev b_JAbstractStringBuilder_inflate : ByteArray := prog_14_method_11_code
def y_JAbstractStringBuilder_inflate : MethodName := ⟨"java/lang/AbstractStringBuilder", "inflate", "()V"⟩
abbrev b_JStringLatin1_inflate : ByteArray := prog_26_method_50_code
def y_JStringLatin1_inflate : MethodName := ⟨"java/lang/StringLatin1", "inflate", "([BI[BII)V"⟩
abbrev b_JStringUTF16_inflate : ByteArray := prog_27_method_86_code
def y_JStringUTF16_inflate : MethodName := ⟨"java/lang/StringUTF16", "inflate", "([BI[BII)V"⟩
abbrev b_JStringUTF16_checkBoundsOffCount : ByteArray := prog_27_method_94_code
def y_JStringUTF16_checkBoundsOffCount : MethodName := ⟨"java/lang/StringUTF16", "checkBoundsOffCount", "(II[B)V"⟩
abbrev b_JString_checkBoundsOffCount : ByteArray := prog_24_method_157_code
def y_JString_checkBoundsOffCount : MethodName := ⟨"java/lang/String", "checkBoundsOffCount", "(III)I"⟩
abbrev b_JPreconditions_checkFromIndexSize : ByteArray := prog_33_method_13_code
def y_JPreconditions_checkFromIndexSize : MethodName := ⟨"jdk/internal/util/Preconditions", "checkFromIndexSize", "(IIILjava/util/function/BiFunction;)I"⟩
abbrev b_JString_getBytes : ByteArray := prog_24_method_147_code
def y_JString_getBytes : MethodName := ⟨"java/lang/String", "getBytes", "([BIB)V"⟩
abbrev b_JStringBuilder_appendx : ByteArray := prog_25_method_15_code
def y_JStringBuilder_appendx : MethodName := ⟨"java/lang/StringBuilder", "append", "(I)Ljava/lang/StringBuilder;"⟩
abbrev b_JAbstractStringBuilder_appendx : ByteArray := prog_14_method_32_code
def y_JAbstractStringBuilder_appendx : MethodName := ⟨"java/lang/AbstractStringBuilder", "append", "(I)Ljava/lang/AbstractStringBuilder;"⟩
abbrev b_JInteger_stringSize : ByteArray := prog_21_method_13_code
def y_JInteger_stringSize : MethodName := ⟨"java/lang/Integer", "stringSize", "(I)I"⟩
abbrev b_JInteger_getChars : ByteArray := prog_21_method_12_code
def y_JInteger_getChars : MethodName := ⟨"java/lang/Integer", "getChars", "(II[B)I"⟩
abbrev b_JStringUTF16_getChars : ByteArray := prog_27_method_77_code
def y_JStringUTF16_getChars : MethodName := ⟨"java/lang/StringUTF16", "getChars", "(III[B)I"⟩
abbrev b_JStringUTF16_getCharsx : ByteArray := prog_27_method_89_code
def y_JStringUTF16_getCharsx : MethodName := ⟨"java/lang/StringUTF16", "getChars", "(II[B)I"⟩
abbrev b_JStringBuilder_toString : ByteArray := prog_25_method_42_code
def y_JStringBuilder_toString : MethodName := ⟨"java/lang/StringBuilder", "toString", "()Ljava/lang/String;"⟩
abbrev b_JString_init : ByteArray := prog_24_method_53_code
def y_JString_init : MethodName := ⟨"java/lang/String", "<init>", "(Ljava/lang/StringBuilder;)V"⟩
abbrev b_JString_initx : ByteArray := prog_24_method_150_code
def y_JString_initx : MethodName := ⟨"java/lang/String", "<init>", "(Ljava/lang/AbstractStringBuilder;Ljava/lang/Void;)V"⟩
abbrev b_JAbstractStringBuilder_getValue : ByteArray := prog_14_method_64_code
def y_JAbstractStringBuilder_getValue : MethodName := ⟨"java/lang/AbstractStringBuilder", "getValue", "()[B"⟩
abbrev b_JStringBuilder_length : ByteArray := prog_25_method_93_code
def y_JStringBuilder_length : MethodName := ⟨"java/lang/StringBuilder", "length", "()I"⟩
abbrev b_JAbstractStringBuilder_length : ByteArray := prog_14_method_6_code
def y_JAbstractStringBuilder_length : MethodName := ⟨"java/lang/AbstractStringBuilder", "length", "()I"⟩
abbrev b_JArrays_copyOfRange : ByteArray := prog_31_method_132_code
def y_JArrays_copyOfRange : MethodName := ⟨"java/util/Arrays", "copyOfRange", "([BII)[B"⟩
abbrev b_JArrays_copyOfRangeByte : ByteArray := prog_31_method_133_code
def y_JArrays_copyOfRangeByte : MethodName := ⟨"java/util/Arrays", "copyOfRangeByte", "([BII)[B"⟩
abbrev b_JArrays_checkLength : ByteArray := prog_31_method_131_code
def y_JArrays_checkLength : MethodName := ⟨"java/util/Arrays", "checkLength", "(II)V"⟩
abbrev b_JIllegalArgumentException_init : ByteArray := prog_18_method_2_code
def y_JIllegalArgumentException_init : MethodName := ⟨"java/lang/IllegalArgumentException", "<init>", "(Ljava/lang/String;)V"⟩
abbrev b_JRuntimeException_init : ByteArray := prog_23_method_2_code
def y_JRuntimeException_init : MethodName := ⟨"java/lang/RuntimeException", "<init>", "(Ljava/lang/String;)V"⟩
abbrev b_JException_init : ByteArray := prog_17_method_2_code
def y_JException_init : MethodName := ⟨"java/lang/Exception", "<init>", "(Ljava/lang/String;)V"⟩
abbrev b_JThrowable_initx : ByteArray := prog_29_method_2_code
def y_JThrowable_initx : MethodName := ⟨"java/lang/Throwable", "<init>", "(Ljava/lang/String;)V"⟩
abbrev b_JStringUTF16_compress : ByteArray := prog_27_method_17_code
def y_JStringUTF16_compress : MethodName := ⟨"java/lang/StringUTF16", "compress", "([BII)[B"⟩
abbrev b_JStringUTF16_compressx : ByteArray := prog_27_method_22_code
def y_JStringUTF16_compressx : MethodName := ⟨"java/lang/StringUTF16", "compress", "([BI[BII)I"⟩
abbrev b_JStringUTF16_coderFromArrayLen : ByteArray := prog_27_method_15_code
def y_JStringUTF16_coderFromArrayLen : MethodName := ⟨"java/lang/StringUTF16", "coderFromArrayLen", "([BI)B"⟩
abbrev b_JArrayIndexOutOfBoundsException_init : ByteArray := prog_15_method_3_code
def y_JArrayIndexOutOfBoundsException_init : MethodName := ⟨"java/lang/ArrayIndexOutOfBoundsException", "<init>", "(I)V"⟩
abbrev b_JIndexOutOfBoundsException_init : ByteArray := prog_20_method_2_code
def y_JIndexOutOfBoundsException_init : MethodName := ⟨"java/lang/IndexOutOfBoundsException", "<init>", "(Ljava/lang/String;)V"⟩
abbrev b_Sq_childOf : ByteArray := prog_10_method_5_code
def y_Sq_childOf : MethodName := ⟨"MailChain$Squeezer", "childOf", "(II)I"⟩
abbrev b_Sq_putCode : ByteArray := prog_10_method_7_code
def y_Sq_putCode : MethodName := ⟨"MailChain$Squeezer", "putCode", "(ILMailChain$Row;)V"⟩
abbrev b_Sq_changeWidth : ByteArray := prog_10_method_8_code
def y_Sq_changeWidth : MethodName := ⟨"MailChain$Squeezer", "changeWidth", "(ILMailChain$Row;)V"⟩
abbrev b_Sq_putBits : ByteArray := prog_10_method_9_code
def y_Sq_putBits : MethodName := ⟨"MailChain$Squeezer", "putBits", "(ILMailChain$Row;)V"⟩
abbrev b_Sq_learn : ByteArray := prog_10_method_6_code
def y_Sq_learn : MethodName := ⟨"MailChain$Squeezer", "learn", "(IILMailChain$Row;)V"⟩
abbrev b_Ar_read : ByteArray := prog_2_method_6_code
def y_Ar_read : MethodName := ⟨"MailChain$Archive", "read", "(LMailChain$Row;LMailChain$Tree;)Z"⟩
abbrev b_Ar_readEntry : ByteArray := prog_2_method_7_code
def y_Ar_readEntry : MethodName := ⟨"MailChain$Archive", "readEntry", "(LMailChain$Row;ILMailChain$Tree;)I"⟩
abbrev b_Ar_octal : ByteArray := prog_2_method_9_code
def y_Ar_octal : MethodName := ⟨"MailChain$Archive", "octal", "(LMailChain$Row;II)I"⟩
abbrev b_Tr_draft : ByteArray := prog_11_method_4_code
def y_Tr_draft : MethodName := ⟨"MailChain$Tree", "draft", "()LMailChain$Entry;"⟩
abbrev b_Ro_copy : ByteArray := prog_8_method_9_code
def y_Ro_copy : MethodName := ⟨"MailChain$Row", "copy", "(LMailChain$Row;II)V"⟩
abbrev b_Ar_readFields : ByteArray := prog_2_method_8_code
def y_Ar_readFields : MethodName := ⟨"MailChain$Archive", "readFields", "(LMailChain$Row;ILMailChain$Entry;)V"⟩
abbrev b_Ar_kindOf : ByteArray := prog_2_method_5_code
def y_Ar_kindOf : MethodName := ⟨"MailChain$Archive", "kindOf", "(I)I"⟩
abbrev b_Ar_kindDigits : ByteArray := prog_2_method_4_code
def y_Ar_kindDigits : MethodName := ⟨"MailChain$Archive", "kindDigits", "(I)I"⟩
abbrev b_Tr_enter : ByteArray := prog_11_method_5_code
def y_Tr_enter : MethodName := ⟨"MailChain$Tree", "enter", "(LMailChain$Row;II)I"⟩
abbrev b_En_hasSoundFields : ByteArray := prog_4_method_3_code
def y_En_hasSoundFields : MethodName := ⟨"MailChain$Entry", "hasSoundFields", "()Z"⟩
abbrev b_Tr_isBody : ByteArray := prog_11_method_7_code
def y_Tr_isBody : MethodName := ⟨"MailChain$Tree", "isBody", "(ILMailChain$Row;II)Z"⟩
abbrev b_Tr_isTarget : ByteArray := prog_11_method_8_code
def y_Tr_isTarget : MethodName := ⟨"MailChain$Tree", "isTarget", "(LMailChain$Row;II)Z"⟩
abbrev b_Tr_insertDraft : ByteArray := prog_11_method_9_code
def y_Tr_insertDraft : MethodName := ⟨"MailChain$Tree", "insertDraft", "()I"⟩
abbrev b_En_hasSoundPath : ByteArray := prog_4_method_4_code
def y_En_hasSoundPath : MethodName := ⟨"MailChain$Entry", "hasSoundPath", "()Z"⟩
abbrev b_En_isName : ByteArray := prog_4_method_5_code
def y_En_isName : MethodName := ⟨"MailChain$Entry", "isName", "(II)Z"⟩
abbrev b_Tr_hasParentOf : ByteArray := prog_11_method_10_code
def y_Tr_hasParentOf : MethodName := ⟨"MailChain$Tree", "hasParentOf", "(LMailChain$Entry;)Z"⟩
abbrev b_En_parentSize : ByteArray := prog_4_method_6_code
def y_En_parentSize : MethodName := ⟨"MailChain$Entry", "parentSize", "()I"⟩
abbrev b_Tr_placeOf : ByteArray := prog_11_method_11_code
def y_Tr_placeOf : MethodName := ⟨"MailChain$Tree", "placeOf", "(LMailChain$Row;I)I"⟩
abbrev b_Tr_has : ByteArray := prog_11_method_3_code
def y_Tr_has : MethodName := ⟨"MailChain$Tree", "has", "(I)Z"⟩
abbrev b_Tr_enterLink : ByteArray := prog_11_method_6_code
def y_Tr_enterLink : MethodName := ⟨"MailChain$Tree", "enterLink", "(I)I"⟩
abbrev b_En_becomeLinkOf : ByteArray := prog_4_method_2_code
def y_En_becomeLinkOf : MethodName := ⟨"MailChain$Entry", "becomeLinkOf", "(LMailChain$Entry;)V"⟩
abbrev b_Ar_write : ByteArray := prog_2_method_2_code
def y_Ar_write : MethodName := ⟨"MailChain$Archive", "write", "(LMailChain$Tree;LMailChain$Row;)V"⟩
abbrev b_Tr_hasArchive : ByteArray := prog_11_method_14_code
def y_Tr_hasArchive : MethodName := ⟨"MailChain$Tree", "hasArchive", "()Z"⟩
abbrev b_Tr_firstLinkOf : ByteArray := prog_11_method_12_code
def y_Tr_firstLinkOf : MethodName := ⟨"MailChain$Tree", "firstLinkOf", "(I)I"⟩
abbrev b_Tr_linksOf : ByteArray := prog_11_method_13_code
def y_Tr_linksOf : MethodName := ⟨"MailChain$Tree", "linksOf", "(I)I"⟩
abbrev b_Ar_writeHeader : ByteArray := prog_2_method_3_code
def y_Ar_writeHeader : MethodName := ⟨"MailChain$Archive", "writeHeader", "(LMailChain$Entry;IILMailChain$Row;)V"⟩
abbrev b_Ro_putOctal : ByteArray := prog_8_method_11_code
def y_Ro_putOctal : MethodName := ⟨"MailChain$Row", "putOctal", "(II)V"⟩
abbrev b_Mc_swapYours : ByteArray := prog_1_method_20_code
def y_Mc_swapYours : MethodName := ⟨"MailChain", "swapYours", "()V"⟩
abbrev b_La_type : ByteArray := method_3_code
def y_La_type : MethodName := ⟨"MailChainLaw", "type", "(LMailChain;JI[J)I"⟩
abbrev b_Mc_type : ByteArray := prog_1_method_2_code
def y_Mc_type : MethodName := ⟨"MailChain", "type", "(JI)I"⟩
abbrev b_JIllegalArgumentException_initx : ByteArray := prog_18_method_1_code
def y_JIllegalArgumentException_initx : MethodName := ⟨"java/lang/IllegalArgumentException", "<init>", "()V"⟩
abbrev b_JRuntimeException_initx : ByteArray := prog_23_method_1_code
def y_JRuntimeException_initx : MethodName := ⟨"java/lang/RuntimeException", "<init>", "()V"⟩
abbrev b_JException_initx : ByteArray := prog_17_method_1_code
def y_JException_initx : MethodName := ⟨"java/lang/Exception", "<init>", "()V"⟩
abbrev b_JUnsupportedOperationException_init : ByteArray := prog_30_method_1_code
def y_JUnsupportedOperationException_init : MethodName := ⟨"java/lang/UnsupportedOperationException", "<init>", "()V"⟩
abbrev b_La_again : ByteArray := method_4_code
def y_La_again : MethodName := ⟨"MailChainLaw", "again", "(LMailChain;I[J)I"⟩
abbrev b_Mc_again : ByteArray := prog_1_method_3_code
def y_Mc_again : MethodName := ⟨"MailChain", "again", "(I)I"⟩
abbrev b_La_add : ByteArray := method_5_code
def y_La_add : MethodName := ⟨"MailChainLaw", "add", "(LMailChain;IIIIII[J)I"⟩
abbrev b_Mc_add : ByteArray := prog_1_method_4_code
def y_Mc_add : MethodName := ⟨"MailChain", "add", "(IIIIII)I"⟩
abbrev b_Mc_afterEntering : ByteArray := prog_1_method_6_code
def y_Mc_afterEntering : MethodName := ⟨"MailChain", "afterEntering", "(I)I"⟩
abbrev b_JIndexOutOfBoundsException_initx : ByteArray := prog_20_method_1_code
def y_JIndexOutOfBoundsException_initx : MethodName := ⟨"java/lang/IndexOutOfBoundsException", "<init>", "()V"⟩
abbrev b_JIllegalStateException_init : ByteArray := prog_19_method_1_code
def y_JIllegalStateException_init : MethodName := ⟨"java/lang/IllegalStateException", "<init>", "()V"⟩
abbrev b_La_link : ByteArray := method_6_code
def y_La_link : MethodName := ⟨"MailChainLaw", "link", "(LMailChain;I[J)I"⟩
abbrev b_Mc_link : ByteArray := prog_1_method_5_code
def y_Mc_link : MethodName := ⟨"MailChain", "link", "(I)I"⟩
abbrev b_La_pack : ByteArray := method_7_code
def y_La_pack : MethodName := ⟨"MailChainLaw", "pack", "(LMailChain;II[J)I"⟩
abbrev b_Mc_pack : ByteArray := prog_1_method_8_code
def y_Mc_pack : MethodName := ⟨"MailChain", "pack", "(II)I"⟩
abbrev b_Mc_refreshArchive : ByteArray := prog_1_method_10_code
def y_Mc_refreshArchive : MethodName := ⟨"MailChain", "refreshArchive", "()V"⟩
abbrev b_Ma_keep : ByteArray := prog_6_method_2_code
def y_Ma_keep : MethodName := ⟨"MailChain$Mail", "keep", "(LMailChain$Row;LMailChain$Row;I)V"⟩
abbrev b_Ma_pieceEnd : ByteArray := prog_6_method_5_code
def y_Ma_pieceEnd : MethodName := ⟨"MailChain$Mail", "pieceEnd", "(I)I"⟩
abbrev b_La_part : ByteArray := method_8_code
def y_La_part : MethodName := ⟨"MailChainLaw", "part", "(LMailChain;II[J)I"⟩
abbrev b_Mc_part : ByteArray := prog_1_method_11_code
def y_Mc_part : MethodName := ⟨"MailChain", "part", "(II)I"⟩
abbrev b_Ma_has : ByteArray := prog_6_method_3_code
def y_Ma_has : MethodName := ⟨"MailChain$Mail", "has", "(I)Z"⟩
abbrev b_Ma_write : ByteArray := prog_6_method_4_code
def y_Ma_write : MethodName := ⟨"MailChain$Mail", "write", "(ILMailChain$Row;)V"⟩
abbrev b_Ro_putDecimal : ByteArray := prog_8_method_12_code
def y_Ro_putDecimal : MethodName := ⟨"MailChain$Row", "putDecimal", "(J)V"⟩
abbrev b_Ro_has : ByteArray := prog_8_method_4_code
def y_Ro_has : MethodName := ⟨"MailChain$Row", "has", "(I)Z"⟩
abbrev b_La_stage : ByteArray := method_9_code
def y_La_stage : MethodName := ⟨"MailChainLaw", "stage", "(LMailChain;II[J)I"⟩
abbrev b_Mc_stage : ByteArray := prog_1_method_12_code
def y_Mc_stage : MethodName := ⟨"MailChain", "stage", "(II)I"⟩
abbrev b_La_pass : ByteArray := method_10_code
def y_La_pass : MethodName := ⟨"MailChainLaw", "pass", "(LMailChain;III[J)I"⟩
abbrev b_Mc_pass : ByteArray := prog_1_method_15_code
def y_Mc_pass : MethodName := ⟨"MailChain", "pass", "(III)I"⟩
abbrev b_Ro_turn : ByteArray := prog_8_method_7_code
def y_Ro_turn : MethodName := ⟨"MailChain$Row", "turn", "(II)V"⟩
abbrev b_La_forge : ByteArray := method_11_code
def y_La_forge : MethodName := ⟨"MailChainLaw", "forge", "(LMailChain;II)I"⟩
abbrev b_Mc_forge : ByteArray := prog_1_method_16_code
def y_Mc_forge : MethodName := ⟨"MailChain", "forge", "(II)V"⟩
abbrev b_Mc_textOfTape : ByteArray := prog_1_method_17_code
def y_Mc_textOfTape : MethodName := ⟨"MailChain", "textOfTape", "(II)LMailChain$Row;"⟩
abbrev b_La_about : ByteArray := method_12_code
def y_La_about : MethodName := ⟨"MailChainLaw", "about", "(LMailChain;III[J)I"⟩
abbrev b_Mc_about : ByteArray := prog_1_method_21_code
def y_Mc_about : MethodName := ⟨"MailChain", "about", "(III)I"⟩
abbrev b_Tr_tell : ByteArray := prog_11_method_15_code
def y_Tr_tell : MethodName := ⟨"MailChain$Tree", "tell", "(II)I"⟩
abbrev b_La_byteOf : ByteArray := method_13_code
def y_La_byteOf : MethodName := ⟨"MailChainLaw", "byteOf", "(LMailChain;III[J)I"⟩
abbrev b_Mc_byteOf : ByteArray := prog_1_method_22_code
def y_Mc_byteOf : MethodName := ⟨"MailChain", "byteOf", "(III)I"⟩
abbrev b_Tr_hasByte : ByteArray := prog_11_method_16_code
def y_Tr_hasByte : MethodName := ⟨"MailChain$Tree", "hasByte", "(II)Z"⟩
abbrev b_Tr_byteAt : ByteArray := prog_11_method_17_code
def y_Tr_byteAt : MethodName := ⟨"MailChain$Tree", "byteAt", "(II)I"⟩
abbrev b_Mo_init : ByteArray := prog_13_method_1_code
def y_Mo_init : MethodName := ⟨"MailChainModel", "<init>", "()V"⟩
abbrev b_Mo_thrown : ByteArray := prog_13_method_2_code
def y_Mo_thrown : MethodName := ⟨"MailChainModel", "thrown", "()I"⟩
abbrev b_Mo_type : ByteArray := prog_13_method_3_code
def y_Mo_type : MethodName := ⟨"MailChainModel", "type", "(JI)I"⟩
abbrev b_Mo_again : ByteArray := prog_13_method_4_code
def y_Mo_again : MethodName := ⟨"MailChainModel", "again", "(I)I"⟩
abbrev b_Mo_add : ByteArray := prog_13_method_18_code
def y_Mo_add : MethodName := ⟨"MailChainModel", "add", "(IIIIII)I"⟩
abbrev b_Mo_added : ByteArray := prog_13_method_17_code
def y_Mo_added : MethodName := ⟨"MailChainModel", "added", "(IIIIII)I"⟩
abbrev b_Mo_isNumber : ByteArray := prog_13_method_14_code
def y_Mo_isNumber : MethodName := ⟨"MailChainModel", "isNumber", "(I)Z"⟩
abbrev b_Mo_look : ByteArray := prog_13_method_6_code
def y_Mo_look : MethodName := ⟨"MailChainModel", "look", "([BII)V"⟩
abbrev b_Mo_mayBe : ByteArray := prog_13_method_16_code
def y_Mo_mayBe : MethodName := ⟨"MailChainModel", "mayBe", "(II)Z"⟩
abbrev b_Mo_isTarget : ByteArray := prog_13_method_15_code
def y_Mo_isTarget : MethodName := ⟨"MailChainModel", "isTarget", "([BII)Z"⟩
abbrev b_Mo_isPath : ByteArray := prog_13_method_7_code
def y_Mo_isPath : MethodName := ⟨"MailChainModel", "isPath", "()Z"⟩
abbrev b_Mo_hasParent : ByteArray := prog_13_method_10_code
def y_Mo_hasParent : MethodName := ⟨"MailChainModel", "hasParent", "(I)Z"⟩
abbrev b_Mo_find : ByteArray := prog_13_method_9_code
def y_Mo_find : MethodName := ⟨"MailChainModel", "find", "(II)I"⟩
abbrev b_Mo_at : ByteArray := prog_13_method_5_code
def y_Mo_at : MethodName := ⟨"MailChainModel", "at", "(II)I"⟩
abbrev b_Mo_compare : ByteArray := prog_13_method_8_code
def y_Mo_compare : MethodName := ⟨"MailChainModel", "compare", "(II)I"⟩
abbrev b_Mo_bytesOf : ByteArray := prog_13_method_11_code
def y_Mo_bytesOf : MethodName := ⟨"MailChainModel", "bytesOf", "(I)I"⟩
abbrev b_Mo_enter : ByteArray := prog_13_method_13_code
def y_Mo_enter : MethodName := ⟨"MailChainModel", "enter", "(I)I"⟩
abbrev b_Mo_copyEntry : ByteArray := prog_13_method_12_code
def y_Mo_copyEntry : MethodName := ⟨"MailChainModel", "copyEntry", "(II)V"⟩
abbrev b_Mo_link : ByteArray := prog_13_method_21_code
def y_Mo_link : MethodName := ⟨"MailChainModel", "link", "(I)I"⟩
abbrev b_Mo_linkedNow : ByteArray := prog_13_method_19_code
def y_Mo_linkedNow : MethodName := ⟨"MailChainModel", "linkedNow", "(I)I"⟩
abbrev b_Mo_copyAttributes : ByteArray := prog_13_method_20_code
def y_Mo_copyAttributes : MethodName := ⟨"MailChainModel", "copyAttributes", "(II)V"⟩
abbrev b_Mo_clear : ByteArray := prog_13_method_22_code
def y_Mo_clear : MethodName := ⟨"MailChainModel", "clear", "()I"⟩
abbrev b_Mo_checksum : ByteArray := prog_13_method_46_code
def y_Mo_checksum : MethodName := ⟨"MailChainModel", "checksum", "()I"⟩
abbrev b_Mo_sumOf : ByteArray := prog_13_method_45_code
def y_Mo_sumOf : MethodName := ⟨"MailChainModel", "sumOf", "([BII)I"⟩
abbrev b_Mo_step : ByteArray := prog_13_method_44_code
def y_Mo_step : MethodName := ⟨"MailChainModel", "step", "(II)I"⟩
abbrev b_Mo_pack : ByteArray := prog_13_method_47_code
def y_Mo_pack : MethodName := ⟨"MailChainModel", "pack", "(II)I"⟩
abbrev b_Mo_isLarge : ByteArray := prog_13_method_29_code
def y_Mo_isLarge : MethodName := ⟨"MailChainModel", "isLarge", "(I)Z"⟩
abbrev b_Mo_archiveOf : ByteArray := prog_13_method_28_code
def y_Mo_archiveOf : MethodName := ⟨"MailChainModel", "archiveOf", "(I)V"⟩
abbrev b_Mo_firstOf : ByteArray := prog_13_method_26_code
def y_Mo_firstOf : MethodName := ⟨"MailChainModel", "firstOf", "(II)I"⟩
abbrev b_Mo_linksOf : ByteArray := prog_13_method_27_code
def y_Mo_linksOf : MethodName := ⟨"MailChainModel", "linksOf", "(II)I"⟩
abbrev b_Mo_header : ByteArray := prog_13_method_25_code
def y_Mo_header : MethodName := ⟨"MailChainModel", "header", "(IIIIIIII)V"⟩
abbrev b_Mo_octal : ByteArray := prog_13_method_23_code
def y_Mo_octal : MethodName := ⟨"MailChainModel", "octal", "(JI)V"⟩
abbrev b_Mo_zero : ByteArray := prog_13_method_24_code
def y_Mo_zero : MethodName := ⟨"MailChainModel", "zero", "()V"⟩
abbrev b_Mo_compressRow : ByteArray := prog_13_method_35_code
def y_Mo_compressRow : MethodName := ⟨"MailChainModel", "compressRow", "([BII)V"⟩
abbrev b_Mo_clearTable : ByteArray := prog_13_method_30_code
def y_Mo_clearTable : MethodName := ⟨"MailChainModel", "clearTable", "()V"⟩
abbrev b_Mo_goOn : ByteArray := prog_13_method_34_code
def y_Mo_goOn : MethodName := ⟨"MailChainModel", "goOn", "(II)I"⟩
abbrev b_Mo_putCode : ByteArray := prog_13_method_33_code
def y_Mo_putCode : MethodName := ⟨"MailChainModel", "putCode", "(II)V"⟩
abbrev b_Mo_fill : ByteArray := prog_13_method_32_code
def y_Mo_fill : MethodName := ⟨"MailChainModel", "fill", "()V"⟩
abbrev b_Mo_putBits : ByteArray := prog_13_method_31_code
def y_Mo_putBits : MethodName := ⟨"MailChainModel", "putBits", "(II)V"⟩
abbrev b_Mo_spellRow : ByteArray := prog_13_method_42_code
def y_Mo_spellRow : MethodName := ⟨"MailChainModel", "spellRow", "([BI)V"⟩
abbrev b_Mo_lay : ByteArray := prog_13_method_40_code
def y_Mo_lay : MethodName := ⟨"MailChainModel", "lay", "(I)V"⟩
abbrev b_Mo_six : ByteArray := prog_13_method_41_code
def y_Mo_six : MethodName := ⟨"MailChainModel", "six", "(I)V"⟩
abbrev b_Mo_part : ByteArray := prog_13_method_52_code
def y_Mo_part : MethodName := ⟨"MailChainModel", "part", "(II)I"⟩
abbrev b_Mo_writePart : ByteArray := prog_13_method_51_code
def y_Mo_writePart : MethodName := ⟨"MailChainModel", "writePart", "(I)V"⟩
abbrev b_Mo_putWord : ByteArray := prog_13_method_48_code
def y_Mo_putWord : MethodName := ⟨"MailChainModel", "putWord", "([B)V"⟩
abbrev b_Mo_putChar : ByteArray := prog_13_method_50_code
def y_Mo_putChar : MethodName := ⟨"MailChainModel", "putChar", "(I)V"⟩
abbrev b_Mo_putDecimal : ByteArray := prog_13_method_49_code
def y_Mo_putDecimal : MethodName := ⟨"MailChainModel", "putDecimal", "(J)V"⟩
abbrev b_Mo_stage : ByteArray := prog_13_method_53_code
def y_Mo_stage : MethodName := ⟨"MailChainModel", "stage", "(II)I"⟩
abbrev b_Mo_receive : ByteArray := prog_13_method_59_code
def y_Mo_receive : MethodName := ⟨"MailChainModel", "receive", "()I"⟩
abbrev b_Mo_come : ByteArray := prog_13_method_56_code
def y_Mo_come : MethodName := ⟨"MailChainModel", "come", "()I"⟩
abbrev b_Mo_word : ByteArray := prog_13_method_54_code
def y_Mo_word : MethodName := ⟨"MailChainModel", "word", "([B)Z"⟩
abbrev b_Mo_decimal : ByteArray := prog_13_method_55_code
def y_Mo_decimal : MethodName := ⟨"MailChainModel", "decimal", "(I)J"⟩
abbrev b_Mo_keep : ByteArray := prog_13_method_58_code
def y_Mo_keep : MethodName := ⟨"MailChainModel", "keep", "(II[BII)V"⟩
abbrev b_Mo_pass : ByteArray := prog_13_method_60_code
def y_Mo_pass : MethodName := ⟨"MailChainModel", "pass", "(III)I"⟩
abbrev b_Mo_forge : ByteArray := prog_13_method_61_code
def y_Mo_forge : MethodName := ⟨"MailChainModel", "forge", "(II)V"⟩
abbrev b_Mo_emptyBox : ByteArray := prog_13_method_57_code
def y_Mo_emptyBox : MethodName := ⟨"MailChainModel", "emptyBox", "()V"⟩
abbrev b_Mo_empty : ByteArray := prog_13_method_62_code
def y_Mo_empty : MethodName := ⟨"MailChainModel", "empty", "()I"⟩
abbrev b_Mo_unpack : ByteArray := prog_13_method_69_code
def y_Mo_unpack : MethodName := ⟨"MailChainModel", "unpack", "()I"⟩
abbrev b_Mo_unpacked : ByteArray := prog_13_method_68_code
def y_Mo_unpacked : MethodName := ⟨"MailChainModel", "unpacked", "()I"⟩
abbrev b_Mo_unspell : ByteArray := prog_13_method_43_code
def y_Mo_unspell : MethodName := ⟨"MailChainModel", "unspell", "()V"⟩
abbrev b_Mo_areSame : ByteArray := prog_13_method_63_code
def y_Mo_areSame : MethodName := ⟨"MailChainModel", "areSame", "([BI[BI)Z"⟩
abbrev b_Mo_expand : ByteArray := prog_13_method_37_code
def y_Mo_expand : MethodName := ⟨"MailChainModel", "expand", "(I)Z"⟩
abbrev b_Mo_code : ByteArray := prog_13_method_36_code
def y_Mo_code : MethodName := ⟨"MailChainModel", "code", "(I)I"⟩
abbrev b_Mo_firstByte : ByteArray := prog_13_method_38_code
def y_Mo_firstByte : MethodName := ⟨"MailChainModel", "firstByte", "(I)I"⟩
abbrev b_Mo_layString : ByteArray := prog_13_method_39_code
def y_Mo_layString : MethodName := ⟨"MailChainModel", "layString", "(I)Z"⟩
abbrev b_Mo_readTree : ByteArray := prog_13_method_65_code
def y_Mo_readTree : MethodName := ⟨"MailChainModel", "readTree", "()Z"⟩
abbrev b_Mo_octalAt : ByteArray := prog_13_method_64_code
def y_Mo_octalAt : MethodName := ⟨"MailChainModel", "octalAt", "(II)J"⟩
abbrev b_Mo_take : ByteArray := prog_13_method_66_code
def y_Mo_take : MethodName := ⟨"MailChainModel", "take", "(IIIIII)V"⟩
abbrev b_Mo_areLinks : ByteArray := prog_13_method_67_code
def y_Mo_areLinks : MethodName := ⟨"MailChainModel", "areLinks", "()Z"⟩
abbrev b_Mo_about : ByteArray := prog_13_method_70_code
def y_Mo_about : MethodName := ⟨"MailChainModel", "about", "(III)I"⟩
abbrev b_Mo_byteOf : ByteArray := prog_13_method_71_code
def y_Mo_byteOf : MethodName := ⟨"MailChainModel", "byteOf", "(III)I"⟩
-- the tables' words that travel with every call
def tb : List Cond := lw_tbl.filter goodWord
theorem tb_in {w : Cond} (h : w ∈ lw_tbl) (hg : goodWord w = true) : w ∈ tb := List.mem_filter.mpr ⟨h, hg⟩
theorem tb_1 (i : Nat) {w : Cond} (h : tables_1[i]? = some w) (hg : goodWord w = true) : w ∈ tb := tb_in (List.mem_append_right _ (List.mem_of_getElem? h)) hg
theorem tb_p (ws : List Cond) (ps : List Nat) (hp : ws = ps.filterMap (fun i => tables_1[i]?)) (h : ws.all goodWord = true) : ∀ w ∈ ws, w ∈ tb := by
  intro w hw
  have h1 := List.all_eq_true.mp h w hw
  rw [hp] at hw
  obtain ⟨i, -, hi⟩ := List.mem_filterMap.mp hw
  exact tb_1 i hi h1
theorem tb_good : ∀ w ∈ tb, goodWord w = true := fun w h => (List.mem_filter.mp h).2
theorem tb_all {args : Array Value} {s : State} (h : ∀ w ∈ lw_tbl, w.before args s = true) : ∀ w ∈ tb, w.before args s = true := fun w hw => h w (List.mem_filter.mp hw).1
/-- a method's words: its own code, and all of the tables' -/
abbrev wo (y : MethodName) (b : ByteArray) (n : Nat) (r : Option FieldType) : List Cond := Cond.code y b n r :: tb
theorem wo_in {y : MethodName} {b : ByteArray} {n : Nat} {r : Option FieldType} (c0 : Cond) (h : Cond.code y b n r ∈ tb) : GoodIn (c0 :: tb) (wo y b n r) := by
  intro w hw
  have hw2 : w ∈ tb := by
    rcases List.mem_cons.mp hw with e | e
    · rw [e]; exact h
    · exact e
  exact ⟨List.mem_cons_of_mem _ hw2, good_of_word (tb_good w hw2)⟩
def remL : List Int32 := [0, 79764919, 159529838, 222504665, 319059676, 398814059, 445009330, 507990021, 638119352, 583659535, 797628118, 726387553, 890018660, 835552979, 1015980042, 944750013]
def strLen : List Nat := [5, 4, 6, 7, 15, 4, 86, 12, 6]
def strByt : List (List Int32) := [[80, 65, 82, 84, 32], [32, 79, 70, 32], [32, 83, 73, 90, 69, 32], [32, 67, 75, 83, 85, 77, 32], [98, 101, 103, 105, 110, 32, 54, 52, 52, 32, 109, 97, 105, 108, 10], [101, 110, 100, 10], [48, 55, 48, 55, 48, 55, 48, 48, 48, 48, 48, 48, 48, 48, 48, 48, 48, 48, 48, 48, 48, 48, 48, 48, 48, 48, 48, 48, 48, 48, 48, 48, 48, 48, 48, 48, 48, 48, 48, 48, 48, 49, 48, 48, 48, 48, 48, 48, 48, 48, 48, 48, 48, 48, 48, 48, 48, 48, 48, 48, 48, 48, 48, 49, 51, 48, 48, 48, 48, 48, 48, 48, 48, 48, 48, 48, 84, 82, 65, 73, 76, 69, 82, 33, 33, 33], [48, 55, 48, 55, 48, 55, 48, 48, 48, 48, 48, 48], [48, 48, 48, 48, 48, 48]]
def strOwn (i : Nat) : String := match i with
  | 0 => "MailChain$PartLine"
  | 1 => "MailChain$PartLine"
  | 2 => "MailChain$PartLine"
  | 3 => "MailChain$PartLine"
  | 4 => "MailChain$Spelling"
  | 5 => "MailChain$Spelling"
  | 6 => "MailChain$Archive"
  | 7 => "MailChain$Archive"
  | 8 => "MailChain$Archive"
  | 9 => "MailChain$Mail"
  | 10 => "MailChain$Mail"
  | 11 => "MailChain$Mail"
  | _ => "MailChain$Mail"
def strIx (i : Nat) : Nat := match i with
  | 0 => 15
  | 1 => 26
  | 2 => 31
  | 3 => 38
  | 4 => 16
  | 5 => 36
  | 6 => 65
  | 7 => 71
  | 8 => 92
  | 9 => 59
  | 10 => 69
  | 11 => 71
  | _ => 73
def strTx (i : Nat) : String := match i with
  | 0 => "PART "
  | 1 => " OF "
  | 2 => " SIZE "
  | 3 => " CKSUM "
  | 4 => "begin 644 mail\n"
  | 5 => "end\n"
  | 6 => "0707070000000000000000000000000000000000010000000000000000000001300000000000TRAILER!!!"
  | 7 => "070707000000"
  | 8 => "000000"
  | 9 => "PART "
  | 10 => " OF "
  | 11 => " SIZE "
  | _ => " CKSUM "
def strNo (i : Nat) : Nat := match i with
  | 0 => 0
  | 1 => 1
  | 2 => 2
  | 3 => 3
  | 4 => 4
  | 5 => 5
  | 6 => 6
  | 7 => 7
  | 8 => 8
  | 9 => 0
  | 10 => 1
  | 11 => 2
  | _ => 3
def nestF : List (String × Nat × String × String × String × String) := [("MailChain$Mail", 35, "MailChain$Row", "size", "I", "MailChain"), ("MailChain$Spelling", 22, "MailChain$Row", "size", "I", "MailChain"), ("MailChain$Squeezer", 37, "MailChain$Row", "size", "I", "MailChain"), ("MailChain$Archive", 47, "MailChain$Row", "size", "I", "MailChain"), ("MailChain", 94, "MailChain$Row", "size", "I", "MailChain"), ("MailChain$Box", 62, "MailChain$Row", "size", "I", "MailChain"), ("MailChain$Entry", 45, "MailChain$Row", "size", "I", "MailChain"), ("MailChain$Tree", 52, "MailChain$Row", "size", "I", "MailChain"), ("MailChain$Expander", 65, "MailChain$Row", "size", "I", "MailChain"), ("MailChain$Archive", 41, "MailChain$Entry", "path", "LMailChain$Row;", "MailChain"), ("MailChain", 106, "MailChain$Entry", "path", "LMailChain$Row;", "MailChain"), ("MailChain$Tree", 93, "MailChain$Entry", "path", "LMailChain$Row;", "MailChain"), ("MailChain$Archive", 77, "MailChain$Entry", "kind", "I", "MailChain"), ("MailChain", 114, "MailChain$Entry", "kind", "I", "MailChain"), ("MailChain$Tree", 45, "MailChain$Entry", "kind", "I", "MailChain"), ("MailChain$Archive", 83, "MailChain$Entry", "mode", "I", "MailChain"), ("MailChain", 117, "MailChain$Entry", "mode", "I", "MailChain"), ("MailChain$Tree", 117, "MailChain$Entry", "mode", "I", "MailChain"), ("MailChain$Archive", 86, "MailChain$Entry", "owner", "I", "MailChain"), ("MailChain", 120, "MailChain$Entry", "owner", "I", "MailChain"), ("MailChain$Tree", 110, "MailChain$Entry", "owner", "I", "MailChain"), ("MailChain$Archive", 89, "MailChain$Entry", "group", "I", "MailChain"), ("MailChain", 123, "MailChain$Entry", "group", "I", "MailChain"), ("MailChain$Tree", 114, "MailChain$Entry", "group", "I", "MailChain"), ("MailChain$Archive", 94, "MailChain$Entry", "time", "I", "MailChain"), ("MailChain", 126, "MailChain$Entry", "time", "I", "MailChain"), ("MailChain$Tree", 120, "MailChain$Entry", "time", "I", "MailChain"), ("MailChain$Archive", 61, "MailChain$Entry", "start", "I", "MailChain"), ("MailChain$Tree", 55, "MailChain$Entry", "start", "I", "MailChain"), ("MailChain$Archive", 64, "MailChain$Entry", "size", "I", "MailChain"), ("MailChain$Tree", 58, "MailChain$Entry", "size", "I", "MailChain"), ("MailChain$Tree", 59, "MailChain$Entry", "family", "I", "MailChain"), ("MailChain$Archive", 24, "MailChain$Tree", "entries", "[LMailChain$Entry;", "MailChain"), ("MailChain$Archive", 58, "MailChain$Tree", "bodies", "LMailChain$Row;", "MailChain"), ("MailChain$Archive", 20, "MailChain$Tree", "count", "I", "MailChain"), ("MailChain", 153, "MailChain$Tree", "count", "I", "MailChain")]
def nestM : List (String × Nat × MethodName × String) := [("MailChain$Box", 36, ⟨"MailChain$PartLine", "<init>", "()V"⟩, "MailChain"), ("MailChain$Expander", 31, ⟨"MailChain", "isWidth", "(I)Z"⟩, "MailChain")]
theorem u_in_Mc : ∀ w ∈ u_ws R_Mc F_Mc 14, w ∈ tb := tb_p _ [318, 320, 322, 324, 326, 328, 330, 332, 334, 336, 338, 340, 342, 344] (by decide +kernel) (by decide +kernel)
theorem u_in_Ro : ∀ w ∈ u_ws R_Ro F_Ro 2, w ∈ tb := tb_p _ [57, 59] (by decide +kernel) (by decide +kernel)
theorem u_in_En : ∀ w ∈ u_ws R_En F_En 9, w ∈ tb := tb_p _ [110, 112, 114, 116, 118, 120, 122, 124, 126] (by decide +kernel) (by decide +kernel)
theorem u_in_Tr : ∀ w ∈ u_ws R_Tr F_Tr 4, w ∈ tb := tb_p _ [139, 141, 143, 145] (by decide +kernel) (by decide +kernel)
theorem u_in_Ma : ∀ w ∈ u_ws R_Ma F_Ma 5, w ∈ tb := tb_p _ [165, 167, 169, 171, 173] (by decide +kernel) (by decide +kernel)
theorem u_in_Pl : ∀ w ∈ u_ws R_Pl F_Pl 5, w ∈ tb := tb_p _ [205, 207, 209, 211, 213] (by decide +kernel) (by decide +kernel)
theorem u_in_Bo : ∀ w ∈ u_ws R_Bo F_Bo 7, w ∈ tb := tb_p _ [224, 226, 228, 230, 232, 234, 236] (by decide +kernel) (by decide +kernel)
theorem u_in_Sq : ∀ w ∈ u_ws R_Sq F_Sq 9, w ∈ tb := tb_p _ [254, 256, 258, 260, 262, 264, 266, 268, 270] (by decide +kernel) (by decide +kernel)
theorem u_in_Ex : ∀ w ∈ u_ws R_Ex F_Ex 7, w ∈ tb := tb_p _ [286, 288, 290, 292, 294, 296, 298] (by decide +kernel) (by decide +kernel)
theorem u_in_Mo : ∀ w ∈ u_ws R_Mo F_Mo 62, w ∈ tb := tb_p _ [1331, 1333, 1335, 1337, 1339, 1341, 1343, 1345, 1347, 1349, 1351, 1353, 1355, 1357, 1359, 1361, 1363, 1365, 1367, 1369, 1371, 1373, 1375, 1377, 1379, 1381, 1383, 1385, 1387, 1389, 1391, 1393, 1395, 1397, 1399, 1401, 1403, 1405, 1407, 1409, 1411, 1413, 1415, 1417, 1419, 1421, 1423, 1425, 1427, 1429, 1431, 1433, 1435, 1437, 1439, 1441, 1443, 1445, 1447, 1449, 1451, 1453] (by decide +kernel) (by decide +kernel)
end
section
/-! The machine's world as a memory: every object and array that the law makes has a place (its number in the order of making), the cell of place k is B + k. -/
abbrev zM : Type := (Nat → Nat → Int32) × (Nat → Nat → Int64) × (Nat → Nat → Nat)
def zI (M : zM) (k j : Nat) (v : Int32) : zM := (fun a => if a = k then upd (M.1 a) j v else M.1 a, M.2.1, M.2.2)
def zL (M : zM) (k j : Nat) (v : Int64) : zM := (M.1, fun a => if a = k then vp_updL (M.2.1 a) j v else M.2.1 a, M.2.2)
def zR (M : zM) (k j : Nat) (v : Nat) : zM := (M.1, M.2.1, fun a => if a = k then va_up (M.2.2 a) j v else M.2.2 a)
/-- a whole array of whole numbers laid anew -/
def zA (M : zM) (k : Nat) (f : Nat → Int32) : zM := (fun a => if a = k then f else M.1 a, M.2.1, M.2.2)
def zfvl (B : Nat) (M : zM) (t k j : Nat) : Value := match ft t j with
  | 0 => .int (M.1 k j)
  | 1 => .long (M.2.1 k j)
  | 2 => .ref (B + (k + fo t j))
  | _ => .ref (B + M.2.2 k j)
def zfvs (B : Nat) (M : zM) (t k : Nat) : List Value := (List.range (nf t)).map (zfvl B M t k)
def zcel (B : Nat) (aC : Nat → ClassId) (M : zM) (k : Nat) : va_E :=
  if tg k < 20 then .inr (tg k, zfvs B M (tg k) k) else if tg k < 23 then .inl (aC (tg k), ln k, .inl (M.1 k)) else if tg k = 23 then .inl (aC 23, ln k, .inr (.inl (M.2.1 k))) else .inl (aC 24, ln k, .inr (.inr (.inr (.inr (fun j => some (B + M.2.2 k j))))))
def zcls (B : Nat) (aC : Nat → ClassId) (M : zM) : va_W := (List.range N0).map (fun k => (B + k, zcel B aC M k))
def ztyl (aC : Nat → ClassId) : List (ClassId × FieldType) := [(aC 20, .byte), (aC 21, .int), (aC 22, .boolean), (aC 23, .long), (aC 24, .object "MailChain$Entry")]
abbrev zAb (B : Nat) : Nat → Prop := fun q => B ≤ q
theorem zcls_at {B : Nat} {aC : Nat → ClassId} {M : zM} {k : Nat} (h : k < N0) : (zcls B aC M)[k]? = some (B + k, zcel B aC M k) := by
  unfold zcls
  rw [List.getElem?_map, List.getElem?_range h]
  rfl
theorem zcls_set {B : Nat} {aC : Nat → ClassId} {M M' : zM} {k : Nat} (h : k < N0) (e : va_E) (he : zcel B aC M' k = e) (ho : ∀ j, j ≠ k → zcel B aC M' j = zcel B aC M j) : (zcls B aC M).set k (B + k, e) = zcls B aC M' := by
  apply List.ext_getElem?
  intro i
  by_cases hi : i < N0
  · rw [zcls_at hi]
    by_cases hk : k = i
    · subst hk
      have hl : k < (zcls B aC M).length := by unfold zcls; rw [List.length_map, List.length_range]; exact h
      rw [List.getElem?_set_self hl, he]
    · rw [List.getElem?_set_ne hk, zcls_at hi, ho i (fun q => hk q.symm)]
  · have h1 : (zcls B aC M').length ≤ i := by unfold zcls; rw [List.length_map, List.length_range]; omega
    have h2 : ((zcls B aC M).set k (B + k, e)).length ≤ i := by rw [List.length_set]; unfold zcls; rw [List.length_map, List.length_range]; omega
    rw [List.getElem?_eq_none h1, List.getElem?_eq_none h2]
theorem zcls_D {B : Nat} {aC : Nat → ClassId} {M : zM} : va_D (zAb B) (zcls B aC M) := by
  have key : ∀ (i : Nat) (q : Nat × va_E), (zcls B aC M)[i]? = some q → q.1 = B + i := by
    intro i q h
    by_cases hi : i < N0
    · rw [zcls_at hi] at h
      cases h
      rfl
    · have h1 : (zcls B aC M).length ≤ i := by unfold zcls; rw [List.length_map, List.length_range]; omega
      rw [List.getElem?_eq_none h1] at h
      cases h
  refine ⟨fun i j p q hp hq e => ?_, fun k q hq => ?_⟩
  · have h1 := key i p hp
    have h2 := key j q hq
    omega
  · have h1 := key k q hq
    show B ≤ q.1
    omega
theorem zfvs_at {B : Nat} {M : zM} {t k j : Nat} (h : j < nf t) : (zfvs B M t k)[j]? = some (zfvl B M t k j) := by
  unfold zfvs
  rw [List.getElem?_map, List.getElem?_range h]
  rfl
theorem zfvs_len {B : Nat} {M : zM} {t k : Nat} : (zfvs B M t k).length = nf t := by
  unfold zfvs
  rw [List.length_map, List.length_range]
theorem zfvs_set {B : Nat} {M M' : zM} {t k j : Nat} {v : Value} (h : j < nf t) (hv : zfvl B M' t k j = v) (ho : ∀ i, i ≠ j → zfvl B M' t k i = zfvl B M t k i) : (zfvs B M t k).set j v = zfvs B M' t k := by
  apply List.ext_getElem?
  intro i
  by_cases hi : i < nf t
  · rw [zfvs_at hi]
    by_cases hk : j = i
    · subst hk
      rw [List.getElem?_set_self (by rw [zfvs_len]; exact h), hv]
    · rw [List.getElem?_set_ne hk, zfvs_at hi, ho i (fun q => hk q.symm)]
  · rw [List.getElem?_eq_none (by rw [List.length_set, zfvs_len]; omega), List.getElem?_eq_none (by rw [zfvs_len]; omega)]
theorem zcel_o {B : Nat} {aC : Nat → ClassId} {M : zM} {k t : Nat} (h : tg k = t) (ht : t < 20) : zcel B aC M k = .inr (t, zfvs B M t k) := by
  subst h
  unfold zcel
  rw [if_pos ht]
theorem zcel_i {B : Nat} {aC : Nat → ClassId} {M : zM} {k t : Nat} (h : tg k = t) (h1 : ¬ t < 20) (h2 : t < 23) : zcel B aC M k = .inl (aC t, ln k, .inl (M.1 k)) := by
  subst h
  unfold zcel
  rw [if_neg h1, if_pos h2]
theorem zcel_l {B : Nat} {aC : Nat → ClassId} {M : zM} {k : Nat} (h : tg k = 23) : zcel B aC M k = .inl (aC 23, ln k, .inr (.inl (M.2.1 k))) := by
  unfold zcel
  rw [h]
  rfl
theorem zcel_r {B : Nat} {aC : Nat → ClassId} {M : zM} {k : Nat} (h : tg k = 24) : zcel B aC M k = .inl (aC 24, ln k, .inr (.inr (.inr (.inr (fun j => some (B + M.2.2 k j)))))) := by
  unfold zcel
  rw [h]
  rfl
/-- a cell depends on its own row of the memory alone -/
theorem zcel_same {B : Nat} {aC : Nat → ClassId} {M M' : zM} {k : Nat} (h1 : M'.1 k = M.1 k) (h2 : M'.2.1 k = M.2.1 k) (h3 : M'.2.2 k = M.2.2 k) : zcel B aC M' k = zcel B aC M k := by
  have hf : ∀ t, zfvs B M' t k = zfvs B M t k := by
    intro t
    unfold zfvs
    congr 1
    funext j
    unfold zfvl
    rw [h1, h2, h3]
  unfold zcel
  rw [hf, h1, h2, h3]
theorem zI_o {M : zM} {k j a : Nat} {v : Int32} (h : a ≠ k) : (zI M k j v).1 a = M.1 a := if_neg h
theorem zL_o {M : zM} {k j a : Nat} {v : Int64} (h : a ≠ k) : (zL M k j v).2.1 a = M.2.1 a := if_neg h
theorem zR_o {M : zM} {k j a v : Nat} (h : a ≠ k) : (zR M k j v).2.2 a = M.2.2 a := if_neg h
theorem zA_o {M : zM} {k a : Nat} {f : Nat → Int32} (h : a ≠ k) : (zA M k f).1 a = M.1 a := if_neg h
theorem zI_s {M : zM} {k j : Nat} {v : Int32} : (zI M k j v).1 k = upd (M.1 k) j v := if_pos rfl
theorem zL_s {M : zM} {k j : Nat} {v : Int64} : (zL M k j v).2.1 k = vp_updL (M.2.1 k) j v := if_pos rfl
theorem zR_s {M : zM} {k j v : Nat} : (zR M k j v).2.2 k = va_up (M.2.2 k) j v := if_pos rfl
theorem zA_s {M : zM} {k : Nat} {f : Nat → Int32} : (zA M k f).1 k = f := if_pos rfl
theorem zfvs_sI {B : Nat} {M : zM} {t k j : Nat} {v : Int32} (h : j < nf t) (hf : ft t j = 0) : (zfvs B M t k).set j (.int v) = zfvs B (zI M k j v) t k := by
  refine zfvs_set h ?_ (fun i hi => ?_)
  · unfold zfvl
    rw [hf, zI_s]
    show Value.int (upd (M.1 k) j v j) = _
    rw [show upd (M.1 k) j v j = v from if_pos rfl]
  · unfold zfvl
    rw [zI_s, show upd (M.1 k) j v i = M.1 k i from if_neg hi]
    rfl
theorem zfvs_sL {B : Nat} {M : zM} {t k j : Nat} {v : Int64} (h : j < nf t) (hf : ft t j = 1) : (zfvs B M t k).set j (.long v) = zfvs B (zL M k j v) t k := by
  refine zfvs_set h ?_ (fun i hi => ?_)
  · unfold zfvl
    rw [hf, zL_s]
    show Value.long (vp_updL (M.2.1 k) j v j) = _
    rw [show vp_updL (M.2.1 k) j v j = v from if_pos rfl]
  · unfold zfvl
    rw [zL_s, show vp_updL (M.2.1 k) j v i = M.2.1 k i from if_neg hi]
    rfl
theorem zfvs_sR {B : Nat} {M : zM} {t k j v : Nat} (h : j < nf t) (hf : ft t j = 3) : (zfvs B M t k).set j (.ref (B + v)) = zfvs B (zR M k j v) t k := by
  refine zfvs_set h ?_ (fun i hi => ?_)
  · unfold zfvl
    rw [hf, zR_s]
    show Value.ref (B + va_up (M.2.2 k) j v j) = _
    rw [show va_up (M.2.2 k) j v j = v from if_pos rfl]
  · unfold zfvl
    rw [zR_s, show va_up (M.2.2 k) j v i = M.2.2 k i from if_neg hi]
    rfl
/-- the tables at a state: classes, array classes; statics and texts below the law's own cells -/
def zSx (B : Nat) (aS : Nat → Nat) (U : State) : Prop :=
  (∃ t : Nat, va_Z "MailChain$Row" "REMAINDERS" "[I" (.ref t) (zAb B) U U.heap ∧ va_T .int t 16 (fun j => .int (remL.getD j 0)) (zAb B) U U.heap) ∧
  (∃ aV : Nat → Nat, vk_S 9 strLen strByt aS aV (zAb B) U U.heap) ∧ (∀ i, i < 13 → vk_R (strOwn i) (strIx i) (strTx i) (aS (strNo i)) U) ∧
  va_Z "java/lang/String" "COMPACT_STRINGS" "Z" (.int 1) (zAb B) U U.heap ∧
  va_Zq "java/lang/Throwable" "UNASSIGNED_STACK" "[Ljava/lang/StackTraceElement;" (zAb B) U U.heap ∧ va_Zq "java/lang/Throwable" "SUPPRESSED_SENTINEL" "Ljava/util/List;" (zAb B) U U.heap ∧
  (∀ q ∈ nestF, va_Nw (.fieldLinkNest q.1 q.2.1 q.2.2.1 q.2.2.2.1 q.2.2.2.2.1 q.2.2.2.2.2) U) ∧ (∀ q ∈ nestM, va_Nw (.methodLinkNest q.1 q.2.1 q.2.2.1 q.2.2.2) U)
theorem zSx.warm {B : Nat} {aS : Nat → Nat} {s U : State} (h : zSx B aS s) (hW : s.WarmedH U.vm) (hq : ∀ a : Nat, a < s.heap.size → ¬ zAb B a → U.heap[a]? = s.heap[a]?) : zSx B aS U := by
  obtain ⟨⟨t, h1, h2⟩, ⟨aV, h3⟩, h4, h5, h6, h7, h8, h9⟩ := h
  have hv := hW.alike
  exact ⟨⟨t, (h1.kept hq).moved hv, (h2.kept hq).moved hv⟩, ⟨aV, (h3.kept hq).moved hv⟩, fun i hi => (h4 i hi).warm hW, (h5.kept hq).moved hv, (h6.kept hq).moved hv, (h7.kept hq).moved hv, fun q hq => (h8 q hq).warmF hW, fun q hq => (h9 q hq).warmM hW⟩
theorem zSx.blind {B : Nat} {aS : Nat → Nat} {U : State} {g : JFrame} {mk : MethodId} {a : Array Value} (h : zSx B aS U) : zSx B aS (U.calling g mk a) := by
  obtain ⟨⟨t, h1, h2⟩, ⟨aV, h3⟩, h4, h5, h6, h7, h8, h9⟩ := h
  have hv : U.vm.Alike (U.calling g mk a).vm := Vm.Alike.refl U.vm
  exact ⟨⟨t, h1.moved hv, h2.moved hv⟩, ⟨aV, h3.moved hv⟩, fun i hi => (h4 i hi).same rfl, h5.moved hv, h6.moved hv, h7.moved hv, fun q hq => (h8 q hq).same rfl rfl, fun q hq => (h9 q hq).same rfl rfl⟩
def zCx (B : Nat) (D : va_G) (aC : Nat → ClassId) (aS : Nat → Nat) (U : State) : Prop := va_K D kcl (ztyl aC) U ∧ zSx B aS U
/-- what holds at a method's start -/
def zWl (B : Nat) (D : va_G) (aC : Nat → ClassId) (aS : Nat → Nat) (M : zM) (U : State) : Prop := va_P D kcl (zcls B aC M) U.heap ∧ B + N0 ≤ U.heap.size ∧ zCx B D aC aS U
theorem zWl.blind {B : Nat} {D : va_G} {aC : Nat → ClassId} {aS : Nat → Nat} {M : zM} {U : State} {g : JFrame} {mk : MethodId} {a : Array Value} (h : zWl B D aC aS M U) : zWl B D aC aS M (U.calling g mk a) :=
  ⟨h.1, h.2.1, va_K.moved (u := U) (U := U.calling g mk a) (Vm.Alike.refl U.vm) h.2.2.1, h.2.2.2.blind⟩
/-- behind a method: the answer, the memory -/
def zQv (B : Nat) (D : va_G) (aC : Nat → ClassId) (post : zM → Prop) : Array Value → State → Outcome → State → Prop := fun _ st oc t => ∃ M, oc = .returned none ∧ post M ∧ va_P D kcl (zcls B aC M) t.heap ∧ va_F (zAb B) st t
def zQi (B : Nat) (D : va_G) (aC : Nat → ClassId) (post : Int32 → zM → Prop) : Array Value → State → Outcome → State → Prop := fun _ st oc t => ∃ r M, oc = .returned (some (.int r)) ∧ post r M ∧ va_P D kcl (zcls B aC M) t.heap ∧ va_F (zAb B) st t
def zQl (B : Nat) (D : va_G) (aC : Nat → ClassId) (post : Int64 → zM → Prop) : Array Value → State → Outcome → State → Prop := fun _ st oc t => ∃ r M, oc = .returned (some (.long r)) ∧ post r M ∧ va_P D kcl (zcls B aC M) t.heap ∧ va_F (zAb B) st t
def zQr (B : Nat) (D : va_G) (aC : Nat → ClassId) (post : Nat → zM → Prop) : Array Value → State → Outcome → State → Prop := fun _ st oc t => ∃ r M, oc = .returned (some (.ref (B + r))) ∧ post r M ∧ va_P D kcl (zcls B aC M) t.heap ∧ va_F (zAb B) st t
end
section
/-! Rows: an instruction each, over the memory. -/
/-- the machine is at pc, with these locals, this stack, this memory, and comes to Q -/
def zAt (p : Program) (l : Launch) (e : Env) (R : Room) (s : State) (m : MethodId) (args : Array Value) (below : List Frame) (meth : Method) (c : Code) (cells slots : Nat) (Q : State → Prop) (B : Nat) (D : va_G) (aC : Nat → ClassId) (nL : Nat) (pc : Nat) (lv : List (Nat × Value)) (st : List Value) (M : zM) : Prop :=
  ∀ (H : Heap) (locs : List Loc) (ls : Array Slot), va_P D kcl (zcls B aC M) H → lv_has ls nL lv → va_S (zAb B) s.heap H locs → W p l e R s m args below meth c H locs cells slots Q (F0 m pc ls st)
/-- what stays the same through a method -/
def zFx (p : Program) (s : State) (m : MethodId) (args : Array Value) (c : Code) (B : Nat) (D : va_G) (aC : Nat → ClassId) (aS : Nat → Nat) (nL : Nat) (cc : ByteArray) (own : String) : Prop :=
  p.tables.exec = Jvm.exec ∧ c.code = cc ∧ c.maxLocals = nL ∧ s.vm.findClass own = some m.cls ∧ (∀ w ∈ tb, w.before args s = true) ∧ zCx B D aC aS s ∧ B + N0 ≤ s.heap.size
section ROWS
variable {p : Program} {l : Launch} {e : Env} {R : Room} {s : State} {m : MethodId} {args : Array Value} {below : List Frame} {meth : Method} {c : Code} {cells slots : Nat} {Q : State → Prop} {B : Nat} {D : va_G} {aC : Nat → ClassId} {aS : Nat → Nat} {nL : Nat} {cc : ByteArray} {own : String} {pc : Nat} {lv lv2 : List (Nat × Value)} {st : List Value} {M : zM}
theorem a_iadd (fx : zFx p s m args c B D aC aS nL cc own) {x y : Int32} (hd : decode cc pc = .ok (.iadd, 1)) (k : zAt p l e R s m args below meth c cells slots Q B D aC nL (pc + 1) lv (.int (x + y) :: st) M) : zAt p l e R s m args below meth c cells slots Q B D aC nL pc lv (.int y :: .int x :: st) M := fun H locs ls hP hl hS => lv_iadd fx.1 fx.2.1 hd (k H locs ls hP hl hS)
theorem a_isub (fx : zFx p s m args c B D aC aS nL cc own) {x y : Int32} (hd : decode cc pc = .ok (.isub, 1)) (k : zAt p l e R s m args below meth c cells slots Q B D aC nL (pc + 1) lv (.int (x - y) :: st) M) : zAt p l e R s m args below meth c cells slots Q B D aC nL pc lv (.int y :: .int x :: st) M := fun H locs ls hP hl hS => lv_isub fx.1 fx.2.1 hd (k H locs ls hP hl hS)
theorem a_imul (fx : zFx p s m args c B D aC aS nL cc own) {x y : Int32} (hd : decode cc pc = .ok (.imul, 1)) (k : zAt p l e R s m args below meth c cells slots Q B D aC nL (pc + 1) lv (.int (x * y) :: st) M) : zAt p l e R s m args below meth c cells slots Q B D aC nL pc lv (.int y :: .int x :: st) M := fun H locs ls hP hl hS => lv_imul fx.1 fx.2.1 hd (k H locs ls hP hl hS)
theorem a_iand (fx : zFx p s m args c B D aC aS nL cc own) {x y : Int32} (hd : decode cc pc = .ok (.iand, 1)) (k : zAt p l e R s m args below meth c cells slots Q B D aC nL (pc + 1) lv (.int (x &&& y) :: st) M) : zAt p l e R s m args below meth c cells slots Q B D aC nL pc lv (.int y :: .int x :: st) M := fun H locs ls hP hl hS => lv_iand fx.1 fx.2.1 hd (k H locs ls hP hl hS)
theorem a_ior (fx : zFx p s m args c B D aC aS nL cc own) {x y : Int32} (hd : decode cc pc = .ok (.ior, 1)) (k : zAt p l e R s m args below meth c cells slots Q B D aC nL (pc + 1) lv (.int (x ||| y) :: st) M) : zAt p l e R s m args below meth c cells slots Q B D aC nL pc lv (.int y :: .int x :: st) M := fun H locs ls hP hl hS => lv_ior fx.1 fx.2.1 hd (k H locs ls hP hl hS)
theorem a_ixor (fx : zFx p s m args c B D aC aS nL cc own) {x y : Int32} (hd : decode cc pc = .ok (.ixor, 1)) (k : zAt p l e R s m args below meth c cells slots Q B D aC nL (pc + 1) lv (.int (x ^^^ y) :: st) M) : zAt p l e R s m args below meth c cells slots Q B D aC nL pc lv (.int y :: .int x :: st) M := fun H locs ls hP hl hS => lv_ixor fx.1 fx.2.1 hd (k H locs ls hP hl hS)
theorem a_ladd (fx : zFx p s m args c B D aC aS nL cc own) {x y : Int64} (hd : decode cc pc = .ok (.ladd, 1)) (k : zAt p l e R s m args below meth c cells slots Q B D aC nL (pc + 1) lv (.long (x + y) :: st) M) : zAt p l e R s m args below meth c cells slots Q B D aC nL pc lv (.long y :: .long x :: st) M := fun H locs ls hP hl hS => lv_ladd fx.1 fx.2.1 hd (k H locs ls hP hl hS)
theorem a_lsub (fx : zFx p s m args c B D aC aS nL cc own) {x y : Int64} (hd : decode cc pc = .ok (.lsub, 1)) (k : zAt p l e R s m args below meth c cells slots Q B D aC nL (pc + 1) lv (.long (x - y) :: st) M) : zAt p l e R s m args below meth c cells slots Q B D aC nL pc lv (.long y :: .long x :: st) M := fun H locs ls hP hl hS => lv_lsub fx.1 fx.2.1 hd (k H locs ls hP hl hS)
theorem a_lmul (fx : zFx p s m args c B D aC aS nL cc own) {x y : Int64} (hd : decode cc pc = .ok (.lmul, 1)) (k : zAt p l e R s m args below meth c cells slots Q B D aC nL (pc + 1) lv (.long (x * y) :: st) M) : zAt p l e R s m args below meth c cells slots Q B D aC nL pc lv (.long y :: .long x :: st) M := fun H locs ls hP hl hS => lv_lmul fx.1 fx.2.1 hd (k H locs ls hP hl hS)
theorem a_land (fx : zFx p s m args c B D aC aS nL cc own) {x y : Int64} (hd : decode cc pc = .ok (.land, 1)) (k : zAt p l e R s m args below meth c cells slots Q B D aC nL (pc + 1) lv (.long (x &&& y) :: st) M) : zAt p l e R s m args below meth c cells slots Q B D aC nL pc lv (.long y :: .long x :: st) M := fun H locs ls hP hl hS => lv_land fx.1 fx.2.1 hd (k H locs ls hP hl hS)
theorem a_lor (fx : zFx p s m args c B D aC aS nL cc own) {x y : Int64} (hd : decode cc pc = .ok (.lor, 1)) (k : zAt p l e R s m args below meth c cells slots Q B D aC nL (pc + 1) lv (.long (x ||| y) :: st) M) : zAt p l e R s m args below meth c cells slots Q B D aC nL pc lv (.long y :: .long x :: st) M := fun H locs ls hP hl hS => lv_lor fx.1 fx.2.1 hd (k H locs ls hP hl hS)
theorem a_lxor (fx : zFx p s m args c B D aC aS nL cc own) {x y : Int64} (hd : decode cc pc = .ok (.lxor, 1)) (k : zAt p l e R s m args below meth c cells slots Q B D aC nL (pc + 1) lv (.long (x ^^^ y) :: st) M) : zAt p l e R s m args below meth c cells slots Q B D aC nL pc lv (.long y :: .long x :: st) M := fun H locs ls hP hl hS => lv_lxor fx.1 fx.2.1 hd (k H locs ls hP hl hS)
theorem a_idiv (fx : zFx p s m args c B D aC aS nL cc own) {x y : Int32} (hd : decode cc pc = .ok (.idiv, 1)) (hne : ¬ y = 0) (k : zAt p l e R s m args below meth c cells slots Q B D aC nL (pc + 1) lv (.int (x / y) :: st) M) : zAt p l e R s m args below meth c cells slots Q B D aC nL pc lv (.int y :: .int x :: st) M := fun H locs ls hP hl hS => lv_idiv fx.1 fx.2.1 hd hne (k H locs ls hP hl hS)
theorem a_irem (fx : zFx p s m args c B D aC aS nL cc own) {x y : Int32} (hd : decode cc pc = .ok (.irem, 1)) (hne : ¬ y = 0) (k : zAt p l e R s m args below meth c cells slots Q B D aC nL (pc + 1) lv (.int (x - x / y * y) :: st) M) : zAt p l e R s m args below meth c cells slots Q B D aC nL pc lv (.int y :: .int x :: st) M := fun H locs ls hP hl hS => lv_irem fx.1 fx.2.1 hd hne (k H locs ls hP hl hS)
theorem a_ldiv (fx : zFx p s m args c B D aC aS nL cc own) {x y : Int64} (hd : decode cc pc = .ok (.ldiv, 1)) (hne : ¬ y = 0) (k : zAt p l e R s m args below meth c cells slots Q B D aC nL (pc + 1) lv (.long (x / y) :: st) M) : zAt p l e R s m args below meth c cells slots Q B D aC nL pc lv (.long y :: .long x :: st) M := fun H locs ls hP hl hS => lv_ldiv fx.1 fx.2.1 hd hne (k H locs ls hP hl hS)
theorem a_lrem (fx : zFx p s m args c B D aC aS nL cc own) {x y : Int64} (hd : decode cc pc = .ok (.lrem, 1)) (hne : ¬ y = 0) (k : zAt p l e R s m args below meth c cells slots Q B D aC nL (pc + 1) lv (.long (x - x / y * y) :: st) M) : zAt p l e R s m args below meth c cells slots Q B D aC nL pc lv (.long y :: .long x :: st) M := fun H locs ls hP hl hS => lv_lrem fx.1 fx.2.1 hd hne (k H locs ls hP hl hS)
theorem a_ineg (fx : zFx p s m args c B D aC aS nL cc own) {x : Int32} (hd : decode cc pc = .ok (.ineg, 1)) (k : zAt p l e R s m args below meth c cells slots Q B D aC nL (pc + 1) lv (.int (-x) :: st) M) : zAt p l e R s m args below meth c cells slots Q B D aC nL pc lv (.int x :: st) M := fun H locs ls hP hl hS => lv_ineg fx.1 fx.2.1 hd (k H locs ls hP hl hS)
theorem a_ishl (fx : zFx p s m args c B D aC aS nL cc own) {x y : Int32} (hd : decode cc pc = .ok (.ishl, 1)) (k : zAt p l e R s m args below meth c cells slots Q B D aC nL (pc + 1) lv (.int (x <<< (y &&& 31)) :: st) M) : zAt p l e R s m args below meth c cells slots Q B D aC nL pc lv (.int y :: .int x :: st) M := fun H locs ls hP hl hS => lv_ishl fx.1 fx.2.1 hd (k H locs ls hP hl hS)
theorem a_ishr (fx : zFx p s m args c B D aC aS nL cc own) {x y : Int32} (hd : decode cc pc = .ok (.ishr, 1)) (k : zAt p l e R s m args below meth c cells slots Q B D aC nL (pc + 1) lv (.int (x >>> (y &&& 31)) :: st) M) : zAt p l e R s m args below meth c cells slots Q B D aC nL pc lv (.int y :: .int x :: st) M := fun H locs ls hP hl hS => lv_ishr fx.1 fx.2.1 hd (k H locs ls hP hl hS)
theorem a_iushr (fx : zFx p s m args c B D aC aS nL cc own) {x y : Int32} (hd : decode cc pc = .ok (.iushr, 1)) (k : zAt p l e R s m args below meth c cells slots Q B D aC nL (pc + 1) lv (.int (x.toUInt32 >>> (y.toUInt32 &&& Int32.toUInt32 31)).toInt32 :: st) M) : zAt p l e R s m args below meth c cells slots Q B D aC nL pc lv (.int y :: .int x :: st) M := fun H locs ls hP hl hS => lv_iushr fx.1 fx.2.1 hd rfl (k H locs ls hP hl hS)
theorem a_lushr (fx : zFx p s m args c B D aC aS nL cc own) {x : Int64} {y : Int32} (hd : decode cc pc = .ok (.lushr, 1)) (k : zAt p l e R s m args below meth c cells slots Q B D aC nL (pc + 1) lv (.long (x.toUInt64 >>> (y.toInt64.toUInt64 &&& Int64.toUInt64 63)).toInt64 :: st) M) : zAt p l e R s m args below meth c cells slots Q B D aC nL pc lv (.int y :: .long x :: st) M := fun H locs ls hP hl hS => lv_lushr fx.1 fx.2.1 hd rfl (k H locs ls hP hl hS)
theorem a_lshl (fx : zFx p s m args c B D aC aS nL cc own) {x : Int64} {y : Int32} (hd : decode cc pc = .ok (.lshl, 1)) (k : zAt p l e R s m args below meth c cells slots Q B D aC nL (pc + 1) lv (.long (x <<< (y.toInt64 &&& 63)) :: st) M) : zAt p l e R s m args below meth c cells slots Q B D aC nL pc lv (.int y :: .long x :: st) M := fun H locs ls hP hl hS => lv_lshl fx.1 fx.2.1 hd rfl (k H locs ls hP hl hS)
theorem a_lshr (fx : zFx p s m args c B D aC aS nL cc own) {x : Int64} {y : Int32} (hd : decode cc pc = .ok (.lshr, 1)) (k : zAt p l e R s m args below meth c cells slots Q B D aC nL (pc + 1) lv (.long (x >>> (y.toInt64 &&& 63)) :: st) M) : zAt p l e R s m args below meth c cells slots Q B D aC nL pc lv (.int y :: .long x :: st) M := fun H locs ls hP hl hS => lv_lshr fx.1 fx.2.1 hd rfl (k H locs ls hP hl hS)
theorem a_i2l (fx : zFx p s m args c B D aC aS nL cc own) {x : Int32} (hd : decode cc pc = .ok (.i2l, 1)) (k : zAt p l e R s m args below meth c cells slots Q B D aC nL (pc + 1) lv (.long x.toInt64 :: st) M) : zAt p l e R s m args below meth c cells slots Q B D aC nL pc lv (.int x :: st) M := fun H locs ls hP hl hS => lv_i2l fx.1 fx.2.1 hd rfl (k H locs ls hP hl hS)
theorem a_l2i (fx : zFx p s m args c B D aC aS nL cc own) {x : Int64} (hd : decode cc pc = .ok (.l2i, 1)) (k : zAt p l e R s m args below meth c cells slots Q B D aC nL (pc + 1) lv (.int x.toInt32 :: st) M) : zAt p l e R s m args below meth c cells slots Q B D aC nL pc lv (.long x :: st) M := fun H locs ls hP hl hS => lv_l2i fx.1 fx.2.1 hd rfl (k H locs ls hP hl hS)
theorem a_i2b (fx : zFx p s m args c B D aC aS nL cc own) {x : Int32} (hd : decode cc pc = .ok (.i2b, 1)) (k : zAt p l e R s m args below meth c cells slots Q B D aC nL (pc + 1) lv (.int x.toInt8.toInt32 :: st) M) : zAt p l e R s m args below meth c cells slots Q B D aC nL pc lv (.int x :: st) M := fun H locs ls hP hl hS => lv_i2b fx.1 fx.2.1 hd rfl (k H locs ls hP hl hS)
theorem a_i2c (fx : zFx p s m args c B D aC aS nL cc own) {x : Int32} (hd : decode cc pc = .ok (.i2c, 1)) (k : zAt p l e R s m args below meth c cells slots Q B D aC nL (pc + 1) lv (.int (x.toUInt32 % 65536).toInt32 :: st) M) : zAt p l e R s m args below meth c cells slots Q B D aC nL pc lv (.int x :: st) M := fun H locs ls hP hl hS => lv_i2c fx.1 fx.2.1 hd rfl (k H locs ls hP hl hS)
theorem a_iconst (fx : zFx p s m args c B D aC aS nL cc own) {n : Int} {v : Int32} (hd : decode cc pc = .ok (.iconst n, 1)) (hv : Int32.ofInt n = v) (k : zAt p l e R s m args below meth c cells slots Q B D aC nL (pc + 1) lv (.int v :: st) M) : zAt p l e R s m args below meth c cells slots Q B D aC nL pc lv (st) M := fun H locs ls hP hl hS => lv_iconst fx.1 fx.2.1 hd hv (k H locs ls hP hl hS)
theorem a_bipush (fx : zFx p s m args c B D aC aS nL cc own) {n : Int} {v : Int32} (hd : decode cc pc = .ok (.bipush n, 2)) (hv : (Int8.ofInt n).toInt32 = v) (k : zAt p l e R s m args below meth c cells slots Q B D aC nL (pc + 2) lv (.int v :: st) M) : zAt p l e R s m args below meth c cells slots Q B D aC nL pc lv (st) M := fun H locs ls hP hl hS => lv_bipush fx.1 fx.2.1 hd hv (k H locs ls hP hl hS)
theorem a_sipush (fx : zFx p s m args c B D aC aS nL cc own) {n : Int} {v : Int32} (hd : decode cc pc = .ok (.sipush n, 3)) (hv : (Int16.ofInt n).toInt32 = v) (k : zAt p l e R s m args below meth c cells slots Q B D aC nL (pc + 3) lv (.int v :: st) M) : zAt p l e R s m args below meth c cells slots Q B D aC nL pc lv (st) M := fun H locs ls hP hl hS => lv_sipush fx.1 fx.2.1 hd hv (k H locs ls hP hl hS)
theorem a_lconst (fx : zFx p s m args c B D aC aS nL cc own) {n : Fin 2} {v : Int64} (hd : decode cc pc = .ok (.lconst n, 1)) (hv : Int64.ofNat (n : Nat) = v) (k : zAt p l e R s m args below meth c cells slots Q B D aC nL (pc + 1) lv (.long v :: st) M) : zAt p l e R s m args below meth c cells slots Q B D aC nL pc lv (st) M := fun H locs ls hP hl hS => lv_lconst fx.1 fx.2.1 hd hv (k H locs ls hP hl hS)
theorem a_dup (fx : zFx p s m args c B D aC aS nL cc own) {va : Value} (hd : decode cc pc = .ok (.dup, 1)) (h1 : va.category = 1) (k : zAt p l e R s m args below meth c cells slots Q B D aC nL (pc + 1) lv (va :: va :: st) M) : zAt p l e R s m args below meth c cells slots Q B D aC nL pc lv (va :: st) M := fun H locs ls hP hl hS => lv_dup fx.1 fx.2.1 hd h1 (k H locs ls hP hl hS)
theorem a_pop (fx : zFx p s m args c B D aC aS nL cc own) {va : Value} (hd : decode cc pc = .ok (.pop, 1)) (h1 : va.category = 1) (k : zAt p l e R s m args below meth c cells slots Q B D aC nL (pc + 1) lv (st) M) : zAt p l e R s m args below meth c cells slots Q B D aC nL pc lv (va :: st) M := fun H locs ls hP hl hS => lv_pop fx.1 fx.2.1 hd h1 (k H locs ls hP hl hS)
theorem a_dup_x1 (fx : zFx p s m args c B D aC aS nL cc own) {va vb : Value} (hd : decode cc pc = .ok (.dup_x1, 1)) (h1 : va.category = 1) (h2 : vb.category = 1) (k : zAt p l e R s m args below meth c cells slots Q B D aC nL (pc + 1) lv (va :: vb :: va :: st) M) : zAt p l e R s m args below meth c cells slots Q B D aC nL pc lv (va :: vb :: st) M := fun H locs ls hP hl hS => lv_dup_x1 fx.1 fx.2.1 hd h1 h2 (k H locs ls hP hl hS)
theorem a_dup2 (fx : zFx p s m args c B D aC aS nL cc own) {va vb : Value} (hd : decode cc pc = .ok (.dup2, 1)) (h1 : va.category = 1) (h2 : vb.category = 1) (k : zAt p l e R s m args below meth c cells slots Q B D aC nL (pc + 1) lv (va :: vb :: va :: vb :: st) M) : zAt p l e R s m args below meth c cells slots Q B D aC nL pc lv (va :: vb :: st) M := fun H locs ls hP hl hS => lv_dup2_11 fx.1 fx.2.1 hd h1 h2 (k H locs ls hP hl hS)
theorem a_dup_x2 (fx : zFx p s m args c B D aC aS nL cc own) {va vb vc : Value} (hd : decode cc pc = .ok (.dup_x2, 1)) (h1 : va.category = 1) (h2 : vb.category = 1) (h3 : vc.category = 1) (k : zAt p l e R s m args below meth c cells slots Q B D aC nL (pc + 1) lv (va :: vb :: vc :: va :: st) M) : zAt p l e R s m args below meth c cells slots Q B D aC nL pc lv (va :: vb :: vc :: st) M := fun H locs ls hP hl hS => lv_dup_x2 fx.1 fx.2.1 hd h1 h2 h3 (k H locs ls hP hl hS)
theorem a_lcmp (fx : zFx p s m args c B D aC aS nL cc own) {x y : Int64} (hd : decode cc pc = .ok (.lcmp, 1)) (k : zAt p l e R s m args below meth c cells slots Q B D aC nL (pc + 1) lv (.int (lg_cmp x y) :: st) M) : zAt p l e R s m args below meth c cells slots Q B D aC nL pc lv (.long y :: .long x :: st) M := fun H locs ls hP hl hS => W.lcmp fx.1 fx.2.1 hd (k H locs ls hP hl hS)
theorem a_iload_n (fx : zFx p s m args c B D aC aS nL cc own) (q : Nat) {k0 : Fin 4} {i : Nat} {x : Int32} (hd : decode cc pc = .ok (.iload_n k0, 1)) (hi : (k0 : Nat) = i) (hq : lv[q]? = some (i, .int x)) (k : zAt p l e R s m args below meth c cells slots Q B D aC nL (pc + 1) lv (.int x :: st) M) : zAt p l e R s m args below meth c cells slots Q B D aC nL pc lv st M := fun H locs ls hP hl hS => lv_iload_n fx.1 fx.2.1 hd hi (lv_at hl q hq) (k H locs ls hP hl hS)
theorem a_iload (fx : zFx p s m args c B D aC aS nL cc own) (q : Nat) {i : Nat} {x : Int32} (hd : decode cc pc = .ok (.iload i, 2)) (hq : lv[q]? = some (i, .int x)) (k : zAt p l e R s m args below meth c cells slots Q B D aC nL (pc + 2) lv (.int x :: st) M) : zAt p l e R s m args below meth c cells slots Q B D aC nL pc lv st M := fun H locs ls hP hl hS => lv_iload fx.1 fx.2.1 hd (lv_at hl q hq) (k H locs ls hP hl hS)
theorem a_istore_n (fx : zFx p s m args c B D aC aS nL cc own) {k0 : Fin 4} {i : Nat} {x : Int32} (hd : decode cc pc = .ok (.istore_n k0, 1)) (hi : (k0 : Nat) = i) (hn : i < nL) (h2 : (i, Value.int x) :: lv.filter (fun q => !(q.1 == i) && !(q.1 + 1 == i && q.2.category == 2)) = lv2) (k : zAt p l e R s m args below meth c cells slots Q B D aC nL (pc + 1) lv2 st M) : zAt p l e R s m args below meth c cells slots Q B D aC nL pc lv (.int x :: st) M := fun H locs ls hP hl hS => lv_istore_n fx.1 fx.2.1 hd hi hl hn h2 (fun ls2 hl2 => k H locs ls2 hP hl2 hS)
theorem a_istore (fx : zFx p s m args c B D aC aS nL cc own) {i : Nat} {x : Int32} (hd : decode cc pc = .ok (.istore i, 2)) (hn : i < nL) (h2 : (i, Value.int x) :: lv.filter (fun q => !(q.1 == i) && !(q.1 + 1 == i && q.2.category == 2)) = lv2) (k : zAt p l e R s m args below meth c cells slots Q B D aC nL (pc + 2) lv2 st M) : zAt p l e R s m args below meth c cells slots Q B D aC nL pc lv (.int x :: st) M := fun H locs ls hP hl hS => lv_istore fx.1 fx.2.1 hd hl hn h2 (fun ls2 hl2 => k H locs ls2 hP hl2 hS)
theorem a_lload_n (fx : zFx p s m args c B D aC aS nL cc own) (q : Nat) {k0 : Fin 4} {i : Nat} {x : Int64} (hd : decode cc pc = .ok (.lload_n k0, 1)) (hi : (k0 : Nat) = i) (hq : lv[q]? = some (i, .long x)) (k : zAt p l e R s m args below meth c cells slots Q B D aC nL (pc + 1) lv (.long x :: st) M) : zAt p l e R s m args below meth c cells slots Q B D aC nL pc lv st M := fun H locs ls hP hl hS => lv_lload_n fx.1 fx.2.1 hd hi (lv_at hl q hq) (k H locs ls hP hl hS)
theorem a_lload (fx : zFx p s m args c B D aC aS nL cc own) (q : Nat) {i : Nat} {x : Int64} (hd : decode cc pc = .ok (.lload i, 2)) (hq : lv[q]? = some (i, .long x)) (k : zAt p l e R s m args below meth c cells slots Q B D aC nL (pc + 2) lv (.long x :: st) M) : zAt p l e R s m args below meth c cells slots Q B D aC nL pc lv st M := fun H locs ls hP hl hS => lv_lload fx.1 fx.2.1 hd (lv_at hl q hq) (k H locs ls hP hl hS)
theorem a_lstore_n (fx : zFx p s m args c B D aC aS nL cc own) {k0 : Fin 4} {i : Nat} {x : Int64} (hd : decode cc pc = .ok (.lstore_n k0, 1)) (hi : (k0 : Nat) = i) (hn : i + 1 < nL) (h2 : (i, Value.long x) :: lv.filter (fun q => !(q.1 == i) && (!(q.1 == i + 1) && !(q.1 + 1 == i && q.2.category == 2))) = lv2) (k : zAt p l e R s m args below meth c cells slots Q B D aC nL (pc + 1) lv2 st M) : zAt p l e R s m args below meth c cells slots Q B D aC nL pc lv (.long x :: st) M := fun H locs ls hP hl hS => lv_lstore_n fx.1 fx.2.1 hd hi hl hn h2 (fun ls2 hl2 => k H locs ls2 hP hl2 hS)
theorem a_lstore (fx : zFx p s m args c B D aC aS nL cc own) {i : Nat} {x : Int64} (hd : decode cc pc = .ok (.lstore i, 2)) (hn : i + 1 < nL) (h2 : (i, Value.long x) :: lv.filter (fun q => !(q.1 == i) && (!(q.1 == i + 1) && !(q.1 + 1 == i && q.2.category == 2))) = lv2) (k : zAt p l e R s m args below meth c cells slots Q B D aC nL (pc + 2) lv2 st M) : zAt p l e R s m args below meth c cells slots Q B D aC nL pc lv (.long x :: st) M := fun H locs ls hP hl hS => lv_lstore fx.1 fx.2.1 hd hl hn h2 (fun ls2 hl2 => k H locs ls2 hP hl2 hS)
theorem a_aload_n (fx : zFx p s m args c B D aC aS nL cc own) (q : Nat) {k0 : Fin 4} {i : Nat} {x : Nat} (hd : decode cc pc = .ok (.aload_n k0, 1)) (hi : (k0 : Nat) = i) (hq : lv[q]? = some (i, .ref x)) (k : zAt p l e R s m args below meth c cells slots Q B D aC nL (pc + 1) lv (.ref x :: st) M) : zAt p l e R s m args below meth c cells slots Q B D aC nL pc lv st M := fun H locs ls hP hl hS => lv_aload_n fx.1 fx.2.1 hd hi (lv_at hl q hq) (k H locs ls hP hl hS)
theorem a_aload (fx : zFx p s m args c B D aC aS nL cc own) (q : Nat) {i : Nat} {x : Nat} (hd : decode cc pc = .ok (.aload i, 2)) (hq : lv[q]? = some (i, .ref x)) (k : zAt p l e R s m args below meth c cells slots Q B D aC nL (pc + 2) lv (.ref x :: st) M) : zAt p l e R s m args below meth c cells slots Q B D aC nL pc lv st M := fun H locs ls hP hl hS => lv_aload fx.1 fx.2.1 hd (lv_at hl q hq) (k H locs ls hP hl hS)
theorem a_astore_n (fx : zFx p s m args c B D aC aS nL cc own) {k0 : Fin 4} {i : Nat} {x : Nat} (hd : decode cc pc = .ok (.astore_n k0, 1)) (hi : (k0 : Nat) = i) (hn : i < nL) (h2 : (i, Value.ref x) :: lv.filter (fun q => !(q.1 == i) && !(q.1 + 1 == i && q.2.category == 2)) = lv2) (k : zAt p l e R s m args below meth c cells slots Q B D aC nL (pc + 1) lv2 st M) : zAt p l e R s m args below meth c cells slots Q B D aC nL pc lv (.ref x :: st) M := fun H locs ls hP hl hS => lv_astore_n fx.1 fx.2.1 hd hi hl hn h2 (fun ls2 hl2 => k H locs ls2 hP hl2 hS)
theorem a_astore (fx : zFx p s m args c B D aC aS nL cc own) {i : Nat} {x : Nat} (hd : decode cc pc = .ok (.astore i, 2)) (hn : i < nL) (h2 : (i, Value.ref x) :: lv.filter (fun q => !(q.1 == i) && !(q.1 + 1 == i && q.2.category == 2)) = lv2) (k : zAt p l e R s m args below meth c cells slots Q B D aC nL (pc + 2) lv2 st M) : zAt p l e R s m args below meth c cells slots Q B D aC nL pc lv (.ref x :: st) M := fun H locs ls hP hl hS => lv_astore fx.1 fx.2.1 hd hl hn h2 (fun ls2 hl2 => k H locs ls2 hP hl2 hS)
theorem a_iinc (fx : zFx p s m args c B D aC aS nL cc own) (q : Nat) {i : Nat} {n : Int} {x v : Int32} (hd : decode cc pc = .ok (.iinc i n, 3)) (hq : lv[q]? = some (i, .int x)) (hv : x + Int32.ofInt n = v) (hn : i < nL) (h2 : (i, Value.int v) :: lv.filter (fun q => !(q.1 == i) && !(q.1 + 1 == i && q.2.category == 2)) = lv2) (k : zAt p l e R s m args below meth c cells slots Q B D aC nL (pc + 3) lv2 st M) : zAt p l e R s m args below meth c cells slots Q B D aC nL pc lv st M := fun H locs ls hP hl hS => lv_iinc fx.1 fx.2.1 hd hl hq hv hn h2 (fun ls2 hl2 => k H locs ls2 hP hl2 hS)
theorem a_sub (ks : List Nat) (h : lv_pick lv ks = lv2) (k : zAt p l e R s m args below meth c cells slots Q B D aC nL pc lv2 st M) : zAt p l e R s m args below meth c cells slots Q B D aC nL pc lv st M := fun H locs ls hP hl hS => k H locs ls hP (lv_sub hl ks h) hS
theorem a_topi {x : Int32} (k : ∀ y : Int32, y = x → zAt p l e R s m args below meth c cells slots Q B D aC nL pc lv (.int y :: st) M) : zAt p l e R s m args below meth c cells slots Q B D aC nL pc lv (.int x :: st) M := k x rfl
theorem a_topl {x : Int64} (k : ∀ y : Int64, y = x → zAt p l e R s m args below meth c cells slots Q B D aC nL pc lv (.long y :: st) M) : zAt p l e R s m args below meth c cells slots Q B D aC nL pc lv (.long x :: st) M := k x rfl
theorem a_topr {x : Nat} (k : ∀ y : Nat, y = x → zAt p l e R s m args below meth c cells slots Q B D aC nL pc lv (.ref (B + y) :: st) M) : zAt p l e R s m args below meth c cells slots Q B D aC nL pc lv (.ref (B + x) :: st) M := k x rfl
theorem a_mem (k : ∀ M2 : zM, M2 = M → zAt p l e R s m args below meth c cells slots Q B D aC nL pc lv st M2) : zAt p l e R s m args below meth c cells slots Q B D aC nL pc lv st M := k M rfl
theorem a_goto (fx : zFx p s m args c B D aC aS nL cc own) {off : Int} (tgt : Nat) (hd : decode cc pc = .ok (.goto off, 3)) (ht : (pc : Int) + off = (tgt : Int)) (k : zAt p l e R s m args below meth c cells slots Q B D aC nL tgt lv st M) : zAt p l e R s m args below meth c cells slots Q B D aC nL pc lv st M := fun H locs ls hP hl hS => lv_goto fx.1 fx.2.1 hd ht (k H locs ls hP hl hS)
theorem a_if_eq (fx : zFx p s m args c B D aC aS nL cc own) {x : Int32} {off : Int} (tgt : Nat) (hd : decode cc pc = .ok (.ifCond .eq off, 3)) (ht : (pc : Int) + off = (tgt : Int)) (kt : x = 0 → zAt p l e R s m args below meth c cells slots Q B D aC nL tgt lv st M) (kf : ¬ (x = 0) → zAt p l e R s m args below meth c cells slots Q B D aC nL (pc + 3) lv st M) : zAt p l e R s m args below meth c cells slots Q B D aC nL pc lv (.int x :: st) M := fun H locs ls hP hl hS => lv_if_eq fx.1 fx.2.1 hd ht (fun h => kt h H locs ls hP hl hS) (fun h => kf h H locs ls hP hl hS)
theorem a_icmp_eq (fx : zFx p s m args c B D aC aS nL cc own) {x y : Int32} {off : Int} (tgt : Nat) (hd : decode cc pc = .ok (.if_icmp .eq off, 3)) (ht : (pc : Int) + off = (tgt : Int)) (kt : x = y → zAt p l e R s m args below meth c cells slots Q B D aC nL tgt lv st M) (kf : ¬ (x = y) → zAt p l e R s m args below meth c cells slots Q B D aC nL (pc + 3) lv st M) : zAt p l e R s m args below meth c cells slots Q B D aC nL pc lv (.int y :: .int x :: st) M := fun H locs ls hP hl hS => lv_icmp_eq fx.1 fx.2.1 hd ht (fun h => kt h H locs ls hP hl hS) (fun h => kf h H locs ls hP hl hS)
theorem a_if_ne (fx : zFx p s m args c B D aC aS nL cc own) {x : Int32} {off : Int} (tgt : Nat) (hd : decode cc pc = .ok (.ifCond .ne off, 3)) (ht : (pc : Int) + off = (tgt : Int)) (kt : ¬ x = 0 → zAt p l e R s m args below meth c cells slots Q B D aC nL tgt lv st M) (kf : x = 0 → zAt p l e R s m args below meth c cells slots Q B D aC nL (pc + 3) lv st M) : zAt p l e R s m args below meth c cells slots Q B D aC nL pc lv (.int x :: st) M := fun H locs ls hP hl hS => lv_if_ne fx.1 fx.2.1 hd ht (fun h => kt h H locs ls hP hl hS) (fun h => kf h H locs ls hP hl hS)
theorem a_icmp_ne (fx : zFx p s m args c B D aC aS nL cc own) {x y : Int32} {off : Int} (tgt : Nat) (hd : decode cc pc = .ok (.if_icmp .ne off, 3)) (ht : (pc : Int) + off = (tgt : Int)) (kt : ¬ x = y → zAt p l e R s m args below meth c cells slots Q B D aC nL tgt lv st M) (kf : x = y → zAt p l e R s m args below meth c cells slots Q B D aC nL (pc + 3) lv st M) : zAt p l e R s m args below meth c cells slots Q B D aC nL pc lv (.int y :: .int x :: st) M := fun H locs ls hP hl hS => lv_icmp_ne fx.1 fx.2.1 hd ht (fun h => kt h H locs ls hP hl hS) (fun h => kf h H locs ls hP hl hS)
theorem a_if_lt (fx : zFx p s m args c B D aC aS nL cc own) {x : Int32} {off : Int} (tgt : Nat) (hd : decode cc pc = .ok (.ifCond .lt off, 3)) (ht : (pc : Int) + off = (tgt : Int)) (kt : x < 0 → zAt p l e R s m args below meth c cells slots Q B D aC nL tgt lv st M) (kf : ¬ (x < 0) → zAt p l e R s m args below meth c cells slots Q B D aC nL (pc + 3) lv st M) : zAt p l e R s m args below meth c cells slots Q B D aC nL pc lv (.int x :: st) M := fun H locs ls hP hl hS => lv_if_lt fx.1 fx.2.1 hd ht (fun h => kt h H locs ls hP hl hS) (fun h => kf h H locs ls hP hl hS)
theorem a_icmp_lt (fx : zFx p s m args c B D aC aS nL cc own) {x y : Int32} {off : Int} (tgt : Nat) (hd : decode cc pc = .ok (.if_icmp .lt off, 3)) (ht : (pc : Int) + off = (tgt : Int)) (kt : x < y → zAt p l e R s m args below meth c cells slots Q B D aC nL tgt lv st M) (kf : ¬ (x < y) → zAt p l e R s m args below meth c cells slots Q B D aC nL (pc + 3) lv st M) : zAt p l e R s m args below meth c cells slots Q B D aC nL pc lv (.int y :: .int x :: st) M := fun H locs ls hP hl hS => lv_icmp_lt fx.1 fx.2.1 hd ht (fun h => kt h H locs ls hP hl hS) (fun h => kf h H locs ls hP hl hS)
theorem a_if_ge (fx : zFx p s m args c B D aC aS nL cc own) {x : Int32} {off : Int} (tgt : Nat) (hd : decode cc pc = .ok (.ifCond .ge off, 3)) (ht : (pc : Int) + off = (tgt : Int)) (kt : 0 ≤ x → zAt p l e R s m args below meth c cells slots Q B D aC nL tgt lv st M) (kf : ¬ (0 ≤ x) → zAt p l e R s m args below meth c cells slots Q B D aC nL (pc + 3) lv st M) : zAt p l e R s m args below meth c cells slots Q B D aC nL pc lv (.int x :: st) M := fun H locs ls hP hl hS => lv_if_ge fx.1 fx.2.1 hd ht (fun h => kt h H locs ls hP hl hS) (fun h => kf h H locs ls hP hl hS)
theorem a_icmp_ge (fx : zFx p s m args c B D aC aS nL cc own) {x y : Int32} {off : Int} (tgt : Nat) (hd : decode cc pc = .ok (.if_icmp .ge off, 3)) (ht : (pc : Int) + off = (tgt : Int)) (kt : y ≤ x → zAt p l e R s m args below meth c cells slots Q B D aC nL tgt lv st M) (kf : ¬ (y ≤ x) → zAt p l e R s m args below meth c cells slots Q B D aC nL (pc + 3) lv st M) : zAt p l e R s m args below meth c cells slots Q B D aC nL pc lv (.int y :: .int x :: st) M := fun H locs ls hP hl hS => lv_icmp_ge fx.1 fx.2.1 hd ht (fun h => kt h H locs ls hP hl hS) (fun h => kf h H locs ls hP hl hS)
theorem a_if_gt (fx : zFx p s m args c B D aC aS nL cc own) {x : Int32} {off : Int} (tgt : Nat) (hd : decode cc pc = .ok (.ifCond .gt off, 3)) (ht : (pc : Int) + off = (tgt : Int)) (kt : 0 < x → zAt p l e R s m args below meth c cells slots Q B D aC nL tgt lv st M) (kf : ¬ (0 < x) → zAt p l e R s m args below meth c cells slots Q B D aC nL (pc + 3) lv st M) : zAt p l e R s m args below meth c cells slots Q B D aC nL pc lv (.int x :: st) M := fun H locs ls hP hl hS => lv_if_gt fx.1 fx.2.1 hd ht (fun h => kt h H locs ls hP hl hS) (fun h => kf h H locs ls hP hl hS)
theorem a_icmp_gt (fx : zFx p s m args c B D aC aS nL cc own) {x y : Int32} {off : Int} (tgt : Nat) (hd : decode cc pc = .ok (.if_icmp .gt off, 3)) (ht : (pc : Int) + off = (tgt : Int)) (kt : y < x → zAt p l e R s m args below meth c cells slots Q B D aC nL tgt lv st M) (kf : ¬ (y < x) → zAt p l e R s m args below meth c cells slots Q B D aC nL (pc + 3) lv st M) : zAt p l e R s m args below meth c cells slots Q B D aC nL pc lv (.int y :: .int x :: st) M := fun H locs ls hP hl hS => lv_icmp_gt fx.1 fx.2.1 hd ht (fun h => kt h H locs ls hP hl hS) (fun h => kf h H locs ls hP hl hS)
theorem a_if_le (fx : zFx p s m args c B D aC aS nL cc own) {x : Int32} {off : Int} (tgt : Nat) (hd : decode cc pc = .ok (.ifCond .le off, 3)) (ht : (pc : Int) + off = (tgt : Int)) (kt : x ≤ 0 → zAt p l e R s m args below meth c cells slots Q B D aC nL tgt lv st M) (kf : ¬ (x ≤ 0) → zAt p l e R s m args below meth c cells slots Q B D aC nL (pc + 3) lv st M) : zAt p l e R s m args below meth c cells slots Q B D aC nL pc lv (.int x :: st) M := fun H locs ls hP hl hS => lv_if_le fx.1 fx.2.1 hd ht (fun h => kt h H locs ls hP hl hS) (fun h => kf h H locs ls hP hl hS)
theorem a_icmp_le (fx : zFx p s m args c B D aC aS nL cc own) {x y : Int32} {off : Int} (tgt : Nat) (hd : decode cc pc = .ok (.if_icmp .le off, 3)) (ht : (pc : Int) + off = (tgt : Int)) (kt : x ≤ y → zAt p l e R s m args below meth c cells slots Q B D aC nL tgt lv st M) (kf : ¬ (x ≤ y) → zAt p l e R s m args below meth c cells slots Q B D aC nL (pc + 3) lv st M) : zAt p l e R s m args below meth c cells slots Q B D aC nL pc lv (.int y :: .int x :: st) M := fun H locs ls hP hl hS => lv_icmp_le fx.1 fx.2.1 hd ht (fun h => kt h H locs ls hP hl hS) (fun h => kf h H locs ls hP hl hS)
theorem a_ldc (fx : zFx p s m args c B D aC aS nL cc own) {index : Nat} {v : Int32} (hw : Cond.constant own index v ∈ tb) (hd : decode cc pc = .ok (.ldc index, 2)) (k : zAt p l e R s m args below meth c cells slots Q B D aC nL (pc + 2) lv (.int v :: st) M) : zAt p l e R s m args below meth c cells slots Q B D aC nL pc lv st M := fun H locs ls hP hl hS => lv_ldc fx.1 fx.2.1 fx.2.2.2.1 (fx.2.2.2.2.1 _ hw) hd (k H locs ls hP hl hS)
theorem a_ldc2 (fx : zFx p s m args c B D aC aS nL cc own) {index : Nat} {v : Int64} (hw : Cond.constantLong own index v ∈ tb) (hd : decode cc pc = .ok (.ldc2_w index, 3)) (k : zAt p l e R s m args below meth c cells slots Q B D aC nL (pc + 3) lv (.long v :: st) M) : zAt p l e R s m args below meth c cells slots Q B D aC nL pc lv st M := fun H locs ls hP hl hS => lv_ldc2 fx.1 fx.2.1 fx.2.2.2.1 (fx.2.2.2.2.1 _ hw) hd (k H locs ls hP hl hS)
theorem a_getI (fx : zFx p s m args c B D aC aS nL cc own) {C : String} {T : u_T} {N t index k j : Nat} (hk : k < N0) (ht : tg k = t) (ht2 : t < 20) (hc : kcl[t]? = some (C, T, N)) (hin : ∀ w ∈ u_ws C T N, w ∈ tb) (hj : j < N) (hj2 : j < nf t) (hf : ft t j = 0) (hT : (T j).1 = C) (hw : Cond.fieldLink own index C (T j).2.1 (T j).2.2.1 ∈ tb) (hd : decode cc pc = .ok (.getfield index, 3)) (kk : zAt p l e R s m args below meth c cells slots Q B D aC nL (pc + 3) lv (.int (M.1 k j) :: st) M) : zAt p l e R s m args below meth c cells slots Q B D aC nL pc lv (.ref (B + k) :: st) M := fun H locs ls hP hl hS => va_get (ref := C) (v := .int (M.1 k j)) fx.1 fx.2.1 (fun w hw => fx.2.2.2.2.1 w hw) hin fx.2.2.2.1 fx.2.2.2.2.2.1.1 hP k ((zcls_at hk).trans (by rw [zcel_o ht ht2])) hc j hj (fx.2.2.2.2.1 _ hw) (fun x h => by rw [hT] at h; exact h) ((zfvs_at hj2).trans (by unfold zfvl; rw [hf]; rfl)) hd (kk H locs ls hP hl hS)
theorem a_getIN (fx : zFx p s m args c B D aC aS nL cc own) {C : String} {T : u_T} {N t index k j : Nat} (hk : k < N0) (ht : tg k = t) (ht2 : t < 20) (hc : kcl[t]? = some (C, T, N)) (hin : ∀ w ∈ u_ws C T N, w ∈ tb) (hj : j < N) (hj2 : j < nf t) (hf : ft t j = 0) (hT : (T j).1 = C) (q9 : Nat) {host : String} (hw : nestF[q9]? = some (own, index, C, (T j).2.1, (T j).2.2.1, host)) (hd : decode cc pc = .ok (.getfield index, 3)) (kk : zAt p l e R s m args below meth c cells slots Q B D aC nL (pc + 3) lv (.int (M.1 k j) :: st) M) : zAt p l e R s m args below meth c cells slots Q B D aC nL pc lv (.ref (B + k) :: st) M := fun H locs ls hP hl hS => va_getN (ref := C) (v := .int (M.1 k j)) fx.1 fx.2.1 (fun w hw => fx.2.2.2.2.1 w hw) hin fx.2.2.2.1 fx.2.2.2.2.2.1.1 hP k ((zcls_at hk).trans (by rw [zcel_o ht ht2])) hc j hj (va_Nw.use (w := .fieldLinkNest own index C (T j).2.1 (T j).2.2.1 host) rfl (fx.2.2.2.2.2.1.2.2.2.2.2.2.2.1 _ (List.mem_of_getElem? hw))) (fun x h => by rw [hT] at h; exact h) ((zfvs_at hj2).trans (by unfold zfvl; rw [hf]; rfl)) hd (kk H locs ls hP hl hS)
theorem a_getL (fx : zFx p s m args c B D aC aS nL cc own) {C : String} {T : u_T} {N t index k j : Nat} (hk : k < N0) (ht : tg k = t) (ht2 : t < 20) (hc : kcl[t]? = some (C, T, N)) (hin : ∀ w ∈ u_ws C T N, w ∈ tb) (hj : j < N) (hj2 : j < nf t) (hf : ft t j = 1) (hT : (T j).1 = C) (hw : Cond.fieldLink own index C (T j).2.1 (T j).2.2.1 ∈ tb) (hd : decode cc pc = .ok (.getfield index, 3)) (kk : zAt p l e R s m args below meth c cells slots Q B D aC nL (pc + 3) lv (.long (M.2.1 k j) :: st) M) : zAt p l e R s m args below meth c cells slots Q B D aC nL pc lv (.ref (B + k) :: st) M := fun H locs ls hP hl hS => va_get (ref := C) (v := .long (M.2.1 k j)) fx.1 fx.2.1 (fun w hw => fx.2.2.2.2.1 w hw) hin fx.2.2.2.1 fx.2.2.2.2.2.1.1 hP k ((zcls_at hk).trans (by rw [zcel_o ht ht2])) hc j hj (fx.2.2.2.2.1 _ hw) (fun x h => by rw [hT] at h; exact h) ((zfvs_at hj2).trans (by unfold zfvl; rw [hf]; rfl)) hd (kk H locs ls hP hl hS)
theorem a_getLN (fx : zFx p s m args c B D aC aS nL cc own) {C : String} {T : u_T} {N t index k j : Nat} (hk : k < N0) (ht : tg k = t) (ht2 : t < 20) (hc : kcl[t]? = some (C, T, N)) (hin : ∀ w ∈ u_ws C T N, w ∈ tb) (hj : j < N) (hj2 : j < nf t) (hf : ft t j = 1) (hT : (T j).1 = C) (q9 : Nat) {host : String} (hw : nestF[q9]? = some (own, index, C, (T j).2.1, (T j).2.2.1, host)) (hd : decode cc pc = .ok (.getfield index, 3)) (kk : zAt p l e R s m args below meth c cells slots Q B D aC nL (pc + 3) lv (.long (M.2.1 k j) :: st) M) : zAt p l e R s m args below meth c cells slots Q B D aC nL pc lv (.ref (B + k) :: st) M := fun H locs ls hP hl hS => va_getN (ref := C) (v := .long (M.2.1 k j)) fx.1 fx.2.1 (fun w hw => fx.2.2.2.2.1 w hw) hin fx.2.2.2.1 fx.2.2.2.2.2.1.1 hP k ((zcls_at hk).trans (by rw [zcel_o ht ht2])) hc j hj (va_Nw.use (w := .fieldLinkNest own index C (T j).2.1 (T j).2.2.1 host) rfl (fx.2.2.2.2.2.1.2.2.2.2.2.2.2.1 _ (List.mem_of_getElem? hw))) (fun x h => by rw [hT] at h; exact h) ((zfvs_at hj2).trans (by unfold zfvl; rw [hf]; rfl)) hd (kk H locs ls hP hl hS)
theorem a_getS (fx : zFx p s m args c B D aC aS nL cc own) {C : String} {T : u_T} {N t index k j : Nat} (hk : k < N0) (ht : tg k = t) (ht2 : t < 20) (hc : kcl[t]? = some (C, T, N)) (hin : ∀ w ∈ u_ws C T N, w ∈ tb) (hj : j < N) (hj2 : j < nf t) (hf : ft t j = 2) {n9 : Nat} (hfo : fo t j = n9) (hT : (T j).1 = C) (hw : Cond.fieldLink own index C (T j).2.1 (T j).2.2.1 ∈ tb) (hd : decode cc pc = .ok (.getfield index, 3)) (kk : zAt p l e R s m args below meth c cells slots Q B D aC nL (pc + 3) lv (.ref (B + (k + n9)) :: st) M) : zAt p l e R s m args below meth c cells slots Q B D aC nL pc lv (.ref (B + k) :: st) M := fun H locs ls hP hl hS => va_get (ref := C) (v := .ref (B + (k + n9))) fx.1 fx.2.1 (fun w hw => fx.2.2.2.2.1 w hw) hin fx.2.2.2.1 fx.2.2.2.2.2.1.1 hP k ((zcls_at hk).trans (by rw [zcel_o ht ht2])) hc j hj (fx.2.2.2.2.1 _ hw) (fun x h => by rw [hT] at h; exact h) ((zfvs_at hj2).trans (by unfold zfvl; rw [hf]; subst hfo; rfl)) hd (kk H locs ls hP hl hS)
theorem a_getSN (fx : zFx p s m args c B D aC aS nL cc own) {C : String} {T : u_T} {N t index k j : Nat} (hk : k < N0) (ht : tg k = t) (ht2 : t < 20) (hc : kcl[t]? = some (C, T, N)) (hin : ∀ w ∈ u_ws C T N, w ∈ tb) (hj : j < N) (hj2 : j < nf t) (hf : ft t j = 2) {n9 : Nat} (hfo : fo t j = n9) (hT : (T j).1 = C) (q9 : Nat) {host : String} (hw : nestF[q9]? = some (own, index, C, (T j).2.1, (T j).2.2.1, host)) (hd : decode cc pc = .ok (.getfield index, 3)) (kk : zAt p l e R s m args below meth c cells slots Q B D aC nL (pc + 3) lv (.ref (B + (k + n9)) :: st) M) : zAt p l e R s m args below meth c cells slots Q B D aC nL pc lv (.ref (B + k) :: st) M := fun H locs ls hP hl hS => va_getN (ref := C) (v := .ref (B + (k + n9))) fx.1 fx.2.1 (fun w hw => fx.2.2.2.2.1 w hw) hin fx.2.2.2.1 fx.2.2.2.2.2.1.1 hP k ((zcls_at hk).trans (by rw [zcel_o ht ht2])) hc j hj (va_Nw.use (w := .fieldLinkNest own index C (T j).2.1 (T j).2.2.1 host) rfl (fx.2.2.2.2.2.1.2.2.2.2.2.2.2.1 _ (List.mem_of_getElem? hw))) (fun x h => by rw [hT] at h; exact h) ((zfvs_at hj2).trans (by unfold zfvl; rw [hf]; subst hfo; rfl)) hd (kk H locs ls hP hl hS)
theorem a_getR (fx : zFx p s m args c B D aC aS nL cc own) {C : String} {T : u_T} {N t index k j : Nat} (hk : k < N0) (ht : tg k = t) (ht2 : t < 20) (hc : kcl[t]? = some (C, T, N)) (hin : ∀ w ∈ u_ws C T N, w ∈ tb) (hj : j < N) (hj2 : j < nf t) (hf : ft t j = 3) (hT : (T j).1 = C) (hw : Cond.fieldLink own index C (T j).2.1 (T j).2.2.1 ∈ tb) (hd : decode cc pc = .ok (.getfield index, 3)) (kk : zAt p l e R s m args below meth c cells slots Q B D aC nL (pc + 3) lv (.ref (B + M.2.2 k j) :: st) M) : zAt p l e R s m args below meth c cells slots Q B D aC nL pc lv (.ref (B + k) :: st) M := fun H locs ls hP hl hS => va_get (ref := C) (v := .ref (B + M.2.2 k j)) fx.1 fx.2.1 (fun w hw => fx.2.2.2.2.1 w hw) hin fx.2.2.2.1 fx.2.2.2.2.2.1.1 hP k ((zcls_at hk).trans (by rw [zcel_o ht ht2])) hc j hj (fx.2.2.2.2.1 _ hw) (fun x h => by rw [hT] at h; exact h) ((zfvs_at hj2).trans (by unfold zfvl; rw [hf]; rfl)) hd (kk H locs ls hP hl hS)
theorem a_getRN (fx : zFx p s m args c B D aC aS nL cc own) {C : String} {T : u_T} {N t index k j : Nat} (hk : k < N0) (ht : tg k = t) (ht2 : t < 20) (hc : kcl[t]? = some (C, T, N)) (hin : ∀ w ∈ u_ws C T N, w ∈ tb) (hj : j < N) (hj2 : j < nf t) (hf : ft t j = 3) (hT : (T j).1 = C) (q9 : Nat) {host : String} (hw : nestF[q9]? = some (own, index, C, (T j).2.1, (T j).2.2.1, host)) (hd : decode cc pc = .ok (.getfield index, 3)) (kk : zAt p l e R s m args below meth c cells slots Q B D aC nL (pc + 3) lv (.ref (B + M.2.2 k j) :: st) M) : zAt p l e R s m args below meth c cells slots Q B D aC nL pc lv (.ref (B + k) :: st) M := fun H locs ls hP hl hS => va_getN (ref := C) (v := .ref (B + M.2.2 k j)) fx.1 fx.2.1 (fun w hw => fx.2.2.2.2.1 w hw) hin fx.2.2.2.1 fx.2.2.2.2.2.1.1 hP k ((zcls_at hk).trans (by rw [zcel_o ht ht2])) hc j hj (va_Nw.use (w := .fieldLinkNest own index C (T j).2.1 (T j).2.2.1 host) rfl (fx.2.2.2.2.2.1.2.2.2.2.2.2.2.1 _ (List.mem_of_getElem? hw))) (fun x h => by rw [hT] at h; exact h) ((zfvs_at hj2).trans (by unfold zfvl; rw [hf]; rfl)) hd (kk H locs ls hP hl hS)
theorem a_putI (fx : zFx p s m args c B D aC aS nL cc own) {C : String} {T : u_T} {N t index k j : Nat} {v : Int32} {ty0 : Nat → FieldType} (hk : k < N0) (ht : tg k = t) (ht2 : t < 20) (hc : kcl[t]? = some (C, T, N)) (hin : ∀ w ∈ u_ws C T N, w ∈ tb) (hty : ∀ k, k < N → parseFieldDescriptor (T k).2.2.1 = some (ty0 k)) (hnm : ∀ a, a < N → ∀ b, b < N → a ≠ b → (T a).2.1 ≠ (T b).2.1) (hj : j < N) (hj2 : j < nf t) (hf : ft t j = 0) (hT : (T j).1 = C) (hfin : (T j).2.2.2 = false) (hn : narrow (ty0 j) (.int v) = .int v) (hfit : fits (ty0 j) (.int v) = true) (hw : Cond.fieldLink own index C (T j).2.1 (T j).2.2.1 ∈ tb) (hd : decode cc pc = .ok (.putfield index, 3)) (kk : zAt p l e R s m args below meth c cells slots Q B D aC nL (pc + 3) lv st (zI M k j v)) : zAt p l e R s m args below meth c cells slots Q B D aC nL pc lv (.int v :: .ref (B + k) :: st) M := by
  intro H locs ls hP hl hS
  refine va_put (ref := C) (v := .int v) (ty := ty0 j) fx.1 fx.2.1 (fun w hw => fx.2.2.2.2.1 w hw) hin ty0 hty hnm fx.2.2.2.1 fx.2.2.2.2.2.1.1 hP zcls_D hS k ((zcls_at hk).trans (by rw [zcel_o ht ht2])) hc j hj (fx.2.2.2.2.1 _ hw) (fun x h => by rw [hT] at h; exact h) hfin (hty j hj) hn hfit (by rw [zfvs_len]; exact hj2) hd (fun H1 locs1 hP1 _ hS1 => ?_)
  rw [zfvs_sI hj2 hf, zcls_set (M := M) (M' := zI M k j v) hk _ (zcel_o ht ht2) (fun a ha => zcel_same (zI_o ha) rfl rfl)] at hP1
  exact kk H1 locs1 ls hP1 hl hS1
theorem a_putIN (fx : zFx p s m args c B D aC aS nL cc own) {C : String} {T : u_T} {N t index k j : Nat} {v : Int32} {ty0 : Nat → FieldType} (hk : k < N0) (ht : tg k = t) (ht2 : t < 20) (hc : kcl[t]? = some (C, T, N)) (hin : ∀ w ∈ u_ws C T N, w ∈ tb) (hty : ∀ k, k < N → parseFieldDescriptor (T k).2.2.1 = some (ty0 k)) (hnm : ∀ a, a < N → ∀ b, b < N → a ≠ b → (T a).2.1 ≠ (T b).2.1) (hj : j < N) (hj2 : j < nf t) (hf : ft t j = 0) (hT : (T j).1 = C) (hfin : (T j).2.2.2 = false) (hn : narrow (ty0 j) (.int v) = .int v) (hfit : fits (ty0 j) (.int v) = true) (q9 : Nat) {host : String} (hw : nestF[q9]? = some (own, index, C, (T j).2.1, (T j).2.2.1, host)) (hd : decode cc pc = .ok (.putfield index, 3)) (kk : zAt p l e R s m args below meth c cells slots Q B D aC nL (pc + 3) lv st (zI M k j v)) : zAt p l e R s m args below meth c cells slots Q B D aC nL pc lv (.int v :: .ref (B + k) :: st) M := by
  intro H locs ls hP hl hS
  refine va_putN (ref := C) (v := .int v) (ty := ty0 j) fx.1 fx.2.1 (fun w hw => fx.2.2.2.2.1 w hw) hin ty0 hty hnm fx.2.2.2.1 fx.2.2.2.2.2.1.1 hP zcls_D hS k ((zcls_at hk).trans (by rw [zcel_o ht ht2])) hc j hj (va_Nw.use (w := .fieldLinkNest own index C (T j).2.1 (T j).2.2.1 host) rfl (fx.2.2.2.2.2.1.2.2.2.2.2.2.2.1 _ (List.mem_of_getElem? hw))) (fun x h => by rw [hT] at h; exact h) hfin (hty j hj) hn hfit (by rw [zfvs_len]; exact hj2) hd (fun H1 locs1 hP1 _ hS1 => ?_)
  rw [zfvs_sI hj2 hf, zcls_set (M := M) (M' := zI M k j v) hk _ (zcel_o ht ht2) (fun a ha => zcel_same (zI_o ha) rfl rfl)] at hP1
  exact kk H1 locs1 ls hP1 hl hS1
theorem a_putL (fx : zFx p s m args c B D aC aS nL cc own) {C : String} {T : u_T} {N t index k j : Nat} {v : Int64} {ty0 : Nat → FieldType} (hk : k < N0) (ht : tg k = t) (ht2 : t < 20) (hc : kcl[t]? = some (C, T, N)) (hin : ∀ w ∈ u_ws C T N, w ∈ tb) (hty : ∀ k, k < N → parseFieldDescriptor (T k).2.2.1 = some (ty0 k)) (hnm : ∀ a, a < N → ∀ b, b < N → a ≠ b → (T a).2.1 ≠ (T b).2.1) (hj : j < N) (hj2 : j < nf t) (hf : ft t j = 1) (hT : (T j).1 = C) (hfin : (T j).2.2.2 = false) (hn : narrow (ty0 j) (.long v) = .long v) (hfit : fits (ty0 j) (.long v) = true) (hw : Cond.fieldLink own index C (T j).2.1 (T j).2.2.1 ∈ tb) (hd : decode cc pc = .ok (.putfield index, 3)) (kk : zAt p l e R s m args below meth c cells slots Q B D aC nL (pc + 3) lv st (zL M k j v)) : zAt p l e R s m args below meth c cells slots Q B D aC nL pc lv (.long v :: .ref (B + k) :: st) M := by
  intro H locs ls hP hl hS
  refine va_put (ref := C) (v := .long v) (ty := ty0 j) fx.1 fx.2.1 (fun w hw => fx.2.2.2.2.1 w hw) hin ty0 hty hnm fx.2.2.2.1 fx.2.2.2.2.2.1.1 hP zcls_D hS k ((zcls_at hk).trans (by rw [zcel_o ht ht2])) hc j hj (fx.2.2.2.2.1 _ hw) (fun x h => by rw [hT] at h; exact h) hfin (hty j hj) hn hfit (by rw [zfvs_len]; exact hj2) hd (fun H1 locs1 hP1 _ hS1 => ?_)
  rw [zfvs_sL hj2 hf, zcls_set (M := M) (M' := zL M k j v) hk _ (zcel_o ht ht2) (fun a ha => zcel_same rfl (zL_o ha) rfl)] at hP1
  exact kk H1 locs1 ls hP1 hl hS1
theorem a_putLN (fx : zFx p s m args c B D aC aS nL cc own) {C : String} {T : u_T} {N t index k j : Nat} {v : Int64} {ty0 : Nat → FieldType} (hk : k < N0) (ht : tg k = t) (ht2 : t < 20) (hc : kcl[t]? = some (C, T, N)) (hin : ∀ w ∈ u_ws C T N, w ∈ tb) (hty : ∀ k, k < N → parseFieldDescriptor (T k).2.2.1 = some (ty0 k)) (hnm : ∀ a, a < N → ∀ b, b < N → a ≠ b → (T a).2.1 ≠ (T b).2.1) (hj : j < N) (hj2 : j < nf t) (hf : ft t j = 1) (hT : (T j).1 = C) (hfin : (T j).2.2.2 = false) (hn : narrow (ty0 j) (.long v) = .long v) (hfit : fits (ty0 j) (.long v) = true) (q9 : Nat) {host : String} (hw : nestF[q9]? = some (own, index, C, (T j).2.1, (T j).2.2.1, host)) (hd : decode cc pc = .ok (.putfield index, 3)) (kk : zAt p l e R s m args below meth c cells slots Q B D aC nL (pc + 3) lv st (zL M k j v)) : zAt p l e R s m args below meth c cells slots Q B D aC nL pc lv (.long v :: .ref (B + k) :: st) M := by
  intro H locs ls hP hl hS
  refine va_putN (ref := C) (v := .long v) (ty := ty0 j) fx.1 fx.2.1 (fun w hw => fx.2.2.2.2.1 w hw) hin ty0 hty hnm fx.2.2.2.1 fx.2.2.2.2.2.1.1 hP zcls_D hS k ((zcls_at hk).trans (by rw [zcel_o ht ht2])) hc j hj (va_Nw.use (w := .fieldLinkNest own index C (T j).2.1 (T j).2.2.1 host) rfl (fx.2.2.2.2.2.1.2.2.2.2.2.2.2.1 _ (List.mem_of_getElem? hw))) (fun x h => by rw [hT] at h; exact h) hfin (hty j hj) hn hfit (by rw [zfvs_len]; exact hj2) hd (fun H1 locs1 hP1 _ hS1 => ?_)
  rw [zfvs_sL hj2 hf, zcls_set (M := M) (M' := zL M k j v) hk _ (zcel_o ht ht2) (fun a ha => zcel_same rfl (zL_o ha) rfl)] at hP1
  exact kk H1 locs1 ls hP1 hl hS1
theorem a_putR (fx : zFx p s m args c B D aC aS nL cc own) {C : String} {T : u_T} {N t index k j : Nat} {v : Nat} {ty0 : Nat → FieldType} (hk : k < N0) (ht : tg k = t) (ht2 : t < 20) (hc : kcl[t]? = some (C, T, N)) (hin : ∀ w ∈ u_ws C T N, w ∈ tb) (hty : ∀ k, k < N → parseFieldDescriptor (T k).2.2.1 = some (ty0 k)) (hnm : ∀ a, a < N → ∀ b, b < N → a ≠ b → (T a).2.1 ≠ (T b).2.1) (hj : j < N) (hj2 : j < nf t) (hf : ft t j = 3) (hT : (T j).1 = C) (hfin : (T j).2.2.2 = false) (hn : narrow (ty0 j) (.ref (B + v)) = .ref (B + v)) (hfit : fits (ty0 j) (.ref (B + v)) = true) (hw : Cond.fieldLink own index C (T j).2.1 (T j).2.2.1 ∈ tb) (hd : decode cc pc = .ok (.putfield index, 3)) (kk : zAt p l e R s m args below meth c cells slots Q B D aC nL (pc + 3) lv st (zR M k j v)) : zAt p l e R s m args below meth c cells slots Q B D aC nL pc lv (.ref (B + v) :: .ref (B + k) :: st) M := by
  intro H locs ls hP hl hS
  refine va_put (ref := C) (v := .ref (B + v)) (ty := ty0 j) fx.1 fx.2.1 (fun w hw => fx.2.2.2.2.1 w hw) hin ty0 hty hnm fx.2.2.2.1 fx.2.2.2.2.2.1.1 hP zcls_D hS k ((zcls_at hk).trans (by rw [zcel_o ht ht2])) hc j hj (fx.2.2.2.2.1 _ hw) (fun x h => by rw [hT] at h; exact h) hfin (hty j hj) hn hfit (by rw [zfvs_len]; exact hj2) hd (fun H1 locs1 hP1 _ hS1 => ?_)
  rw [zfvs_sR hj2 hf, zcls_set (M := M) (M' := zR M k j v) hk _ (zcel_o ht ht2) (fun a ha => zcel_same rfl rfl (zR_o ha))] at hP1
  exact kk H1 locs1 ls hP1 hl hS1
theorem a_putRN (fx : zFx p s m args c B D aC aS nL cc own) {C : String} {T : u_T} {N t index k j : Nat} {v : Nat} {ty0 : Nat → FieldType} (hk : k < N0) (ht : tg k = t) (ht2 : t < 20) (hc : kcl[t]? = some (C, T, N)) (hin : ∀ w ∈ u_ws C T N, w ∈ tb) (hty : ∀ k, k < N → parseFieldDescriptor (T k).2.2.1 = some (ty0 k)) (hnm : ∀ a, a < N → ∀ b, b < N → a ≠ b → (T a).2.1 ≠ (T b).2.1) (hj : j < N) (hj2 : j < nf t) (hf : ft t j = 3) (hT : (T j).1 = C) (hfin : (T j).2.2.2 = false) (hn : narrow (ty0 j) (.ref (B + v)) = .ref (B + v)) (hfit : fits (ty0 j) (.ref (B + v)) = true) (q9 : Nat) {host : String} (hw : nestF[q9]? = some (own, index, C, (T j).2.1, (T j).2.2.1, host)) (hd : decode cc pc = .ok (.putfield index, 3)) (kk : zAt p l e R s m args below meth c cells slots Q B D aC nL (pc + 3) lv st (zR M k j v)) : zAt p l e R s m args below meth c cells slots Q B D aC nL pc lv (.ref (B + v) :: .ref (B + k) :: st) M := by
  intro H locs ls hP hl hS
  refine va_putN (ref := C) (v := .ref (B + v)) (ty := ty0 j) fx.1 fx.2.1 (fun w hw => fx.2.2.2.2.1 w hw) hin ty0 hty hnm fx.2.2.2.1 fx.2.2.2.2.2.1.1 hP zcls_D hS k ((zcls_at hk).trans (by rw [zcel_o ht ht2])) hc j hj (va_Nw.use (w := .fieldLinkNest own index C (T j).2.1 (T j).2.2.1 host) rfl (fx.2.2.2.2.2.1.2.2.2.2.2.2.2.1 _ (List.mem_of_getElem? hw))) (fun x h => by rw [hT] at h; exact h) hfin (hty j hj) hn hfit (by rw [zfvs_len]; exact hj2) hd (fun H1 locs1 hP1 _ hS1 => ?_)
  rw [zfvs_sR hj2 hf, zcls_set (M := M) (M' := zR M k j v) hk _ (zcel_o ht ht2) (fun a ha => zcel_same rfl rfl (zR_o ha))] at hP1
  exact kk H1 locs1 ls hP1 hl hS1
theorem a_iald (fx : zFx p s m args c B D aC aS nL cc own) {k : Nat} {i : Int32} (hk : k < N0) (ht : tg k = 21) (hin : vp_in i (ln k)) (hd : decode cc pc = .ok (.iaload, 1)) (kk : zAt p l e R s m args below meth c cells slots Q B D aC nL (pc + 1) lv (.int (M.1 k i.toNatClampNeg) :: st) M) : zAt p l e R s m args below meth c cells slots Q B D aC nL pc lv (.int i :: .ref (B + k) :: st) M := fun H locs ls hP hl hS => va_iald fx.1 fx.2.1 fx.2.2.2.2.2.1.1 hP k 1 ((zcls_at hk).trans (by rw [zcel_i ht (by decide) (by decide)])) rfl hin hd (kk H locs ls hP hl hS)
theorem a_bald (fx : zFx p s m args c B D aC aS nL cc own) {k : Nat} {i : Int32} (hk : k < N0) (ht : tg k = 20) (hin : vp_in i (ln k)) (hd : decode cc pc = .ok (.baload, 1)) (kk : zAt p l e R s m args below meth c cells slots Q B D aC nL (pc + 1) lv (.int (M.1 k i.toNatClampNeg) :: st) M) : zAt p l e R s m args below meth c cells slots Q B D aC nL pc lv (.int i :: .ref (B + k) :: st) M := fun H locs ls hP hl hS => va_bald fx.1 fx.2.1 fx.2.2.2.2.2.1.1 hP k 0 ((zcls_at hk).trans (by rw [zcel_i ht (by decide) (by decide)])) rfl hin hd (kk H locs ls hP hl hS)
theorem a_zald (fx : zFx p s m args c B D aC aS nL cc own) {k : Nat} {i : Int32} (hk : k < N0) (ht : tg k = 22) (hin : vp_in i (ln k)) (hd : decode cc pc = .ok (.baload, 1)) (kk : zAt p l e R s m args below meth c cells slots Q B D aC nL (pc + 1) lv (.int (M.1 k i.toNatClampNeg) :: st) M) : zAt p l e R s m args below meth c cells slots Q B D aC nL pc lv (.int i :: .ref (B + k) :: st) M := fun H locs ls hP hl hS => va_zald fx.1 fx.2.1 fx.2.2.2.2.2.1.1 hP k 2 ((zcls_at hk).trans (by rw [zcel_i ht (by decide) (by decide)])) rfl hin hd (kk H locs ls hP hl hS)
theorem a_lald (fx : zFx p s m args c B D aC aS nL cc own) {k : Nat} {i : Int32} (hk : k < N0) (ht : tg k = 23) (hin : vp_in i (ln k)) (hd : decode cc pc = .ok (.laload, 1)) (kk : zAt p l e R s m args below meth c cells slots Q B D aC nL (pc + 1) lv (.long (M.2.1 k i.toNatClampNeg) :: st) M) : zAt p l e R s m args below meth c cells slots Q B D aC nL pc lv (.int i :: .ref (B + k) :: st) M := fun H locs ls hP hl hS => va_lald fx.1 fx.2.1 fx.2.2.2.2.2.1.1 hP k 3 ((zcls_at hk).trans (by rw [zcel_l ht])) rfl hin hd (kk H locs ls hP hl hS)
theorem a_aald (fx : zFx p s m args c B D aC aS nL cc own) {k : Nat} {i : Int32} (hk : k < N0) (ht : tg k = 24) (hin : vp_in i (ln k)) (hd : decode cc pc = .ok (.aaload, 1)) (kk : zAt p l e R s m args below meth c cells slots Q B D aC nL (pc + 1) lv (.ref (B + M.2.2 k i.toNatClampNeg) :: st) M) : zAt p l e R s m args below meth c cells slots Q B D aC nL pc lv (.int i :: .ref (B + k) :: st) M := by
  intro H locs ls hP hl hS
  refine va_aldq (f := fun j => some (B + M.2.2 k j)) fx.1 fx.2.1 fx.2.2.2.2.2.1.1 hP k 4 ((zcls_at hk).trans (by rw [zcel_r ht])) rfl hin hd ?_
  exact kk H locs ls hP hl hS
theorem a_iast (fx : zFx p s m args c B D aC aS nL cc own) {k : Nat} {i x : Int32} (hk : k < N0) (ht : tg k = 21) (hin : vp_in i (ln k)) (hd : decode cc pc = .ok (.iastore, 1)) (kk : zAt p l e R s m args below meth c cells slots Q B D aC nL (pc + 1) lv st (zI M k i.toNatClampNeg x)) : zAt p l e R s m args below meth c cells slots Q B D aC nL pc lv (.int x :: .int i :: .ref (B + k) :: st) M := by
  intro H locs ls hP hl hS
  refine va_iast fx.1 fx.2.1 fx.2.2.2.2.2.1.1 hP zcls_D hS k 1 ((zcls_at hk).trans (by rw [zcel_i ht (by decide) (by decide)])) rfl hin hd (fun H1 locs1 hP1 _ hS1 => ?_)
  rw [zcls_set (M := M) (M' := zI M k i.toNatClampNeg x) hk _ (by rw [zcel_i ht (by decide) (by decide), zI_s]) (fun a ha => zcel_same (zI_o ha) rfl rfl)] at hP1
  exact kk H1 locs1 ls hP1 hl hS1
theorem a_bast (fx : zFx p s m args c B D aC aS nL cc own) {k : Nat} {i x : Int32} (hk : k < N0) (ht : tg k = 20) (hin : vp_in i (ln k)) (hd : decode cc pc = .ok (.bastore, 1)) (kk : zAt p l e R s m args below meth c cells slots Q B D aC nL (pc + 1) lv st (zI M k i.toNatClampNeg (vp_nar .byte x))) : zAt p l e R s m args below meth c cells slots Q B D aC nL pc lv (.int x :: .int i :: .ref (B + k) :: st) M := by
  intro H locs ls hP hl hS
  refine va_bast fx.1 fx.2.1 fx.2.2.2.2.2.1.1 hP zcls_D hS k 0 ((zcls_at hk).trans (by rw [zcel_i ht (by decide) (by decide)])) rfl hin hd (fun H1 locs1 hP1 _ hS1 => ?_)
  rw [zcls_set (M := M) (M' := zI M k i.toNatClampNeg (vp_nar .byte x)) hk _ (by rw [zcel_i ht (by decide) (by decide), zI_s]) (fun a ha => zcel_same (zI_o ha) rfl rfl)] at hP1
  exact kk H1 locs1 ls hP1 hl hS1
theorem a_zast (fx : zFx p s m args c B D aC aS nL cc own) {k : Nat} {i x : Int32} (hk : k < N0) (ht : tg k = 22) (hin : vp_in i (ln k)) (hd : decode cc pc = .ok (.bastore, 1)) (kk : zAt p l e R s m args below meth c cells slots Q B D aC nL (pc + 1) lv st (zI M k i.toNatClampNeg (vp_nar .boolean x))) : zAt p l e R s m args below meth c cells slots Q B D aC nL pc lv (.int x :: .int i :: .ref (B + k) :: st) M := by
  intro H locs ls hP hl hS
  refine va_zast fx.1 fx.2.1 fx.2.2.2.2.2.1.1 hP zcls_D hS k 2 ((zcls_at hk).trans (by rw [zcel_i ht (by decide) (by decide)])) rfl hin hd (fun H1 locs1 hP1 _ hS1 => ?_)
  rw [zcls_set (M := M) (M' := zI M k i.toNatClampNeg (vp_nar .boolean x)) hk _ (by rw [zcel_i ht (by decide) (by decide), zI_s]) (fun a ha => zcel_same (zI_o ha) rfl rfl)] at hP1
  exact kk H1 locs1 ls hP1 hl hS1
theorem a_last (fx : zFx p s m args c B D aC aS nL cc own) {k : Nat} {i : Int32} {x : Int64} (hk : k < N0) (ht : tg k = 23) (hin : vp_in i (ln k)) (hd : decode cc pc = .ok (.lastore, 1)) (kk : zAt p l e R s m args below meth c cells slots Q B D aC nL (pc + 1) lv st (zL M k i.toNatClampNeg x)) : zAt p l e R s m args below meth c cells slots Q B D aC nL pc lv (.long x :: .int i :: .ref (B + k) :: st) M := by
  intro H locs ls hP hl hS
  refine va_last fx.1 fx.2.1 fx.2.2.2.2.2.1.1 hP zcls_D hS k 3 ((zcls_at hk).trans (by rw [zcel_l ht])) rfl hin hd (fun H1 locs1 hP1 _ hS1 => ?_)
  rw [zcls_set (M := M) (M' := zL M k i.toNatClampNeg x) hk _ (by rw [zcel_l ht, zL_s]) (fun a ha => zcel_same rfl (zL_o ha) rfl)] at hP1
  exact kk H1 locs1 ls hP1 hl hS1
theorem a_aast (fx : zFx p s m args c B D aC aS nL cc own) {k v : Nat} {i : Int32} (hk : k < N0) (ht : tg k = 24) (hv : v < N0) (hvt : tg v = 2) (hin : vp_in i (ln k)) (hd : decode cc pc = .ok (.aastore, 1)) (kk : zAt p l e R s m args below meth c cells slots Q B D aC nL (pc + 1) lv st (zR M k i.toNatClampNeg v)) : zAt p l e R s m args below meth c cells slots Q B D aC nL pc lv (.ref (B + v) :: .int i :: .ref (B + k) :: st) M := by
  intro H locs ls hP hl hS
  refine va_astq fx.1 fx.2.1 fx.2.2.2.2.2.1.1 hP zcls_D hS k 4 v 2 (r := (R_En, F_En, 9)) ((zcls_at hk).trans (by rw [zcel_r ht])) rfl ((zcls_at hv).trans (by rw [zcel_o hvt (by decide)])) rfl hin hd (fun H1 locs1 hP1 _ hS1 => ?_)
  have e : va_up (fun j => some (B + M.2.2 k j)) i.toNatClampNeg (some (B + v)) = fun j => some (B + (zR M k i.toNatClampNeg v).2.2 k j) := by
    funext j
    rw [zR_s]
    by_cases h : j = i.toNatClampNeg
    · simp [va_up, h]
    · simp [va_up, h]
  rw [e, zcls_set (M := M) (M' := zR M k i.toNatClampNeg v) hk _ (zcel_r ht) (fun a ha => zcel_same rfl rfl (zR_o ha))] at hP1
  exact kk H1 locs1 ls hP1 hl hS1
theorem a_alen {ty0 : FieldType} (fx : zFx p s m args c B D aC aS nL cc own) {k t : Nat} (t0 : Nat) (hk : k < N0) (ht : tg k = t) (h20 : ¬ t < 20) (h24 : t ≤ 24) (htt : (ztyl aC)[t0]? = some (aC t, ty0)) (hd : decode cc pc = .ok (.arraylength, 1)) (kk : zAt p l e R s m args below meth c cells slots Q B D aC nL (pc + 1) lv (.int (Int32.ofNat (ln k)) :: st) M) : zAt p l e R s m args below meth c cells slots Q B D aC nL pc lv (.ref (B + k) :: st) M := by
  intro H locs ls hP hl hS
  subst ht
  by_cases h1 : tg k < 23
  · exact va_alen fx.1 fx.2.1 fx.2.2.2.2.2.1.1 hP k t0 ((zcls_at hk).trans (by rw [zcel_i rfl h20 h1])) htt rfl hd (kk H locs ls hP hl hS)
  · by_cases h2 : tg k = 23
    · exact va_alen fx.1 fx.2.1 fx.2.2.2.2.2.1.1 hP k t0 ((zcls_at hk).trans (by rw [zcel_l h2])) (by rw [h2] at htt; exact htt) rfl hd (kk H locs ls hP hl hS)
    · have h3 : tg k = 24 := by omega
      exact va_alen fx.1 fx.2.1 fx.2.2.2.2.2.1.1 hP k t0 ((zcls_at hk).trans (by rw [zcel_r h3])) (by rw [h3] at htt; exact htt) rfl hd (kk H locs ls hP hl hS)
theorem a_iret (fx : zFx p s m args c B D aC aS nL cc own) (hlo : meth.locks = false) (hr : meth.sig.returnType = some .int) {post : Int32 → zM → Prop} {v : Int32} (h : post v M) (hd : decode cc pc = .ok (.ireturn, 1)) : zAt p l e R s m args below meth c cells slots (MQ below (zQi B D aC post) args s cells slots (zAb B)) B D aC nL pc lv [.int v] M := fun H locs ls hP hl hS => W.iret fx.1 fx.2.1 hr (fun t ht hW => ⟨v, M, rfl, h, by rw [ht]; exact hP, hS.F ht⟩) hS.2.2 hd
theorem a_lret (fx : zFx p s m args c B D aC aS nL cc own) (hlo : meth.locks = false) (hr : meth.sig.returnType = some .long) {post : Int64 → zM → Prop} {v : Int64} (h : post v M) (hd : decode cc pc = .ok (.lreturn, 1)) : zAt p l e R s m args below meth c cells slots (MQ below (zQl B D aC post) args s cells slots (zAb B)) B D aC nL pc lv [.long v] M := fun H locs ls hP hl hS => W.lret fx.1 fx.2.1 hr (fun t ht hW => ⟨v, M, rfl, h, by rw [ht]; exact hP, hS.F ht⟩) hS.2.2 hd
theorem a_vret (fx : zFx p s m args c B D aC aS nL cc own) (hlo : meth.locks = false) (hr : meth.sig.returnType = none) {post : zM → Prop} (h : post M) (hd : decode cc pc = .ok (.return_, 1)) : zAt p l e R s m args below meth c cells slots (MQ below (zQv B D aC post) args s cells slots (zAb B)) B D aC nL pc lv [] M := fun H locs ls hP hl hS => W.vret fx.1 fx.2.1 hr (fun t ht hW => ⟨M, rfl, h, by rw [ht]; exact hP, hS.F ht⟩) hS.2.2 hd
theorem a_zret (fx : zFx p s m args c B D aC aS nL cc own) (hlo : meth.locks = false) (hr : meth.sig.returnType = some .boolean) {post : Int32 → zM → Prop} {v : Int32} (hn : narrow .boolean (.int v) = .int v) (h : post v M) (hd : decode cc pc = .ok (.ireturn, 1)) : zAt p l e R s m args below meth c cells slots (MQ below (zQi B D aC post) args s cells slots (zAb B)) B D aC nL pc lv [.int v] M := fun H locs ls hP hl hS => W.zret fx.1 fx.2.1 hr hn (fun t ht hW => ⟨v, M, rfl, h, by rw [ht]; exact hP, hS.F ht⟩) hS.2.2 hd
theorem a_aret (fx : zFx p s m args c B D aC aS nL cc own) (hlo : meth.locks = false) {cn : String} (hr : meth.sig.returnType = some (.object cn)) {post : Nat → zM → Prop} {v : Nat} (h : post v M) (hd : decode cc pc = .ok (.areturn, 1)) : zAt p l e R s m args below meth c cells slots (MQ below (zQr B D aC post) args s cells slots (zAb B)) B D aC nL pc lv [.ref (B + v)] M := fun H locs ls hP hl hS => W.aret fx.1 fx.2.1 hr (Or.inl ⟨cn, rfl⟩) (Or.inr ⟨_, rfl⟩) (fun t ht hW => ⟨v, M, rfl, h, by rw [ht]; exact hP, hS.F ht⟩) hS.2.2 hd
theorem a_tabI (fx : zFx p s m args c B D aC aS nL cc own) {dflt lo hi off : Int} {offs : Array Int} {n : Nat} {x : Int32} (tgt : Nat) (hd : decode cc pc = .ok (.tableswitch dflt lo hi offs, n)) (h1 : ¬ x.toInt < lo) (h2 : ¬ hi < x.toInt) (ho : offs[(x.toInt - lo).toNat]? = some off) (ht : (pc : Int) + off = (tgt : Int)) (k : zAt p l e R s m args below meth c cells slots Q B D aC nL tgt lv st M) : zAt p l e R s m args below meth c cells slots Q B D aC nL pc lv (.int x :: st) M := fun H locs ls hP hl hS => lv_tableIn fx.1 fx.2.1 hd h1 h2 ho ht (k H locs ls hP hl hS)
theorem a_tabO (fx : zFx p s m args c B D aC aS nL cc own) {dflt lo hi : Int} {offs : Array Int} {n : Nat} {x : Int32} (tgt : Nat) (hd : decode cc pc = .ok (.tableswitch dflt lo hi offs, n)) (h : x.toInt < lo ∨ hi < x.toInt) (ht : (pc : Int) + dflt = (tgt : Int)) (k : zAt p l e R s m args below meth c cells slots Q B D aC nL tgt lv st M) : zAt p l e R s m args below meth c cells slots Q B D aC nL pc lv (.int x :: st) M := fun H locs ls hP hl hS => lv_tableOut fx.1 fx.2.1 hd h ht (k H locs ls hP hl hS)
theorem a_gets (fx : zFx p s m args c B D aC aS nL cc own) {t index : Nat} (hZ : va_Z "MailChain$Row" "REMAINDERS" "[I" (.ref t) (zAb B) s s.heap) (hw : Cond.fieldLink own index "MailChain$Row" "REMAINDERS" "[I" ∈ tb) (hd : decode cc pc = .ok (.getstatic index, 3)) (k : zAt p l e R s m args below meth c cells slots Q B D aC nL (pc + 3) lv (.ref t :: st) M) : zAt p l e R s m args below meth c cells slots Q B D aC nL pc lv st M := fun H locs ls hP hl hS => va_gets fx.1 fx.2.1 hZ hS fx.2.2.2.1 (fx.2.2.2.2.1 _ hw) (fun x h => h) hd (k H locs ls hP hl hS)
theorem a_rem (fx : zFx p s m args c B D aC aS nL cc own) {t : Nat} {i : Int32} (hT : va_T .int t 16 (fun j => .int (remL.getD j 0)) (zAb B) s s.heap) (hin : vp_in i 16) (hd : decode cc pc = .ok (.iaload, 1)) (k : zAt p l e R s m args below meth c cells slots Q B D aC nL (pc + 1) lv (.int (remL.getD i.toNatClampNeg 0) :: st) M) : zAt p l e R s m args below meth c cells slots Q B D aC nL pc lv (.int i :: .ref t :: st) M := fun H locs ls hP hl hS => va_ti fx.1 fx.2.1 hT hS hin rfl hd (k H locs ls hP hl hS)
theorem a_ldcS (fx : zFx p s m args c B D aC aS nL cc own) (i : Nat) {index : Nat} (hi : i < 13) (ho : strOwn i = own) (hx : strIx i = index) {q : Nat} (hq : strNo i = q) (hd : decode cc pc = .ok (.ldc index, 2)) (k : zAt p l e R s m args below meth c cells slots Q B D aC nL (pc + 2) lv (.ref (aS q) :: st) M) : zAt p l e R s m args below meth c cells slots Q B D aC nL pc lv st M := fun H locs ls hP hl hS => va_ldcS fx.1 fx.2.1 fx.2.2.2.1 (by have h := fx.2.2.2.2.2.1.2.2.2.1 i hi; rw [ho, hx, hq] at h; exact h) hd (k H locs ls hP hl hS)
end ROWS
end
section
/-! Calls over the memory; how a contract is begun. -/
section CALLS
variable {p : Program} {l : Launch} {e : Env} {R : Room} {s : State} {m : MethodId} {args : Array Value} {below : List Frame} {meth : Method} {c : Code} {cells slots mc ms : Nat} {Q : State → Prop} {B : Nat} {D : va_G} {aC : Nat → ClassId} {aS : Nat → Nat} {nL : Nat} {cc : ByteArray} {own : String} {pc : Nat} {lv lv2 : List (Nat × Value)} {st rest st0 : List Value} {M : zM} {av : Array Value}
/-- a call that has a run from every heap that holds the memory -/
def zRun (p : Program) (l : Launch) (e : Env) (R : Room) (s : State) (m : MethodId) (args : Array Value) (below : List Frame) (meth : Method) (c : Code) (cells slots mc ms : Nat) (B : Nat) (D : va_G) (aC : Nat → ClassId) (nL : Nat) (pc : Nat) (lv : List (Nat × Value)) (st0 rest : List Value) (M : zM) (Qa : State → Outcome → State → Prop) : Prop :=
  ∀ (H : Heap) (locs : List Loc) (ls : Array Slot), va_P D kcl (zcls B aC M) H → lv_has ls nL lv → va_S (zAb B) s.heap H locs → va_Run p l e R s m args below meth c H locs cells slots mc ms (F0 m pc ls st0) rest Qa (zAb B)
theorem a_calli {post : Int32 → zM → Prop} (hr : zRun p l e R s m args below meth c cells slots mc ms B D aC nL pc lv st0 rest M (zQi B D aC post av)) (k : ∀ (r : Int32) (M2 : zM), post r M2 → zAt p l e R s m args below meth c (cells + mc) (slots + ms) Q B D aC nL (pc + 3) lv (.int r :: rest) M2) : zAt p l e R s m args below meth c cells slots Q B D aC nL pc lv st0 M := by
  intro H locs ls hP hl hS T hT X
  obtain ⟨v, st₀, t, T', L, h0, X', hL, e1, e2, ⟨r, M2, hv, hp, hP1, hz, hk⟩, st⟩ := hr H locs ls hP hl hS T hT X
  cases hv
  rw [h0] at hz hk
  obtain ⟨t2, a1, b1⟩ := k r M2 hp T'.heap (locs ++ L) ls (by rw [e1]; exact hP1) hl ⟨Nat.le_trans hS.1 (by rw [e1]; exact hz), fun q h1 h2 => by rw [e1, hk q (Nat.lt_of_lt_of_le h1 hS.1) h2]; exact hS.2.1 q h1 h2, fun q hq => by
    rcases List.mem_append.mp hq with h | h
    · exact hS.2.2 q h
    · exact hL q h⟩ T' rfl X'
  exact ⟨t2, st t2 a1, b1⟩
theorem a_calll {post : Int64 → zM → Prop} (hr : zRun p l e R s m args below meth c cells slots mc ms B D aC nL pc lv st0 rest M (zQl B D aC post av)) (k : ∀ (r : Int64) (M2 : zM), post r M2 → zAt p l e R s m args below meth c (cells + mc) (slots + ms) Q B D aC nL (pc + 3) lv (.long r :: rest) M2) : zAt p l e R s m args below meth c cells slots Q B D aC nL pc lv st0 M := by
  intro H locs ls hP hl hS T hT X
  obtain ⟨v, st₀, t, T', L, h0, X', hL, e1, e2, ⟨r, M2, hv, hp, hP1, hz, hk⟩, st⟩ := hr H locs ls hP hl hS T hT X
  cases hv
  rw [h0] at hz hk
  obtain ⟨t2, a1, b1⟩ := k r M2 hp T'.heap (locs ++ L) ls (by rw [e1]; exact hP1) hl ⟨Nat.le_trans hS.1 (by rw [e1]; exact hz), fun q h1 h2 => by rw [e1, hk q (Nat.lt_of_lt_of_le h1 hS.1) h2]; exact hS.2.1 q h1 h2, fun q hq => by
    rcases List.mem_append.mp hq with h | h
    · exact hS.2.2 q h
    · exact hL q h⟩ T' rfl X'
  exact ⟨t2, st t2 a1, b1⟩
theorem a_callr {post : Nat → zM → Prop} (hr : zRun p l e R s m args below meth c cells slots mc ms B D aC nL pc lv st0 rest M (zQr B D aC post av)) (k : ∀ (r : Nat) (M2 : zM), post r M2 → zAt p l e R s m args below meth c (cells + mc) (slots + ms) Q B D aC nL (pc + 3) lv (.ref (B + r) :: rest) M2) : zAt p l e R s m args below meth c cells slots Q B D aC nL pc lv st0 M := by
  intro H locs ls hP hl hS T hT X
  obtain ⟨v, st₀, t, T', L, h0, X', hL, e1, e2, ⟨r, M2, hv, hp, hP1, hz, hk⟩, st⟩ := hr H locs ls hP hl hS T hT X
  cases hv
  rw [h0] at hz hk
  obtain ⟨t2, a1, b1⟩ := k r M2 hp T'.heap (locs ++ L) ls (by rw [e1]; exact hP1) hl ⟨Nat.le_trans hS.1 (by rw [e1]; exact hz), fun q h1 h2 => by rw [e1, hk q (Nat.lt_of_lt_of_le h1 hS.1) h2]; exact hS.2.1 q h1 h2, fun q hq => by
    rcases List.mem_append.mp hq with h | h
    · exact hS.2.2 q h
    · exact hL q h⟩ T' rfl X'
  exact ⟨t2, st t2 a1, b1⟩
theorem a_callv {post : zM → Prop} (hr : zRun p l e R s m args below meth c cells slots mc ms B D aC nL pc lv st0 rest M (zQv B D aC post av)) (k : ∀ (M2 : zM), post M2 → zAt p l e R s m args below meth c (cells + mc) (slots + ms) Q B D aC nL (pc + 3) lv (rest) M2) : zAt p l e R s m args below meth c cells slots Q B D aC nL pc lv st0 M := by
  intro H locs ls hP hl hS T hT X
  obtain ⟨v, st₀, t, T', L, h0, X', hL, e1, e2, ⟨M2, hv, hp, hP1, hz, hk⟩, st⟩ := hr H locs ls hP hl hS T hT X
  cases hv
  rw [h0] at hz hk
  obtain ⟨t2, a1, b1⟩ := k M2 hp T'.heap (locs ++ L) ls (by rw [e1]; exact hP1) hl ⟨Nat.le_trans hS.1 (by rw [e1]; exact hz), fun q h1 h2 => by rw [e1, hk q (Nat.lt_of_lt_of_le h1 hS.1) h2]; exact hS.2.1 q h1 h2, fun q hq => by
    rcases List.mem_append.mp hq with h | h
    · exact hS.2.2 q h
    · exact hL q h⟩ T' rfl X'
  exact ⟨t2, st t2 a1, b1⟩
theorem zWl_at (fx : zFx p s m args c B D aC aS nL cc own) {H : Heap} {locs : List Loc} {U : State} (hP : va_P D kcl (zcls B aC M) H) (hS : va_S (zAb B) s.heap H locs) (hU : U.heap = H) (hW : s.WarmedH U.vm) : zWl B D aC aS M U :=
  ⟨by rw [hU]; exact hP, by rw [hU]; exact Nat.le_trans fx.2.2.2.2.2.2 hS.1, va_K.moved hW.alike fx.2.2.2.2.2.1.1, fx.2.2.2.2.2.1.2.warm hW (fun a h1 h2 => by rw [hU]; exact hS.2.1 a h1 h2)⟩
/-- what the tables say of a method that is called on an object -/
def zCV (y : MethodName) (C : String) (b : ByteArray) (n : Nat) (r : Option FieldType) (np : Nat) : Prop := Cond.instanceMethod y ∈ tb ∧ Cond.selects C y y ∈ tb ∧ Cond.initialized C ∈ tb ∧ Cond.code y b n r ∈ tb ∧ (y.cls = C ∧ y.cls ≠ "java/lang/invoke/MethodHandle" ∧ y.cls ≠ "java/lang/invoke/VarHandle" ∧ (parseMethodDescriptor y.desc).map (fun d => d.parameters.length) = some np)
def zCS (y : MethodName) (b : ByteArray) (n : Nat) (r : Option FieldType) (np : Nat) : Prop := Cond.static y ∈ tb ∧ Cond.initialized y.cls ∈ tb ∧ Cond.code y b n r ∈ tb ∧ (y.cls ≠ "java/lang/invoke/MethodHandle" ∧ y.cls ≠ "java/lang/invoke/VarHandle" ∧ (parseMethodDescriptor y.desc).map (fun d => d.parameters.length) = some np)
theorem z_good {w : Cond} (h : w ∈ tb) : w ∈ tb ∧ ((w.onTables && w.keeps) = true ∨ ∃ ty, w = .arrayClass ty) := ⟨h, good_of_word (tb_good w h)⟩
theorem z_goodwo {y : MethodName} {b : ByteArray} {n : Nat} {r : Option FieldType} (h : Cond.code y b n r ∈ tb) : GoodIn tb (wo y b n r) := by
  intro w hw
  rcases List.mem_cons.mp hw with e | e
  · rw [e]; exact z_good h
  · exact z_good e
theorem a_runV (fx : zFx p s m args c B D aC aS nL cc own) {y : MethodName} {C : String} {b : ByteArray} {mx np : Nat} {ret : Option FieldType} {index k t N : Nat} {T : u_T} {rm : Room} {As : List Value} {Qc : Array Value → State → Outcome → State → Prop} (cv : zCV y C b mx ret np) (hl : Cond.methodLink own index y ∈ tb)
    (hM : Met l y (wo y b mx ret) rm (va_Pc (.ref (B + k) :: As) (zWl B D aC aS M)) Qc mc ms (zAb B)) (hk : k < N0) (ht : tg k = t) (ht2 : t < 20) (hc : kcl[t]? = some (C, T, N)) (hn : As.length = np) (hst : st0 = As.reverse ++ .ref (B + k) :: rest) (hw : (rest.map fun v => v.category).sum ≤ 8)
    (hrc : rm.cells = mc) (hrs : rm.slots = ms) (hR : rm.frames + 1 ≤ R.frames ∧ 8 + (mx + 11) + rm.locals ≤ R.locals) (hd : decode cc pc = .ok (.invokevirtual index, 3)) (hf : cells + mc ≤ R.cells ∧ slots + ms ≤ R.slots) : zRun p l e R s m args below meth c cells slots mc ms B D aC nL pc lv st0 rest M (Qc (Value.ref (B + k) :: As).toArray) := by
  intro H locs ls hP hlv hS
  subst hst
  obtain ⟨v1, v2, v3, v4, v5⟩ := cv
  refine va_runV (C := C) (bytes := b) (maxL := mx) (ret := ret) (Ts := tb) ⟨fx.1, fx.2.1, fx.2.2.1, fx.2.2.2.1, fx.2.2.2.2.1⟩ hM (cwV np fx.2.2.2.2.1 ?_ rfl hrc hrs v5 hR) ⟨fun a U g mk q => ⟨q.1, q.2.blind⟩, va_recv fx.2.2.2.2.2.1.1 hP hc ((zcls_at hk).trans (by rw [zcel_o ht ht2])), fun U hU hW => ⟨rfl, zWl_at fx hP hS hU hW⟩⟩ rfl hn hlv.1 rfl (lv_room hw) hd hf
  intro w hw
  rcases List.mem_append.mp hw with h | h
  · simp only [List.mem_cons, List.not_mem_nil, or_false] at h
    rcases h with h | h | h | h <;> (rw [h]; apply z_good; assumption)
  · exact z_goodwo v4 w h
theorem a_runS (fx : zFx p s m args c B D aC aS nL cc own) {y : MethodName} {b : ByteArray} {mx np : Nat} {ret : Option FieldType} {index : Nat} {rm : Room} {As : List Value} {Qc : Array Value → State → Outcome → State → Prop} (cv : zCS y b mx ret np) (hl : Cond.methodLink own index y ∈ tb)
    (hM : Met l y (wo y b mx ret) rm (va_Pc As (zWl B D aC aS M)) Qc mc ms (zAb B)) (hn : As.length = np) (hst : st0 = As.reverse ++ rest) (hw : (rest.map fun v => v.category).sum ≤ 8)
    (hrc : rm.cells = mc) (hrs : rm.slots = ms) (hR : rm.frames + 1 ≤ R.frames ∧ 8 + (mx + 11) + rm.locals ≤ R.locals) (hd : decode cc pc = .ok (.invokestatic index, 3)) (hf : cells + mc ≤ R.cells ∧ slots + ms ≤ R.slots) : zRun p l e R s m args below meth c cells slots mc ms B D aC nL pc lv st0 rest M (Qc As.toArray) := by
  intro H locs ls hP hlv hS
  subst hst
  obtain ⟨v1, v2, v3, v5⟩ := cv
  refine va_runS (bytes := b) (maxL := mx) (ret := ret) (Ts := tb) ⟨fx.1, fx.2.1, fx.2.2.1, fx.2.2.2.1, fx.2.2.2.2.1⟩ hM (va_cwS np fx.2.2.2.2.1 ?_ rfl hrc hrs v5 hR) ⟨fun a U g mk q => ⟨q.1, q.2.blind⟩, fun U hU hW => ⟨rfl, zWl_at fx hP hS hU hW⟩⟩ rfl hn hlv.1 rfl (lv_room hw) hd hf
  intro w hw
  rcases List.mem_append.mp hw with h | h
  · simp only [List.mem_cons, List.not_mem_nil, or_false] at h
    rcases h with h | h | h <;> (rw [h]; apply z_good; assumption)
  · exact z_goodwo v3 w h
theorem a_runSN (fx : zFx p s m args c B D aC aS nL cc own) {y : MethodName} {b : ByteArray} {mx np : Nat} {ret : Option FieldType} {index : Nat} {host : String} (q9 : Nat) {rm : Room} {As : List Value} {Qc : Array Value → State → Outcome → State → Prop} (cv : zCS y b mx ret np) (hl : nestM[q9]? = some (own, index, y, host))
    (hM : Met l y (wo y b mx ret) rm (va_Pc As (zWl B D aC aS M)) Qc mc ms (zAb B)) (hn : As.length = np) (hst : st0 = As.reverse ++ rest) (hw : (rest.map fun v => v.category).sum ≤ 8)
    (hrc : rm.cells = mc) (hrs : rm.slots = ms) (hR : rm.frames + 1 ≤ R.frames ∧ 8 + (mx + 11) + rm.locals ≤ R.locals) (hd : decode cc pc = .ok (.invokestatic index, 3)) (hf : cells + mc ≤ R.cells ∧ slots + ms ≤ R.slots) : zRun p l e R s m args below meth c cells slots mc ms B D aC nL pc lv st0 rest M (Qc As.toArray) := by
  intro H locs ls hP hlv hS
  subst hst
  obtain ⟨v1, v2, v3, v5⟩ := cv
  exact va_runSN (bytes := b) (maxL := mx) (ret := ret) (Ts := tb) ⟨fx.1, fx.2.1, fx.2.2.1, fx.2.2.2.1, fx.2.2.2.2.1⟩ hM ⟨va_cnB np fx.2.2.2.2.1 (z_goodwo v3) rfl hrc hrs (fx.2.2.2.2.2.1.2.2.2.2.2.2.2.2 _ (List.mem_of_getElem? hl)) (fx.2.2.2.2.1 _ v2) v5 hR, fx.2.2.2.2.1 _ v1, trivial⟩ ⟨fun a U g mk q => ⟨q.1, q.2.blind⟩, fun U hU hW => ⟨rfl, zWl_at fx hP hS hU hW⟩⟩ rfl hn hlv.1 rfl (lv_room hw) hd hf
/-- a contract is met, if the walk from its entry meets it -/
theorem z_met {y : MethodName} {b : ByteArray} {mx : Nat} {ret : Option FieldType} {rm : Room} {as : List Value} {lv0 : List (Nat × Value)} {Qc : Array Value → State → Outcome → State → Prop} (hy : plainName y.cls = true) (ho : y.cls = own) (hlen : (lg_sl as).length ≤ mx) (hlv : lv_args 0 as = lv0)
    (body : ∀ p e s m below meth c, zFx p s m as.toArray c B D aC aS mx b own → meth.sig.returnType = ret → meth.locks = false → zAt p l e rm s m as.toArray below meth c 0 0 (MQ below Qc as.toArray s mc ms (zAb B)) B D aC mx 0 lv0 [] M) : Met l y (wo y b mx ret) rm (va_Pc as (zWl B D aC aS M)) Qc mc ms (zAb B) := by
  refine Met.ofW (cc := b) (maxL := mx) (ret := ret) hy rfl ?_
  intro p e s m args below meth c s₁ BB hml hv
  obtain ⟨rfl, hP, hsz, hC⟩ := hv
  subst ho
  have hl := lv_entry as (n := mx) hlen
  rw [lg_entry_eq]
  rw [hlv] at hl
  exact body p e s m below meth c ⟨BB.exec, BB.bytes, hml, findClass_of_methodNamed BB.named, fun w hw => atoms_spec (ws := wo y b mx ret) BB.pre w (List.mem_cons_of_mem _ hw), hC, hsz⟩ BB.returns BB.notSynchronized s.heap [] _ hP hl va_S.rf
theorem a_mmax (fx : zFx p s m args c B D aC aS nL cc own) {index : Nat} {x y : Int32} (h1 : Cond.methodLink own index Lib.Math.max.name ∈ tb) (h2 : Cond.static Lib.Math.max.name ∈ tb) (h3 : Cond.initialized "java/lang/Math" ∈ tb) (h4 : Cond.code Lib.Math.max.name Lib.Math.max.code 2 (some .int) ∈ tb) (hf : 1 ≤ R.frames) (hlo : (st.map fun v => v.category).sum + 13 ≤ R.locals) (hc : cells ≤ R.cells) (hs : slots ≤ R.slots) (hd : decode cc pc = .ok (.invokestatic index, 3)) (k : zAt p l e R s m args below meth c cells slots Q B D aC nL (pc + 3) lv (.int (if x < y then y else x) :: st) M) : zAt p l e R s m args below meth c cells slots Q B D aC nL pc lv (.int y :: .int x :: st) M := fun H locs ls hP hl hS =>
  va_mmax fx.1 fx.2.1 (fx.2.2.1.trans hl.1.symm) fx.2.2.2.1 (fx.2.2.2.2.1 _ h1) (fx.2.2.2.2.1 _ h2) (fx.2.2.2.2.1 _ h3) (fx.2.2.2.2.1 _ h4) hf hlo hc hs hd (k H locs ls hP hl hS)
theorem a_mmin (fx : zFx p s m args c B D aC aS nL cc own) {index : Nat} {x y : Int32} (h1 : Cond.methodLink own index Lib.Math.min.name ∈ tb) (h2 : Cond.static Lib.Math.min.name ∈ tb) (h3 : Cond.initialized "java/lang/Math" ∈ tb) (h4 : Cond.code Lib.Math.min.name Lib.Math.min.code 2 (some .int) ∈ tb) (hf : 1 ≤ R.frames) (hlo : (st.map fun v => v.category).sum + 13 ≤ R.locals) (hc : cells ≤ R.cells) (hs : slots ≤ R.slots) (hd : decode cc pc = .ok (.invokestatic index, 3)) (k : zAt p l e R s m args below meth c cells slots Q B D aC nL (pc + 3) lv (.int (if y < x then y else x) :: st) M) : zAt p l e R s m args below meth c cells slots Q B D aC nL pc lv (.int y :: .int x :: st) M := fun H locs ls hP hl hS =>
  va_mmin fx.1 fx.2.1 (fx.2.2.1.trans hl.1.symm) fx.2.2.2.1 (fx.2.2.2.2.1 _ h1) (fx.2.2.2.2.1 _ h2) (fx.2.2.2.2.1 _ h3) (fx.2.2.2.2.1 _ h4) hf hlo hc hs hd (k H locs ls hP hl hS)
theorem a_copy (fx : zFx p s m args c B D aC aS nL cc own) {index k1 k2 : Nat} {sp dp n : Int32} (h1 : Cond.methodLink own index arraycopyName ∈ tb) (h2 : Cond.native arraycopyName ∈ tb) (h3 : Cond.static arraycopyName ∈ tb) (h4 : Cond.initialized "java/lang/System" ∈ tb) (hk1 : k1 < N0) (ht1 : tg k1 = 20) (hk2 : k2 < N0) (ht2 : tg k2 = 20) (hsp : ¬ sp < 0) (hdp : ¬ dp < 0) (hn : ¬ n < 0) (hs1 : sp.toNatClampNeg + n.toNatClampNeg ≤ ln k1) (hs2 : dp.toNatClampNeg + n.toNatClampNeg ≤ ln k2) (hfit : ∀ i, i < n.toNatClampNeg → fits .byte (.int (M.1 k1 (sp.toNatClampNeg + i))) = true)
    (hf : 1 ≤ R.frames) (hlo : (st.map fun v => v.category).sum + (nativeFrameWords "java/lang/System" "arraycopy" 5 + 11) ≤ R.locals) (hd : decode cc pc = .ok (.invokestatic index, 3)) (k : zAt p l e R s m args below meth c cells slots Q B D aC nL (pc + 3) lv st (zA M k2 (va_cpy (M.1 k1) (M.1 k2) sp.toNatClampNeg dp.toNatClampNeg n.toNatClampNeg))) : zAt p l e R s m args below meth c cells slots Q B D aC nL pc lv (.int n :: .int dp :: .ref (B + k2) :: .int sp :: .ref (B + k1) :: st) M := by
  intro H locs ls hP hl hS
  refine va_copyi (ty := .byte) fx.1 fx.2.1 (fx.2.2.1.trans hl.1.symm) fx.2.2.2.1 (fx.2.2.2.2.1 _ h1) (fx.2.2.2.2.1 _ h2) (fx.2.2.2.2.1 _ h3) (fx.2.2.2.2.1 _ h4) fx.2.2.2.2.2.1.1 hP zcls_D hS k1 k2 0 0 ((zcls_at hk1).trans (by rw [zcel_i ht1 (by decide) (by decide)])) ((zcls_at hk2).trans (by rw [zcel_i ht2 (by decide) (by decide)])) rfl rfl rfl hsp hdp hn hs1 hs2 hfit hf hlo hd (fun H1 locs1 hP1 _ hS1 => ?_)
  rw [zcls_set (M := M) (M' := zA M k2 (va_cpy (M.1 k1) (M.1 k2) sp.toNatClampNeg dp.toNatClampNeg n.toNatClampNeg)) hk2 _ (by rw [zcel_i ht2 (by decide) (by decide), zA_s]) (fun a ha => zcel_same (zA_o ha) rfl rfl)] at hP1
  exact k H1 locs1 ls hP1 hl hS1
end CALLS
end
section
theorem lo_1_0 : ∀ {k : Nat}, k < N0 → tg k = 1 → k + 1 < N0 ∧ tg (k + 1) = 20 := by
  intro k h1 h2
  exact (by decide +kernel : ∀ k, k < N0 → tg k = 1 → k + 1 < N0 ∧ tg (k + 1) = 20) k h1 h2
theorem w_2 : Cond.initialized "MailChain$Row" ∈ tb := tb_1 2 (by decide +kernel) (by decide +kernel)
theorem w_17 : Cond.initialized "java/lang/System" ∈ tb := tb_1 17 (by decide +kernel) (by decide +kernel)
theorem w_46 : Cond.fieldLink "MailChain$Row" 9 "MailChain$Row" "bytes" "[B" ∈ tb := tb_1 46 (by decide +kernel) (by decide +kernel)
theorem w_47 : Cond.fieldLink "MailChain$Row" 15 "MailChain$Row" "size" "I" ∈ tb := tb_1 47 (by decide +kernel) (by decide +kernel)
theorem w_356 : Cond.instanceMethod y_Ro_wipe ∈ tb := tb_1 356 (by decide +kernel) (by decide +kernel)
theorem w_357 : Cond.selects "MailChain$Row" y_Ro_wipe y_Ro_wipe ∈ tb := tb_1 357 (by decide +kernel) (by decide +kernel)
theorem w_358 : Cond.code y_Ro_wipe b_Ro_wipe 1 none ∈ tb := tb_1 358 (by decide +kernel) (by decide +kernel)
theorem w_367 : Cond.methodLink "MailChain$Row" 55 y_Ro_at ∈ tb := tb_1 367 (by decide +kernel) (by decide +kernel)
theorem w_368 : Cond.instanceMethod y_Ro_at ∈ tb := tb_1 368 (by decide +kernel) (by decide +kernel)
theorem w_369 : Cond.selects "MailChain$Row" y_Ro_at y_Ro_at ∈ tb := tb_1 369 (by decide +kernel) (by decide +kernel)
theorem w_370 : Cond.code y_Ro_at b_Ro_at 2 (some FieldType.int) ∈ tb := tb_1 370 (by decide +kernel) (by decide +kernel)
theorem w_371 : Cond.methodLink "MailChain$Row" 63 y_Ro_divide ∈ tb := tb_1 371 (by decide +kernel) (by decide +kernel)
theorem w_372 : Cond.static y_Ro_divide ∈ tb := tb_1 372 (by decide +kernel) (by decide +kernel)
theorem w_373 : Cond.code y_Ro_divide b_Ro_divide 3 (some FieldType.int) ∈ tb := tb_1 373 (by decide +kernel) (by decide +kernel)
theorem w_374 : Cond.fieldLink "MailChain$Row" 67 "MailChain$Row" "REMAINDERS" "[I" ∈ tb := tb_1 374 (by decide +kernel) (by decide +kernel)
theorem w_467 : Cond.instanceMethod y_Ro_putRange ∈ tb := tb_1 467 (by decide +kernel) (by decide +kernel)
theorem w_468 : Cond.selects "MailChain$Row" y_Ro_putRange y_Ro_putRange ∈ tb := tb_1 468 (by decide +kernel) (by decide +kernel)
theorem w_469 : Cond.code y_Ro_putRange b_Ro_putRange 5 none ∈ tb := tb_1 469 (by decide +kernel) (by decide +kernel)
theorem w_470 : Cond.methodLink "MailChain$Row" 23 y_Ro_room ∈ tb := tb_1 470 (by decide +kernel) (by decide +kernel)
theorem w_471 : Cond.instanceMethod y_Ro_room ∈ tb := tb_1 471 (by decide +kernel) (by decide +kernel)
theorem w_472 : Cond.selects "MailChain$Row" y_Ro_room y_Ro_room ∈ tb := tb_1 472 (by decide +kernel) (by decide +kernel)
theorem w_473 : Cond.code y_Ro_room b_Ro_room 1 (some FieldType.int) ∈ tb := tb_1 473 (by decide +kernel) (by decide +kernel)
theorem w_474 : Cond.methodLink "MailChain$Row" 27 arraycopyName ∈ tb := tb_1 474 (by decide +kernel) (by decide +kernel)
theorem w_475 : Cond.static arraycopyName ∈ tb := tb_1 475 (by decide +kernel) (by decide +kernel)
theorem w_476 : Cond.native arraycopyName ∈ tb := tb_1 476 (by decide +kernel) (by decide +kernel)
theorem w_512 : Cond.instanceMethod y_Ro_put ∈ tb := tb_1 512 (by decide +kernel) (by decide +kernel)
theorem w_513 : Cond.selects "MailChain$Row" y_Ro_put y_Ro_put ∈ tb := tb_1 513 (by decide +kernel) (by decide +kernel)
theorem w_514 : Cond.code y_Ro_put b_Ro_put 2 none ∈ tb := tb_1 514 (by decide +kernel) (by decide +kernel)
theorem w_522 : Cond.methodLink "MailChain$Row" 49 y_Ro_put ∈ tb := tb_1 522 (by decide +kernel) (by decide +kernel)
theorem w_540 : Cond.methodLink "MailChain$Row" 59 y_Ro_order ∈ tb := tb_1 540 (by decide +kernel) (by decide +kernel)
theorem w_541 : Cond.instanceMethod y_Ro_order ∈ tb := tb_1 541 (by decide +kernel) (by decide +kernel)
theorem w_542 : Cond.selects "MailChain$Row" y_Ro_order y_Ro_order ∈ tb := tb_1 542 (by decide +kernel) (by decide +kernel)
theorem w_543 : Cond.code y_Ro_order b_Ro_order 5 (some FieldType.int) ∈ tb := tb_1 543 (by decide +kernel) (by decide +kernel)
theorem w_942 : Cond.methodLink "MailChain$Row" 33 y_Ro_wipe ∈ tb := tb_1 942 (by decide +kernel) (by decide +kernel)
theorem w_943 : Cond.methodLink "MailChain$Row" 36 y_Ro_putRange ∈ tb := tb_1 943 (by decide +kernel) (by decide +kernel)
theorem w_1188 : Cond.constantLong "MailChain$Row" 53 10 ∈ tb := tb_1 1188 (by decide +kernel) (by decide +kernel)
theorem w_1196 : Cond.instanceMethod y_Ro_has ∈ tb := tb_1 1196 (by decide +kernel) (by decide +kernel)
theorem w_1197 : Cond.selects "MailChain$Row" y_Ro_has y_Ro_has ∈ tb := tb_1 1197 (by decide +kernel) (by decide +kernel)
theorem w_1198 : Cond.code y_Ro_has b_Ro_has 2 (some FieldType.boolean) ∈ tb := tb_1 1198 (by decide +kernel) (by decide +kernel)
theorem w_1217 : Cond.methodLink "MailChain$Row" 19 y_Ro_has ∈ tb := tb_1 1217 (by decide +kernel) (by decide +kernel)
theorem cv_Ro_has : zCV y_Ro_has "MailChain$Row" b_Ro_has 2 (some FieldType.boolean) 1 := ⟨w_1196, w_1197, w_2, w_1198, rfl, by decide, by decide, by decide +kernel⟩
theorem cv_Ro_room : zCV y_Ro_room "MailChain$Row" b_Ro_room 1 (some FieldType.int) 0 := ⟨w_471, w_472, w_2, w_473, rfl, by decide, by decide, by decide +kernel⟩
theorem cv_Ro_wipe : zCV y_Ro_wipe "MailChain$Row" b_Ro_wipe 1 none 0 := ⟨w_356, w_357, w_2, w_358, rfl, by decide, by decide, by decide +kernel⟩
theorem cv_Ro_putRange : zCV y_Ro_putRange "MailChain$Row" b_Ro_putRange 5 none 3 := ⟨w_467, w_468, w_2, w_469, rfl, by decide, by decide, by decide +kernel⟩
theorem cv_Ro_put : zCV y_Ro_put "MailChain$Row" b_Ro_put 2 none 1 := ⟨w_512, w_513, w_2, w_514, rfl, by decide, by decide, by decide +kernel⟩
theorem cv_Ro_order : zCV y_Ro_order "MailChain$Row" b_Ro_order 5 (some FieldType.int) 2 := ⟨w_541, w_542, w_2, w_543, rfl, by decide, by decide, by decide +kernel⟩
theorem cv_Ro_at : zCV y_Ro_at "MailChain$Row" b_Ro_at 2 (some FieldType.int) 1 := ⟨w_368, w_369, w_2, w_370, rfl, by decide, by decide, by decide +kernel⟩
theorem cv_Ro_divide : zCS y_Ro_divide b_Ro_divide 3 (some FieldType.int) 2 := ⟨w_372, w_2, w_373, by decide, by decide, by decide +kernel⟩
/-- MailChain.Row.wipe()V -/
def Wp_Ro_wipe (a0 : Nat) (M : zM) (post : zM → Prop) : Prop := (∀ M1 : zM, M1 = zI M a0 1 0 → (post M1))
/-- MailChain.Row.room()I -/
def Wp_Ro_room (a0 : Nat) (M : zM) (post : Int32 → zM → Prop) : Prop := (post ((Int32.ofNat (ln (a0 + 1))) - (M.1 a0 1)) M)
/-- MailChain.Row.has(I)Z -/
def Wp_Ro_has (a0 : Nat) (i1 : Int32) (M : zM) (post : Int32 → zM → Prop) : Prop := ((i1 < 0 → (post 0 M)) ∧ (¬ i1 < 0 → (((M.1 a0 1) ≤ i1 → (post 0 M)) ∧ (¬ (M.1 a0 1) ≤ i1 → (post 1 M)))))
/-- MailChain.Row.at(I)I -/
def Wp_Ro_at (a0 : Nat) (i1 : Int32) (M : zM) (post : Int32 → zM → Prop) : Prop := ((i1 < 0 → (post (-1) M)) ∧ (¬ i1 < 0 → (((M.1 a0 1) ≤ i1 → (post (-1) M)) ∧ (¬ (M.1 a0 1) ≤ i1 → (vp_in i1 (ln (a0 + 1)) ∧ (post ((M.1 (a0 + 1) (i1).toNatClampNeg) &&& 255) M))))))
/-- MailChain.Row.put(I)V -/
def Wp_Ro_put (a0 : Nat) (i1 : Int32) (M : zM) (post : zM → Prop) : Prop := (((Int32.ofNat (ln (a0 + 1))) ≤ (M.1 a0 1) → (post M)) ∧ (¬ (Int32.ofNat (ln (a0 + 1))) ≤ (M.1 a0 1) → (vp_in (M.1 a0 1) (ln (a0 + 1)) ∧ (∀ M1 : zM, M1 = zI M (a0 + 1) ((M.1 a0 1)).toNatClampNeg (vp_nar .byte ((i1).toInt8.toInt32)) → (∀ M2 : zM, M2 = zI M1 a0 1 ((M1.1 a0 1) + 1) → (post M2))))))
/-- MailChain.Row.turn(II)V -/
def Wp_Ro_turn (a0 : Nat) (i1 : Int32) (i2 : Int32) (M : zM) (post : zM → Prop) : Prop := (Wp_Ro_has a0 i1 M (fun x2 M1 => ((x2 = 0 → (post M1)) ∧ (¬ x2 = 0 → (vp_in i1 (ln (a0 + 1)) ∧ (vp_in i1 (ln (a0 + 1)) ∧ (∀ M3 : zM, M3 = zI M1 (a0 + 1) (i1).toNatClampNeg (vp_nar .byte ((((M1.1 (a0 + 1) (i1).toNatClampNeg) ^^^ ((i2).toInt8.toInt32))).toInt8.toInt32)) → (post M3))))))))
/-- MailChain.Row.putRange(LMailChain$Row;II)V -/
def Wp_Ro_putRange (a0 : Nat) (a1 : Nat) (i2 : Int32) (i3 : Int32) (M : zM) (post : zM → Prop) : Prop := (∀ x1 : Int32, x1 = (i3 - i2) → ((i2 < 0 → (post M)) ∧ (¬ i2 < 0 → ((x1 ≤ 0 → (post M)) ∧ (¬ x1 ≤ 0 → (((M.1 a1 1) < i3 → (post M)) ∧ (¬ (M.1 a1 1) < i3 → (Wp_Ro_room a0 M (fun x3 M2 => ((x3 < x1 → (post M2)) ∧ (¬ x3 < x1 → (¬ i2 < 0 ∧ ¬ (M2.1 a0 1) < 0 ∧ ¬ x1 < 0 ∧ (i2).toNatClampNeg + (x1).toNatClampNeg ≤ ln (a1 + 1) ∧ ((M2.1 a0 1)).toNatClampNeg + (x1).toNatClampNeg ≤ ln (a0 + 1) ∧ (∀ i, i < (x1).toNatClampNeg → fits .byte (.int (M2.1 (a1 + 1) ((i2).toNatClampNeg + i))) = true) ∧ ∀ M4 : zM, M4 = zA M2 (a0 + 1) (va_cpy (M2.1 (a1 + 1)) (M2.1 (a0 + 1)) (i2).toNatClampNeg ((M2.1 a0 1)).toNatClampNeg (x1).toNatClampNeg) → (∀ M5 : zM, M5 = zI M4 a0 1 ((M4.1 a0 1) + x1) → (post M5))))))))))))))
/-- MailChain.Row.copy(LMailChain$Row;II)V -/
def Wp_Ro_copy (a0 : Nat) (a1 : Nat) (i2 : Int32) (i3 : Int32) (M : zM) (post : zM → Prop) : Prop := (Wp_Ro_wipe a0 M (fun M1 => (Wp_Ro_putRange a0 a1 i2 i3 M1 (fun M2 => (post M2)))))
/-- MailChain.Row.putOctal(II)V -/
def Wp_Ro_putOctal (a0 : Nat) (i1 : Int32) (i2 : Int32) (M : zM) (post : zM → Prop) : Prop := ∀ K6 : Int32 → zM → Prop, (∀ (v3 : Int32) (M : zM), ((v3 < 0 → (post M)) ∧ (¬ v3 < 0 → (Wp_Ro_put a0 (48 + ((((i1).toUInt32 >>> ((v3).toUInt32 &&& Int32.toUInt32 31)).toInt32) &&& 7)) M (fun M2 => (∀ x3 : Int32, x3 = v3 + (-3) → (K6 x3 M2)))))) → K6 v3 M) → (∀ x1 : Int32, x1 = (3 * (i2 - 1)) → (K6 x1 M))
/-- MailChain.Row.putDecimal(J)V -/
def Wp_Ro_putDecimal (a0 : Nat) (l1 : Int64) (M : zM) (post : zM → Prop) : Prop := ∀ K5 : Int64 → Int32 → zM → Prop, ∀ K34 : Int64 → zM → Prop, (∀ (v3 : Int64) (v5 : Int32) (M : zM), ((10 ≤ v5 → (K34 v3 M)) ∧ (¬ 10 ≤ v5 → (¬ v3 = 0 ∧ (((lg_cmp (l1 / v3) 10) < 0 → (K34 v3 M)) ∧ (¬ (lg_cmp (l1 / v3) 10) < 0 → (∀ y1 : Int64, y1 = (v3 * 10) → (∀ x2 : Int32, x2 = v5 + 1 → (K5 y1 x2 M)))))))) → K5 v3 v5 M) → (∀ (v3 : Int64) (M : zM), (((lg_cmp v3 0) ≤ 0 → (post M)) ∧ (¬ (lg_cmp v3 0) ≤ 0 → (¬ v3 = 0 ∧ (Wp_Ro_put a0 (48 + ((((l1 / v3) - (l1 / v3) / 10 * 10)).toInt32)) M (fun M3 => (∀ y4 : Int64, y4 = (v3 / 10) → (K34 y4 M3))))))) → K34 v3 M) → (K5 1 1 M)
/-- MailChain.Row.order(LMailChain$Row;I)I -/
def Wp_Ro_order (a0 : Nat) (a1 : Nat) (i2 : Int32) (M : zM) (post : Int32 → zM → Prop) : Prop := ∀ K2 : Int32 → zM → Prop, (∀ (v3 : Int32) (M : zM), (((M.1 a0 1) ≤ v3 → (post ((M.1 a0 1) - i2) M)) ∧ (¬ (M.1 a0 1) ≤ v3 → ((i2 ≤ v3 → (post ((M.1 a0 1) - i2) M)) ∧ (¬ i2 ≤ v3 → (((M.1 a1 1) ≤ v3 → (post ((M.1 a0 1) - i2) M)) ∧ (¬ (M.1 a1 1) ≤ v3 → (vp_in v3 (ln (a0 + 1)) ∧ (vp_in v3 (ln (a1 + 1)) ∧ (∀ x1 : Int32, x1 = (((M.1 (a0 + 1) (v3).toNatClampNeg) &&& 255) - ((M.1 (a1 + 1) (v3).toNatClampNeg) &&& 255)) → ((x1 = 0 → (∀ x2 : Int32, x2 = v3 + 1 → (K2 x2 M))) ∧ (¬ x1 = 0 → (post x1 M)))))))))))) → K2 v3 M) → (K2 0 M)
/-- MailChain.Row.same(LMailChain$Row;)Z -/
def Wp_Ro_same (a0 : Nat) (a1 : Nat) (M : zM) (post : Int32 → zM → Prop) : Prop := ((¬ (M.1 a0 1) = (M.1 a1 1) → (post 0 M)) ∧ ((M.1 a0 1) = (M.1 a1 1) → (Wp_Ro_order a0 a1 (M.1 a1 1) M (fun x2 M1 => ((¬ x2 = 0 → (post 0 M1)) ∧ (x2 = 0 → (post 1 M1)))))))
/-- MailChain.Row.divide(II)I -/
def Wp_Ro_divide (i0 : Int32) (i1 : Int32) (M : zM) (post : Int32 → zM → Prop) : Prop := (∀ x1 : Int32, x1 = (i0 ^^^ (i1 <<< (24 &&& 31))) → (vp_in (((x1).toUInt32 >>> (((28 : Int32)).toUInt32 &&& Int32.toUInt32 31)).toInt32) 16 ∧ (∀ x2 : Int32, x2 = ((x1 <<< (4 &&& 31)) ^^^ (remL.getD (((x1).toUInt32 >>> (((28 : Int32)).toUInt32 &&& Int32.toUInt32 31)).toInt32).toNatClampNeg 0)) → (vp_in (((x2).toUInt32 >>> (((28 : Int32)).toUInt32 &&& Int32.toUInt32 31)).toInt32) 16 ∧ (post ((x2 <<< (4 &&& 31)) ^^^ (remL.getD (((x2).toUInt32 >>> (((28 : Int32)).toUInt32 &&& Int32.toUInt32 31)).toInt32).toNatClampNeg 0)) M)))))
/-- MailChain.Row.sum(II)I -/
def Wp_Ro_sum (a0 : Nat) (i1 : Int32) (i2 : Int32) (M : zM) (post : Int32 → zM → Prop) : Prop := ∀ K5 : Int32 → Int32 → zM → Prop, ∀ K33 : Int32 → Int32 → zM → Prop, (∀ (v3 : Int32) (v4 : Int32) (M : zM), ((i2 ≤ v4 → (∀ x1 : Int32, x1 = (i2 - i1) → (K33 v3 x1 M))) ∧ (¬ i2 ≤ v4 → (Wp_Ro_at a0 v4 M (fun x3 M2 => (Wp_Ro_divide v3 x3 M2 (fun x5 M4 => (∀ x6 : Int32, x6 = v4 + 1 → (K5 x5 x6 M4)))))))) → K5 v3 v4 M) → (∀ (v3 : Int32) (v4 : Int32) (M : zM), ((v4 ≤ 0 → (post (v3 ^^^ (-1)) M)) ∧ (¬ v4 ≤ 0 → (Wp_Ro_divide v3 v4 M (fun x8 M7 => (∀ x9 : Int32, x9 = ((v4).toUInt32 >>> (((8 : Int32)).toUInt32 &&& Int32.toUInt32 31)).toInt32 → (K33 x8 x9 M7)))))) → K33 v3 v4 M) → (K5 0 i1 M)
theorem d_Ro_wipe_0 : decode b_Ro_wipe 0 = .ok (.aload_n 0, 1) := by decide +kernel
theorem d_Ro_wipe_1 : decode b_Ro_wipe 1 = .ok (.iconst 0, 1) := by decide +kernel
theorem d_Ro_wipe_2 : decode b_Ro_wipe 2 = .ok (.putfield 15, 3) := by decide +kernel
theorem d_Ro_wipe_5 : decode b_Ro_wipe 5 = .ok (.return_, 1) := by decide +kernel
theorem d_Ro_room_0 : decode b_Ro_room 0 = .ok (.aload_n 0, 1) := by decide +kernel
theorem d_Ro_room_1 : decode b_Ro_room 1 = .ok (.getfield 9, 3) := by decide +kernel
theorem d_Ro_room_4 : decode b_Ro_room 4 = .ok (.arraylength, 1) := by decide +kernel
theorem d_Ro_room_5 : decode b_Ro_room 5 = .ok (.aload_n 0, 1) := by decide +kernel
theorem d_Ro_room_6 : decode b_Ro_room 6 = .ok (.getfield 15, 3) := by decide +kernel
theorem d_Ro_room_9 : decode b_Ro_room 9 = .ok (.isub, 1) := by decide +kernel
theorem d_Ro_room_10 : decode b_Ro_room 10 = .ok (.ireturn, 1) := by decide +kernel
theorem d_Ro_has_0 : decode b_Ro_has 0 = .ok (.iload_n 1, 1) := by decide +kernel
theorem d_Ro_has_1 : decode b_Ro_has 1 = .ok (.ifCond .lt 15, 3) := by decide +kernel
theorem d_Ro_has_4 : decode b_Ro_has 4 = .ok (.iload_n 1, 1) := by decide +kernel
theorem d_Ro_has_5 : decode b_Ro_has 5 = .ok (.aload_n 0, 1) := by decide +kernel
theorem d_Ro_has_6 : decode b_Ro_has 6 = .ok (.getfield 15, 3) := by decide +kernel
theorem d_Ro_has_9 : decode b_Ro_has 9 = .ok (.if_icmp .ge 7, 3) := by decide +kernel
theorem d_Ro_has_12 : decode b_Ro_has 12 = .ok (.iconst 1, 1) := by decide +kernel
theorem d_Ro_has_13 : decode b_Ro_has 13 = .ok (.goto 4, 3) := by decide +kernel
theorem d_Ro_has_16 : decode b_Ro_has 16 = .ok (.iconst 0, 1) := by decide +kernel
theorem d_Ro_has_17 : decode b_Ro_has 17 = .ok (.ireturn, 1) := by decide +kernel
theorem d_Ro_at_0 : decode b_Ro_at 0 = .ok (.iload_n 1, 1) := by decide +kernel
theorem d_Ro_at_1 : decode b_Ro_at 1 = .ok (.ifCond .lt 24, 3) := by decide +kernel
theorem d_Ro_at_4 : decode b_Ro_at 4 = .ok (.iload_n 1, 1) := by decide +kernel
theorem d_Ro_at_5 : decode b_Ro_at 5 = .ok (.aload_n 0, 1) := by decide +kernel
theorem d_Ro_at_6 : decode b_Ro_at 6 = .ok (.getfield 15, 3) := by decide +kernel
theorem d_Ro_at_9 : decode b_Ro_at 9 = .ok (.if_icmp .ge 16, 3) := by decide +kernel
theorem d_Ro_at_12 : decode b_Ro_at 12 = .ok (.aload_n 0, 1) := by decide +kernel
theorem d_Ro_at_13 : decode b_Ro_at 13 = .ok (.getfield 9, 3) := by decide +kernel
theorem d_Ro_at_16 : decode b_Ro_at 16 = .ok (.iload_n 1, 1) := by decide +kernel
theorem d_Ro_at_17 : decode b_Ro_at 17 = .ok (.baload, 1) := by decide +kernel
theorem d_Ro_at_18 : decode b_Ro_at 18 = .ok (.sipush 255, 3) := by decide +kernel
theorem d_Ro_at_21 : decode b_Ro_at 21 = .ok (.iand, 1) := by decide +kernel
theorem d_Ro_at_22 : decode b_Ro_at 22 = .ok (.goto 4, 3) := by decide +kernel
theorem d_Ro_at_25 : decode b_Ro_at 25 = .ok (.iconst (-1), 1) := by decide +kernel
theorem d_Ro_at_26 : decode b_Ro_at 26 = .ok (.ireturn, 1) := by decide +kernel
theorem d_Ro_put_0 : decode b_Ro_put 0 = .ok (.aload_n 0, 1) := by decide +kernel
theorem d_Ro_put_1 : decode b_Ro_put 1 = .ok (.getfield 15, 3) := by decide +kernel
theorem d_Ro_put_4 : decode b_Ro_put 4 = .ok (.aload_n 0, 1) := by decide +kernel
theorem d_Ro_put_5 : decode b_Ro_put 5 = .ok (.getfield 9, 3) := by decide +kernel
theorem d_Ro_put_8 : decode b_Ro_put 8 = .ok (.arraylength, 1) := by decide +kernel
theorem d_Ro_put_9 : decode b_Ro_put 9 = .ok (.if_icmp .ge 24, 3) := by decide +kernel
theorem d_Ro_put_12 : decode b_Ro_put 12 = .ok (.aload_n 0, 1) := by decide +kernel
theorem d_Ro_put_13 : decode b_Ro_put 13 = .ok (.getfield 9, 3) := by decide +kernel
theorem d_Ro_put_16 : decode b_Ro_put 16 = .ok (.aload_n 0, 1) := by decide +kernel
theorem d_Ro_put_17 : decode b_Ro_put 17 = .ok (.getfield 15, 3) := by decide +kernel
theorem d_Ro_put_20 : decode b_Ro_put 20 = .ok (.iload_n 1, 1) := by decide +kernel
theorem d_Ro_put_21 : decode b_Ro_put 21 = .ok (.i2b, 1) := by decide +kernel
theorem d_Ro_put_22 : decode b_Ro_put 22 = .ok (.bastore, 1) := by decide +kernel
theorem d_Ro_put_23 : decode b_Ro_put 23 = .ok (.aload_n 0, 1) := by decide +kernel
theorem d_Ro_put_24 : decode b_Ro_put 24 = .ok (.dup, 1) := by decide +kernel
theorem d_Ro_put_25 : decode b_Ro_put 25 = .ok (.getfield 15, 3) := by decide +kernel
theorem d_Ro_put_28 : decode b_Ro_put 28 = .ok (.iconst 1, 1) := by decide +kernel
theorem d_Ro_put_29 : decode b_Ro_put 29 = .ok (.iadd, 1) := by decide +kernel
theorem d_Ro_put_30 : decode b_Ro_put 30 = .ok (.putfield 15, 3) := by decide +kernel
theorem d_Ro_put_33 : decode b_Ro_put 33 = .ok (.return_, 1) := by decide +kernel
theorem d_Ro_turn_0 : decode b_Ro_turn 0 = .ok (.aload_n 0, 1) := by decide +kernel
theorem d_Ro_turn_1 : decode b_Ro_turn 1 = .ok (.iload_n 1, 1) := by decide +kernel
theorem d_Ro_turn_2 : decode b_Ro_turn 2 = .ok (.invokevirtual 19, 3) := by decide +kernel
theorem d_Ro_turn_5 : decode b_Ro_turn 5 = .ok (.ifCond .eq 15, 3) := by decide +kernel
theorem d_Ro_turn_8 : decode b_Ro_turn 8 = .ok (.aload_n 0, 1) := by decide +kernel
theorem d_Ro_turn_9 : decode b_Ro_turn 9 = .ok (.getfield 9, 3) := by decide +kernel
theorem d_Ro_turn_12 : decode b_Ro_turn 12 = .ok (.iload_n 1, 1) := by decide +kernel
theorem d_Ro_turn_13 : decode b_Ro_turn 13 = .ok (.dup2, 1) := by decide +kernel
theorem d_Ro_turn_14 : decode b_Ro_turn 14 = .ok (.baload, 1) := by decide +kernel
theorem d_Ro_turn_15 : decode b_Ro_turn 15 = .ok (.iload_n 2, 1) := by decide +kernel
theorem d_Ro_turn_16 : decode b_Ro_turn 16 = .ok (.i2b, 1) := by decide +kernel
theorem d_Ro_turn_17 : decode b_Ro_turn 17 = .ok (.ixor, 1) := by decide +kernel
theorem d_Ro_turn_18 : decode b_Ro_turn 18 = .ok (.i2b, 1) := by decide +kernel
theorem d_Ro_turn_19 : decode b_Ro_turn 19 = .ok (.bastore, 1) := by decide +kernel
theorem d_Ro_turn_20 : decode b_Ro_turn 20 = .ok (.return_, 1) := by decide +kernel
theorem d_Ro_putRange_0 : decode b_Ro_putRange 0 = .ok (.iload_n 3, 1) := by decide +kernel
theorem d_Ro_putRange_1 : decode b_Ro_putRange 1 = .ok (.iload_n 2, 1) := by decide +kernel
theorem d_Ro_putRange_2 : decode b_Ro_putRange 2 = .ok (.isub, 1) := by decide +kernel
theorem d_Ro_putRange_3 : decode b_Ro_putRange 3 = .ok (.istore 4, 2) := by decide +kernel
theorem d_Ro_putRange_5 : decode b_Ro_putRange 5 = .ok (.iload_n 2, 1) := by decide +kernel
theorem d_Ro_putRange_6 : decode b_Ro_putRange 6 = .ok (.ifCond .lt 54, 3) := by decide +kernel
theorem d_Ro_putRange_9 : decode b_Ro_putRange 9 = .ok (.iload 4, 2) := by decide +kernel
theorem d_Ro_putRange_11 : decode b_Ro_putRange 11 = .ok (.ifCond .le 49, 3) := by decide +kernel
theorem d_Ro_putRange_14 : decode b_Ro_putRange 14 = .ok (.iload_n 3, 1) := by decide +kernel
theorem d_Ro_putRange_15 : decode b_Ro_putRange 15 = .ok (.aload_n 1, 1) := by decide +kernel
theorem d_Ro_putRange_16 : decode b_Ro_putRange 16 = .ok (.getfield 15, 3) := by decide +kernel
theorem d_Ro_putRange_19 : decode b_Ro_putRange 19 = .ok (.if_icmp .gt 41, 3) := by decide +kernel
theorem d_Ro_putRange_22 : decode b_Ro_putRange 22 = .ok (.iload 4, 2) := by decide +kernel
theorem d_Ro_putRange_24 : decode b_Ro_putRange 24 = .ok (.aload_n 0, 1) := by decide +kernel
theorem d_Ro_putRange_25 : decode b_Ro_putRange 25 = .ok (.invokevirtual 23, 3) := by decide +kernel
theorem d_Ro_putRange_28 : decode b_Ro_putRange 28 = .ok (.if_icmp .gt 32, 3) := by decide +kernel
theorem d_Ro_putRange_31 : decode b_Ro_putRange 31 = .ok (.aload_n 1, 1) := by decide +kernel
theorem d_Ro_putRange_32 : decode b_Ro_putRange 32 = .ok (.getfield 9, 3) := by decide +kernel
theorem d_Ro_putRange_35 : decode b_Ro_putRange 35 = .ok (.iload_n 2, 1) := by decide +kernel
theorem d_Ro_putRange_36 : decode b_Ro_putRange 36 = .ok (.aload_n 0, 1) := by decide +kernel
theorem d_Ro_putRange_37 : decode b_Ro_putRange 37 = .ok (.getfield 9, 3) := by decide +kernel
theorem d_Ro_putRange_40 : decode b_Ro_putRange 40 = .ok (.aload_n 0, 1) := by decide +kernel
theorem d_Ro_putRange_41 : decode b_Ro_putRange 41 = .ok (.getfield 15, 3) := by decide +kernel
theorem d_Ro_putRange_44 : decode b_Ro_putRange 44 = .ok (.iload 4, 2) := by decide +kernel
theorem d_Ro_putRange_46 : decode b_Ro_putRange 46 = .ok (.invokestatic 27, 3) := by decide +kernel
theorem d_Ro_putRange_49 : decode b_Ro_putRange 49 = .ok (.aload_n 0, 1) := by decide +kernel
theorem d_Ro_putRange_50 : decode b_Ro_putRange 50 = .ok (.dup, 1) := by decide +kernel
theorem d_Ro_putRange_51 : decode b_Ro_putRange 51 = .ok (.getfield 15, 3) := by decide +kernel
theorem d_Ro_putRange_54 : decode b_Ro_putRange 54 = .ok (.iload 4, 2) := by decide +kernel
theorem d_Ro_putRange_56 : decode b_Ro_putRange 56 = .ok (.iadd, 1) := by decide +kernel
theorem d_Ro_putRange_57 : decode b_Ro_putRange 57 = .ok (.putfield 15, 3) := by decide +kernel
theorem d_Ro_putRange_60 : decode b_Ro_putRange 60 = .ok (.return_, 1) := by decide +kernel
theorem d_Ro_copy_0 : decode b_Ro_copy 0 = .ok (.aload_n 0, 1) := by decide +kernel
theorem d_Ro_copy_1 : decode b_Ro_copy 1 = .ok (.invokevirtual 33, 3) := by decide +kernel
theorem d_Ro_copy_4 : decode b_Ro_copy 4 = .ok (.aload_n 0, 1) := by decide +kernel
theorem d_Ro_copy_5 : decode b_Ro_copy 5 = .ok (.aload_n 1, 1) := by decide +kernel
theorem d_Ro_copy_6 : decode b_Ro_copy 6 = .ok (.iload_n 2, 1) := by decide +kernel
theorem d_Ro_copy_7 : decode b_Ro_copy 7 = .ok (.iload_n 3, 1) := by decide +kernel
theorem d_Ro_copy_8 : decode b_Ro_copy 8 = .ok (.invokevirtual 36, 3) := by decide +kernel
theorem d_Ro_copy_11 : decode b_Ro_copy 11 = .ok (.return_, 1) := by decide +kernel
theorem d_Ro_putOctal_0 : decode b_Ro_putOctal 0 = .ok (.iconst 3, 1) := by decide +kernel
theorem d_Ro_putOctal_1 : decode b_Ro_putOctal 1 = .ok (.iload_n 2, 1) := by decide +kernel
theorem d_Ro_putOctal_2 : decode b_Ro_putOctal 2 = .ok (.iconst 1, 1) := by decide +kernel
theorem d_Ro_putOctal_3 : decode b_Ro_putOctal 3 = .ok (.isub, 1) := by decide +kernel
theorem d_Ro_putOctal_4 : decode b_Ro_putOctal 4 = .ok (.imul, 1) := by decide +kernel
theorem d_Ro_putOctal_5 : decode b_Ro_putOctal 5 = .ok (.istore_n 3, 1) := by decide +kernel
theorem d_Ro_putOctal_6 : decode b_Ro_putOctal 6 = .ok (.iload_n 3, 1) := by decide +kernel
theorem d_Ro_putOctal_7 : decode b_Ro_putOctal 7 = .ok (.ifCond .lt 22, 3) := by decide +kernel
theorem d_Ro_putOctal_10 : decode b_Ro_putOctal 10 = .ok (.aload_n 0, 1) := by decide +kernel
theorem d_Ro_putOctal_11 : decode b_Ro_putOctal 11 = .ok (.bipush 48, 2) := by decide +kernel
theorem d_Ro_putOctal_13 : decode b_Ro_putOctal 13 = .ok (.iload_n 1, 1) := by decide +kernel
theorem d_Ro_putOctal_14 : decode b_Ro_putOctal 14 = .ok (.iload_n 3, 1) := by decide +kernel
theorem d_Ro_putOctal_15 : decode b_Ro_putOctal 15 = .ok (.iushr, 1) := by decide +kernel
theorem d_Ro_putOctal_16 : decode b_Ro_putOctal 16 = .ok (.bipush 7, 2) := by decide +kernel
theorem d_Ro_putOctal_18 : decode b_Ro_putOctal 18 = .ok (.iand, 1) := by decide +kernel
theorem d_Ro_putOctal_19 : decode b_Ro_putOctal 19 = .ok (.iadd, 1) := by decide +kernel
theorem d_Ro_putOctal_20 : decode b_Ro_putOctal 20 = .ok (.invokevirtual 49, 3) := by decide +kernel
theorem d_Ro_putOctal_23 : decode b_Ro_putOctal 23 = .ok (.iinc 3 (-3), 3) := by decide +kernel
theorem d_Ro_putOctal_26 : decode b_Ro_putOctal 26 = .ok (.goto (-20), 3) := by decide +kernel
theorem d_Ro_putOctal_29 : decode b_Ro_putOctal 29 = .ok (.return_, 1) := by decide +kernel
theorem d_Ro_putDecimal_0 : decode b_Ro_putDecimal 0 = .ok (.lconst 1, 1) := by decide +kernel
theorem d_Ro_putDecimal_1 : decode b_Ro_putDecimal 1 = .ok (.lstore_n 3, 1) := by decide +kernel
theorem d_Ro_putDecimal_2 : decode b_Ro_putDecimal 2 = .ok (.iconst 1, 1) := by decide +kernel
theorem d_Ro_putDecimal_3 : decode b_Ro_putDecimal 3 = .ok (.istore 5, 2) := by decide +kernel
theorem d_Ro_putDecimal_5 : decode b_Ro_putDecimal 5 = .ok (.iload 5, 2) := by decide +kernel
theorem d_Ro_putDecimal_7 : decode b_Ro_putDecimal 7 = .ok (.bipush 10, 2) := by decide +kernel
theorem d_Ro_putDecimal_9 : decode b_Ro_putDecimal 9 = .ok (.if_icmp .ge 25, 3) := by decide +kernel
theorem d_Ro_putDecimal_12 : decode b_Ro_putDecimal 12 = .ok (.lload_n 1, 1) := by decide +kernel
theorem d_Ro_putDecimal_13 : decode b_Ro_putDecimal 13 = .ok (.lload_n 3, 1) := by decide +kernel
theorem d_Ro_putDecimal_14 : decode b_Ro_putDecimal 14 = .ok (.ldiv, 1) := by decide +kernel
theorem d_Ro_putDecimal_15 : decode b_Ro_putDecimal 15 = .ok (.ldc2_w 53, 3) := by decide +kernel
theorem d_Ro_putDecimal_18 : decode b_Ro_putDecimal 18 = .ok (.lcmp, 1) := by decide +kernel
theorem d_Ro_putDecimal_19 : decode b_Ro_putDecimal 19 = .ok (.ifCond .lt 15, 3) := by decide +kernel
theorem d_Ro_putDecimal_22 : decode b_Ro_putDecimal 22 = .ok (.lload_n 3, 1) := by decide +kernel
theorem d_Ro_putDecimal_23 : decode b_Ro_putDecimal 23 = .ok (.ldc2_w 53, 3) := by decide +kernel
theorem d_Ro_putDecimal_26 : decode b_Ro_putDecimal 26 = .ok (.lmul, 1) := by decide +kernel
theorem d_Ro_putDecimal_27 : decode b_Ro_putDecimal 27 = .ok (.lstore_n 3, 1) := by decide +kernel
theorem d_Ro_putDecimal_28 : decode b_Ro_putDecimal 28 = .ok (.iinc 5 1, 3) := by decide +kernel
theorem d_Ro_putDecimal_31 : decode b_Ro_putDecimal 31 = .ok (.goto (-26), 3) := by decide +kernel
theorem d_Ro_putDecimal_34 : decode b_Ro_putDecimal 34 = .ok (.lload_n 3, 1) := by decide +kernel
theorem d_Ro_putDecimal_35 : decode b_Ro_putDecimal 35 = .ok (.lconst 0, 1) := by decide +kernel
theorem d_Ro_putDecimal_36 : decode b_Ro_putDecimal 36 = .ok (.lcmp, 1) := by decide +kernel
theorem d_Ro_putDecimal_37 : decode b_Ro_putDecimal 37 = .ok (.ifCond .le 27, 3) := by decide +kernel
theorem d_Ro_putDecimal_40 : decode b_Ro_putDecimal 40 = .ok (.aload_n 0, 1) := by decide +kernel
theorem d_Ro_putDecimal_41 : decode b_Ro_putDecimal 41 = .ok (.bipush 48, 2) := by decide +kernel
theorem d_Ro_putDecimal_43 : decode b_Ro_putDecimal 43 = .ok (.lload_n 1, 1) := by decide +kernel
theorem d_Ro_putDecimal_44 : decode b_Ro_putDecimal 44 = .ok (.lload_n 3, 1) := by decide +kernel
theorem d_Ro_putDecimal_45 : decode b_Ro_putDecimal 45 = .ok (.ldiv, 1) := by decide +kernel
theorem d_Ro_putDecimal_46 : decode b_Ro_putDecimal 46 = .ok (.ldc2_w 53, 3) := by decide +kernel
theorem d_Ro_putDecimal_49 : decode b_Ro_putDecimal 49 = .ok (.lrem, 1) := by decide +kernel
theorem d_Ro_putDecimal_50 : decode b_Ro_putDecimal 50 = .ok (.l2i, 1) := by decide +kernel
theorem d_Ro_putDecimal_51 : decode b_Ro_putDecimal 51 = .ok (.iadd, 1) := by decide +kernel
theorem d_Ro_putDecimal_52 : decode b_Ro_putDecimal 52 = .ok (.invokevirtual 49, 3) := by decide +kernel
theorem d_Ro_putDecimal_55 : decode b_Ro_putDecimal 55 = .ok (.lload_n 3, 1) := by decide +kernel
theorem d_Ro_putDecimal_56 : decode b_Ro_putDecimal 56 = .ok (.ldc2_w 53, 3) := by decide +kernel
theorem d_Ro_putDecimal_59 : decode b_Ro_putDecimal 59 = .ok (.ldiv, 1) := by decide +kernel
theorem d_Ro_putDecimal_60 : decode b_Ro_putDecimal 60 = .ok (.lstore_n 3, 1) := by decide +kernel
theorem d_Ro_putDecimal_61 : decode b_Ro_putDecimal 61 = .ok (.goto (-27), 3) := by decide +kernel
theorem d_Ro_putDecimal_64 : decode b_Ro_putDecimal 64 = .ok (.return_, 1) := by decide +kernel
theorem d_Ro_order_0 : decode b_Ro_order 0 = .ok (.iconst 0, 1) := by decide +kernel
theorem d_Ro_order_1 : decode b_Ro_order 1 = .ok (.istore_n 3, 1) := by decide +kernel
theorem d_Ro_order_2 : decode b_Ro_order 2 = .ok (.iload_n 3, 1) := by decide +kernel
theorem d_Ro_order_3 : decode b_Ro_order 3 = .ok (.aload_n 0, 1) := by decide +kernel
theorem d_Ro_order_4 : decode b_Ro_order 4 = .ok (.getfield 15, 3) := by decide +kernel
theorem d_Ro_order_7 : decode b_Ro_order 7 = .ok (.if_icmp .ge 53, 3) := by decide +kernel
theorem d_Ro_order_10 : decode b_Ro_order 10 = .ok (.iload_n 3, 1) := by decide +kernel
theorem d_Ro_order_11 : decode b_Ro_order 11 = .ok (.iload_n 2, 1) := by decide +kernel
theorem d_Ro_order_12 : decode b_Ro_order 12 = .ok (.if_icmp .ge 48, 3) := by decide +kernel
theorem d_Ro_order_15 : decode b_Ro_order 15 = .ok (.iload_n 3, 1) := by decide +kernel
theorem d_Ro_order_16 : decode b_Ro_order 16 = .ok (.aload_n 1, 1) := by decide +kernel
theorem d_Ro_order_17 : decode b_Ro_order 17 = .ok (.getfield 15, 3) := by decide +kernel
theorem d_Ro_order_20 : decode b_Ro_order 20 = .ok (.if_icmp .ge 40, 3) := by decide +kernel
theorem d_Ro_order_23 : decode b_Ro_order 23 = .ok (.aload_n 0, 1) := by decide +kernel
theorem d_Ro_order_24 : decode b_Ro_order 24 = .ok (.getfield 9, 3) := by decide +kernel
theorem d_Ro_order_27 : decode b_Ro_order 27 = .ok (.iload_n 3, 1) := by decide +kernel
theorem d_Ro_order_28 : decode b_Ro_order 28 = .ok (.baload, 1) := by decide +kernel
theorem d_Ro_order_29 : decode b_Ro_order 29 = .ok (.sipush 255, 3) := by decide +kernel
theorem d_Ro_order_32 : decode b_Ro_order 32 = .ok (.iand, 1) := by decide +kernel
theorem d_Ro_order_33 : decode b_Ro_order 33 = .ok (.aload_n 1, 1) := by decide +kernel
theorem d_Ro_order_34 : decode b_Ro_order 34 = .ok (.getfield 9, 3) := by decide +kernel
theorem d_Ro_order_37 : decode b_Ro_order 37 = .ok (.iload_n 3, 1) := by decide +kernel
theorem d_Ro_order_38 : decode b_Ro_order 38 = .ok (.baload, 1) := by decide +kernel
theorem d_Ro_order_39 : decode b_Ro_order 39 = .ok (.sipush 255, 3) := by decide +kernel
theorem d_Ro_order_42 : decode b_Ro_order 42 = .ok (.iand, 1) := by decide +kernel
theorem d_Ro_order_43 : decode b_Ro_order 43 = .ok (.isub, 1) := by decide +kernel
theorem d_Ro_order_44 : decode b_Ro_order 44 = .ok (.istore 4, 2) := by decide +kernel
theorem d_Ro_order_46 : decode b_Ro_order 46 = .ok (.iload 4, 2) := by decide +kernel
theorem d_Ro_order_48 : decode b_Ro_order 48 = .ok (.ifCond .eq 6, 3) := by decide +kernel
theorem d_Ro_order_51 : decode b_Ro_order 51 = .ok (.iload 4, 2) := by decide +kernel
theorem d_Ro_order_53 : decode b_Ro_order 53 = .ok (.ireturn, 1) := by decide +kernel
theorem d_Ro_order_54 : decode b_Ro_order 54 = .ok (.iinc 3 1, 3) := by decide +kernel
theorem d_Ro_order_57 : decode b_Ro_order 57 = .ok (.goto (-55), 3) := by decide +kernel
theorem d_Ro_order_60 : decode b_Ro_order 60 = .ok (.aload_n 0, 1) := by decide +kernel
theorem d_Ro_order_61 : decode b_Ro_order 61 = .ok (.getfield 15, 3) := by decide +kernel
theorem d_Ro_order_64 : decode b_Ro_order 64 = .ok (.iload_n 2, 1) := by decide +kernel
theorem d_Ro_order_65 : decode b_Ro_order 65 = .ok (.isub, 1) := by decide +kernel
theorem d_Ro_order_66 : decode b_Ro_order 66 = .ok (.ireturn, 1) := by decide +kernel
theorem d_Ro_same_0 : decode b_Ro_same 0 = .ok (.aload_n 0, 1) := by decide +kernel
theorem d_Ro_same_1 : decode b_Ro_same 1 = .ok (.getfield 15, 3) := by decide +kernel
theorem d_Ro_same_4 : decode b_Ro_same 4 = .ok (.aload_n 1, 1) := by decide +kernel
theorem d_Ro_same_5 : decode b_Ro_same 5 = .ok (.getfield 15, 3) := by decide +kernel
theorem d_Ro_same_8 : decode b_Ro_same 8 = .ok (.if_icmp .ne 19, 3) := by decide +kernel
theorem d_Ro_same_11 : decode b_Ro_same 11 = .ok (.aload_n 0, 1) := by decide +kernel
theorem d_Ro_same_12 : decode b_Ro_same 12 = .ok (.aload_n 1, 1) := by decide +kernel
theorem d_Ro_same_13 : decode b_Ro_same 13 = .ok (.aload_n 1, 1) := by decide +kernel
theorem d_Ro_same_14 : decode b_Ro_same 14 = .ok (.getfield 15, 3) := by decide +kernel
theorem d_Ro_same_17 : decode b_Ro_same 17 = .ok (.invokevirtual 59, 3) := by decide +kernel
theorem d_Ro_same_20 : decode b_Ro_same 20 = .ok (.ifCond .ne 7, 3) := by decide +kernel
theorem d_Ro_same_23 : decode b_Ro_same 23 = .ok (.iconst 1, 1) := by decide +kernel
theorem d_Ro_same_24 : decode b_Ro_same 24 = .ok (.goto 4, 3) := by decide +kernel
theorem d_Ro_same_27 : decode b_Ro_same 27 = .ok (.iconst 0, 1) := by decide +kernel
theorem d_Ro_same_28 : decode b_Ro_same 28 = .ok (.ireturn, 1) := by decide +kernel
theorem d_Ro_divide_0 : decode b_Ro_divide 0 = .ok (.iload_n 0, 1) := by decide +kernel
theorem d_Ro_divide_1 : decode b_Ro_divide 1 = .ok (.iload_n 1, 1) := by decide +kernel
theorem d_Ro_divide_2 : decode b_Ro_divide 2 = .ok (.bipush 24, 2) := by decide +kernel
theorem d_Ro_divide_4 : decode b_Ro_divide 4 = .ok (.ishl, 1) := by decide +kernel
theorem d_Ro_divide_5 : decode b_Ro_divide 5 = .ok (.ixor, 1) := by decide +kernel
theorem d_Ro_divide_6 : decode b_Ro_divide 6 = .ok (.istore_n 2, 1) := by decide +kernel
theorem d_Ro_divide_7 : decode b_Ro_divide 7 = .ok (.iload_n 2, 1) := by decide +kernel
theorem d_Ro_divide_8 : decode b_Ro_divide 8 = .ok (.iconst 4, 1) := by decide +kernel
theorem d_Ro_divide_9 : decode b_Ro_divide 9 = .ok (.ishl, 1) := by decide +kernel
theorem d_Ro_divide_10 : decode b_Ro_divide 10 = .ok (.getstatic 67, 3) := by decide +kernel
theorem d_Ro_divide_13 : decode b_Ro_divide 13 = .ok (.iload_n 2, 1) := by decide +kernel
theorem d_Ro_divide_14 : decode b_Ro_divide 14 = .ok (.bipush 28, 2) := by decide +kernel
theorem d_Ro_divide_16 : decode b_Ro_divide 16 = .ok (.iushr, 1) := by decide +kernel
theorem d_Ro_divide_17 : decode b_Ro_divide 17 = .ok (.iaload, 1) := by decide +kernel
theorem d_Ro_divide_18 : decode b_Ro_divide 18 = .ok (.ixor, 1) := by decide +kernel
theorem d_Ro_divide_19 : decode b_Ro_divide 19 = .ok (.istore_n 2, 1) := by decide +kernel
theorem d_Ro_divide_20 : decode b_Ro_divide 20 = .ok (.iload_n 2, 1) := by decide +kernel
theorem d_Ro_divide_21 : decode b_Ro_divide 21 = .ok (.iconst 4, 1) := by decide +kernel
theorem d_Ro_divide_22 : decode b_Ro_divide 22 = .ok (.ishl, 1) := by decide +kernel
theorem d_Ro_divide_23 : decode b_Ro_divide 23 = .ok (.getstatic 67, 3) := by decide +kernel
theorem d_Ro_divide_26 : decode b_Ro_divide 26 = .ok (.iload_n 2, 1) := by decide +kernel
theorem d_Ro_divide_27 : decode b_Ro_divide 27 = .ok (.bipush 28, 2) := by decide +kernel
theorem d_Ro_divide_29 : decode b_Ro_divide 29 = .ok (.iushr, 1) := by decide +kernel
theorem d_Ro_divide_30 : decode b_Ro_divide 30 = .ok (.iaload, 1) := by decide +kernel
theorem d_Ro_divide_31 : decode b_Ro_divide 31 = .ok (.ixor, 1) := by decide +kernel
theorem d_Ro_divide_32 : decode b_Ro_divide 32 = .ok (.ireturn, 1) := by decide +kernel
theorem d_Ro_sum_0 : decode b_Ro_sum 0 = .ok (.iconst 0, 1) := by decide +kernel
theorem d_Ro_sum_1 : decode b_Ro_sum 1 = .ok (.istore_n 3, 1) := by decide +kernel
theorem d_Ro_sum_2 : decode b_Ro_sum 2 = .ok (.iload_n 1, 1) := by decide +kernel
theorem d_Ro_sum_3 : decode b_Ro_sum 3 = .ok (.istore 4, 2) := by decide +kernel
theorem d_Ro_sum_5 : decode b_Ro_sum 5 = .ok (.iload 4, 2) := by decide +kernel
theorem d_Ro_sum_7 : decode b_Ro_sum 7 = .ok (.iload_n 2, 1) := by decide +kernel
theorem d_Ro_sum_8 : decode b_Ro_sum 8 = .ok (.if_icmp .ge 20, 3) := by decide +kernel
theorem d_Ro_sum_11 : decode b_Ro_sum 11 = .ok (.iload_n 3, 1) := by decide +kernel
theorem d_Ro_sum_12 : decode b_Ro_sum 12 = .ok (.aload_n 0, 1) := by decide +kernel
theorem d_Ro_sum_13 : decode b_Ro_sum 13 = .ok (.iload 4, 2) := by decide +kernel
theorem d_Ro_sum_15 : decode b_Ro_sum 15 = .ok (.invokevirtual 55, 3) := by decide +kernel
theorem d_Ro_sum_18 : decode b_Ro_sum 18 = .ok (.invokestatic 63, 3) := by decide +kernel
theorem d_Ro_sum_21 : decode b_Ro_sum 21 = .ok (.istore_n 3, 1) := by decide +kernel
theorem d_Ro_sum_22 : decode b_Ro_sum 22 = .ok (.iinc 4 1, 3) := by decide +kernel
theorem d_Ro_sum_25 : decode b_Ro_sum 25 = .ok (.goto (-20), 3) := by decide +kernel
theorem d_Ro_sum_28 : decode b_Ro_sum 28 = .ok (.iload_n 2, 1) := by decide +kernel
theorem d_Ro_sum_29 : decode b_Ro_sum 29 = .ok (.iload_n 1, 1) := by decide +kernel
theorem d_Ro_sum_30 : decode b_Ro_sum 30 = .ok (.isub, 1) := by decide +kernel
theorem d_Ro_sum_31 : decode b_Ro_sum 31 = .ok (.istore 4, 2) := by decide +kernel
theorem d_Ro_sum_33 : decode b_Ro_sum 33 = .ok (.iload 4, 2) := by decide +kernel
theorem d_Ro_sum_35 : decode b_Ro_sum 35 = .ok (.ifCond .le 20, 3) := by decide +kernel
theorem d_Ro_sum_38 : decode b_Ro_sum 38 = .ok (.iload_n 3, 1) := by decide +kernel
theorem d_Ro_sum_39 : decode b_Ro_sum 39 = .ok (.iload 4, 2) := by decide +kernel
theorem d_Ro_sum_41 : decode b_Ro_sum 41 = .ok (.invokestatic 63, 3) := by decide +kernel
theorem d_Ro_sum_44 : decode b_Ro_sum 44 = .ok (.istore_n 3, 1) := by decide +kernel
theorem d_Ro_sum_45 : decode b_Ro_sum 45 = .ok (.iload 4, 2) := by decide +kernel
theorem d_Ro_sum_47 : decode b_Ro_sum 47 = .ok (.bipush 8, 2) := by decide +kernel
theorem d_Ro_sum_49 : decode b_Ro_sum 49 = .ok (.iushr, 1) := by decide +kernel
theorem d_Ro_sum_50 : decode b_Ro_sum 50 = .ok (.istore 4, 2) := by decide +kernel
theorem d_Ro_sum_52 : decode b_Ro_sum 52 = .ok (.goto (-19), 3) := by decide +kernel
theorem d_Ro_sum_55 : decode b_Ro_sum 55 = .ok (.iload_n 3, 1) := by decide +kernel
theorem d_Ro_sum_56 : decode b_Ro_sum 56 = .ok (.iconst (-1), 1) := by decide +kernel
theorem d_Ro_sum_57 : decode b_Ro_sum 57 = .ok (.ixor, 1) := by decide +kernel
theorem d_Ro_sum_58 : decode b_Ro_sum 58 = .ok (.ireturn, 1) := by decide +kernel
set_option maxRecDepth 100000 in
set_option maxHeartbeats 4000000 in
theorem Met_Ro_wipe (l : Launch) (B : Nat) (D : va_G) (aC : Nat → ClassId) (aS : Nat → Nat) {a0 : Nat} {M : zM} {post : zM → Prop} (hk0 : a0 < N0) (ht0 : tg a0 = 1) (h : Wp_Ro_wipe a0 M post) : Met l y_Ro_wipe (wo y_Ro_wipe b_Ro_wipe 1 none) { frames := 0, cells := 0, slots := 0, locals := 0 } (va_Pc [.ref (B + a0)] (zWl B D aC aS M)) (zQv B D aC post) 0 0 (zAb B) := by
  refine z_met (own := "MailChain$Row") (lv0 := [(0, .ref (B + a0))]) (by decide) rfl (Nat.le_of_ble_eq_true rfl) rfl ?_
  intro p e s m below meth c fx hr hlo
  delta Wp_Ro_wipe at h
  refine a_aload_n fx 0 d_Ro_wipe_0 rfl rfl ?_
  refine a_iconst (v := 0) fx d_Ro_wipe_1 rfl ?_
  refine a_putI fx (T := F_Ro) (ty0 := t_Ro) (j := 1) (hk := hk0) (ht := ht0) (ht2 := by decide) (hc := rfl) (hin := u_in_Ro) (hty := t_Ro_ok) (hnm := n_Ro) (hj := by decide) (hj2 := by decide) (hf := rfl) (hT := rfl) (hfin := rfl) (hn := rfl) (hfit := rfl) (hw := w_47) (hd := d_Ro_wipe_2) (kk := a_mem (fun M1 eM1 => ?_))
  have h := h M1 eM1
  exact a_vret fx hlo hr h d_Ro_wipe_5
set_option maxRecDepth 100000 in
set_option maxHeartbeats 4000000 in
theorem Met_Ro_room (l : Launch) (B : Nat) (D : va_G) (aC : Nat → ClassId) (aS : Nat → Nat) {a0 : Nat} {M : zM} {post : Int32 → zM → Prop} (hk0 : a0 < N0) (ht0 : tg a0 = 1) (h : Wp_Ro_room a0 M post) : Met l y_Ro_room (wo y_Ro_room b_Ro_room 1 (some FieldType.int)) { frames := 0, cells := 0, slots := 0, locals := 0 } (va_Pc [.ref (B + a0)] (zWl B D aC aS M)) (zQi B D aC post) 0 0 (zAb B) := by
  refine z_met (own := "MailChain$Row") (lv0 := [(0, .ref (B + a0))]) (by decide) rfl (Nat.le_of_ble_eq_true rfl) rfl ?_
  intro p e s m below meth c fx hr hlo
  delta Wp_Ro_room at h
  refine a_aload_n fx 0 d_Ro_room_0 rfl rfl ?_
  refine a_getS fx (T := F_Ro) (j := 0) (hk := hk0) (ht := ht0) (ht2 := by decide) (hc := rfl) (hin := u_in_Ro) (hj := by decide) (hj2 := by decide) (hf := rfl) (n9 := 1) (hfo := rfl) (hT := rfl) (hw := w_46) (hd := d_Ro_room_1) (kk := ?_)
  refine a_alen fx 0 (lo_1_0 hk0 ht0).1 (lo_1_0 hk0 ht0).2 (by decide) (by decide) rfl d_Ro_room_4 ?_
  refine a_aload_n fx 0 d_Ro_room_5 rfl rfl ?_
  refine a_getI fx (T := F_Ro) (j := 1) (hk := hk0) (ht := ht0) (ht2 := by decide) (hc := rfl) (hin := u_in_Ro) (hj := by decide) (hj2 := by decide) (hf := rfl) (hT := rfl) (hw := w_47) (hd := d_Ro_room_6) (kk := ?_)
  refine a_isub fx d_Ro_room_9 ?_
  exact a_iret fx hlo hr h d_Ro_room_10
set_option maxRecDepth 100000 in
set_option maxHeartbeats 4000000 in
theorem Met_Ro_has (l : Launch) (B : Nat) (D : va_G) (aC : Nat → ClassId) (aS : Nat → Nat) {a0 : Nat} {i1 : Int32} {M : zM} {post : Int32 → zM → Prop} (hk0 : a0 < N0) (ht0 : tg a0 = 1) (h : Wp_Ro_has a0 i1 M post) : Met l y_Ro_has (wo y_Ro_has b_Ro_has 2 (some FieldType.boolean)) { frames := 0, cells := 0, slots := 0, locals := 0 } (va_Pc [.ref (B + a0), .int i1] (zWl B D aC aS M)) (zQi B D aC post) 0 0 (zAb B) := by
  refine z_met (own := "MailChain$Row") (lv0 := [(0, .ref (B + a0)), (1, .int i1)]) (by decide) rfl (Nat.le_of_ble_eq_true rfl) rfl ?_
  intro p e s m below meth c fx hr hlo
  delta Wp_Ro_has at h
  refine a_iload_n fx 1 d_Ro_has_0 rfl rfl ?_
  refine a_if_lt fx 16 d_Ro_has_1 rfl (fun hc => ?_) (fun hc => ?_)
  · have h := h.1 hc
    refine a_iconst (v := 0) fx d_Ro_has_16 rfl ?_
    exact a_zret fx hlo hr rfl h d_Ro_has_17
  · have h := h.2 hc
    refine a_iload_n fx 1 d_Ro_has_4 rfl rfl ?_
    refine a_aload_n fx 0 d_Ro_has_5 rfl rfl ?_
    refine a_getI fx (T := F_Ro) (j := 1) (hk := hk0) (ht := ht0) (ht2 := by decide) (hc := rfl) (hin := u_in_Ro) (hj := by decide) (hj2 := by decide) (hf := rfl) (hT := rfl) (hw := w_47) (hd := d_Ro_has_6) (kk := ?_)
    refine a_icmp_ge fx 16 d_Ro_has_9 rfl (fun hc => ?_) (fun hc => ?_)
    · have h := h.1 hc
      refine a_iconst (v := 0) fx d_Ro_has_16 rfl ?_
      exact a_zret fx hlo hr rfl h d_Ro_has_17
    · have h := h.2 hc
      refine a_iconst (v := 1) fx d_Ro_has_12 rfl ?_
      refine a_goto fx 17 d_Ro_has_13 rfl ?_
      exact a_zret fx hlo hr rfl h d_Ro_has_17
set_option maxRecDepth 100000 in
set_option maxHeartbeats 4000000 in
theorem Met_Ro_at (l : Launch) (B : Nat) (D : va_G) (aC : Nat → ClassId) (aS : Nat → Nat) {a0 : Nat} {i1 : Int32} {M : zM} {post : Int32 → zM → Prop} (hk0 : a0 < N0) (ht0 : tg a0 = 1) (h : Wp_Ro_at a0 i1 M post) : Met l y_Ro_at (wo y_Ro_at b_Ro_at 2 (some FieldType.int)) { frames := 0, cells := 0, slots := 0, locals := 0 } (va_Pc [.ref (B + a0), .int i1] (zWl B D aC aS M)) (zQi B D aC post) 0 0 (zAb B) := by
  refine z_met (own := "MailChain$Row") (lv0 := [(0, .ref (B + a0)), (1, .int i1)]) (by decide) rfl (Nat.le_of_ble_eq_true rfl) rfl ?_
  intro p e s m below meth c fx hr hlo
  delta Wp_Ro_at at h
  refine a_iload_n fx 1 d_Ro_at_0 rfl rfl ?_
  refine a_if_lt fx 25 d_Ro_at_1 rfl (fun hc => ?_) (fun hc => ?_)
  · have h := h.1 hc
    refine a_iconst (v := (-1)) fx d_Ro_at_25 rfl ?_
    exact a_iret fx hlo hr h d_Ro_at_26
  · have h := h.2 hc
    refine a_iload_n fx 1 d_Ro_at_4 rfl rfl ?_
    refine a_aload_n fx 0 d_Ro_at_5 rfl rfl ?_
    refine a_getI fx (T := F_Ro) (j := 1) (hk := hk0) (ht := ht0) (ht2 := by decide) (hc := rfl) (hin := u_in_Ro) (hj := by decide) (hj2 := by decide) (hf := rfl) (hT := rfl) (hw := w_47) (hd := d_Ro_at_6) (kk := ?_)
    refine a_icmp_ge fx 25 d_Ro_at_9 rfl (fun hc => ?_) (fun hc => ?_)
    · have h := h.1 hc
      refine a_iconst (v := (-1)) fx d_Ro_at_25 rfl ?_
      exact a_iret fx hlo hr h d_Ro_at_26
    · have h := h.2 hc
      refine a_aload_n fx 0 d_Ro_at_12 rfl rfl ?_
      refine a_getS fx (T := F_Ro) (j := 0) (hk := hk0) (ht := ht0) (ht2 := by decide) (hc := rfl) (hin := u_in_Ro) (hj := by decide) (hj2 := by decide) (hf := rfl) (n9 := 1) (hfo := rfl) (hT := rfl) (hw := w_46) (hd := d_Ro_at_13) (kk := ?_)
      refine a_iload_n fx 1 d_Ro_at_16 rfl rfl ?_
      obtain ⟨hin, h⟩ := h
      refine a_bald fx (lo_1_0 hk0 ht0).1 (lo_1_0 hk0 ht0).2 hin d_Ro_at_17 ?_
      refine a_sipush (v := 255) fx d_Ro_at_18 rfl ?_
      refine a_iand fx d_Ro_at_21 ?_
      refine a_goto fx 26 d_Ro_at_22 rfl ?_
      exact a_iret fx hlo hr h d_Ro_at_26
set_option maxRecDepth 100000 in
set_option maxHeartbeats 4000000 in
theorem Met_Ro_put (l : Launch) (B : Nat) (D : va_G) (aC : Nat → ClassId) (aS : Nat → Nat) {a0 : Nat} {i1 : Int32} {M : zM} {post : zM → Prop} (hk0 : a0 < N0) (ht0 : tg a0 = 1) (h : Wp_Ro_put a0 i1 M post) : Met l y_Ro_put (wo y_Ro_put b_Ro_put 2 none) { frames := 0, cells := 0, slots := 0, locals := 0 } (va_Pc [.ref (B + a0), .int i1] (zWl B D aC aS M)) (zQv B D aC post) 0 0 (zAb B) := by
  refine z_met (own := "MailChain$Row") (lv0 := [(0, .ref (B + a0)), (1, .int i1)]) (by decide) rfl (Nat.le_of_ble_eq_true rfl) rfl ?_
  intro p e s m below meth c fx hr hlo
  delta Wp_Ro_put at h
  refine a_aload_n fx 0 d_Ro_put_0 rfl rfl ?_
  refine a_getI fx (T := F_Ro) (j := 1) (hk := hk0) (ht := ht0) (ht2 := by decide) (hc := rfl) (hin := u_in_Ro) (hj := by decide) (hj2 := by decide) (hf := rfl) (hT := rfl) (hw := w_47) (hd := d_Ro_put_1) (kk := ?_)
  refine a_aload_n fx 0 d_Ro_put_4 rfl rfl ?_
  refine a_getS fx (T := F_Ro) (j := 0) (hk := hk0) (ht := ht0) (ht2 := by decide) (hc := rfl) (hin := u_in_Ro) (hj := by decide) (hj2 := by decide) (hf := rfl) (n9 := 1) (hfo := rfl) (hT := rfl) (hw := w_46) (hd := d_Ro_put_5) (kk := ?_)
  refine a_alen fx 0 (lo_1_0 hk0 ht0).1 (lo_1_0 hk0 ht0).2 (by decide) (by decide) rfl d_Ro_put_8 ?_
  refine a_icmp_ge fx 33 d_Ro_put_9 rfl (fun hc => ?_) (fun hc => ?_)
  · have h := h.1 hc
    exact a_vret fx hlo hr h d_Ro_put_33
  · have h := h.2 hc
    refine a_aload_n fx 0 d_Ro_put_12 rfl rfl ?_
    refine a_getS fx (T := F_Ro) (j := 0) (hk := hk0) (ht := ht0) (ht2 := by decide) (hc := rfl) (hin := u_in_Ro) (hj := by decide) (hj2 := by decide) (hf := rfl) (n9 := 1) (hfo := rfl) (hT := rfl) (hw := w_46) (hd := d_Ro_put_13) (kk := ?_)
    refine a_aload_n fx 0 d_Ro_put_16 rfl rfl ?_
    refine a_getI fx (T := F_Ro) (j := 1) (hk := hk0) (ht := ht0) (ht2 := by decide) (hc := rfl) (hin := u_in_Ro) (hj := by decide) (hj2 := by decide) (hf := rfl) (hT := rfl) (hw := w_47) (hd := d_Ro_put_17) (kk := ?_)
    refine a_iload_n fx 1 d_Ro_put_20 rfl rfl ?_
    refine a_i2b fx d_Ro_put_21 ?_
    obtain ⟨hin, h⟩ := h
    refine a_bast fx (lo_1_0 hk0 ht0).1 (lo_1_0 hk0 ht0).2 hin d_Ro_put_22 (a_mem (fun M1 eM1 => ?_))
    have h := h M1 eM1
    refine a_aload_n fx 0 d_Ro_put_23 rfl rfl ?_
    refine a_dup fx d_Ro_put_24 rfl ?_
    refine a_getI fx (T := F_Ro) (j := 1) (hk := hk0) (ht := ht0) (ht2 := by decide) (hc := rfl) (hin := u_in_Ro) (hj := by decide) (hj2 := by decide) (hf := rfl) (hT := rfl) (hw := w_47) (hd := d_Ro_put_25) (kk := ?_)
    refine a_iconst (v := 1) fx d_Ro_put_28 rfl ?_
    refine a_iadd fx d_Ro_put_29 ?_
    refine a_putI fx (T := F_Ro) (ty0 := t_Ro) (j := 1) (hk := hk0) (ht := ht0) (ht2 := by decide) (hc := rfl) (hin := u_in_Ro) (hty := t_Ro_ok) (hnm := n_Ro) (hj := by decide) (hj2 := by decide) (hf := rfl) (hT := rfl) (hfin := rfl) (hn := rfl) (hfit := rfl) (hw := w_47) (hd := d_Ro_put_30) (kk := a_mem (fun M2 eM2 => ?_))
    have h := h M2 eM2
    exact a_vret fx hlo hr h d_Ro_put_33
set_option maxRecDepth 100000 in
set_option maxHeartbeats 4000000 in
theorem Met_Ro_turn (l : Launch) (B : Nat) (D : va_G) (aC : Nat → ClassId) (aS : Nat → Nat) {a0 : Nat} {i1 : Int32} {i2 : Int32} {M : zM} {post : zM → Prop} (hk0 : a0 < N0) (ht0 : tg a0 = 1) (h : Wp_Ro_turn a0 i1 i2 M post) : Met l y_Ro_turn (wo y_Ro_turn b_Ro_turn 3 none) { frames := 1, cells := 0, slots := 0, locals := 21 } (va_Pc [.ref (B + a0), .int i1, .int i2] (zWl B D aC aS M)) (zQv B D aC post) 0 0 (zAb B) := by
  refine z_met (own := "MailChain$Row") (lv0 := [(0, .ref (B + a0)), (1, .int i1), (2, .int i2)]) (by decide) rfl (Nat.le_of_ble_eq_true rfl) rfl ?_
  intro p e s m below meth c fx hr hlo
  delta Wp_Ro_turn at h
  refine a_aload_n fx 0 d_Ro_turn_0 rfl rfl ?_
  refine a_iload_n fx 1 d_Ro_turn_1 rfl rfl ?_
  refine a_calli (rest := []) (a_runV (As := [.int i1]) fx cv_Ro_has w_1217 (Met_Ro_has l B D aC aS (hk0 := hk0) (ht0 := ht0) h) hk0 ht0 (by decide) rfl rfl rfl (Nat.le_of_ble_eq_true rfl) rfl rfl ⟨Nat.le_of_ble_eq_true rfl, Nat.le_of_ble_eq_true rfl⟩ d_Ro_turn_2 ⟨Nat.le_of_ble_eq_true rfl, Nat.le_of_ble_eq_true rfl⟩) (fun x2 M1 h => ?_)
  refine a_if_eq fx 20 d_Ro_turn_5 rfl (fun hc => ?_) (fun hc => ?_)
  · have h := h.1 hc
    exact a_vret fx hlo hr h d_Ro_turn_20
  · have h := h.2 hc
    refine a_aload_n fx 0 d_Ro_turn_8 rfl rfl ?_
    refine a_getS fx (T := F_Ro) (j := 0) (hk := hk0) (ht := ht0) (ht2 := by decide) (hc := rfl) (hin := u_in_Ro) (hj := by decide) (hj2 := by decide) (hf := rfl) (n9 := 1) (hfo := rfl) (hT := rfl) (hw := w_46) (hd := d_Ro_turn_9) (kk := ?_)
    refine a_iload_n fx 1 d_Ro_turn_12 rfl rfl ?_
    refine a_dup2 fx d_Ro_turn_13 rfl rfl ?_
    obtain ⟨hin, h⟩ := h
    refine a_bald fx (lo_1_0 hk0 ht0).1 (lo_1_0 hk0 ht0).2 hin d_Ro_turn_14 ?_
    refine a_iload_n fx 2 d_Ro_turn_15 rfl rfl ?_
    refine a_i2b fx d_Ro_turn_16 ?_
    refine a_ixor fx d_Ro_turn_17 ?_
    refine a_i2b fx d_Ro_turn_18 ?_
    obtain ⟨hin, h⟩ := h
    refine a_bast fx (lo_1_0 hk0 ht0).1 (lo_1_0 hk0 ht0).2 hin d_Ro_turn_19 (a_mem (fun M3 eM3 => ?_))
    have h := h M3 eM3
    exact a_vret fx hlo hr h d_Ro_turn_20
set_option maxRecDepth 100000 in
set_option maxHeartbeats 4000000 in
theorem Met_Ro_putRange (l : Launch) (B : Nat) (D : va_G) (aC : Nat → ClassId) (aS : Nat → Nat) {a0 : Nat} {a1 : Nat} {i2 : Int32} {i3 : Int32} {M : zM} {post : zM → Prop} (hk0 : a0 < N0) (ht0 : tg a0 = 1) (hk1 : a1 < N0) (ht1 : tg a1 = 1) (h : Wp_Ro_putRange a0 a1 i2 i3 M post) : Met l y_Ro_putRange (wo y_Ro_putRange b_Ro_putRange 5 none) { frames := 1, cells := 0, slots := 0, locals := 64 } (va_Pc [.ref (B + a0), .ref (B + a1), .int i2, .int i3] (zWl B D aC aS M)) (zQv B D aC post) 0 0 (zAb B) := by
  refine z_met (own := "MailChain$Row") (lv0 := [(0, .ref (B + a0)), (1, .ref (B + a1)), (2, .int i2), (3, .int i3)]) (by decide) rfl (Nat.le_of_ble_eq_true rfl) rfl ?_
  intro p e s m below meth c fx hr hlo
  delta Wp_Ro_putRange at h
  refine a_iload_n fx 3 d_Ro_putRange_0 rfl rfl ?_
  refine a_iload_n fx 2 d_Ro_putRange_1 rfl rfl ?_
  refine a_isub fx d_Ro_putRange_2 ?_
  refine a_topi (fun x1 ex1 => ?_)
  have h := h x1 ex1
  refine a_istore (lv2 := [(4, .int x1), (0, .ref (B + a0)), (1, .ref (B + a1)), (2, .int i2), (3, .int i3)]) fx d_Ro_putRange_3 (by decide) rfl ?_
  refine a_iload_n fx 3 d_Ro_putRange_5 rfl rfl ?_
  refine a_if_lt fx 60 d_Ro_putRange_6 rfl (fun hc => ?_) (fun hc => ?_)
  · have h := h.1 hc
    exact a_vret fx hlo hr h d_Ro_putRange_60
  · have h := h.2 hc
    refine a_iload fx 0 d_Ro_putRange_9 rfl ?_
    refine a_if_le fx 60 d_Ro_putRange_11 rfl (fun hc => ?_) (fun hc => ?_)
    · have h := h.1 hc
      exact a_vret fx hlo hr h d_Ro_putRange_60
    · have h := h.2 hc
      refine a_iload_n fx 4 d_Ro_putRange_14 rfl rfl ?_
      refine a_aload_n fx 2 d_Ro_putRange_15 rfl rfl ?_
      refine a_getI fx (T := F_Ro) (j := 1) (hk := hk1) (ht := ht1) (ht2 := by decide) (hc := rfl) (hin := u_in_Ro) (hj := by decide) (hj2 := by decide) (hf := rfl) (hT := rfl) (hw := w_47) (hd := d_Ro_putRange_16) (kk := ?_)
      refine a_icmp_gt fx 60 d_Ro_putRange_19 rfl (fun hc => ?_) (fun hc => ?_)
      · have h := h.1 hc
        exact a_vret fx hlo hr h d_Ro_putRange_60
      · have h := h.2 hc
        refine a_iload fx 0 d_Ro_putRange_22 rfl ?_
        refine a_aload_n fx 1 d_Ro_putRange_24 rfl rfl ?_
        refine a_calli (rest := [.int x1]) (a_runV (As := []) fx cv_Ro_room w_470 (Met_Ro_room l B D aC aS (hk0 := hk0) (ht0 := ht0) h) hk0 ht0 (by decide) rfl rfl rfl (Nat.le_of_ble_eq_true rfl) rfl rfl ⟨Nat.le_of_ble_eq_true rfl, Nat.le_of_ble_eq_true rfl⟩ d_Ro_putRange_25 ⟨Nat.le_of_ble_eq_true rfl, Nat.le_of_ble_eq_true rfl⟩) (fun x3 M2 h => ?_)
        refine a_icmp_gt fx 60 d_Ro_putRange_28 rfl (fun hc => ?_) (fun hc => ?_)
        · have h := h.1 hc
          exact a_vret fx hlo hr h d_Ro_putRange_60
        · have h := h.2 hc
          refine a_aload_n fx 2 d_Ro_putRange_31 rfl rfl ?_
          refine a_getS fx (T := F_Ro) (j := 0) (hk := hk1) (ht := ht1) (ht2 := by decide) (hc := rfl) (hin := u_in_Ro) (hj := by decide) (hj2 := by decide) (hf := rfl) (n9 := 1) (hfo := rfl) (hT := rfl) (hw := w_46) (hd := d_Ro_putRange_32) (kk := ?_)
          refine a_iload_n fx 3 d_Ro_putRange_35 rfl rfl ?_
          refine a_aload_n fx 1 d_Ro_putRange_36 rfl rfl ?_
          refine a_getS fx (T := F_Ro) (j := 0) (hk := hk0) (ht := ht0) (ht2 := by decide) (hc := rfl) (hin := u_in_Ro) (hj := by decide) (hj2 := by decide) (hf := rfl) (n9 := 1) (hfo := rfl) (hT := rfl) (hw := w_46) (hd := d_Ro_putRange_37) (kk := ?_)
          refine a_aload_n fx 1 d_Ro_putRange_40 rfl rfl ?_
          refine a_getI fx (T := F_Ro) (j := 1) (hk := hk0) (ht := ht0) (ht2 := by decide) (hc := rfl) (hin := u_in_Ro) (hj := by decide) (hj2 := by decide) (hf := rfl) (hT := rfl) (hw := w_47) (hd := d_Ro_putRange_41) (kk := ?_)
          refine a_iload fx 0 d_Ro_putRange_44 rfl ?_
          obtain ⟨hq1, hq2, hq3, hq4, hq5, hq6, h⟩ := h
          refine a_copy fx w_474 w_476 w_475 w_17 (lo_1_0 hk1 ht1).1 (lo_1_0 hk1 ht1).2 (lo_1_0 hk0 ht0).1 (lo_1_0 hk0 ht0).2 hq1 hq2 hq3 hq4 hq5 hq6 (Nat.le_of_ble_eq_true rfl) (Nat.le_of_ble_eq_true rfl) d_Ro_putRange_46 (a_mem (fun M4 eM4 => ?_))
          have h := h M4 eM4
          refine a_aload_n fx 1 d_Ro_putRange_49 rfl rfl ?_
          refine a_dup fx d_Ro_putRange_50 rfl ?_
          refine a_getI fx (T := F_Ro) (j := 1) (hk := hk0) (ht := ht0) (ht2 := by decide) (hc := rfl) (hin := u_in_Ro) (hj := by decide) (hj2 := by decide) (hf := rfl) (hT := rfl) (hw := w_47) (hd := d_Ro_putRange_51) (kk := ?_)
          refine a_iload fx 0 d_Ro_putRange_54 rfl ?_
          refine a_iadd fx d_Ro_putRange_56 ?_
          refine a_putI fx (T := F_Ro) (ty0 := t_Ro) (j := 1) (hk := hk0) (ht := ht0) (ht2 := by decide) (hc := rfl) (hin := u_in_Ro) (hty := t_Ro_ok) (hnm := n_Ro) (hj := by decide) (hj2 := by decide) (hf := rfl) (hT := rfl) (hfin := rfl) (hn := rfl) (hfit := rfl) (hw := w_47) (hd := d_Ro_putRange_57) (kk := a_mem (fun M5 eM5 => ?_))
          have h := h M5 eM5
          exact a_vret fx hlo hr h d_Ro_putRange_60
set_option maxRecDepth 100000 in
set_option maxHeartbeats 4000000 in
theorem Met_Ro_copy (l : Launch) (B : Nat) (D : va_G) (aC : Nat → ClassId) (aS : Nat → Nat) {a0 : Nat} {a1 : Nat} {i2 : Int32} {i3 : Int32} {M : zM} {post : zM → Prop} (hk0 : a0 < N0) (ht0 : tg a0 = 1) (hk1 : a1 < N0) (ht1 : tg a1 = 1) (h : Wp_Ro_copy a0 a1 i2 i3 M post) : Met l y_Ro_copy (wo y_Ro_copy b_Ro_copy 4 none) { frames := 2, cells := 0, slots := 0, locals := 88 } (va_Pc [.ref (B + a0), .ref (B + a1), .int i2, .int i3] (zWl B D aC aS M)) (zQv B D aC post) 0 0 (zAb B) := by
  refine z_met (own := "MailChain$Row") (lv0 := [(0, .ref (B + a0)), (1, .ref (B + a1)), (2, .int i2), (3, .int i3)]) (by decide) rfl (Nat.le_of_ble_eq_true rfl) rfl ?_
  intro p e s m below meth c fx hr hlo
  delta Wp_Ro_copy at h
  refine a_aload_n fx 0 d_Ro_copy_0 rfl rfl ?_
  refine a_callv (rest := []) (a_runV (As := []) fx cv_Ro_wipe w_942 (Met_Ro_wipe l B D aC aS (hk0 := hk0) (ht0 := ht0) h) hk0 ht0 (by decide) rfl rfl rfl (Nat.le_of_ble_eq_true rfl) rfl rfl ⟨Nat.le_of_ble_eq_true rfl, Nat.le_of_ble_eq_true rfl⟩ d_Ro_copy_1 ⟨Nat.le_of_ble_eq_true rfl, Nat.le_of_ble_eq_true rfl⟩) (fun M1 h => ?_)
  refine a_aload_n fx 0 d_Ro_copy_4 rfl rfl ?_
  refine a_aload_n fx 1 d_Ro_copy_5 rfl rfl ?_
  refine a_iload_n fx 2 d_Ro_copy_6 rfl rfl ?_
  refine a_iload_n fx 3 d_Ro_copy_7 rfl rfl ?_
  refine a_callv (rest := []) (a_runV (As := [.ref (B + a1), .int i2, .int i3]) fx cv_Ro_putRange w_943 (Met_Ro_putRange l B D aC aS (hk0 := hk0) (ht0 := ht0) (hk1 := hk1) (ht1 := ht1) h) hk0 ht0 (by decide) rfl rfl rfl (Nat.le_of_ble_eq_true rfl) rfl rfl ⟨Nat.le_of_ble_eq_true rfl, Nat.le_of_ble_eq_true rfl⟩ d_Ro_copy_8 ⟨Nat.le_of_ble_eq_true rfl, Nat.le_of_ble_eq_true rfl⟩) (fun M2 h => ?_)
  exact a_vret fx hlo hr h d_Ro_copy_11
set_option maxRecDepth 100000 in
set_option maxHeartbeats 4000000 in
theorem Met_Ro_putOctal (l : Launch) (B : Nat) (D : va_G) (aC : Nat → ClassId) (aS : Nat → Nat) {a0 : Nat} {i1 : Int32} {i2 : Int32} {M : zM} {post : zM → Prop} (hk0 : a0 < N0) (ht0 : tg a0 = 1) (h : Wp_Ro_putOctal a0 i1 i2 M post) : Met l y_Ro_putOctal (wo y_Ro_putOctal b_Ro_putOctal 4 none) { frames := 1, cells := 0, slots := 0, locals := 21 } (va_Pc [.ref (B + a0), .int i1, .int i2] (zWl B D aC aS M)) (zQv B D aC post) 0 0 (zAb B) := by
  refine z_met (own := "MailChain$Row") (lv0 := [(0, .ref (B + a0)), (1, .int i1), (2, .int i2)]) (by decide) rfl (Nat.le_of_ble_eq_true rfl) rfl ?_
  intro p e s m below meth c fx hr hlo
  delta Wp_Ro_putOctal at h
  have h := h (fun v3 M => zAt p l e { frames := 1, cells := 0, slots := 0, locals := 21 } s m ([.ref (B + a0), .int i1, .int i2] : List Value).toArray below meth c 0 0 (MQ below (zQv B D aC post) ([.ref (B + a0), .int i1, .int i2] : List Value).toArray s 0 0 (zAb B)) B D aC 4 6 [(0, .ref (B + a0)), (1, .int i1), (2, .int i2), (3, .int v3)] [] M)
  have h := h (by
    intro v3 M h
    refine a_iload_n fx 3 d_Ro_putOctal_6 rfl rfl ?_
    refine a_if_lt fx 29 d_Ro_putOctal_7 rfl (fun hc => ?_) (fun hc => ?_)
    · have h := h.1 hc
      exact a_vret fx hlo hr h d_Ro_putOctal_29
    · have h := h.2 hc
      refine a_aload_n fx 0 d_Ro_putOctal_10 rfl rfl ?_
      refine a_bipush (v := 48) fx d_Ro_putOctal_11 rfl ?_
      refine a_iload_n fx 1 d_Ro_putOctal_13 rfl rfl ?_
      refine a_iload_n fx 3 d_Ro_putOctal_14 rfl rfl ?_
      refine a_iushr fx d_Ro_putOctal_15 ?_
      refine a_bipush (v := 7) fx d_Ro_putOctal_16 rfl ?_
      refine a_iand fx d_Ro_putOctal_18 ?_
      refine a_iadd fx d_Ro_putOctal_19 ?_
      refine a_callv (rest := []) (a_runV (As := [.int (48 + ((((i1).toUInt32 >>> ((v3).toUInt32 &&& Int32.toUInt32 31)).toInt32) &&& 7))]) fx cv_Ro_put w_522 (Met_Ro_put l B D aC aS (hk0 := hk0) (ht0 := ht0) h) hk0 ht0 (by decide) rfl rfl rfl (Nat.le_of_ble_eq_true rfl) rfl rfl ⟨Nat.le_of_ble_eq_true rfl, Nat.le_of_ble_eq_true rfl⟩ d_Ro_putOctal_20 ⟨Nat.le_of_ble_eq_true rfl, Nat.le_of_ble_eq_true rfl⟩) (fun M2 h => ?_)
      obtain ⟨x3, ex3⟩ : ∃ z : Int32, z = v3 + (-3) := ⟨_, rfl⟩
      have h := h x3 ex3
      refine a_iinc (lv2 := [(3, .int x3), (0, .ref (B + a0)), (1, .int i1), (2, .int i2)]) fx 3 d_Ro_putOctal_23 rfl ex3.symm (by decide) rfl ?_
      refine a_goto fx 6 d_Ro_putOctal_26 rfl ?_
      refine a_sub [1, 2, 3, 0] rfl ?_
      exact h)
  refine a_iconst (v := 3) fx d_Ro_putOctal_0 rfl ?_
  refine a_iload_n fx 2 d_Ro_putOctal_1 rfl rfl ?_
  refine a_iconst (v := 1) fx d_Ro_putOctal_2 rfl ?_
  refine a_isub fx d_Ro_putOctal_3 ?_
  refine a_imul fx d_Ro_putOctal_4 ?_
  refine a_topi (fun x1 ex1 => ?_)
  have h := h x1 ex1
  refine a_istore_n (lv2 := [(3, .int x1), (0, .ref (B + a0)), (1, .int i1), (2, .int i2)]) fx d_Ro_putOctal_5 rfl (by decide) rfl ?_
  refine a_sub [1, 2, 3, 0] rfl ?_
  exact h
set_option maxRecDepth 100000 in
set_option maxHeartbeats 4000000 in
theorem Met_Ro_putDecimal (l : Launch) (B : Nat) (D : va_G) (aC : Nat → ClassId) (aS : Nat → Nat) {a0 : Nat} {l1 : Int64} {M : zM} {post : zM → Prop} (hk0 : a0 < N0) (ht0 : tg a0 = 1) (h : Wp_Ro_putDecimal a0 l1 M post) : Met l y_Ro_putDecimal (wo y_Ro_putDecimal b_Ro_putDecimal 6 none) { frames := 1, cells := 0, slots := 0, locals := 21 } (va_Pc [.ref (B + a0), .long l1] (zWl B D aC aS M)) (zQv B D aC post) 0 0 (zAb B) := by
  refine z_met (own := "MailChain$Row") (lv0 := [(0, .ref (B + a0)), (1, .long l1)]) (by decide) rfl (Nat.le_of_ble_eq_true rfl) rfl ?_
  intro p e s m below meth c fx hr hlo
  delta Wp_Ro_putDecimal at h
  have h := h (fun v3 v5 M => zAt p l e { frames := 1, cells := 0, slots := 0, locals := 21 } s m ([.ref (B + a0), .long l1] : List Value).toArray below meth c 0 0 (MQ below (zQv B D aC post) ([.ref (B + a0), .long l1] : List Value).toArray s 0 0 (zAb B)) B D aC 6 5 [(0, .ref (B + a0)), (1, .long l1), (3, .long v3), (5, .int v5)] [] M)
  have h := h (fun v3 M => zAt p l e { frames := 1, cells := 0, slots := 0, locals := 21 } s m ([.ref (B + a0), .long l1] : List Value).toArray below meth c 0 0 (MQ below (zQv B D aC post) ([.ref (B + a0), .long l1] : List Value).toArray s 0 0 (zAb B)) B D aC 6 34 [(0, .ref (B + a0)), (1, .long l1), (3, .long v3)] [] M)
  have h := h (by
    intro v3 v5 M h
    refine a_iload fx 3 d_Ro_putDecimal_5 rfl ?_
    refine a_bipush (v := 10) fx d_Ro_putDecimal_7 rfl ?_
    refine a_icmp_ge fx 34 d_Ro_putDecimal_9 rfl (fun hc => ?_) (fun hc => ?_)
    · have h := h.1 hc
      refine a_sub [0, 1, 2] rfl ?_
      exact h
    · have h := h.2 hc
      refine a_lload_n fx 1 d_Ro_putDecimal_12 rfl rfl ?_
      refine a_lload_n fx 2 d_Ro_putDecimal_13 rfl rfl ?_
      obtain ⟨hne, h⟩ := h
      refine a_ldiv fx d_Ro_putDecimal_14 hne ?_
      refine a_ldc2 fx w_1188 d_Ro_putDecimal_15 ?_
      refine a_lcmp fx d_Ro_putDecimal_18 ?_
      refine a_if_lt fx 34 d_Ro_putDecimal_19 rfl (fun hc => ?_) (fun hc => ?_)
      · have h := h.1 hc
        refine a_sub [0, 1, 2] rfl ?_
        exact h
      · have h := h.2 hc
        refine a_lload_n fx 2 d_Ro_putDecimal_22 rfl rfl ?_
        refine a_ldc2 fx w_1188 d_Ro_putDecimal_23 ?_
        refine a_lmul fx d_Ro_putDecimal_26 ?_
        refine a_topl (fun y1 ey1 => ?_)
        have h := h y1 ey1
        refine a_lstore_n (lv2 := [(3, .long y1), (0, .ref (B + a0)), (1, .long l1), (5, .int v5)]) fx d_Ro_putDecimal_27 rfl (by decide) rfl ?_
        obtain ⟨x2, ex2⟩ : ∃ z : Int32, z = v5 + 1 := ⟨_, rfl⟩
        have h := h x2 ex2
        refine a_iinc (lv2 := [(5, .int x2), (3, .long y1), (0, .ref (B + a0)), (1, .long l1)]) fx 3 d_Ro_putDecimal_28 rfl ex2.symm (by decide) rfl ?_
        refine a_goto fx 5 d_Ro_putDecimal_31 rfl ?_
        refine a_sub [2, 3, 1, 0] rfl ?_
        exact h)
  have h := h (by
    intro v3 M h
    refine a_lload_n fx 2 d_Ro_putDecimal_34 rfl rfl ?_
    refine a_lconst (v := 0) fx d_Ro_putDecimal_35 rfl ?_
    refine a_lcmp fx d_Ro_putDecimal_36 ?_
    refine a_if_le fx 64 d_Ro_putDecimal_37 rfl (fun hc => ?_) (fun hc => ?_)
    · have h := h.1 hc
      exact a_vret fx hlo hr h d_Ro_putDecimal_64
    · have h := h.2 hc
      refine a_aload_n fx 0 d_Ro_putDecimal_40 rfl rfl ?_
      refine a_bipush (v := 48) fx d_Ro_putDecimal_41 rfl ?_
      refine a_lload_n fx 1 d_Ro_putDecimal_43 rfl rfl ?_
      refine a_lload_n fx 2 d_Ro_putDecimal_44 rfl rfl ?_
      obtain ⟨hne, h⟩ := h
      refine a_ldiv fx d_Ro_putDecimal_45 hne ?_
      refine a_ldc2 fx w_1188 d_Ro_putDecimal_46 ?_
      refine a_lrem fx d_Ro_putDecimal_49 (by decide) ?_
      refine a_l2i fx d_Ro_putDecimal_50 ?_
      refine a_iadd fx d_Ro_putDecimal_51 ?_
      refine a_callv (rest := []) (a_runV (As := [.int (48 + ((((l1 / v3) - (l1 / v3) / 10 * 10)).toInt32))]) fx cv_Ro_put w_522 (Met_Ro_put l B D aC aS (hk0 := hk0) (ht0 := ht0) h) hk0 ht0 (by decide) rfl rfl rfl (Nat.le_of_ble_eq_true rfl) rfl rfl ⟨Nat.le_of_ble_eq_true rfl, Nat.le_of_ble_eq_true rfl⟩ d_Ro_putDecimal_52 ⟨Nat.le_of_ble_eq_true rfl, Nat.le_of_ble_eq_true rfl⟩) (fun M3 h => ?_)
      refine a_lload_n fx 2 d_Ro_putDecimal_55 rfl rfl ?_
      refine a_ldc2 fx w_1188 d_Ro_putDecimal_56 ?_
      refine a_ldiv fx d_Ro_putDecimal_59 (by decide) ?_
      refine a_topl (fun y4 ey4 => ?_)
      have h := h y4 ey4
      refine a_lstore_n (lv2 := [(3, .long y4), (0, .ref (B + a0)), (1, .long l1)]) fx d_Ro_putDecimal_60 rfl (by decide) rfl ?_
      refine a_goto fx 34 d_Ro_putDecimal_61 rfl ?_
      refine a_sub [1, 2, 0] rfl ?_
      exact h)
  refine a_lconst (v := 1) fx d_Ro_putDecimal_0 rfl ?_
  refine a_lstore_n (lv2 := [(3, .long 1), (0, .ref (B + a0)), (1, .long l1)]) fx d_Ro_putDecimal_1 rfl (by decide) rfl ?_
  refine a_iconst (v := 1) fx d_Ro_putDecimal_2 rfl ?_
  refine a_istore (lv2 := [(5, .int 1), (3, .long 1), (0, .ref (B + a0)), (1, .long l1)]) fx d_Ro_putDecimal_3 (by decide) rfl ?_
  refine a_sub [2, 3, 1, 0] rfl ?_
  exact h
set_option maxRecDepth 100000 in
set_option maxHeartbeats 4000000 in
theorem Met_Ro_order (l : Launch) (B : Nat) (D : va_G) (aC : Nat → ClassId) (aS : Nat → Nat) {a0 : Nat} {a1 : Nat} {i2 : Int32} {M : zM} {post : Int32 → zM → Prop} (hk0 : a0 < N0) (ht0 : tg a0 = 1) (hk1 : a1 < N0) (ht1 : tg a1 = 1) (h : Wp_Ro_order a0 a1 i2 M post) : Met l y_Ro_order (wo y_Ro_order b_Ro_order 5 (some FieldType.int)) { frames := 0, cells := 0, slots := 0, locals := 0 } (va_Pc [.ref (B + a0), .ref (B + a1), .int i2] (zWl B D aC aS M)) (zQi B D aC post) 0 0 (zAb B) := by
  refine z_met (own := "MailChain$Row") (lv0 := [(0, .ref (B + a0)), (1, .ref (B + a1)), (2, .int i2)]) (by decide) rfl (Nat.le_of_ble_eq_true rfl) rfl ?_
  intro p e s m below meth c fx hr hlo
  delta Wp_Ro_order at h
  have h := h (fun v3 M => zAt p l e { frames := 0, cells := 0, slots := 0, locals := 0 } s m ([.ref (B + a0), .ref (B + a1), .int i2] : List Value).toArray below meth c 0 0 (MQ below (zQi B D aC post) ([.ref (B + a0), .ref (B + a1), .int i2] : List Value).toArray s 0 0 (zAb B)) B D aC 5 2 [(0, .ref (B + a0)), (1, .ref (B + a1)), (2, .int i2), (3, .int v3)] [] M)
  have h := h (by
    intro v3 M h
    refine a_iload_n fx 3 d_Ro_order_2 rfl rfl ?_
    refine a_aload_n fx 0 d_Ro_order_3 rfl rfl ?_
    refine a_getI fx (T := F_Ro) (j := 1) (hk := hk0) (ht := ht0) (ht2 := by decide) (hc := rfl) (hin := u_in_Ro) (hj := by decide) (hj2 := by decide) (hf := rfl) (hT := rfl) (hw := w_47) (hd := d_Ro_order_4) (kk := ?_)
    refine a_icmp_ge fx 60 d_Ro_order_7 rfl (fun hc => ?_) (fun hc => ?_)
    · have h := h.1 hc
      refine a_aload_n fx 0 d_Ro_order_60 rfl rfl ?_
      refine a_getI fx (T := F_Ro) (j := 1) (hk := hk0) (ht := ht0) (ht2 := by decide) (hc := rfl) (hin := u_in_Ro) (hj := by decide) (hj2 := by decide) (hf := rfl) (hT := rfl) (hw := w_47) (hd := d_Ro_order_61) (kk := ?_)
      refine a_iload_n fx 2 d_Ro_order_64 rfl rfl ?_
      refine a_isub fx d_Ro_order_65 ?_
      exact a_iret fx hlo hr h d_Ro_order_66
    · have h := h.2 hc
      refine a_iload_n fx 3 d_Ro_order_10 rfl rfl ?_
      refine a_iload_n fx 2 d_Ro_order_11 rfl rfl ?_
      refine a_icmp_ge fx 60 d_Ro_order_12 rfl (fun hc => ?_) (fun hc => ?_)
      · have h := h.1 hc
        refine a_aload_n fx 0 d_Ro_order_60 rfl rfl ?_
        refine a_getI fx (T := F_Ro) (j := 1) (hk := hk0) (ht := ht0) (ht2 := by decide) (hc := rfl) (hin := u_in_Ro) (hj := by decide) (hj2 := by decide) (hf := rfl) (hT := rfl) (hw := w_47) (hd := d_Ro_order_61) (kk := ?_)
        refine a_iload_n fx 2 d_Ro_order_64 rfl rfl ?_
        refine a_isub fx d_Ro_order_65 ?_
        exact a_iret fx hlo hr h d_Ro_order_66
      · have h := h.2 hc
        refine a_iload_n fx 3 d_Ro_order_15 rfl rfl ?_
        refine a_aload_n fx 1 d_Ro_order_16 rfl rfl ?_
        refine a_getI fx (T := F_Ro) (j := 1) (hk := hk1) (ht := ht1) (ht2 := by decide) (hc := rfl) (hin := u_in_Ro) (hj := by decide) (hj2 := by decide) (hf := rfl) (hT := rfl) (hw := w_47) (hd := d_Ro_order_17) (kk := ?_)
        refine a_icmp_ge fx 60 d_Ro_order_20 rfl (fun hc => ?_) (fun hc => ?_)
        · have h := h.1 hc
          refine a_aload_n fx 0 d_Ro_order_60 rfl rfl ?_
          refine a_getI fx (T := F_Ro) (j := 1) (hk := hk0) (ht := ht0) (ht2 := by decide) (hc := rfl) (hin := u_in_Ro) (hj := by decide) (hj2 := by decide) (hf := rfl) (hT := rfl) (hw := w_47) (hd := d_Ro_order_61) (kk := ?_)
          refine a_iload_n fx 2 d_Ro_order_64 rfl rfl ?_
          refine a_isub fx d_Ro_order_65 ?_
          exact a_iret fx hlo hr h d_Ro_order_66
        · have h := h.2 hc
          refine a_aload_n fx 0 d_Ro_order_23 rfl rfl ?_
          refine a_getS fx (T := F_Ro) (j := 0) (hk := hk0) (ht := ht0) (ht2 := by decide) (hc := rfl) (hin := u_in_Ro) (hj := by decide) (hj2 := by decide) (hf := rfl) (n9 := 1) (hfo := rfl) (hT := rfl) (hw := w_46) (hd := d_Ro_order_24) (kk := ?_)
          refine a_iload_n fx 3 d_Ro_order_27 rfl rfl ?_
          obtain ⟨hin, h⟩ := h
          refine a_bald fx (lo_1_0 hk0 ht0).1 (lo_1_0 hk0 ht0).2 hin d_Ro_order_28 ?_
          refine a_sipush (v := 255) fx d_Ro_order_29 rfl ?_
          refine a_iand fx d_Ro_order_32 ?_
          refine a_aload_n fx 1 d_Ro_order_33 rfl rfl ?_
          refine a_getS fx (T := F_Ro) (j := 0) (hk := hk1) (ht := ht1) (ht2 := by decide) (hc := rfl) (hin := u_in_Ro) (hj := by decide) (hj2 := by decide) (hf := rfl) (n9 := 1) (hfo := rfl) (hT := rfl) (hw := w_46) (hd := d_Ro_order_34) (kk := ?_)
          refine a_iload_n fx 3 d_Ro_order_37 rfl rfl ?_
          obtain ⟨hin, h⟩ := h
          refine a_bald fx (lo_1_0 hk1 ht1).1 (lo_1_0 hk1 ht1).2 hin d_Ro_order_38 ?_
          refine a_sipush (v := 255) fx d_Ro_order_39 rfl ?_
          refine a_iand fx d_Ro_order_42 ?_
          refine a_isub fx d_Ro_order_43 ?_
          refine a_topi (fun x1 ex1 => ?_)
          have h := h x1 ex1
          refine a_istore (lv2 := [(4, .int x1), (0, .ref (B + a0)), (1, .ref (B + a1)), (2, .int i2), (3, .int v3)]) fx d_Ro_order_44 (by decide) rfl ?_
          refine a_iload fx 0 d_Ro_order_46 rfl ?_
          refine a_if_eq fx 54 d_Ro_order_48 rfl (fun hc => ?_) (fun hc => ?_)
          · have h := h.1 hc
            obtain ⟨x2, ex2⟩ : ∃ z : Int32, z = v3 + 1 := ⟨_, rfl⟩
            have h := h x2 ex2
            refine a_iinc (lv2 := [(3, .int x2), (4, .int x1), (0, .ref (B + a0)), (1, .ref (B + a1)), (2, .int i2)]) fx 4 d_Ro_order_54 rfl ex2.symm (by decide) rfl ?_
            refine a_goto fx 2 d_Ro_order_57 rfl ?_
            refine a_sub [2, 3, 4, 0] rfl ?_
            exact h
          · have h := h.2 hc
            refine a_iload fx 0 d_Ro_order_51 rfl ?_
            exact a_iret fx hlo hr h d_Ro_order_53)
  refine a_iconst (v := 0) fx d_Ro_order_0 rfl ?_
  refine a_istore_n (lv2 := [(3, .int 0), (0, .ref (B + a0)), (1, .ref (B + a1)), (2, .int i2)]) fx d_Ro_order_1 rfl (by decide) rfl ?_
  refine a_sub [1, 2, 3, 0] rfl ?_
  exact h
set_option maxRecDepth 100000 in
set_option maxHeartbeats 4000000 in
theorem Met_Ro_same (l : Launch) (B : Nat) (D : va_G) (aC : Nat → ClassId) (aS : Nat → Nat) {a0 : Nat} {a1 : Nat} {M : zM} {post : Int32 → zM → Prop} (hk0 : a0 < N0) (ht0 : tg a0 = 1) (hk1 : a1 < N0) (ht1 : tg a1 = 1) (h : Wp_Ro_same a0 a1 M post) : Met l y_Ro_same (wo y_Ro_same b_Ro_same 2 (some FieldType.boolean)) { frames := 1, cells := 0, slots := 0, locals := 24 } (va_Pc [.ref (B + a0), .ref (B + a1)] (zWl B D aC aS M)) (zQi B D aC post) 0 0 (zAb B) := by
  refine z_met (own := "MailChain$Row") (lv0 := [(0, .ref (B + a0)), (1, .ref (B + a1))]) (by decide) rfl (Nat.le_of_ble_eq_true rfl) rfl ?_
  intro p e s m below meth c fx hr hlo
  delta Wp_Ro_same at h
  refine a_aload_n fx 0 d_Ro_same_0 rfl rfl ?_
  refine a_getI fx (T := F_Ro) (j := 1) (hk := hk0) (ht := ht0) (ht2 := by decide) (hc := rfl) (hin := u_in_Ro) (hj := by decide) (hj2 := by decide) (hf := rfl) (hT := rfl) (hw := w_47) (hd := d_Ro_same_1) (kk := ?_)
  refine a_aload_n fx 1 d_Ro_same_4 rfl rfl ?_
  refine a_getI fx (T := F_Ro) (j := 1) (hk := hk1) (ht := ht1) (ht2 := by decide) (hc := rfl) (hin := u_in_Ro) (hj := by decide) (hj2 := by decide) (hf := rfl) (hT := rfl) (hw := w_47) (hd := d_Ro_same_5) (kk := ?_)
  refine a_icmp_ne fx 27 d_Ro_same_8 rfl (fun hc => ?_) (fun hc => ?_)
  · have h := h.1 hc
    refine a_iconst (v := 0) fx d_Ro_same_27 rfl ?_
    exact a_zret fx hlo hr rfl h d_Ro_same_28
  · have h := h.2 hc
    refine a_aload_n fx 0 d_Ro_same_11 rfl rfl ?_
    refine a_aload_n fx 1 d_Ro_same_12 rfl rfl ?_
    refine a_aload_n fx 1 d_Ro_same_13 rfl rfl ?_
    refine a_getI fx (T := F_Ro) (j := 1) (hk := hk1) (ht := ht1) (ht2 := by decide) (hc := rfl) (hin := u_in_Ro) (hj := by decide) (hj2 := by decide) (hf := rfl) (hT := rfl) (hw := w_47) (hd := d_Ro_same_14) (kk := ?_)
    refine a_calli (rest := []) (a_runV (As := [.ref (B + a1), .int (M.1 a1 1)]) fx cv_Ro_order w_540 (Met_Ro_order l B D aC aS (hk0 := hk0) (ht0 := ht0) (hk1 := hk1) (ht1 := ht1) h) hk0 ht0 (by decide) rfl rfl rfl (Nat.le_of_ble_eq_true rfl) rfl rfl ⟨Nat.le_of_ble_eq_true rfl, Nat.le_of_ble_eq_true rfl⟩ d_Ro_same_17 ⟨Nat.le_of_ble_eq_true rfl, Nat.le_of_ble_eq_true rfl⟩) (fun x2 M1 h => ?_)
    refine a_if_ne fx 27 d_Ro_same_20 rfl (fun hc => ?_) (fun hc => ?_)
    · have h := h.1 hc
      refine a_iconst (v := 0) fx d_Ro_same_27 rfl ?_
      exact a_zret fx hlo hr rfl h d_Ro_same_28
    · have h := h.2 hc
      refine a_iconst (v := 1) fx d_Ro_same_23 rfl ?_
      refine a_goto fx 28 d_Ro_same_24 rfl ?_
      exact a_zret fx hlo hr rfl h d_Ro_same_28
set_option maxRecDepth 100000 in
set_option maxHeartbeats 4000000 in
theorem Met_Ro_divide (l : Launch) (B : Nat) (D : va_G) (aC : Nat → ClassId) (aS : Nat → Nat) {i0 : Int32} {i1 : Int32} {M : zM} {post : Int32 → zM → Prop}  (h : Wp_Ro_divide i0 i1 M post) : Met l y_Ro_divide (wo y_Ro_divide b_Ro_divide 3 (some FieldType.int)) { frames := 0, cells := 0, slots := 0, locals := 0 } (va_Pc [.int i0, .int i1] (zWl B D aC aS M)) (zQi B D aC post) 0 0 (zAb B) := by
  refine z_met (own := "MailChain$Row") (lv0 := [(0, .int i0), (1, .int i1)]) (by decide) rfl (Nat.le_of_ble_eq_true rfl) rfl ?_
  intro p e s m below meth c fx hr hlo
  obtain ⟨tRm, hZr, hTr⟩ := fx.2.2.2.2.2.1.2.1
  delta Wp_Ro_divide at h
  refine a_iload_n fx 0 d_Ro_divide_0 rfl rfl ?_
  refine a_iload_n fx 1 d_Ro_divide_1 rfl rfl ?_
  refine a_bipush (v := 24) fx d_Ro_divide_2 rfl ?_
  refine a_ishl fx d_Ro_divide_4 ?_
  refine a_ixor fx d_Ro_divide_5 ?_
  refine a_topi (fun x1 ex1 => ?_)
  have h := h x1 ex1
  refine a_istore_n (lv2 := [(2, .int x1), (0, .int i0), (1, .int i1)]) fx d_Ro_divide_6 rfl (by decide) rfl ?_
  refine a_iload_n fx 0 d_Ro_divide_7 rfl rfl ?_
  refine a_iconst (v := 4) fx d_Ro_divide_8 rfl ?_
  refine a_ishl fx d_Ro_divide_9 ?_
  refine a_gets fx hZr w_374 d_Ro_divide_10 ?_
  refine a_iload_n fx 0 d_Ro_divide_13 rfl rfl ?_
  refine a_bipush (v := 28) fx d_Ro_divide_14 rfl ?_
  refine a_iushr fx d_Ro_divide_16 ?_
  obtain ⟨hin, h⟩ := h
  refine a_rem fx hTr hin d_Ro_divide_17 ?_
  refine a_ixor fx d_Ro_divide_18 ?_
  refine a_topi (fun x2 ex2 => ?_)
  have h := h x2 ex2
  refine a_istore_n (lv2 := [(2, .int x2), (0, .int i0), (1, .int i1)]) fx d_Ro_divide_19 rfl (by decide) rfl ?_
  refine a_iload_n fx 0 d_Ro_divide_20 rfl rfl ?_
  refine a_iconst (v := 4) fx d_Ro_divide_21 rfl ?_
  refine a_ishl fx d_Ro_divide_22 ?_
  refine a_gets fx hZr w_374 d_Ro_divide_23 ?_
  refine a_iload_n fx 0 d_Ro_divide_26 rfl rfl ?_
  refine a_bipush (v := 28) fx d_Ro_divide_27 rfl ?_
  refine a_iushr fx d_Ro_divide_29 ?_
  obtain ⟨hin, h⟩ := h
  refine a_rem fx hTr hin d_Ro_divide_30 ?_
  refine a_ixor fx d_Ro_divide_31 ?_
  exact a_iret fx hlo hr h d_Ro_divide_32
set_option maxRecDepth 100000 in
set_option maxHeartbeats 4000000 in
theorem Met_Ro_sum (l : Launch) (B : Nat) (D : va_G) (aC : Nat → ClassId) (aS : Nat → Nat) {a0 : Nat} {i1 : Int32} {i2 : Int32} {M : zM} {post : Int32 → zM → Prop} (hk0 : a0 < N0) (ht0 : tg a0 = 1) (h : Wp_Ro_sum a0 i1 i2 M post) : Met l y_Ro_sum (wo y_Ro_sum b_Ro_sum 5 (some FieldType.int)) { frames := 1, cells := 0, slots := 0, locals := 22 } (va_Pc [.ref (B + a0), .int i1, .int i2] (zWl B D aC aS M)) (zQi B D aC post) 0 0 (zAb B) := by
  refine z_met (own := "MailChain$Row") (lv0 := [(0, .ref (B + a0)), (1, .int i1), (2, .int i2)]) (by decide) rfl (Nat.le_of_ble_eq_true rfl) rfl ?_
  intro p e s m below meth c fx hr hlo
  delta Wp_Ro_sum at h
  have h := h (fun v3 v4 M => zAt p l e { frames := 1, cells := 0, slots := 0, locals := 22 } s m ([.ref (B + a0), .int i1, .int i2] : List Value).toArray below meth c 0 0 (MQ below (zQi B D aC post) ([.ref (B + a0), .int i1, .int i2] : List Value).toArray s 0 0 (zAb B)) B D aC 5 5 [(0, .ref (B + a0)), (1, .int i1), (2, .int i2), (3, .int v3), (4, .int v4)] [] M)
  have h := h (fun v3 v4 M => zAt p l e { frames := 1, cells := 0, slots := 0, locals := 22 } s m ([.ref (B + a0), .int i1, .int i2] : List Value).toArray below meth c 0 0 (MQ below (zQi B D aC post) ([.ref (B + a0), .int i1, .int i2] : List Value).toArray s 0 0 (zAb B)) B D aC 5 33 [(0, .ref (B + a0)), (1, .int i1), (2, .int i2), (3, .int v3), (4, .int v4)] [] M)
  have h := h (by
    intro v3 v4 M h
    refine a_iload fx 4 d_Ro_sum_5 rfl ?_
    refine a_iload_n fx 2 d_Ro_sum_7 rfl rfl ?_
    refine a_icmp_ge fx 28 d_Ro_sum_8 rfl (fun hc => ?_) (fun hc => ?_)
    · have h := h.1 hc
      refine a_iload_n fx 2 d_Ro_sum_28 rfl rfl ?_
      refine a_iload_n fx 1 d_Ro_sum_29 rfl rfl ?_
      refine a_isub fx d_Ro_sum_30 ?_
      refine a_topi (fun x1 ex1 => ?_)
      have h := h x1 ex1
      refine a_istore (lv2 := [(4, .int x1), (0, .ref (B + a0)), (1, .int i1), (2, .int i2), (3, .int v3)]) fx d_Ro_sum_31 (by decide) rfl ?_
      refine a_sub [1, 2, 3, 4, 0] rfl ?_
      exact h
    · have h := h.2 hc
      refine a_iload_n fx 3 d_Ro_sum_11 rfl rfl ?_
      refine a_aload_n fx 0 d_Ro_sum_12 rfl rfl ?_
      refine a_iload fx 4 d_Ro_sum_13 rfl ?_
      refine a_calli (rest := [.int v3]) (a_runV (As := [.int v4]) fx cv_Ro_at w_367 (Met_Ro_at l B D aC aS (hk0 := hk0) (ht0 := ht0) h) hk0 ht0 (by decide) rfl rfl rfl (Nat.le_of_ble_eq_true rfl) rfl rfl ⟨Nat.le_of_ble_eq_true rfl, Nat.le_of_ble_eq_true rfl⟩ d_Ro_sum_15 ⟨Nat.le_of_ble_eq_true rfl, Nat.le_of_ble_eq_true rfl⟩) (fun x3 M2 h => ?_)
      refine a_calli (rest := []) (a_runS (As := [.int v3, .int x3]) fx  cv_Ro_divide w_371 (Met_Ro_divide l B D aC aS  h) rfl rfl (Nat.le_of_ble_eq_true rfl) rfl rfl ⟨Nat.le_of_ble_eq_true rfl, Nat.le_of_ble_eq_true rfl⟩ d_Ro_sum_18 ⟨Nat.le_of_ble_eq_true rfl, Nat.le_of_ble_eq_true rfl⟩) (fun x5 M4 h => ?_)
      refine a_istore_n (lv2 := [(3, .int x5), (0, .ref (B + a0)), (1, .int i1), (2, .int i2), (4, .int v4)]) fx d_Ro_sum_21 rfl (by decide) rfl ?_
      obtain ⟨x6, ex6⟩ : ∃ z : Int32, z = v4 + 1 := ⟨_, rfl⟩
      have h := h x6 ex6
      refine a_iinc (lv2 := [(4, .int x6), (3, .int x5), (0, .ref (B + a0)), (1, .int i1), (2, .int i2)]) fx 4 d_Ro_sum_22 rfl ex6.symm (by decide) rfl ?_
      refine a_goto fx 5 d_Ro_sum_25 rfl ?_
      refine a_sub [2, 3, 4, 1, 0] rfl ?_
      exact h)
  have h := h (by
    intro v3 v4 M h
    refine a_iload fx 4 d_Ro_sum_33 rfl ?_
    refine a_if_le fx 55 d_Ro_sum_35 rfl (fun hc => ?_) (fun hc => ?_)
    · have h := h.1 hc
      refine a_iload_n fx 3 d_Ro_sum_55 rfl rfl ?_
      refine a_iconst (v := (-1)) fx d_Ro_sum_56 rfl ?_
      refine a_ixor fx d_Ro_sum_57 ?_
      exact a_iret fx hlo hr h d_Ro_sum_58
    · have h := h.2 hc
      refine a_iload_n fx 3 d_Ro_sum_38 rfl rfl ?_
      refine a_iload fx 4 d_Ro_sum_39 rfl ?_
      refine a_calli (rest := []) (a_runS (As := [.int v3, .int v4]) fx  cv_Ro_divide w_371 (Met_Ro_divide l B D aC aS  h) rfl rfl (Nat.le_of_ble_eq_true rfl) rfl rfl ⟨Nat.le_of_ble_eq_true rfl, Nat.le_of_ble_eq_true rfl⟩ d_Ro_sum_41 ⟨Nat.le_of_ble_eq_true rfl, Nat.le_of_ble_eq_true rfl⟩) (fun x8 M7 h => ?_)
      refine a_istore_n (lv2 := [(3, .int x8), (0, .ref (B + a0)), (1, .int i1), (2, .int i2), (4, .int v4)]) fx d_Ro_sum_44 rfl (by decide) rfl ?_
      refine a_iload fx 4 d_Ro_sum_45 rfl ?_
      refine a_bipush (v := 8) fx d_Ro_sum_47 rfl ?_
      refine a_iushr fx d_Ro_sum_49 ?_
      refine a_topi (fun x9 ex9 => ?_)
      have h := h x9 ex9
      refine a_istore (lv2 := [(4, .int x9), (3, .int x8), (0, .ref (B + a0)), (1, .int i1), (2, .int i2)]) fx d_Ro_sum_50 (by decide) rfl ?_
      refine a_goto fx 33 d_Ro_sum_52 rfl ?_
      refine a_sub [2, 3, 4, 1, 0] rfl ?_
      exact h)
  refine a_iconst (v := 0) fx d_Ro_sum_0 rfl ?_
  refine a_istore_n (lv2 := [(3, .int 0), (0, .ref (B + a0)), (1, .int i1), (2, .int i2)]) fx d_Ro_sum_1 rfl (by decide) rfl ?_
  refine a_iload_n fx 2 d_Ro_sum_2 rfl rfl ?_
  refine a_istore (lv2 := [(4, .int i1), (3, .int 0), (0, .ref (B + a0)), (1, .int i1), (2, .int i2)]) fx d_Ro_sum_3 (by decide) rfl ?_
  refine a_sub [2, 3, 4, 1, 0] rfl ?_
  exact h
end
