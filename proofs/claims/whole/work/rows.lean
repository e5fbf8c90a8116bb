section
-- ===== PART A: goes FIRST, ahead of the names: the tables' words, and 'selects' of the private methods out of them =====
/-- a private method of a class that the tables say can be made, by its rows of tables_1 -/
def lw_okq (q : MethodName × Nat) : Prop := (q.1.cls ≠ "java/lang/invoke/MethodHandle" ∧ q.1.cls ≠ "java/lang/invoke/VarHandle") ∧ Cond.instantiable q.1.cls q.2 ∈ tables_1 ∧ Cond.privateMethod q.1 ∈ tables_1 ∧ Cond.instanceMethod q.1 ∈ tables_1
theorem lw_p0 : lw_okq (⟨"MailChain$PartLine", "number", "(LMailChain$Row;Ljava/lang/String;J)J"⟩, 5) := ⟨⟨by decide +kernel, by decide +kernel⟩, List.mem_of_getElem? (i := 190) (by decide +kernel), List.mem_of_getElem? (i := 392) (by decide +kernel), List.mem_of_getElem? (i := 393) (by decide +kernel)⟩
theorem lw_p1 : lw_okq (⟨"MailChain$Expander", "begin", "()V"⟩, 7) := ⟨⟨by decide +kernel, by decide +kernel⟩, List.mem_of_getElem? (i := 274) (by decide +kernel), List.mem_of_getElem? (i := 554) (by decide +kernel), List.mem_of_getElem? (i := 555) (by decide +kernel)⟩
theorem lw_p2 : lw_okq (⟨"MailChain$Expander", "readCode", "(LMailChain$Row;)I"⟩, 7) := ⟨⟨by decide +kernel, by decide +kernel⟩, List.mem_of_getElem? (i := 274) (by decide +kernel), List.mem_of_getElem? (i := 558) (by decide +kernel), List.mem_of_getElem? (i := 559) (by decide +kernel)⟩
theorem lw_p3 : lw_okq (⟨"MailChain$Expander", "changeWidth", "(I)V"⟩, 7) := ⟨⟨by decide +kernel, by decide +kernel⟩, List.mem_of_getElem? (i := 274) (by decide +kernel), List.mem_of_getElem? (i := 562) (by decide +kernel), List.mem_of_getElem? (i := 563) (by decide +kernel)⟩
theorem lw_p4 : lw_okq (⟨"MailChain$Expander", "tell", "(ILMailChain$Row;)Z"⟩, 7) := ⟨⟨by decide +kernel, by decide +kernel⟩, List.mem_of_getElem? (i := 274) (by decide +kernel), List.mem_of_getElem? (i := 567) (by decide +kernel), List.mem_of_getElem? (i := 568) (by decide +kernel)⟩
theorem lw_p5 : lw_okq (⟨"MailChain$Expander", "restart", "()V"⟩, 7) := ⟨⟨by decide +kernel, by decide +kernel⟩, List.mem_of_getElem? (i := 274) (by decide +kernel), List.mem_of_getElem? (i := 573) (by decide +kernel), List.mem_of_getElem? (i := 574) (by decide +kernel)⟩
theorem lw_p6 : lw_okq (⟨"MailChain$Squeezer", "begin", "(I)V"⟩, 9) := ⟨⟨by decide +kernel, by decide +kernel⟩, List.mem_of_getElem? (i := 240) (by decide +kernel), List.mem_of_getElem? (i := 584) (by decide +kernel), List.mem_of_getElem? (i := 585) (by decide +kernel)⟩
theorem lw_p7 : lw_okq (⟨"MailChain$Squeezer", "forget", "()V"⟩, 9) := ⟨⟨by decide +kernel, by decide +kernel⟩, List.mem_of_getElem? (i := 240) (by decide +kernel), List.mem_of_getElem? (i := 588) (by decide +kernel), List.mem_of_getElem? (i := 589) (by decide +kernel)⟩
theorem lw_p8 : lw_okq (⟨"java/lang/Throwable", "fillInStackTrace", "(I)Ljava/lang/Throwable;"⟩, 6) := ⟨⟨by decide +kernel, by decide +kernel⟩, List.mem_of_getElem? (i := 638) (by decide +kernel), List.mem_of_getElem? (i := 636) (by decide +kernel), List.mem_of_getElem? (i := 637) (by decide +kernel)⟩
theorem lw_p9 : lw_okq (⟨"MailChain$Squeezer", "childOf", "(II)I"⟩, 9) := ⟨⟨by decide +kernel, by decide +kernel⟩, List.mem_of_getElem? (i := 240) (by decide +kernel), List.mem_of_getElem? (i := 900) (by decide +kernel), List.mem_of_getElem? (i := 901) (by decide +kernel)⟩
theorem lw_p10 : lw_okq (⟨"MailChain$Squeezer", "putCode", "(ILMailChain$Row;)V"⟩, 9) := ⟨⟨by decide +kernel, by decide +kernel⟩, List.mem_of_getElem? (i := 240) (by decide +kernel), List.mem_of_getElem? (i := 904) (by decide +kernel), List.mem_of_getElem? (i := 905) (by decide +kernel)⟩
theorem lw_p11 : lw_okq (⟨"MailChain$Squeezer", "changeWidth", "(ILMailChain$Row;)V"⟩, 9) := ⟨⟨by decide +kernel, by decide +kernel⟩, List.mem_of_getElem? (i := 240) (by decide +kernel), List.mem_of_getElem? (i := 908) (by decide +kernel), List.mem_of_getElem? (i := 909) (by decide +kernel)⟩
theorem lw_p12 : lw_okq (⟨"MailChain$Squeezer", "putBits", "(ILMailChain$Row;)V"⟩, 9) := ⟨⟨by decide +kernel, by decide +kernel⟩, List.mem_of_getElem? (i := 240) (by decide +kernel), List.mem_of_getElem? (i := 912) (by decide +kernel), List.mem_of_getElem? (i := 913) (by decide +kernel)⟩
theorem lw_p13 : lw_okq (⟨"MailChain$Squeezer", "learn", "(IILMailChain$Row;)V"⟩, 9) := ⟨⟨by decide +kernel, by decide +kernel⟩, List.mem_of_getElem? (i := 240) (by decide +kernel), List.mem_of_getElem? (i := 916) (by decide +kernel), List.mem_of_getElem? (i := 917) (by decide +kernel)⟩
theorem lw_p14 : lw_okq (⟨"MailChain$Tree", "insertDraft", "()I"⟩, 4) := ⟨⟨by decide +kernel, by decide +kernel⟩, List.mem_of_getElem? (i := 64) (by decide +kernel), List.mem_of_getElem? (i := 970) (by decide +kernel), List.mem_of_getElem? (i := 971) (by decide +kernel)⟩
theorem lw_p15 : lw_okq (⟨"MailChain$Entry", "isName", "(II)Z"⟩, 9) := ⟨⟨by decide +kernel, by decide +kernel⟩, List.mem_of_getElem? (i := 71) (by decide +kernel), List.mem_of_getElem? (i := 979) (by decide +kernel), List.mem_of_getElem? (i := 980) (by decide +kernel)⟩
def lw_privs_1 : List (MethodName × Nat) := [(⟨"MailChain$PartLine", "number", "(LMailChain$Row;Ljava/lang/String;J)J"⟩, 5), (⟨"MailChain$Expander", "begin", "()V"⟩, 7), (⟨"MailChain$Expander", "readCode", "(LMailChain$Row;)I"⟩, 7), (⟨"MailChain$Expander", "changeWidth", "(I)V"⟩, 7), (⟨"MailChain$Expander", "tell", "(ILMailChain$Row;)Z"⟩, 7), (⟨"MailChain$Expander", "restart", "()V"⟩, 7), (⟨"MailChain$Squeezer", "begin", "(I)V"⟩, 9), (⟨"MailChain$Squeezer", "forget", "()V"⟩, 9), (⟨"java/lang/Throwable", "fillInStackTrace", "(I)Ljava/lang/Throwable;"⟩, 6), (⟨"MailChain$Squeezer", "childOf", "(II)I"⟩, 9), (⟨"MailChain$Squeezer", "putCode", "(ILMailChain$Row;)V"⟩, 9), (⟨"MailChain$Squeezer", "changeWidth", "(ILMailChain$Row;)V"⟩, 9), (⟨"MailChain$Squeezer", "putBits", "(ILMailChain$Row;)V"⟩, 9), (⟨"MailChain$Squeezer", "learn", "(IILMailChain$Row;)V"⟩, 9), (⟨"MailChain$Tree", "insertDraft", "()I"⟩, 4), (⟨"MailChain$Entry", "isName", "(II)Z"⟩, 9)]
theorem lw_r1 : ∀ q ∈ lw_privs_1, lw_okq q := List.forall_mem_cons.mpr ⟨lw_p0, List.forall_mem_cons.mpr ⟨lw_p1, List.forall_mem_cons.mpr ⟨lw_p2, List.forall_mem_cons.mpr ⟨lw_p3, List.forall_mem_cons.mpr ⟨lw_p4, List.forall_mem_cons.mpr ⟨lw_p5, List.forall_mem_cons.mpr ⟨lw_p6, List.forall_mem_cons.mpr ⟨lw_p7, List.forall_mem_cons.mpr ⟨lw_p8, List.forall_mem_cons.mpr ⟨lw_p9, List.forall_mem_cons.mpr ⟨lw_p10, List.forall_mem_cons.mpr ⟨lw_p11, List.forall_mem_cons.mpr ⟨lw_p12, List.forall_mem_cons.mpr ⟨lw_p13, List.forall_mem_cons.mpr ⟨lw_p14, List.forall_mem_cons.mpr ⟨lw_p15, fun _ h => absurd h List.not_mem_nil⟩⟩⟩⟩⟩⟩⟩⟩⟩⟩⟩⟩⟩⟩⟩⟩
theorem lw_p16 : lw_okq (⟨"MailChain$Tree", "hasParentOf", "(LMailChain$Entry;)Z"⟩, 4) := ⟨⟨by decide +kernel, by decide +kernel⟩, List.mem_of_getElem? (i := 64) (by decide +kernel), List.mem_of_getElem? (i := 983) (by decide +kernel), List.mem_of_getElem? (i := 984) (by decide +kernel)⟩
theorem lw_p17 : lw_okq (⟨"MailChain$Tree", "placeOf", "(LMailChain$Row;I)I"⟩, 4) := ⟨⟨by decide +kernel, by decide +kernel⟩, List.mem_of_getElem? (i := 64) (by decide +kernel), List.mem_of_getElem? (i := 991) (by decide +kernel), List.mem_of_getElem? (i := 992) (by decide +kernel)⟩
theorem lw_p18 : lw_okq (⟨"MailChain", "swapYours", "()V"⟩, 14) := ⟨⟨by decide +kernel, by decide +kernel⟩, List.mem_of_getElem? (i := 33) (by decide +kernel), List.mem_of_getElem? (i := 1039) (by decide +kernel), List.mem_of_getElem? (i := 1040) (by decide +kernel)⟩
theorem lw_p19 : lw_okq (⟨"MailChain", "afterEntering", "(I)I"⟩, 14) := ⟨⟨by decide +kernel, by decide +kernel⟩, List.mem_of_getElem? (i := 33) (by decide +kernel), List.mem_of_getElem? (i := 1099) (by decide +kernel), List.mem_of_getElem? (i := 1100) (by decide +kernel)⟩
theorem lw_p20 : lw_okq (⟨"MailChain", "refreshArchive", "()V"⟩, 14) := ⟨⟨by decide +kernel, by decide +kernel⟩, List.mem_of_getElem? (i := 33) (by decide +kernel), List.mem_of_getElem? (i := 1151) (by decide +kernel), List.mem_of_getElem? (i := 1152) (by decide +kernel)⟩
theorem lw_p21 : lw_okq (⟨"MailChain$Mail", "pieceEnd", "(I)I"⟩, 5) := ⟨⟨by decide +kernel, by decide +kernel⟩, List.mem_of_getElem? (i := 149) (by decide +kernel), List.mem_of_getElem? (i := 1160) (by decide +kernel), List.mem_of_getElem? (i := 1161) (by decide +kernel)⟩
theorem lw_p22 : lw_okq (⟨"MailChain", "textOfTape", "(II)LMailChain$Row;"⟩, 14) := ⟨⟨by decide +kernel, by decide +kernel⟩, List.mem_of_getElem? (i := 33) (by decide +kernel), List.mem_of_getElem? (i := 1226) (by decide +kernel), List.mem_of_getElem? (i := 1227) (by decide +kernel)⟩
theorem lw_p23 : lw_okq (⟨"MailChainModel", "added", "(IIIIII)I"⟩, 62) := ⟨⟨by decide +kernel, by decide +kernel⟩, List.mem_of_getElem? (i := 1259) (by decide +kernel), List.mem_of_getElem? (i := 1474) (by decide +kernel), List.mem_of_getElem? (i := 1475) (by decide +kernel)⟩
theorem lw_p24 : lw_okq (⟨"MailChainModel", "look", "([BII)V"⟩, 62) := ⟨⟨by decide +kernel, by decide +kernel⟩, List.mem_of_getElem? (i := 1259) (by decide +kernel), List.mem_of_getElem? (i := 1481) (by decide +kernel), List.mem_of_getElem? (i := 1482) (by decide +kernel)⟩
theorem lw_p25 : lw_okq (⟨"MailChainModel", "mayBe", "(II)Z"⟩, 62) := ⟨⟨by decide +kernel, by decide +kernel⟩, List.mem_of_getElem? (i := 1259) (by decide +kernel), List.mem_of_getElem? (i := 1485) (by decide +kernel), List.mem_of_getElem? (i := 1486) (by decide +kernel)⟩
theorem lw_p26 : lw_okq (⟨"MailChainModel", "isPath", "()Z"⟩, 62) := ⟨⟨by decide +kernel, by decide +kernel⟩, List.mem_of_getElem? (i := 1259) (by decide +kernel), List.mem_of_getElem? (i := 1492) (by decide +kernel), List.mem_of_getElem? (i := 1493) (by decide +kernel)⟩
theorem lw_p27 : lw_okq (⟨"MailChainModel", "hasParent", "(I)Z"⟩, 62) := ⟨⟨by decide +kernel, by decide +kernel⟩, List.mem_of_getElem? (i := 1259) (by decide +kernel), List.mem_of_getElem? (i := 1496) (by decide +kernel), List.mem_of_getElem? (i := 1497) (by decide +kernel)⟩
theorem lw_p28 : lw_okq (⟨"MailChainModel", "find", "(II)I"⟩, 62) := ⟨⟨by decide +kernel, by decide +kernel⟩, List.mem_of_getElem? (i := 1259) (by decide +kernel), List.mem_of_getElem? (i := 1500) (by decide +kernel), List.mem_of_getElem? (i := 1501) (by decide +kernel)⟩
theorem lw_p29 : lw_okq (⟨"MailChainModel", "compare", "(II)I"⟩, 62) := ⟨⟨by decide +kernel, by decide +kernel⟩, List.mem_of_getElem? (i := 1259) (by decide +kernel), List.mem_of_getElem? (i := 1507) (by decide +kernel), List.mem_of_getElem? (i := 1508) (by decide +kernel)⟩
theorem lw_p30 : lw_okq (⟨"MailChainModel", "bytesOf", "(I)I"⟩, 62) := ⟨⟨by decide +kernel, by decide +kernel⟩, List.mem_of_getElem? (i := 1259) (by decide +kernel), List.mem_of_getElem? (i := 1511) (by decide +kernel), List.mem_of_getElem? (i := 1512) (by decide +kernel)⟩
theorem lw_p31 : lw_okq (⟨"MailChainModel", "enter", "(I)I"⟩, 62) := ⟨⟨by decide +kernel, by decide +kernel⟩, List.mem_of_getElem? (i := 1259) (by decide +kernel), List.mem_of_getElem? (i := 1515) (by decide +kernel), List.mem_of_getElem? (i := 1516) (by decide +kernel)⟩
def lw_privs_2 : List (MethodName × Nat) := [(⟨"MailChain$Tree", "hasParentOf", "(LMailChain$Entry;)Z"⟩, 4), (⟨"MailChain$Tree", "placeOf", "(LMailChain$Row;I)I"⟩, 4), (⟨"MailChain", "swapYours", "()V"⟩, 14), (⟨"MailChain", "afterEntering", "(I)I"⟩, 14), (⟨"MailChain", "refreshArchive", "()V"⟩, 14), (⟨"MailChain$Mail", "pieceEnd", "(I)I"⟩, 5), (⟨"MailChain", "textOfTape", "(II)LMailChain$Row;"⟩, 14), (⟨"MailChainModel", "added", "(IIIIII)I"⟩, 62), (⟨"MailChainModel", "look", "([BII)V"⟩, 62), (⟨"MailChainModel", "mayBe", "(II)Z"⟩, 62), (⟨"MailChainModel", "isPath", "()Z"⟩, 62), (⟨"MailChainModel", "hasParent", "(I)Z"⟩, 62), (⟨"MailChainModel", "find", "(II)I"⟩, 62), (⟨"MailChainModel", "compare", "(II)I"⟩, 62), (⟨"MailChainModel", "bytesOf", "(I)I"⟩, 62), (⟨"MailChainModel", "enter", "(I)I"⟩, 62)]
theorem lw_r2 : ∀ q ∈ lw_privs_2, lw_okq q := List.forall_mem_cons.mpr ⟨lw_p16, List.forall_mem_cons.mpr ⟨lw_p17, List.forall_mem_cons.mpr ⟨lw_p18, List.forall_mem_cons.mpr ⟨lw_p19, List.forall_mem_cons.mpr ⟨lw_p20, List.forall_mem_cons.mpr ⟨lw_p21, List.forall_mem_cons.mpr ⟨lw_p22, List.forall_mem_cons.mpr ⟨lw_p23, List.forall_mem_cons.mpr ⟨lw_p24, List.forall_mem_cons.mpr ⟨lw_p25, List.forall_mem_cons.mpr ⟨lw_p26, List.forall_mem_cons.mpr ⟨lw_p27, List.forall_mem_cons.mpr ⟨lw_p28, List.forall_mem_cons.mpr ⟨lw_p29, List.forall_mem_cons.mpr ⟨lw_p30, List.forall_mem_cons.mpr ⟨lw_p31, fun _ h => absurd h List.not_mem_nil⟩⟩⟩⟩⟩⟩⟩⟩⟩⟩⟩⟩⟩⟩⟩⟩
theorem lw_p32 : lw_okq (⟨"MailChainModel", "copyEntry", "(II)V"⟩, 62) := ⟨⟨by decide +kernel, by decide +kernel⟩, List.mem_of_getElem? (i := 1259) (by decide +kernel), List.mem_of_getElem? (i := 1519) (by decide +kernel), List.mem_of_getElem? (i := 1520) (by decide +kernel)⟩
theorem lw_p33 : lw_okq (⟨"MailChainModel", "linkedNow", "(I)I"⟩, 62) := ⟨⟨by decide +kernel, by decide +kernel⟩, List.mem_of_getElem? (i := 1259) (by decide +kernel), List.mem_of_getElem? (i := 1527) (by decide +kernel), List.mem_of_getElem? (i := 1528) (by decide +kernel)⟩
theorem lw_p34 : lw_okq (⟨"MailChainModel", "copyAttributes", "(II)V"⟩, 62) := ⟨⟨by decide +kernel, by decide +kernel⟩, List.mem_of_getElem? (i := 1259) (by decide +kernel), List.mem_of_getElem? (i := 1531) (by decide +kernel), List.mem_of_getElem? (i := 1532) (by decide +kernel)⟩
theorem lw_p35 : lw_okq (⟨"MailChainModel", "isLarge", "(I)Z"⟩, 62) := ⟨⟨by decide +kernel, by decide +kernel⟩, List.mem_of_getElem? (i := 1259) (by decide +kernel), List.mem_of_getElem? (i := 1554) (by decide +kernel), List.mem_of_getElem? (i := 1555) (by decide +kernel)⟩
theorem lw_p36 : lw_okq (⟨"MailChainModel", "archiveOf", "(I)V"⟩, 62) := ⟨⟨by decide +kernel, by decide +kernel⟩, List.mem_of_getElem? (i := 1259) (by decide +kernel), List.mem_of_getElem? (i := 1559) (by decide +kernel), List.mem_of_getElem? (i := 1560) (by decide +kernel)⟩
theorem lw_p37 : lw_okq (⟨"MailChainModel", "firstOf", "(II)I"⟩, 62) := ⟨⟨by decide +kernel, by decide +kernel⟩, List.mem_of_getElem? (i := 1259) (by decide +kernel), List.mem_of_getElem? (i := 1565) (by decide +kernel), List.mem_of_getElem? (i := 1566) (by decide +kernel)⟩
theorem lw_p38 : lw_okq (⟨"MailChainModel", "linksOf", "(II)I"⟩, 62) := ⟨⟨by decide +kernel, by decide +kernel⟩, List.mem_of_getElem? (i := 1259) (by decide +kernel), List.mem_of_getElem? (i := 1569) (by decide +kernel), List.mem_of_getElem? (i := 1570) (by decide +kernel)⟩
theorem lw_p39 : lw_okq (⟨"MailChainModel", "header", "(IIIIIIII)V"⟩, 62) := ⟨⟨by decide +kernel, by decide +kernel⟩, List.mem_of_getElem? (i := 1259) (by decide +kernel), List.mem_of_getElem? (i := 1573) (by decide +kernel), List.mem_of_getElem? (i := 1574) (by decide +kernel)⟩
theorem lw_p40 : lw_okq (⟨"MailChainModel", "octal", "(JI)V"⟩, 62) := ⟨⟨by decide +kernel, by decide +kernel⟩, List.mem_of_getElem? (i := 1259) (by decide +kernel), List.mem_of_getElem? (i := 1578) (by decide +kernel), List.mem_of_getElem? (i := 1579) (by decide +kernel)⟩
theorem lw_p41 : lw_okq (⟨"MailChainModel", "zero", "()V"⟩, 62) := ⟨⟨by decide +kernel, by decide +kernel⟩, List.mem_of_getElem? (i := 1259) (by decide +kernel), List.mem_of_getElem? (i := 1583) (by decide +kernel), List.mem_of_getElem? (i := 1584) (by decide +kernel)⟩
theorem lw_p42 : lw_okq (⟨"MailChainModel", "compressRow", "([BII)V"⟩, 62) := ⟨⟨by decide +kernel, by decide +kernel⟩, List.mem_of_getElem? (i := 1259) (by decide +kernel), List.mem_of_getElem? (i := 1587) (by decide +kernel), List.mem_of_getElem? (i := 1588) (by decide +kernel)⟩
theorem lw_p43 : lw_okq (⟨"MailChainModel", "clearTable", "()V"⟩, 62) := ⟨⟨by decide +kernel, by decide +kernel⟩, List.mem_of_getElem? (i := 1259) (by decide +kernel), List.mem_of_getElem? (i := 1591) (by decide +kernel), List.mem_of_getElem? (i := 1592) (by decide +kernel)⟩
theorem lw_p44 : lw_okq (⟨"MailChainModel", "goOn", "(II)I"⟩, 62) := ⟨⟨by decide +kernel, by decide +kernel⟩, List.mem_of_getElem? (i := 1259) (by decide +kernel), List.mem_of_getElem? (i := 1596) (by decide +kernel), List.mem_of_getElem? (i := 1597) (by decide +kernel)⟩
theorem lw_p45 : lw_okq (⟨"MailChainModel", "putCode", "(II)V"⟩, 62) := ⟨⟨by decide +kernel, by decide +kernel⟩, List.mem_of_getElem? (i := 1259) (by decide +kernel), List.mem_of_getElem? (i := 1600) (by decide +kernel), List.mem_of_getElem? (i := 1601) (by decide +kernel)⟩
theorem lw_p46 : lw_okq (⟨"MailChainModel", "fill", "()V"⟩, 62) := ⟨⟨by decide +kernel, by decide +kernel⟩, List.mem_of_getElem? (i := 1259) (by decide +kernel), List.mem_of_getElem? (i := 1604) (by decide +kernel), List.mem_of_getElem? (i := 1605) (by decide +kernel)⟩
theorem lw_p47 : lw_okq (⟨"MailChainModel", "putBits", "(II)V"⟩, 62) := ⟨⟨by decide +kernel, by decide +kernel⟩, List.mem_of_getElem? (i := 1259) (by decide +kernel), List.mem_of_getElem? (i := 1608) (by decide +kernel), List.mem_of_getElem? (i := 1609) (by decide +kernel)⟩
def lw_privs_3 : List (MethodName × Nat) := [(⟨"MailChainModel", "copyEntry", "(II)V"⟩, 62), (⟨"MailChainModel", "linkedNow", "(I)I"⟩, 62), (⟨"MailChainModel", "copyAttributes", "(II)V"⟩, 62), (⟨"MailChainModel", "isLarge", "(I)Z"⟩, 62), (⟨"MailChainModel", "archiveOf", "(I)V"⟩, 62), (⟨"MailChainModel", "firstOf", "(II)I"⟩, 62), (⟨"MailChainModel", "linksOf", "(II)I"⟩, 62), (⟨"MailChainModel", "header", "(IIIIIIII)V"⟩, 62), (⟨"MailChainModel", "octal", "(JI)V"⟩, 62), (⟨"MailChainModel", "zero", "()V"⟩, 62), (⟨"MailChainModel", "compressRow", "([BII)V"⟩, 62), (⟨"MailChainModel", "clearTable", "()V"⟩, 62), (⟨"MailChainModel", "goOn", "(II)I"⟩, 62), (⟨"MailChainModel", "putCode", "(II)V"⟩, 62), (⟨"MailChainModel", "fill", "()V"⟩, 62), (⟨"MailChainModel", "putBits", "(II)V"⟩, 62)]
theorem lw_r3 : ∀ q ∈ lw_privs_3, lw_okq q := List.forall_mem_cons.mpr ⟨lw_p32, List.forall_mem_cons.mpr ⟨lw_p33, List.forall_mem_cons.mpr ⟨lw_p34, List.forall_mem_cons.mpr ⟨lw_p35, List.forall_mem_cons.mpr ⟨lw_p36, List.forall_mem_cons.mpr ⟨lw_p37, List.forall_mem_cons.mpr ⟨lw_p38, List.forall_mem_cons.mpr ⟨lw_p39, List.forall_mem_cons.mpr ⟨lw_p40, List.forall_mem_cons.mpr ⟨lw_p41, List.forall_mem_cons.mpr ⟨lw_p42, List.forall_mem_cons.mpr ⟨lw_p43, List.forall_mem_cons.mpr ⟨lw_p44, List.forall_mem_cons.mpr ⟨lw_p45, List.forall_mem_cons.mpr ⟨lw_p46, List.forall_mem_cons.mpr ⟨lw_p47, fun _ h => absurd h List.not_mem_nil⟩⟩⟩⟩⟩⟩⟩⟩⟩⟩⟩⟩⟩⟩⟩⟩
theorem lw_p48 : lw_okq (⟨"MailChainModel", "spellRow", "([BI)V"⟩, 62) := ⟨⟨by decide +kernel, by decide +kernel⟩, List.mem_of_getElem? (i := 1259) (by decide +kernel), List.mem_of_getElem? (i := 1612) (by decide +kernel), List.mem_of_getElem? (i := 1613) (by decide +kernel)⟩
theorem lw_p49 : lw_okq (⟨"MailChainModel", "lay", "(I)V"⟩, 62) := ⟨⟨by decide +kernel, by decide +kernel⟩, List.mem_of_getElem? (i := 1259) (by decide +kernel), List.mem_of_getElem? (i := 1616) (by decide +kernel), List.mem_of_getElem? (i := 1617) (by decide +kernel)⟩
theorem lw_p50 : lw_okq (⟨"MailChainModel", "six", "(I)V"⟩, 62) := ⟨⟨by decide +kernel, by decide +kernel⟩, List.mem_of_getElem? (i := 1259) (by decide +kernel), List.mem_of_getElem? (i := 1620) (by decide +kernel), List.mem_of_getElem? (i := 1621) (by decide +kernel)⟩
theorem lw_p51 : lw_okq (⟨"MailChainModel", "writePart", "(I)V"⟩, 62) := ⟨⟨by decide +kernel, by decide +kernel⟩, List.mem_of_getElem? (i := 1259) (by decide +kernel), List.mem_of_getElem? (i := 1628) (by decide +kernel), List.mem_of_getElem? (i := 1629) (by decide +kernel)⟩
theorem lw_p52 : lw_okq (⟨"MailChainModel", "putWord", "([B)V"⟩, 62) := ⟨⟨by decide +kernel, by decide +kernel⟩, List.mem_of_getElem? (i := 1259) (by decide +kernel), List.mem_of_getElem? (i := 1632) (by decide +kernel), List.mem_of_getElem? (i := 1633) (by decide +kernel)⟩
theorem lw_p53 : lw_okq (⟨"MailChainModel", "putChar", "(I)V"⟩, 62) := ⟨⟨by decide +kernel, by decide +kernel⟩, List.mem_of_getElem? (i := 1259) (by decide +kernel), List.mem_of_getElem? (i := 1636) (by decide +kernel), List.mem_of_getElem? (i := 1637) (by decide +kernel)⟩
theorem lw_p54 : lw_okq (⟨"MailChainModel", "putDecimal", "(J)V"⟩, 62) := ⟨⟨by decide +kernel, by decide +kernel⟩, List.mem_of_getElem? (i := 1259) (by decide +kernel), List.mem_of_getElem? (i := 1640) (by decide +kernel), List.mem_of_getElem? (i := 1641) (by decide +kernel)⟩
theorem lw_p55 : lw_okq (⟨"MailChainModel", "come", "()I"⟩, 62) := ⟨⟨by decide +kernel, by decide +kernel⟩, List.mem_of_getElem? (i := 1259) (by decide +kernel), List.mem_of_getElem? (i := 1654) (by decide +kernel), List.mem_of_getElem? (i := 1655) (by decide +kernel)⟩
theorem lw_p56 : lw_okq (⟨"MailChainModel", "word", "([B)Z"⟩, 62) := ⟨⟨by decide +kernel, by decide +kernel⟩, List.mem_of_getElem? (i := 1259) (by decide +kernel), List.mem_of_getElem? (i := 1658) (by decide +kernel), List.mem_of_getElem? (i := 1659) (by decide +kernel)⟩
theorem lw_p57 : lw_okq (⟨"MailChainModel", "decimal", "(I)J"⟩, 62) := ⟨⟨by decide +kernel, by decide +kernel⟩, List.mem_of_getElem? (i := 1259) (by decide +kernel), List.mem_of_getElem? (i := 1662) (by decide +kernel), List.mem_of_getElem? (i := 1663) (by decide +kernel)⟩
theorem lw_p58 : lw_okq (⟨"MailChainModel", "keep", "(II[BII)V"⟩, 62) := ⟨⟨by decide +kernel, by decide +kernel⟩, List.mem_of_getElem? (i := 1259) (by decide +kernel), List.mem_of_getElem? (i := 1670) (by decide +kernel), List.mem_of_getElem? (i := 1671) (by decide +kernel)⟩
theorem lw_p59 : lw_okq (⟨"MailChainModel", "emptyBox", "()V"⟩, 62) := ⟨⟨by decide +kernel, by decide +kernel⟩, List.mem_of_getElem? (i := 1259) (by decide +kernel), List.mem_of_getElem? (i := 1682) (by decide +kernel), List.mem_of_getElem? (i := 1683) (by decide +kernel)⟩
theorem lw_p60 : lw_okq (⟨"MailChainModel", "unpacked", "()I"⟩, 62) := ⟨⟨by decide +kernel, by decide +kernel⟩, List.mem_of_getElem? (i := 1259) (by decide +kernel), List.mem_of_getElem? (i := 1694) (by decide +kernel), List.mem_of_getElem? (i := 1695) (by decide +kernel)⟩
theorem lw_p61 : lw_okq (⟨"MailChainModel", "unspell", "()V"⟩, 62) := ⟨⟨by decide +kernel, by decide +kernel⟩, List.mem_of_getElem? (i := 1259) (by decide +kernel), List.mem_of_getElem? (i := 1698) (by decide +kernel), List.mem_of_getElem? (i := 1699) (by decide +kernel)⟩
theorem lw_p62 : lw_okq (⟨"MailChainModel", "expand", "(I)Z"⟩, 62) := ⟨⟨by decide +kernel, by decide +kernel⟩, List.mem_of_getElem? (i := 1259) (by decide +kernel), List.mem_of_getElem? (i := 1705) (by decide +kernel), List.mem_of_getElem? (i := 1706) (by decide +kernel)⟩
theorem lw_p63 : lw_okq (⟨"MailChainModel", "code", "(I)I"⟩, 62) := ⟨⟨by decide +kernel, by decide +kernel⟩, List.mem_of_getElem? (i := 1259) (by decide +kernel), List.mem_of_getElem? (i := 1709) (by decide +kernel), List.mem_of_getElem? (i := 1710) (by decide +kernel)⟩
def lw_privs_4 : List (MethodName × Nat) := [(⟨"MailChainModel", "spellRow", "([BI)V"⟩, 62), (⟨"MailChainModel", "lay", "(I)V"⟩, 62), (⟨"MailChainModel", "six", "(I)V"⟩, 62), (⟨"MailChainModel", "writePart", "(I)V"⟩, 62), (⟨"MailChainModel", "putWord", "([B)V"⟩, 62), (⟨"MailChainModel", "putChar", "(I)V"⟩, 62), (⟨"MailChainModel", "putDecimal", "(J)V"⟩, 62), (⟨"MailChainModel", "come", "()I"⟩, 62), (⟨"MailChainModel", "word", "([B)Z"⟩, 62), (⟨"MailChainModel", "decimal", "(I)J"⟩, 62), (⟨"MailChainModel", "keep", "(II[BII)V"⟩, 62), (⟨"MailChainModel", "emptyBox", "()V"⟩, 62), (⟨"MailChainModel", "unpacked", "()I"⟩, 62), (⟨"MailChainModel", "unspell", "()V"⟩, 62), (⟨"MailChainModel", "expand", "(I)Z"⟩, 62), (⟨"MailChainModel", "code", "(I)I"⟩, 62)]
theorem lw_r4 : ∀ q ∈ lw_privs_4, lw_okq q := List.forall_mem_cons.mpr ⟨lw_p48, List.forall_mem_cons.mpr ⟨lw_p49, List.forall_mem_cons.mpr ⟨lw_p50, List.forall_mem_cons.mpr ⟨lw_p51, List.forall_mem_cons.mpr ⟨lw_p52, List.forall_mem_cons.mpr ⟨lw_p53, List.forall_mem_cons.mpr ⟨lw_p54, List.forall_mem_cons.mpr ⟨lw_p55, List.forall_mem_cons.mpr ⟨lw_p56, List.forall_mem_cons.mpr ⟨lw_p57, List.forall_mem_cons.mpr ⟨lw_p58, List.forall_mem_cons.mpr ⟨lw_p59, List.forall_mem_cons.mpr ⟨lw_p60, List.forall_mem_cons.mpr ⟨lw_p61, List.forall_mem_cons.mpr ⟨lw_p62, List.forall_mem_cons.mpr ⟨lw_p63, fun _ h => absurd h List.not_mem_nil⟩⟩⟩⟩⟩⟩⟩⟩⟩⟩⟩⟩⟩⟩⟩⟩
theorem lw_p64 : lw_okq (⟨"MailChainModel", "firstByte", "(I)I"⟩, 62) := ⟨⟨by decide +kernel, by decide +kernel⟩, List.mem_of_getElem? (i := 1259) (by decide +kernel), List.mem_of_getElem? (i := 1713) (by decide +kernel), List.mem_of_getElem? (i := 1714) (by decide +kernel)⟩
theorem lw_p65 : lw_okq (⟨"MailChainModel", "layString", "(I)Z"⟩, 62) := ⟨⟨by decide +kernel, by decide +kernel⟩, List.mem_of_getElem? (i := 1259) (by decide +kernel), List.mem_of_getElem? (i := 1717) (by decide +kernel), List.mem_of_getElem? (i := 1718) (by decide +kernel)⟩
theorem lw_p66 : lw_okq (⟨"MailChainModel", "readTree", "()Z"⟩, 62) := ⟨⟨by decide +kernel, by decide +kernel⟩, List.mem_of_getElem? (i := 1259) (by decide +kernel), List.mem_of_getElem? (i := 1721) (by decide +kernel), List.mem_of_getElem? (i := 1722) (by decide +kernel)⟩
theorem lw_p67 : lw_okq (⟨"MailChainModel", "octalAt", "(II)J"⟩, 62) := ⟨⟨by decide +kernel, by decide +kernel⟩, List.mem_of_getElem? (i := 1259) (by decide +kernel), List.mem_of_getElem? (i := 1725) (by decide +kernel), List.mem_of_getElem? (i := 1726) (by decide +kernel)⟩
theorem lw_p68 : lw_okq (⟨"MailChainModel", "take", "(IIIIII)V"⟩, 62) := ⟨⟨by decide +kernel, by decide +kernel⟩, List.mem_of_getElem? (i := 1259) (by decide +kernel), List.mem_of_getElem? (i := 1731) (by decide +kernel), List.mem_of_getElem? (i := 1732) (by decide +kernel)⟩
theorem lw_p69 : lw_okq (⟨"MailChainModel", "areLinks", "()Z"⟩, 62) := ⟨⟨by decide +kernel, by decide +kernel⟩, List.mem_of_getElem? (i := 1259) (by decide +kernel), List.mem_of_getElem? (i := 1735) (by decide +kernel), List.mem_of_getElem? (i := 1736) (by decide +kernel)⟩
def lw_privs_5 : List (MethodName × Nat) := [(⟨"MailChainModel", "firstByte", "(I)I"⟩, 62), (⟨"MailChainModel", "layString", "(I)Z"⟩, 62), (⟨"MailChainModel", "readTree", "()Z"⟩, 62), (⟨"MailChainModel", "octalAt", "(II)J"⟩, 62), (⟨"MailChainModel", "take", "(IIIIII)V"⟩, 62), (⟨"MailChainModel", "areLinks", "()Z"⟩, 62)]
theorem lw_r5 : ∀ q ∈ lw_privs_5, lw_okq q := List.forall_mem_cons.mpr ⟨lw_p64, List.forall_mem_cons.mpr ⟨lw_p65, List.forall_mem_cons.mpr ⟨lw_p66, List.forall_mem_cons.mpr ⟨lw_p67, List.forall_mem_cons.mpr ⟨lw_p68, List.forall_mem_cons.mpr ⟨lw_p69, fun _ h => absurd h List.not_mem_nil⟩⟩⟩⟩⟩⟩
def lw_privs : List (MethodName × Nat) := lw_privs_1 ++ (lw_privs_2 ++ (lw_privs_3 ++ (lw_privs_4 ++ (lw_privs_5))))
def lw_tbl : List Cond := k2_sels lw_privs ++ tables_1
theorem lw_privs_ok : ∀ q ∈ lw_privs, lw_okq q := by
  show ∀ q ∈ lw_privs_1 ++ (lw_privs_2 ++ (lw_privs_3 ++ (lw_privs_4 ++ (lw_privs_5)))), lw_okq q
  exact List.forall_mem_append.mpr ⟨lw_r1, List.forall_mem_append.mpr ⟨lw_r2, List.forall_mem_append.mpr ⟨lw_r3, List.forall_mem_append.mpr ⟨lw_r4, lw_r5⟩⟩⟩⟩
end
section
-- names, fields, layout: by names.py out of the listing
abbrev R_Mc : String := "MailChain"
def F_Mc : u_T := fun k => match k with
  | 0 => ("MailChain", "tape", "LMailChain$Row;", true)
  | 1 => ("MailChain", "mine", "LMailChain$Tree;", true)
  | 2 => ("MailChain", "yours", "LMailChain$Tree;", false)
  | 3 => ("MailChain", "draftOfYours", "LMailChain$Tree;", false)
  | 4 => ("MailChain", "archive", "LMailChain$Row;", true)
  | 5 => ("MailChain", "archiveIsFresh", "Z", false)
  | 6 => ("MailChain", "mail", "LMailChain$Mail;", true)
  | 7 => ("MailChain", "box", "LMailChain$Box;", true)
  | 8 => ("MailChain", "squeezer", "LMailChain$Squeezer;", true)
  | 9 => ("MailChain", "expander", "LMailChain$Expander;", true)
  | 10 => ("MailChain", "plain", "LMailChain$Row;", true)
  | 11 => ("MailChain", "squeezed", "LMailChain$Row;", true)
  | 12 => ("MailChain", "text", "LMailChain$Row;", true)
  | _ => ("MailChain", "proof", "LMailChain$Row;", true)
def t_Mc : Nat → FieldType := fun k => match k with
  | 0 => .object "MailChain$Row"
  | 1 => .object "MailChain$Tree"
  | 2 => .object "MailChain$Tree"
  | 3 => .object "MailChain$Tree"
  | 4 => .object "MailChain$Row"
  | 5 => .boolean
  | 6 => .object "MailChain$Mail"
  | 7 => .object "MailChain$Box"
  | 8 => .object "MailChain$Squeezer"
  | 9 => .object "MailChain$Expander"
  | 10 => .object "MailChain$Row"
  | 11 => .object "MailChain$Row"
  | 12 => .object "MailChain$Row"
  | _ => .object "MailChain$Row"
theorem n_Mc : ∀ a, a < 14 → ∀ b, b < 14 → a ≠ b → (F_Mc a).2.1 ≠ (F_Mc b).2.1 := by decide +kernel
theorem t_Mc_ok : ∀ k, k < 14 → parseFieldDescriptor (F_Mc k).2.2.1 = some (t_Mc k) := by decide +kernel
abbrev R_Ro : String := "MailChain$Row"
def F_Ro : u_T := fun k => match k with
  | 0 => ("MailChain$Row", "bytes", "[B", true)
  | _ => ("MailChain$Row", "size", "I", false)
def t_Ro : Nat → FieldType := fun k => match k with
  | 0 => .array (.byte)
  | _ => .int
theorem n_Ro : ∀ a, a < 2 → ∀ b, b < 2 → a ≠ b → (F_Ro a).2.1 ≠ (F_Ro b).2.1 := by decide +kernel
theorem t_Ro_ok : ∀ k, k < 2 → parseFieldDescriptor (F_Ro k).2.2.1 = some (t_Ro k) := by decide +kernel
abbrev R_En : String := "MailChain$Entry"
def F_En : u_T := fun k => match k with
  | 0 => ("MailChain$Entry", "path", "LMailChain$Row;", true)
  | 1 => ("MailChain$Entry", "kind", "I", false)
  | 2 => ("MailChain$Entry", "mode", "I", false)
  | 3 => ("MailChain$Entry", "owner", "I", false)
  | 4 => ("MailChain$Entry", "group", "I", false)
  | 5 => ("MailChain$Entry", "time", "I", false)
  | 6 => ("MailChain$Entry", "start", "I", false)
  | 7 => ("MailChain$Entry", "size", "I", false)
  | _ => ("MailChain$Entry", "family", "I", false)
def t_En : Nat → FieldType := fun k => match k with
  | 0 => .object "MailChain$Row"
  | 1 => .int
  | 2 => .int
  | 3 => .int
  | 4 => .int
  | 5 => .int
  | 6 => .int
  | 7 => .int
  | _ => .int
theorem n_En : ∀ a, a < 9 → ∀ b, b < 9 → a ≠ b → (F_En a).2.1 ≠ (F_En b).2.1 := by decide +kernel
theorem t_En_ok : ∀ k, k < 9 → parseFieldDescriptor (F_En k).2.2.1 = some (t_En k) := by decide +kernel
abbrev R_Tr : String := "MailChain$Tree"
def F_Tr : u_T := fun k => match k with
  | 0 => ("MailChain$Tree", "entries", "[LMailChain$Entry;", true)
  | 1 => ("MailChain$Tree", "bodies", "LMailChain$Row;", true)
  | 2 => ("MailChain$Tree", "count", "I", false)
  | _ => ("MailChain$Tree", "contents", "I", false)
def t_Tr : Nat → FieldType := fun k => match k with
  | 0 => .array (.object "MailChain$Entry")
  | 1 => .object "MailChain$Row"
  | 2 => .int
  | _ => .int
theorem n_Tr : ∀ a, a < 4 → ∀ b, b < 4 → a ≠ b → (F_Tr a).2.1 ≠ (F_Tr b).2.1 := by decide +kernel
theorem t_Tr_ok : ∀ k, k < 4 → parseFieldDescriptor (F_Tr k).2.2.1 = some (t_Tr k) := by decide +kernel
abbrev R_Ma : String := "MailChain$Mail"
def F_Ma : u_T := fun k => match k with
  | 0 => ("MailChain$Mail", "squeezed", "LMailChain$Row;", true)
  | 1 => ("MailChain$Mail", "text", "LMailChain$Row;", true)
  | 2 => ("MailChain$Mail", "count", "I", false)
  | 3 => ("MailChain$Mail", "length", "I", false)
  | _ => ("MailChain$Mail", "sums", "[I", true)
def t_Ma : Nat → FieldType := fun k => match k with
  | 0 => .object "MailChain$Row"
  | 1 => .object "MailChain$Row"
  | 2 => .int
  | 3 => .int
  | _ => .array (.int)
theorem n_Ma : ∀ a, a < 5 → ∀ b, b < 5 → a ≠ b → (F_Ma a).2.1 ≠ (F_Ma b).2.1 := by decide +kernel
theorem t_Ma_ok : ∀ k, k < 5 → parseFieldDescriptor (F_Ma k).2.2.1 = some (t_Ma k) := by decide +kernel
abbrev R_Pl : String := "MailChain$PartLine"
def F_Pl : u_T := fun k => match k with
  | 0 => ("MailChain$PartLine", "k", "I", false)
  | 1 => ("MailChain$PartLine", "n", "I", false)
  | 2 => ("MailChain$PartLine", "size", "I", false)
  | 3 => ("MailChain$PartLine", "sum", "J", false)
  | _ => ("MailChain$PartLine", "end", "I", false)
def t_Pl : Nat → FieldType := fun k => match k with
  | 0 => .int
  | 1 => .int
  | 2 => .int
  | 3 => .long
  | _ => .int
theorem n_Pl : ∀ a, a < 5 → ∀ b, b < 5 → a ≠ b → (F_Pl a).2.1 ≠ (F_Pl b).2.1 := by decide +kernel
theorem t_Pl_ok : ∀ k, k < 5 → parseFieldDescriptor (F_Pl k).2.2.1 = some (t_Pl k) := by decide +kernel
abbrev R_Bo : String := "MailChain$Box"
def F_Bo : u_T := fun k => match k with
  | 0 => ("MailChain$Box", "pieces", "LMailChain$Row;", true)
  | 1 => ("MailChain$Box", "starts", "[I", true)
  | 2 => ("MailChain$Box", "sizes", "[I", true)
  | 3 => ("MailChain$Box", "line", "LMailChain$PartLine;", true)
  | 4 => ("MailChain$Box", "n", "I", false)
  | 5 => ("MailChain$Box", "bytes", "I", false)
  | _ => ("MailChain$Box", "count", "I", false)
def t_Bo : Nat → FieldType := fun k => match k with
  | 0 => .object "MailChain$Row"
  | 1 => .array (.int)
  | 2 => .array (.int)
  | 3 => .object "MailChain$PartLine"
  | 4 => .int
  | 5 => .int
  | _ => .int
theorem n_Bo : ∀ a, a < 7 → ∀ b, b < 7 → a ≠ b → (F_Bo a).2.1 ≠ (F_Bo b).2.1 := by decide +kernel
theorem t_Bo_ok : ∀ k, k < 7 → parseFieldDescriptor (F_Bo k).2.2.1 = some (t_Bo k) := by decide +kernel
abbrev R_Sq : String := "MailChain$Squeezer"
def F_Sq : u_T := fun k => match k with
  | 0 => ("MailChain$Squeezer", "firstChild", "[I", true)
  | 1 => ("MailChain$Squeezer", "nextChild", "[I", true)
  | 2 => ("MailChain$Squeezer", "lastByte", "[I", true)
  | 3 => ("MailChain$Squeezer", "greatest", "I", false)
  | 4 => ("MailChain$Squeezer", "next", "I", false)
  | 5 => ("MailChain$Squeezer", "width", "I", false)
  | 6 => ("MailChain$Squeezer", "codesOfWidth", "I", false)
  | 7 => ("MailChain$Squeezer", "bits", "I", false)
  | _ => ("MailChain$Squeezer", "bitCount", "I", false)
def t_Sq : Nat → FieldType := fun k => match k with
  | 0 => .array (.int)
  | 1 => .array (.int)
  | 2 => .array (.int)
  | 3 => .int
  | 4 => .int
  | 5 => .int
  | 6 => .int
  | 7 => .int
  | _ => .int
theorem n_Sq : ∀ a, a < 9 → ∀ b, b < 9 → a ≠ b → (F_Sq a).2.1 ≠ (F_Sq b).2.1 := by decide +kernel
theorem t_Sq_ok : ∀ k, k < 9 → parseFieldDescriptor (F_Sq k).2.2.1 = some (t_Sq k) := by decide +kernel
abbrev R_Ex : String := "MailChain$Expander"
def F_Ex : u_T := fun k => match k with
  | 0 => ("MailChain$Expander", "starts", "[I", true)
  | 1 => ("MailChain$Expander", "sizes", "[I", true)
  | 2 => ("MailChain$Expander", "greatest", "I", false)
  | 3 => ("MailChain$Expander", "next", "I", false)
  | 4 => ("MailChain$Expander", "width", "I", false)
  | 5 => ("MailChain$Expander", "codesOfWidth", "I", false)
  | _ => ("MailChain$Expander", "groupStart", "I", false)
def t_Ex : Nat → FieldType := fun k => match k with
  | 0 => .array (.int)
  | 1 => .array (.int)
  | 2 => .int
  | 3 => .int
  | 4 => .int
  | 5 => .int
  | _ => .int
theorem n_Ex : ∀ a, a < 7 → ∀ b, b < 7 → a ≠ b → (F_Ex a).2.1 ≠ (F_Ex b).2.1 := by decide +kernel
theorem t_Ex_ok : ∀ k, k < 7 → parseFieldDescriptor (F_Ex k).2.2.1 = some (t_Ex k) := by decide +kernel
abbrev R_Mo : String := "MailChainModel"
def F_Mo : u_T := fun k => match k with
  | 0 => ("MailChainModel", "trailerName", "[B", true)
  | 1 => ("MailChainModel", "beginLine", "[B", true)
  | 2 => ("MailChainModel", "partWord", "[B", true)
  | 3 => ("MailChainModel", "ofWord", "[B", true)
  | 4 => ("MailChainModel", "sizeWord", "[B", true)
  | 5 => ("MailChainModel", "sumWord", "[B", true)
  | 6 => ("MailChainModel", "thrown", "I", false)
  | 7 => ("MailChainModel", "taped", "I", false)
  | 8 => ("MailChainModel", "tape", "[B", true)
  | 9 => ("MailChainModel", "count", "[I", true)
  | 10 => ("MailChainModel", "paths", "[B", true)
  | 11 => ("MailChainModel", "pathSize", "[I", true)
  | 12 => ("MailChainModel", "kind", "[I", true)
  | 13 => ("MailChainModel", "mode", "[I", true)
  | 14 => ("MailChainModel", "owner", "[I", true)
  | 15 => ("MailChainModel", "group", "[I", true)
  | 16 => ("MailChainModel", "time", "[I", true)
  | 17 => ("MailChainModel", "from", "[I", true)
  | 18 => ("MailChainModel", "size", "[I", true)
  | 19 => ("MailChainModel", "linked", "[I", true)
  | 20 => ("MailChainModel", "used", "[I", true)
  | 21 => ("MailChainModel", "contents", "[B", true)
  | 22 => ("MailChainModel", "groups", "I", false)
  | 23 => ("MailChainModel", "path", "[B", true)
  | 24 => ("MailChainModel", "pathBytes", "I", false)
  | 25 => ("MailChainModel", "archived", "I", false)
  | 26 => ("MailChainModel", "archive", "[B", true)
  | 27 => ("MailChainModel", "compressed", "I", false)
  | 28 => ("MailChainModel", "compress", "[B", true)
  | 29 => ("MailChainModel", "spelled", "I", false)
  | 30 => ("MailChainModel", "spell", "[B", true)
  | 31 => ("MailChainModel", "parts", "I", false)
  | 32 => ("MailChainModel", "pieceSize", "I", false)
  | 33 => ("MailChainModel", "packedSize", "I", false)
  | 34 => ("MailChainModel", "packed", "[B", true)
  | 35 => ("MailChainModel", "textSize", "I", false)
  | 36 => ("MailChainModel", "text", "[B", true)
  | 37 => ("MailChainModel", "boxOf", "I", false)
  | 38 => ("MailChainModel", "boxParts", "I", false)
  | 39 => ("MailChainModel", "boxBytes", "J", false)
  | 40 => ("MailChainModel", "has", "[Z", true)
  | 41 => ("MailChainModel", "boxSize", "[I", true)
  | 42 => ("MailChainModel", "boxFrom", "[I", true)
  | 43 => ("MailChainModel", "boxUsed", "I", false)
  | 44 => ("MailChainModel", "box", "[B", true)
  | 45 => ("MailChainModel", "readSize", "I", false)
  | 46 => ("MailChainModel", "read", "[B", true)
  | 47 => ("MailChainModel", "backSize", "I", false)
  | 48 => ("MailChainModel", "back", "[B", true)
  | 49 => ("MailChainModel", "child", "[I", true)
  | 50 => ("MailChainModel", "beside", "[I", true)
  | 51 => ("MailChainModel", "last", "[I", true)
  | 52 => ("MailChainModel", "before", "[I", true)
  | 53 => ("MailChainModel", "next", "I", false)
  | 54 => ("MailChainModel", "width", "I", false)
  | 55 => ("MailChainModel", "codes", "I", false)
  | 56 => ("MailChainModel", "bits", "I", false)
  | 57 => ("MailChainModel", "bitCount", "I", false)
  | 58 => ("MailChainModel", "bitAt", "I", false)
  | 59 => ("MailChainModel", "partSize", "I", false)
  | 60 => ("MailChainModel", "one", "[B", true)
  | _ => ("MailChainModel", "head", "I", false)
def t_Mo : Nat → FieldType := fun k => match k with
  | 0 => .array (.byte)
  | 1 => .array (.byte)
  | 2 => .array (.byte)
  | 3 => .array (.byte)
  | 4 => .array (.byte)
  | 5 => .array (.byte)
  | 6 => .int
  | 7 => .int
  | 8 => .array (.byte)
  | 9 => .array (.int)
  | 10 => .array (.byte)
  | 11 => .array (.int)
  | 12 => .array (.int)
  | 13 => .array (.int)
  | 14 => .array (.int)
  | 15 => .array (.int)
  | 16 => .array (.int)
  | 17 => .array (.int)
  | 18 => .array (.int)
  | 19 => .array (.int)
  | 20 => .array (.int)
  | 21 => .array (.byte)
  | 22 => .int
  | 23 => .array (.byte)
  | 24 => .int
  | 25 => .int
  | 26 => .array (.byte)
  | 27 => .int
  | 28 => .array (.byte)
  | 29 => .int
  | 30 => .array (.byte)
  | 31 => .int
  | 32 => .int
  | 33 => .int
  | 34 => .array (.byte)
  | 35 => .int
  | 36 => .array (.byte)
  | 37 => .int
  | 38 => .int
  | 39 => .long
  | 40 => .array (.boolean)
  | 41 => .array (.int)
  | 42 => .array (.int)
  | 43 => .int
  | 44 => .array (.byte)
  | 45 => .int
  | 46 => .array (.byte)
  | 47 => .int
  | 48 => .array (.byte)
  | 49 => .array (.int)
  | 50 => .array (.int)
  | 51 => .array (.int)
  | 52 => .array (.int)
  | 53 => .int
  | 54 => .int
  | 55 => .int
  | 56 => .int
  | 57 => .int
  | 58 => .int
  | 59 => .int
  | 60 => .array (.byte)
  | _ => .int
theorem n_Mo : ∀ a, a < 62 → ∀ b, b < 62 → a ≠ b → (F_Mo a).2.1 ≠ (F_Mo b).2.1 := by decide +kernel
theorem t_Mo_ok : ∀ k, k < 62 → parseFieldDescriptor (F_Mo k).2.2.1 = some (t_Mo k) := by decide +kernel
abbrev R_Ar : String := "MailChain$Archive"
abbrev R_Sp : String := "MailChain$Spelling"
abbrev R_La : String := "MailChainLaw"
def kcl : List vw_C := [(R_Mc, F_Mc, 14), (R_Ro, F_Ro, 2), (R_En, F_En, 9), (R_Tr, F_Tr, 4), (R_Ma, F_Ma, 5), (R_Pl, F_Pl, 5), (R_Bo, F_Bo, 7), (R_Sq, F_Sq, 9), (R_Ex, F_Ex, 7), (R_Mo, F_Mo, 62)]
/-- the number of fields of a class -/
def nf (t : Nat) : Nat := match t with
  | 0 => 14
  | 1 => 2
  | 2 => 9
  | 3 => 4
  | 4 => 5
  | 5 => 5
  | 6 => 7
  | 7 => 9
  | 8 => 7
  | 9 => 62
  | _ => 0
/-- a field: 0 whole number, 1 long, 2 a reference that never changes, 3 a reference that may -/
def ft (t j : Nat) : Nat := match t with
  | 0 => [2, 2, 3, 3, 2, 0, 2, 2, 2, 2, 2, 2, 2, 2].getD j 0
  | 1 => [2, 0].getD j 0
  | 2 => [2, 0, 0, 0, 0, 0, 0, 0, 0].getD j 0
  | 3 => [2, 2, 0, 0].getD j 0
  | 4 => [2, 2, 0, 0, 2].getD j 0
  | 5 => [0, 0, 0, 1, 0].getD j 0
  | 6 => [2, 2, 2, 2, 0, 0, 0].getD j 0
  | 7 => [2, 2, 2, 0, 0, 0, 0, 0, 0].getD j 0
  | 8 => [2, 2, 0, 0, 0, 0, 0].getD j 0
  | 9 => [2, 2, 2, 2, 2, 2, 0, 0, 2, 2, 2, 2, 2, 2, 2, 2, 2, 2, 2, 2, 2, 2, 0, 2, 0, 0, 2, 0, 2, 0, 2, 0, 0, 0, 2, 0, 2, 0, 0, 1, 2, 2, 2, 0, 2, 0, 2, 0, 2, 2, 2, 2, 2, 0, 0, 0, 0, 0, 0, 0, 2, 0].getD j 0
  | _ => 0
/-- where the object of a reference that never changes lies, counted from its owner -/
def fo (t j : Nat) : Nat := match t with
  | 0 => [1, 3, 0, 0, 384, 0, 386, 392, 398, 402, 405, 407, 409, 411].getD j 0
  | 1 => [1, 0].getD j 0
  | 2 => [1, 0, 0, 0, 0, 0, 0, 0, 0].getD j 0
  | 3 => [1, 125, 0, 0].getD j 0
  | 4 => [1, 3, 0, 0, 5].getD j 0
  | 5 => [0, 0, 0, 0, 0].getD j 0
  | 6 => [1, 3, 4, 5, 0, 0, 0].getD j 0
  | 7 => [1, 2, 3, 0, 0, 0, 0, 0, 0].getD j 0
  | 8 => [1, 2, 0, 0, 0, 0, 0].getD j 0
  | 9 => [1, 2, 3, 4, 5, 6, 0, 0, 7, 8, 9, 10, 11, 12, 13, 14, 15, 16, 17, 18, 19, 20, 0, 21, 0, 0, 22, 0, 23, 0, 24, 0, 0, 0, 25, 0, 26, 0, 0, 0, 27, 28, 29, 0, 30, 0, 31, 0, 32, 33, 34, 35, 36, 0, 0, 0, 0, 0, 0, 0, 37, 0].getD j 0
  | _ => 0
def layL : List (Nat × Nat) := [(0, 0), (1, 0), (20, 8000), (3, 0), (24, 41), (2, 0), (1, 0), (20, 60), (2, 0), (1, 0), (20, 60), (2, 0), (1, 0), (20, 60), (2, 0), (1, 0), (20, 60), (2, 0), (1, 0), (20, 60), (2, 0), (1, 0), (20, 60), (2, 0), (1, 0), (20, 60), (2, 0), (1, 0), (20, 60), (2, 0), (1, 0), (20, 60), (2, 0), (1, 0), (20, 60), (2, 0), (1, 0), (20, 60), (2, 0), (1, 0), (20, 60), (2, 0), (1, 0), (20, 60), (2, 0), (1, 0), (20, 60), (2, 0), (1, 0), (20, 60), (2, 0), (1, 0), (20, 60), (2, 0), (1, 0), (20, 60), (2, 0), (1, 0), (20, 60), (2, 0), (1, 0), (20, 60), (2, 0), (1, 0), (20, 60), (2, 0), (1, 0), (20, 60), (2, 0), (1, 0), (20, 60), (2, 0), (1, 0), (20, 60), (2, 0), (1, 0), (20, 60), (2, 0), (1, 0), (20, 60), (2, 0), (1, 0), (20, 60), (2, 0), (1, 0), (20, 60), (2, 0), (1, 0), (20, 60), (2, 0), (1, 0), (20, 60), (2, 0), (1, 0), (20, 60), (2, 0), (1, 0), (20, 60), (2, 0), (1, 0), (20, 60), (2, 0), (1, 0), (20, 60), (2, 0), (1, 0), (20, 60), (2, 0), (1, 0), (20, 60), (2, 0), (1, 0), (20, 60), (2, 0), (1, 0), (20, 60), (2, 0), (1, 0), (20, 60), (2, 0), (1, 0), (20, 60), (2, 0), (1, 0), (20, 60), (2, 0), (1, 0), (20, 60), (1, 0), (20, 8400), (3, 0), (24, 41), (2, 0), (1, 0), (20, 60), (2, 0), (1, 0), (20, 60), (2, 0), (1, 0), (20, 60), (2, 0), (1, 0), (20, 60), (2, 0), (1, 0), (20, 60), (2, 0), (1, 0), (20, 60), (2, 0), (1, 0), (20, 60), (2, 0), (1, 0), (20, 60), (2, 0), (1, 0), (20, 60), (2, 0), (1, 0), (20, 60), (2, 0), (1, 0), (20, 60), (2, 0), (1, 0), (20, 60), (2, 0), (1, 0), (20, 60), (2, 0), (1, 0), (20, 60), (2, 0), (1, 0), (20, 60), (2, 0), (1, 0), (20, 60), (2, 0), (1, 0), (20, 60), (2, 0), (1, 0), (20, 60), (2, 0), (1, 0), (20, 60), (2, 0), (1, 0), (20, 60), (2, 0), (1, 0), (20, 60), (2, 0), (1, 0), (20, 60), (2, 0), (1, 0), (20, 60), (2, 0), (1, 0), (20, 60), (2, 0), (1, 0), (20, 60), (2, 0), (1, 0), (20, 60), (2, 0), (1, 0), (20, 60), (2, 0), (1, 0), (20, 60), (2, 0), (1, 0), (20, 60), (2, 0), (1, 0), (20, 60), (2, 0), (1, 0), (20, 60), (2, 0), (1, 0), (20, 60), (2, 0), (1, 0), (20, 60), (2, 0), (1, 0), (20, 60), (2, 0), (1, 0), (20, 60), (2, 0), (1, 0), (20, 60), (2, 0), (1, 0), (20, 60), (2, 0), (1, 0), (20, 60), (2, 0), (1, 0), (20, 60), (2, 0), (1, 0), (20, 60), (2, 0), (1, 0), (20, 60), (1, 0), (20, 8400), (3, 0), (24, 41), (2, 0), (1, 0), (20, 60), (2, 0), (1, 0), (20, 60), (2, 0), (1, 0), (20, 60), (2, 0), (1, 0), (20, 60), (2, 0), (1, 0), (20, 60), (2, 0), (1, 0), (20, 60), (2, 0), (1, 0), (20, 60), (2, 0), (1, 0), (20, 60), (2, 0), (1, 0), (20, 60), (2, 0), (1, 0), (20, 60), (2, 0), (1, 0), (20, 60), (2, 0), (1, 0), (20, 60), (2, 0), (1, 0), (20, 60), (2, 0), (1, 0), (20, 60), (2, 0), (1, 0), (20, 60), (2, 0), (1, 0), (20, 60), (2, 0), (1, 0), (20, 60), (2, 0), (1, 0), (20, 60), (2, 0), (1, 0), (20, 60), (2, 0), (1, 0), (20, 60), (2, 0), (1, 0), (20, 60), (2, 0), (1, 0), (20, 60), (2, 0), (1, 0), (20, 60), (2, 0), (1, 0), (20, 60), (2, 0), (1, 0), (20, 60), (2, 0), (1, 0), (20, 60), (2, 0), (1, 0), (20, 60), (2, 0), (1, 0), (20, 60), (2, 0), (1, 0), (20, 60), (2, 0), (1, 0), (20, 60), (2, 0), (1, 0), (20, 60), (2, 0), (1, 0), (20, 60), (2, 0), (1, 0), (20, 60), (2, 0), (1, 0), (20, 60), (2, 0), (1, 0), (20, 60), (2, 0), (1, 0), (20, 60), (2, 0), (1, 0), (20, 60), (2, 0), (1, 0), (20, 60), (2, 0), (1, 0), (20, 60), (2, 0), (1, 0), (20, 60), (2, 0), (1, 0), (20, 60), (1, 0), (20, 8400), (1, 0), (20, 14000), (4, 0), (1, 0), (20, 26000), (1, 0), (20, 36000), (21, 999), (6, 0), (1, 0), (20, 48000), (21, 1000), (21, 1000), (5, 0), (7, 0), (21, 16384), (21, 16384), (21, 16384), (8, 0), (21, 16384), (21, 16384), (1, 0), (20, 16000), (1, 0), (20, 36000), (1, 0), (20, 48000), (1, 0), (20, 50000), (9, 0), (20, 10), (20, 15), (20, 5), (20, 3), (20, 5), (20, 6), (20, 8000), (21, 3), (20, 7380), (21, 123), (21, 123), (21, 123), (21, 123), (21, 123), (21, 123), (21, 123), (21, 123), (21, 123), (21, 3), (20, 60000), (20, 60), (20, 24000), (20, 40000), (20, 56000), (20, 40000), (20, 56000), (22, 1000), (21, 1000), (21, 1000), (20, 70000), (20, 56000), (20, 56000), (21, 65537), (21, 65537), (21, 65537), (21, 65537), (20, 9000), (23, 1)]
def N0 : Nat := 452
/-- what a place holds: below 20 an object of that class, 20 byte[], 21 int[], 22 boolean[], 23 long[], 24 Entry[] -/
def tg (k : Nat) : Nat := (layL.getD k (99, 0)).1
def ln (k : Nat) : Nat := (layL.getD k (99, 0)).2
/-- the classes of what is thrown -/
def exN (k : Nat) : String := match k with
  | 1 => "java/lang/IllegalArgumentException"
  | 2 => "java/lang/UnsupportedOperationException"
  | 3 => "java/lang/IllegalStateException"
  | _ => "java/lang/IndexOutOfBoundsException"
def chainL : List String := ["java/lang/RuntimeException", "java/lang/Exception", "java/lang/Throwable"]
/-- what is thrown is not of those classes -/
def neL : List (Nat × Nat) := [(2, 1), (3, 1), (2, 3), (1, 4), (3, 4), (2, 4), (4, 1)]
-- methods
abbrev b_Mc_init : ByteArray := prog_1_method_1_code
def y_Mc_init : MethodName := ⟨"MailChain", "<init>", "()V"⟩
abbrev b_JObject_init : ByteArray := object_method_1_code
def y_JObject_init : MethodName := ⟨"java/lang/Object", "<init>", "()V"⟩
abbrev b_Ro_init : ByteArray := prog_8_method_1_code
def y_Ro_init : MethodName := ⟨"MailChain$Row", "<init>", "(I)V"⟩
abbrev b_Tr_init : ByteArray := prog_11_method_1_code
def y_Tr_init : MethodName := ⟨"MailChain$Tree", "<init>", "()V"⟩
abbrev b_En_init : ByteArray := prog_4_method_1_code
def y_En_init : MethodName := ⟨"MailChain$Entry", "<init>", "()V"⟩
abbrev b_Ma_init : ByteArray := prog_6_method_1_code
def y_Ma_init : MethodName := ⟨"MailChain$Mail", "<init>", "()V"⟩
abbrev b_Bo_init : ByteArray := prog_3_method_1_code
def y_Bo_init : MethodName := ⟨"MailChain$Box", "<init>", "()V"⟩
abbrev b_JArrays_fill : ByteArray := prog_31_method_103_code
def y_JArrays_fill : MethodName := ⟨"java/util/Arrays", "fill", "([II)V"⟩
abbrev b_Pl_init : ByteArray := prog_7_method_1_code
def y_Pl_init : MethodName := ⟨"MailChain$PartLine", "<init>", "()V"⟩
abbrev b_Sq_init : ByteArray := prog_10_method_1_code
def y_Sq_init : MethodName := ⟨"MailChain$Squeezer", "<init>", "()V"⟩
abbrev b_Ex_init : ByteArray := prog_5_method_1_code
def y_Ex_init : MethodName := ⟨"MailChain$Expander", "<init>", "()V"⟩
abbrev b_Mc_clear : ByteArray := prog_1_method_7_code
def y_Mc_clear : MethodName := ⟨"MailChain", "clear", "()I"⟩
abbrev b_Tr_wipe : ByteArray := prog_11_method_2_code
def y_Tr_wipe : MethodName := ⟨"MailChain$Tree", "wipe", "()V"⟩
abbrev b_Ro_wipe : ByteArray := prog_8_method_2_code
def y_Ro_wipe : MethodName := ⟨"MailChain$Row", "wipe", "()V"⟩
abbrev b_Mc_checksum : ByteArray := prog_1_method_13_code
def y_Mc_checksum : MethodName := ⟨"MailChain", "checksum", "()I"⟩
abbrev b_Ro_sum : ByteArray := prog_8_method_16_code
def y_Ro_sum : MethodName := ⟨"MailChain$Row", "sum", "(II)I"⟩
abbrev b_Ro_at : ByteArray := prog_8_method_5_code
def y_Ro_at : MethodName := ⟨"MailChain$Row", "at", "(I)I"⟩
abbrev b_Ro_divide : ByteArray := prog_8_method_17_code
def y_Ro_divide : MethodName := ⟨"MailChain$Row", "divide", "(II)I"⟩
abbrev b_Mc_receive : ByteArray := prog_1_method_14_code
def y_Mc_receive : MethodName := ⟨"MailChain", "receive", "()I"⟩
abbrev b_Bo_take : ByteArray := prog_3_method_3_code
def y_Bo_take : MethodName := ⟨"MailChain$Box", "take", "(LMailChain$Row;)I"⟩
abbrev b_Pl_read : ByteArray := prog_7_method_2_code
def y_Pl_read : MethodName := ⟨"MailChain$PartLine", "read", "(LMailChain$Row;)Z"⟩
abbrev b_Pl_number : ByteArray := prog_7_method_3_code
def y_Pl_number : MethodName := ⟨"MailChain$PartLine", "number", "(LMailChain$Row;Ljava/lang/String;J)J"⟩
abbrev b_Ro_hasText : ByteArray := prog_8_method_13_code
def y_Ro_hasText : MethodName := ⟨"MailChain$Row", "hasText", "(Ljava/lang/String;I)Z"⟩
abbrev b_JString_length : ByteArray := prog_24_method_54_code
def y_JString_length : MethodName := ⟨"java/lang/String", "length", "()I"⟩
abbrev b_JString_coder : ByteArray := prog_24_method_152_code
def y_JString_coder : MethodName := ⟨"java/lang/String", "coder", "()B"⟩
abbrev b_JString_charAt : ByteArray := prog_24_method_56_code
def y_JString_charAt : MethodName := ⟨"java/lang/String", "charAt", "(I)C"⟩
abbrev b_JString_isLatin1 : ByteArray := prog_24_method_154_code
def y_JString_isLatin1 : MethodName := ⟨"java/lang/String", "isLatin1", "()Z"⟩
abbrev b_JStringLatin1_charAt : ByteArray := prog_26_method_2_code
def y_JStringLatin1_charAt : MethodName := ⟨"java/lang/StringLatin1", "charAt", "([BI)C"⟩
abbrev b_JString_checkIndex : ByteArray := prog_24_method_155_code
def y_JString_checkIndex : MethodName := ⟨"java/lang/String", "checkIndex", "(II)V"⟩
abbrev b_JPreconditions_checkIndex : ByteArray := prog_33_method_11_code
def y_JPreconditions_checkIndex : MethodName := ⟨"jdk/internal/util/Preconditions", "checkIndex", "(IILjava/util/function/BiFunction;)I"⟩
abbrev b_JStringUTF16_charAt : ByteArray := prog_27_method_83_code
def y_JStringUTF16_charAt : MethodName := ⟨"java/lang/StringUTF16", "charAt", "([BI)C"⟩
abbrev b_JStringUTF16_checkIndex : ByteArray := prog_27_method_91_code
def y_JStringUTF16_checkIndex : MethodName := ⟨"java/lang/StringUTF16", "checkIndex", "(I[B)V"⟩
abbrev b_JStringUTF16_length : ByteArray := prog_27_method_6_code
def y_JStringUTF16_length : MethodName := ⟨"java/lang/StringUTF16", "length", "([B)I"⟩
abbrev b_JStringUTF16_getChar : ByteArray := prog_27_method_5_code
def y_JStringUTF16_getChar : MethodName := ⟨"java/lang/StringUTF16", "getChar", "([BI)C"⟩
abbrev b_Pl_isDigit : ByteArray := prog_7_method_4_code
def y_Pl_isDigit : MethodName := ⟨"MailChain$PartLine", "isDigit", "(I)Z"⟩
abbrev b_Bo_keep : ByteArray := prog_3_method_4_code
def y_Bo_keep : MethodName := ⟨"MailChain$Box", "keep", "(IILMailChain$Row;I)V"⟩
abbrev b_Ro_putRange : ByteArray := prog_8_method_8_code
def y_Ro_putRange : MethodName := ⟨"MailChain$Row", "putRange", "(LMailChain$Row;II)V"⟩
abbrev b_Ro_room : ByteArray := prog_8_method_3_code
def y_Ro_room : MethodName := ⟨"MailChain$Row", "room", "()I"⟩
abbrev b_Mc_empty : ByteArray := prog_1_method_18_code
def y_Mc_empty : MethodName := ⟨"MailChain", "empty", "()I"⟩
abbrev b_Bo_wipe : ByteArray := prog_3_method_2_code
def y_Bo_wipe : MethodName := ⟨"MailChain$Box", "wipe", "()V"⟩
abbrev b_Mc_unpack : ByteArray := prog_1_method_19_code
def y_Mc_unpack : MethodName := ⟨"MailChain", "unpack", "()I"⟩
abbrev b_Bo_isWhole : ByteArray := prog_3_method_5_code
def y_Bo_isWhole : MethodName := ⟨"MailChain$Box", "isWhole", "()Z"⟩
abbrev b_Bo_join : ByteArray := prog_3_method_6_code
def y_Bo_join : MethodName := ⟨"MailChain$Box", "join", "(LMailChain$Row;)Z"⟩
abbrev b_Sp_read : ByteArray := prog_9_method_6_code
def y_Sp_read : MethodName := ⟨"MailChain$Spelling", "read", "(LMailChain$Row;LMailChain$Row;)V"⟩
abbrev b_Sp_sixOf : ByteArray := prog_9_method_5_code
def y_Sp_sixOf : MethodName := ⟨"MailChain$Spelling", "sixOf", "(I)I"⟩
abbrev b_Sp_readLine : ByteArray := prog_9_method_7_code
def y_Sp_readLine : MethodName := ⟨"MailChain$Spelling", "readLine", "(LMailChain$Row;IILMailChain$Row;)V"⟩
abbrev b_Ro_put : ByteArray := prog_8_method_6_code
def y_Ro_put : MethodName := ⟨"MailChain$Row", "put", "(I)V"⟩
abbrev b_Sp_write : ByteArray := prog_9_method_2_code
def y_Sp_write : MethodName := ⟨"MailChain$Spelling", "write", "(LMailChain$Row;LMailChain$Row;)V"⟩
abbrev b_Ro_putText : ByteArray := prog_8_method_10_code
def y_Ro_putText : MethodName := ⟨"MailChain$Row", "putText", "(Ljava/lang/String;)V"⟩
abbrev b_JMath_min : ByteArray := prog_22_method_69_code
def y_JMath_min : MethodName := ⟨"java/lang/Math", "min", "(II)I"⟩
abbrev b_Sp_writeLine : ByteArray := prog_9_method_3_code
def y_Sp_writeLine : MethodName := ⟨"MailChain$Spelling", "writeLine", "(LMailChain$Row;IILMailChain$Row;)V"⟩
abbrev b_Sp_letter : ByteArray := prog_9_method_4_code
def y_Sp_letter : MethodName := ⟨"MailChain$Spelling", "letter", "(I)I"⟩
abbrev b_JMath_max : ByteArray := prog_22_method_65_code
def y_JMath_max : MethodName := ⟨"java/lang/Math", "max", "(II)I"⟩
abbrev b_Ro_same : ByteArray := prog_8_method_14_code
def y_Ro_same : MethodName := ⟨"MailChain$Row", "same", "(LMailChain$Row;)Z"⟩
abbrev b_Ro_order : ByteArray := prog_8_method_15_code
def y_Ro_order : MethodName := ⟨"MailChain$Row", "order", "(LMailChain$Row;I)I"⟩
abbrev b_Ex_expand : ByteArray := prog_5_method_2_code
def y_Ex_expand : MethodName := ⟨"MailChain$Expander", "expand", "(LMailChain$Row;LMailChain$Row;)Z"⟩
abbrev b_Mc_isWidth : ByteArray := prog_1_method_9_code
def y_Mc_isWidth : MethodName := ⟨"MailChain", "isWidth", "(I)Z"⟩
abbrev b_Ex_begin : ByteArray := prog_5_method_3_code
def y_Ex_begin : MethodName := ⟨"MailChain$Expander", "begin", "()V"⟩
abbrev b_Ex_readCode : ByteArray := prog_5_method_6_code
def y_Ex_readCode : MethodName := ⟨"MailChain$Expander", "readCode", "(LMailChain$Row;)I"⟩
abbrev b_Ex_changeWidth : ByteArray := prog_5_method_5_code
def y_Ex_changeWidth : MethodName := ⟨"MailChain$Expander", "changeWidth", "(I)V"⟩
abbrev b_Ex_tell : ByteArray := prog_5_method_7_code
def y_Ex_tell : MethodName := ⟨"MailChain$Expander", "tell", "(ILMailChain$Row;)Z"⟩
abbrev b_Ex_restart : ByteArray := prog_5_method_4_code
def y_Ex_restart : MethodName := ⟨"MailChain$Expander", "restart", "()V"⟩
abbrev b_Sq_squeeze : ByteArray := prog_10_method_2_code
def y_Sq_squeeze : MethodName := ⟨"MailChain$Squeezer", "squeeze", "(LMailChain$Row;ILMailChain$Row;)V"⟩
abbrev b_Sq_begin : ByteArray := prog_10_method_3_code
def y_Sq_begin : MethodName := ⟨"MailChain$Squeezer", "begin", "(I)V"⟩
abbrev b_Sq_forget : ByteArray := prog_10_method_4_code
def y_Sq_forget : MethodName := ⟨"MailChain$Squeezer", "forget", "()V"⟩
abbrev b_JArrays_fillx : ByteArray := prog_31_method_104_code
def y_JArrays_fillx : MethodName := ⟨"java/util/Arrays", "fill", "([IIII)V"⟩
abbrev b_JArrays_rangeCheck : ByteArray := prog_31_method_30_code
def y_JArrays_rangeCheck : MethodName := ⟨"java/util/Arrays", "rangeCheck", "(III)V"⟩
abbrev b_JThrowable_init : ByteArray := prog_29_method_1_code
def y_JThrowable_init : MethodName := ⟨"java/lang/Throwable", "<init>", "()V"⟩
abbrev b_JThrowable_fillInStackTrace : ByteArray := prog_29_method_18_code
def y_JThrowable_fillInStackTrace : MethodName := ⟨"java/lang/Throwable", "fillInStackTrace", "()Ljava/lang/Throwable;"⟩
abbrev b_JStringBuilder_init : ByteArray := prog_25_method_1_code
def y_JStringBuilder_init : MethodName := ⟨"java/lang/StringBuilder", "<init>", "()V"⟩
abbrev b_JAbstractStringBuilder_init : ByteArray := prog_14_method_2_code
def y_JAbstractStringBuilder_init : MethodName := ⟨"java/lang/AbstractStringBuilder", "<init>", "(I)V"⟩
abbrev b_JStringUTF16_newBytesFor : ByteArray := prog_27_method_2_code
def y_JStringUTF16_newBytesFor : MethodName := ⟨"java/lang/StringUTF16", "newBytesFor", "(I)[B"⟩
abbrev b_JStringUTF16_newBytesLength : ByteArray := prog_27_method_3_code
def y_JStringUTF16_newBytesLength : MethodName := ⟨"java/lang/StringUTF16", "newBytesLength", "(I)I"⟩
abbrev b_JStringBuilder_append : ByteArray := prog_25_method_7_code
def y_JStringBuilder_append : MethodName := ⟨"java/lang/StringBuilder", "append", "(Ljava/lang/String;)Ljava/lang/StringBuilder;"⟩
abbrev b_JAbstractStringBuilder_append : ByteArray := prog_14_method_22_code
def y_JAbstractStringBuilder_append : MethodName := ⟨"java/lang/AbstractStringBuilder", "append", "(Ljava/lang/String;)Ljava/lang/AbstractStringBuilder;"⟩
abbrev b_JAbstractStringBuilder_appendNull : ByteArray := prog_14_method_26_code
def y_JAbstractStringBuilder_appendNull : MethodName := ⟨"java/lang/AbstractStringBuilder", "appendNull", "()Ljava/lang/AbstractStringBuilder;"⟩
abbrev b_JAbstractStringBuilder_ensureCapacityInternal : ByteArray := prog_14_method_9_code
def y_JAbstractStringBuilder_ensureCapacityInternal : MethodName := ⟨"java/lang/AbstractStringBuilder", "ensureCapacityInternal", "(I)V"⟩
abbrev b_JAbstractStringBuilder_newCapacity : ByteArray := prog_14_method_10_code
def y_JAbstractStringBuilder_newCapacity : MethodName := ⟨"java/lang/AbstractStringBuilder", "newCapacity", "(I)I"⟩
abbrev b_JArraysSupport_newLength : ByteArray := prog_32_method_27_code
def y_JArraysSupport_newLength : MethodName := ⟨"jdk/internal/util/ArraysSupport", "newLength", "(III)I"⟩
abbrev b_JArraysSupport_hugeLength : ByteArray := prog_32_method_28_code
def y_JArraysSupport_hugeLength : MethodName := ⟨"jdk/internal/util/ArraysSupport", "hugeLength", "(II)I"⟩
abbrev b_JArrays_copyOf : ByteArray := prog_31_method_121_code
def y_JArrays_copyOf : MethodName := ⟨"java/util/Arrays", "copyOf", "([BI)[B"⟩
abbrev b_JAbstractStringBuilder_isLatin1 : ByteArray := prog_14_method_68_code
def y_JAbstractStringBuilder_isLatin1 : MethodName := ⟨"java/lang/AbstractStringBuilder", "isLatin1", "()Z"⟩
abbrev b_JStringUTF16_putCharsAt : ByteArray := prog_27_method_81_code
def y_JStringUTF16_putCharsAt : MethodName := ⟨"java/lang/StringUTF16", "putCharsAt", "([BICCCC)I"⟩
abbrev b_JStringUTF16_checkBoundsBeginEnd : ByteArray := prog_27_method_93_code
def y_JStringUTF16_checkBoundsBeginEnd : MethodName := ⟨"java/lang/StringUTF16", "checkBoundsBeginEnd", "(II[B)V"⟩
abbrev b_JString_checkBoundsBeginEnd : ByteArray := prog_24_method_158_code
def y_JString_checkBoundsBeginEnd : MethodName := ⟨"java/lang/String", "checkBoundsBeginEnd", "(III)V"⟩
abbrev b_JPreconditions_checkFromToIndex : ByteArray := prog_33_method_12_code
def y_JPreconditions_checkFromToIndex : MethodName := ⟨"jdk/internal/util/Preconditions", "checkFromToIndex", "(IIILjava/util/function/BiFunction;)I"⟩
abbrev b_JStringUTF16_putChar : ByteArray := prog_27_method_4_code
def y_JStringUTF16_putChar : MethodName := ⟨"java/lang/StringUTF16", "putChar", "([BII)V"⟩
abbrev b_JAbstractStringBuilder_putStringAt : ByteArray := prog_14_method_73_code
def y_JAbstractStringBuilder_putStringAt : MethodName := ⟨"java/lang/AbstractStringBuilder", "putStringAt", "(ILjava/lang/String;)V"⟩
abbrev b_JAbstractStringBuilder_inflateIfNeededFor : ByteArray := prog_14_method_71_code
def y_JAbstractStringBuilder_inflateIfNeededFor : MethodName := ⟨"java/lang/AbstractStringBuilder", "inflateIfNeededFor", "(Ljava/lang/String;)V"⟩
abbrev b_JAbstractStringBuilder_inflate : ByteArray := prog_14_method_11_code
def y_JAbstractStringBuilder_inflate : MethodName := ⟨"java/lang/AbstractStringBuilder", "inflate", "()V"⟩
abbrev b_JStringLatin1_inflate : ByteArray := prog_26_method_50_code
def y_JStringLatin1_inflate : MethodName := ⟨"java/lang/StringLatin1", "inflate", "([BI[BII)V"⟩
abbrev b_JStringUTF16_inflate : ByteArray := prog_27_method_86_code
def y_JStringUTF16_inflate : MethodName := ⟨"java/lang/StringUTF16", "inflate", "([BI[BII)V"⟩
abbrev b_JStringUTF16_checkBoundsOffCount : ByteArray := prog_27_method_94_code
def y_JStringUTF16_checkBoundsOffCount : MethodName := ⟨"java/lang/StringUTF16", "checkBoundsOffCount", "(II[B)V"⟩
abbrev b_JString_checkBoundsOffCount : ByteArray := prog_24_method_157_code
def y_JString_checkBoundsOffCount : MethodName := ⟨"java/lang/String", "checkBoundsOffCount", "(III)I"⟩
abbrev b_JPreconditions_checkFromIndexSize : ByteArray := prog_33_method_13_code
def y_JPreconditions_checkFromIndexSize : MethodName := ⟨"jdk/internal/util/Preconditions", "checkFromIndexSize", "(IIILjava/util/function/BiFunction;)I"⟩
abbrev b_JString_getBytes : ByteArray := prog_24_method_147_code
def y_JString_getBytes : MethodName := ⟨"java/lang/String", "getBytes", "([BIB)V"⟩
abbrev b_JStringBuilder_appendx : ByteArray := prog_25_method_15_code
def y_JStringBuilder_appendx : MethodName := ⟨"java/lang/StringBuilder", "append", "(I)Ljava/lang/StringBuilder;"⟩
abbrev b_JAbstractStringBuilder_appendx : ByteArray := prog_14_method_32_code
def y_JAbstractStringBuilder_appendx : MethodName := ⟨"java/lang/AbstractStringBuilder", "append", "(I)Ljava/lang/AbstractStringBuilder;"⟩
abbrev b_JInteger_stringSize : ByteArray := prog_21_method_13_code
def y_JInteger_stringSize : MethodName := ⟨"java/lang/Integer", "stringSize", "(I)I"⟩
abbrev b_JInteger_getChars : ByteArray := prog_21_method_12_code
def y_JInteger_getChars : MethodName := ⟨"java/lang/Integer", "getChars", "(II[B)I"⟩
abbrev b_JStringUTF16_getChars : ByteArray := prog_27_method_77_code
def y_JStringUTF16_getChars : MethodName := ⟨"java/lang/StringUTF16", "getChars", "(III[B)I"⟩
abbrev b_JStringUTF16_getCharsx : ByteArray := prog_27_method_89_code
def y_JStringUTF16_getCharsx : MethodName := ⟨"java/lang/StringUTF16", "getChars", "(II[B)I"⟩
abbrev b_JStringBuilder_toString : ByteArray := prog_25_method_42_code
def y_JStringBuilder_toString : MethodName := ⟨"java/lang/StringBuilder", "toString", "()Ljava/lang/String;"⟩
abbrev b_JString_init : ByteArray := prog_24_method_53_code
def y_JString_init : MethodName := ⟨"java/lang/String", "<init>", "(Ljava/lang/StringBuilder;)V"⟩
abbrev b_JString_initx : ByteArray := prog_24_method_150_code
def y_JString_initx : MethodName := ⟨"java/lang/String", "<init>", "(Ljava/lang/AbstractStringBuilder;Ljava/lang/Void;)V"⟩
abbrev b_JAbstractStringBuilder_getValue : ByteArray := prog_14_method_64_code
def y_JAbstractStringBuilder_getValue : MethodName := ⟨"java/lang/AbstractStringBuilder", "getValue", "()[B"⟩
abbrev b_JStringBuilder_length : ByteArray := prog_25_method_93_code
def y_JStringBuilder_length : MethodName := ⟨"java/lang/StringBuilder", "length", "()I"⟩
abbrev b_JAbstractStringBuilder_length : ByteArray := prog_14_method_6_code
def y_JAbstractStringBuilder_length : MethodName := ⟨"java/lang/AbstractStringBuilder", "length", "()I"⟩
abbrev b_JArrays_copyOfRange : ByteArray := prog_31_method_132_code
def y_JArrays_copyOfRange : MethodName := ⟨"java/util/Arrays", "copyOfRange", "([BII)[B"⟩
abbrev b_JArrays_copyOfRangeByte : ByteArray := prog_31_method_133_code
def y_JArrays_copyOfRangeByte : MethodName := ⟨"java/util/Arrays", "copyOfRangeByte", "([BII)[B"⟩
abbrev b_JArrays_checkLength : ByteArray := prog_31_method_131_code
def y_JArrays_checkLength : MethodName := ⟨"java/util/Arrays", "checkLength", "(II)V"⟩
abbrev b_JIllegalArgumentException_init : ByteArray := prog_18_method_2_code
def y_JIllegalArgumentException_init : MethodName := ⟨"java/lang/IllegalArgumentException", "<init>", "(Ljava/lang/String;)V"⟩
abbrev b_JRuntimeException_init : ByteArray := prog_23_method_2_code
def y_JRuntimeException_init : MethodName := ⟨"java/lang/RuntimeException", "<init>", "(Ljava/lang/String;)V"⟩
abbrev b_JException_init : ByteArray := prog_17_method_2_code
def y_JException_init : MethodName := ⟨"java/lang/Exception", "<init>", "(Ljava/lang/String;)V"⟩
abbrev b_JThrowable_initx : ByteArray := prog_29_method_2_code
def y_JThrowable_initx : MethodName := ⟨"java/lang/Throwable", "<init>", "(Ljava/lang/String;)V"⟩
abbrev b_JStringUTF16_compress : ByteArray := prog_27_method_17_code
def y_JStringUTF16_compress : MethodName := ⟨"java/lang/StringUTF16", "compress", "([BII)[B"⟩
abbrev b_JStringUTF16_compressx : ByteArray := prog_27_method_22_code
def y_JStringUTF16_compressx : MethodName := ⟨"java/lang/StringUTF16", "compress", "([BI[BII)I"⟩
abbrev b_JStringUTF16_coderFromArrayLen : ByteArray := prog_27_method_15_code
def y_JStringUTF16_coderFromArrayLen : MethodName := ⟨"java/lang/StringUTF16", "coderFromArrayLen", "([BI)B"⟩
abbrev b_JArrayIndexOutOfBoundsException_init : ByteArray := prog_15_method_3_code
def y_JArrayIndexOutOfBoundsException_init : MethodName := ⟨"java/lang/ArrayIndexOutOfBoundsException", "<init>", "(I)V"⟩
abbrev b_JIndexOutOfBoundsException_init : ByteArray := prog_20_method_2_code
def y_JIndexOutOfBoundsException_init : MethodName := ⟨"java/lang/IndexOutOfBoundsException", "<init>", "(Ljava/lang/String;)V"⟩
abbrev b_Sq_childOf : ByteArray := prog_10_method_5_code
def y_Sq_childOf : MethodName := ⟨"MailChain$Squeezer", "childOf", "(II)I"⟩
abbrev b_Sq_putCode : ByteArray := prog_10_method_7_code
def y_Sq_putCode : MethodName := ⟨"MailChain$Squeezer", "putCode", "(ILMailChain$Row;)V"⟩
abbrev b_Sq_changeWidth : ByteArray := prog_10_method_8_code
def y_Sq_changeWidth : MethodName := ⟨"MailChain$Squeezer", "changeWidth", "(ILMailChain$Row;)V"⟩
abbrev b_Sq_putBits : ByteArray := prog_10_method_9_code
def y_Sq_putBits : MethodName := ⟨"MailChain$Squeezer", "putBits", "(ILMailChain$Row;)V"⟩
abbrev b_Sq_learn : ByteArray := prog_10_method_6_code
def y_Sq_learn : MethodName := ⟨"MailChain$Squeezer", "learn", "(IILMailChain$Row;)V"⟩
abbrev b_Ar_read : ByteArray := prog_2_method_6_code
def y_Ar_read : MethodName := ⟨"MailChain$Archive", "read", "(LMailChain$Row;LMailChain$Tree;)Z"⟩
abbrev b_Ar_readEntry : ByteArray := prog_2_method_7_code
def y_Ar_readEntry : MethodName := ⟨"MailChain$Archive", "readEntry", "(LMailChain$Row;ILMailChain$Tree;)I"⟩
abbrev b_Ar_octal : ByteArray := prog_2_method_9_code
def y_Ar_octal : MethodName := ⟨"MailChain$Archive", "octal", "(LMailChain$Row;II)I"⟩
abbrev b_Tr_draft : ByteArray := prog_11_method_4_code
def y_Tr_draft : MethodName := ⟨"MailChain$Tree", "draft", "()LMailChain$Entry;"⟩
abbrev b_Ro_copy : ByteArray := prog_8_method_9_code
def y_Ro_copy : MethodName := ⟨"MailChain$Row", "copy", "(LMailChain$Row;II)V"⟩
abbrev b_Ar_readFields : ByteArray := prog_2_method_8_code
def y_Ar_readFields : MethodName := ⟨"MailChain$Archive", "readFields", "(LMailChain$Row;ILMailChain$Entry;)V"⟩
abbrev b_Ar_kindOf : ByteArray := prog_2_method_5_code
def y_Ar_kindOf : MethodName := ⟨"MailChain$Archive", "kindOf", "(I)I"⟩
abbrev b_Ar_kindDigits : ByteArray := prog_2_method_4_code
def y_Ar_kindDigits : MethodName := ⟨"MailChain$Archive", "kindDigits", "(I)I"⟩
abbrev b_Tr_enter : ByteArray := prog_11_method_5_code
def y_Tr_enter : MethodName := ⟨"MailChain$Tree", "enter", "(LMailChain$Row;II)I"⟩
abbrev b_En_hasSoundFields : ByteArray := prog_4_method_3_code
def y_En_hasSoundFields : MethodName := ⟨"MailChain$Entry", "hasSoundFields", "()Z"⟩
abbrev b_Tr_isBody : ByteArray := prog_11_method_7_code
def y_Tr_isBody : MethodName := ⟨"MailChain$Tree", "isBody", "(ILMailChain$Row;II)Z"⟩
abbrev b_Tr_isTarget : ByteArray := prog_11_method_8_code
def y_Tr_isTarget : MethodName := ⟨"MailChain$Tree", "isTarget", "(LMailChain$Row;II)Z"⟩
abbrev b_Tr_insertDraft : ByteArray := prog_11_method_9_code
def y_Tr_insertDraft : MethodName := ⟨"MailChain$Tree", "insertDraft", "()I"⟩
abbrev b_En_hasSoundPath : ByteArray := prog_4_method_4_code
def y_En_hasSoundPath : MethodName := ⟨"MailChain$Entry", "hasSoundPath", "()Z"⟩
abbrev b_En_isName : ByteArray := prog_4_method_5_code
def y_En_isName : MethodName := ⟨"MailChain$Entry", "isName", "(II)Z"⟩
abbrev b_Tr_hasParentOf : ByteArray := prog_11_method_10_code
def y_Tr_hasParentOf : MethodName := ⟨"MailChain$Tree", "hasParentOf", "(LMailChain$Entry;)Z"⟩
abbrev b_En_parentSize : ByteArray := prog_4_method_6_code
def y_En_parentSize : MethodName := ⟨"MailChain$Entry", "parentSize", "()I"⟩
abbrev b_Tr_placeOf : ByteArray := prog_11_method_11_code
def y_Tr_placeOf : MethodName := ⟨"MailChain$Tree", "placeOf", "(LMailChain$Row;I)I"⟩
abbrev b_Tr_has : ByteArray := prog_11_method_3_code
def y_Tr_has : MethodName := ⟨"MailChain$Tree", "has", "(I)Z"⟩
abbrev b_Tr_enterLink : ByteArray := prog_11_method_6_code
def y_Tr_enterLink : MethodName := ⟨"MailChain$Tree", "enterLink", "(I)I"⟩
abbrev b_En_becomeLinkOf : ByteArray := prog_4_method_2_code
def y_En_becomeLinkOf : MethodName := ⟨"MailChain$Entry", "becomeLinkOf", "(LMailChain$Entry;)V"⟩
abbrev b_Ar_write : ByteArray := prog_2_method_2_code
def y_Ar_write : MethodName := ⟨"MailChain$Archive", "write", "(LMailChain$Tree;LMailChain$Row;)V"⟩
abbrev b_Tr_hasArchive : ByteArray := prog_11_method_14_code
def y_Tr_hasArchive : MethodName := ⟨"MailChain$Tree", "hasArchive", "()Z"⟩
abbrev b_Tr_firstLinkOf : ByteArray := prog_11_method_12_code
def y_Tr_firstLinkOf : MethodName := ⟨"MailChain$Tree", "firstLinkOf", "(I)I"⟩
abbrev b_Tr_linksOf : ByteArray := prog_11_method_13_code
def y_Tr_linksOf : MethodName := ⟨"MailChain$Tree", "linksOf", "(I)I"⟩
abbrev b_Ar_writeHeader : ByteArray := prog_2_method_3_code
def y_Ar_writeHeader : MethodName := ⟨"MailChain$Archive", "writeHeader", "(LMailChain$Entry;IILMailChain$Row;)V"⟩
abbrev b_Ro_putOctal : ByteArray := prog_8_method_11_code
def y_Ro_putOctal : MethodName := ⟨"MailChain$Row", "putOctal", "(II)V"⟩
abbrev b_Mc_swapYours : ByteArray := prog_1_method_20_code
def y_Mc_swapYours : MethodName := ⟨"MailChain", "swapYours", "()V"⟩
abbrev b_La_type : ByteArray := method_3_code
def y_La_type : MethodName := ⟨"MailChainLaw", "type", "(LMailChain;JI[J)I"⟩
abbrev b_Mc_type : ByteArray := prog_1_method_2_code
def y_Mc_type : MethodName := ⟨"MailChain", "type", "(JI)I"⟩
abbrev b_JIllegalArgumentException_initx : ByteArray := prog_18_method_1_code
def y_JIllegalArgumentException_initx : MethodName := ⟨"java/lang/IllegalArgumentException", "<init>", "()V"⟩
abbrev b_JRuntimeException_initx : ByteArray := prog_23_method_1_code
def y_JRuntimeException_initx : MethodName := ⟨"java/lang/RuntimeException", "<init>", "()V"⟩
abbrev b_JException_initx : ByteArray := prog_17_method_1_code
def y_JException_initx : MethodName := ⟨"java/lang/Exception", "<init>", "()V"⟩
abbrev b_JUnsupportedOperationException_init : ByteArray := prog_30_method_1_code
def y_JUnsupportedOperationException_init : MethodName := ⟨"java/lang/UnsupportedOperationException", "<init>", "()V"⟩
abbrev b_La_again : ByteArray := method_4_code
def y_La_again : MethodName := ⟨"MailChainLaw", "again", "(LMailChain;I[J)I"⟩
abbrev b_Mc_again : ByteArray := prog_1_method_3_code
def y_Mc_again : MethodName := ⟨"MailChain", "again", "(I)I"⟩
abbrev b_La_add : ByteArray := method_5_code
def y_La_add : MethodName := ⟨"MailChainLaw", "add", "(LMailChain;IIIIII[J)I"⟩
abbrev b_Mc_add : ByteArray := prog_1_method_4_code
def y_Mc_add : MethodName := ⟨"MailChain", "add", "(IIIIII)I"⟩
abbrev b_Mc_afterEntering : ByteArray := prog_1_method_6_code
def y_Mc_afterEntering : MethodName := ⟨"MailChain", "afterEntering", "(I)I"⟩
abbrev b_JIndexOutOfBoundsException_initx : ByteArray := prog_20_method_1_code
def y_JIndexOutOfBoundsException_initx : MethodName := ⟨"java/lang/IndexOutOfBoundsException", "<init>", "()V"⟩
abbrev b_JIllegalStateException_init : ByteArray := prog_19_method_1_code
def y_JIllegalStateException_init : MethodName := ⟨"java/lang/IllegalStateException", "<init>", "()V"⟩
abbrev b_La_link : ByteArray := method_6_code
def y_La_link : MethodName := ⟨"MailChainLaw", "link", "(LMailChain;I[J)I"⟩
abbrev b_Mc_link : ByteArray := prog_1_method_5_code
def y_Mc_link : MethodName := ⟨"MailChain", "link", "(I)I"⟩
abbrev b_La_pack : ByteArray := method_7_code
def y_La_pack : MethodName := ⟨"MailChainLaw", "pack", "(LMailChain;II[J)I"⟩
abbrev b_Mc_pack : ByteArray := prog_1_method_8_code
def y_Mc_pack : MethodName := ⟨"MailChain", "pack", "(II)I"⟩
abbrev b_Mc_refreshArchive : ByteArray := prog_1_method_10_code
def y_Mc_refreshArchive : MethodName := ⟨"MailChain", "refreshArchive", "()V"⟩
abbrev b_Ma_keep : ByteArray := prog_6_method_2_code
def y_Ma_keep : MethodName := ⟨"MailChain$Mail", "keep", "(LMailChain$Row;LMailChain$Row;I)V"⟩
abbrev b_Ma_pieceEnd : ByteArray := prog_6_method_5_code
def y_Ma_pieceEnd : MethodName := ⟨"MailChain$Mail", "pieceEnd", "(I)I"⟩
abbrev b_La_part : ByteArray := method_8_code
def y_La_part : MethodName := ⟨"MailChainLaw", "part", "(LMailChain;II[J)I"⟩
abbrev b_Mc_part : ByteArray := prog_1_method_11_code
def y_Mc_part : MethodName := ⟨"MailChain", "part", "(II)I"⟩
abbrev b_Ma_has : ByteArray := prog_6_method_3_code
def y_Ma_has : MethodName := ⟨"MailChain$Mail", "has", "(I)Z"⟩
abbrev b_Ma_write : ByteArray := prog_6_method_4_code
def y_Ma_write : MethodName := ⟨"MailChain$Mail", "write", "(ILMailChain$Row;)V"⟩
abbrev b_Ro_putDecimal : ByteArray := prog_8_method_12_code
def y_Ro_putDecimal : MethodName := ⟨"MailChain$Row", "putDecimal", "(J)V"⟩
abbrev b_Ro_has : ByteArray := prog_8_method_4_code
def y_Ro_has : MethodName := ⟨"MailChain$Row", "has", "(I)Z"⟩
abbrev b_La_stage : ByteArray := method_9_code
def y_La_stage : MethodName := ⟨"MailChainLaw", "stage", "(LMailChain;II[J)I"⟩
abbrev b_Mc_stage : ByteArray := prog_1_method_12_code
def y_Mc_stage : MethodName := ⟨"MailChain", "stage", "(II)I"⟩
abbrev b_La_pass : ByteArray := method_10_code
def y_La_pass : MethodName := ⟨"MailChainLaw", "pass", "(LMailChain;III[J)I"⟩
abbrev b_Mc_pass : ByteArray := prog_1_method_15_code
def y_Mc_pass : MethodName := ⟨"MailChain", "pass", "(III)I"⟩
abbrev b_Ro_turn : ByteArray := prog_8_method_7_code
def y_Ro_turn : MethodName := ⟨"MailChain$Row", "turn", "(II)V"⟩
abbrev b_La_forge : ByteArray := method_11_code
def y_La_forge : MethodName := ⟨"MailChainLaw", "forge", "(LMailChain;II)I"⟩
abbrev b_Mc_forge : ByteArray := prog_1_method_16_code
def y_Mc_forge : MethodName := ⟨"MailChain", "forge", "(II)V"⟩
abbrev b_Mc_textOfTape : ByteArray := prog_1_method_17_code
def y_Mc_textOfTape : MethodName := ⟨"MailChain", "textOfTape", "(II)LMailChain$Row;"⟩
abbrev b_La_about : ByteArray := method_12_code
def y_La_about : MethodName := ⟨"MailChainLaw", "about", "(LMailChain;III[J)I"⟩
abbrev b_Mc_about : ByteArray := prog_1_method_21_code
def y_Mc_about : MethodName := ⟨"MailChain", "about", "(III)I"⟩
abbrev b_Tr_tell : ByteArray := prog_11_method_15_code
def y_Tr_tell : MethodName := ⟨"MailChain$Tree", "tell", "(II)I"⟩
abbrev b_La_byteOf : ByteArray := method_13_code
def y_La_byteOf : MethodName := ⟨"MailChainLaw", "byteOf", "(LMailChain;III[J)I"⟩
abbrev b_Mc_byteOf : ByteArray := prog_1_method_22_code
def y_Mc_byteOf : MethodName := ⟨"MailChain", "byteOf", "(III)I"⟩
abbrev b_Tr_hasByte : ByteArray := prog_11_method_16_code
def y_Tr_hasByte : MethodName := ⟨"MailChain$Tree", "hasByte", "(II)Z"⟩
abbrev b_Tr_byteAt : ByteArray := prog_11_method_17_code
def y_Tr_byteAt : MethodName := ⟨"MailChain$Tree", "byteAt", "(II)I"⟩
abbrev b_Mo_init : ByteArray := prog_13_method_1_code
def y_Mo_init : MethodName := ⟨"MailChainModel", "<init>", "()V"⟩
abbrev b_Mo_thrown : ByteArray := prog_13_method_2_code
def y_Mo_thrown : MethodName := ⟨"MailChainModel", "thrown", "()I"⟩
abbrev b_Mo_type : ByteArray := prog_13_method_3_code
def y_Mo_type : MethodName := ⟨"MailChainModel", "type", "(JI)I"⟩
abbrev b_Mo_again : ByteArray := prog_13_method_4_code
def y_Mo_again : MethodName := ⟨"MailChainModel", "again", "(I)I"⟩
abbrev b_Mo_add : ByteArray := prog_13_method_18_code
def y_Mo_add : MethodName := ⟨"MailChainModel", "add", "(IIIIII)I"⟩
abbrev b_Mo_added : ByteArray := prog_13_method_17_code
def y_Mo_added : MethodName := ⟨"MailChainModel", "added", "(IIIIII)I"⟩
abbrev b_Mo_isNumber : ByteArray := prog_13_method_14_code
def y_Mo_isNumber : MethodName := ⟨"MailChainModel", "isNumber", "(I)Z"⟩
abbrev b_Mo_look : ByteArray := prog_13_method_6_code
def y_Mo_look : MethodName := ⟨"MailChainModel", "look", "([BII)V"⟩
abbrev b_Mo_mayBe : ByteArray := prog_13_method_16_code
def y_Mo_mayBe : MethodName := ⟨"MailChainModel", "mayBe", "(II)Z"⟩
abbrev b_Mo_isTarget : ByteArray := prog_13_method_15_code
def y_Mo_isTarget : MethodName := ⟨"MailChainModel", "isTarget", "([BII)Z"⟩
abbrev b_Mo_isPath : ByteArray := prog_13_method_7_code
def y_Mo_isPath : MethodName := ⟨"MailChainModel", "isPath", "()Z"⟩
abbrev b_Mo_hasParent : ByteArray := prog_13_method_10_code
def y_Mo_hasParent : MethodName := ⟨"MailChainModel", "hasParent", "(I)Z"⟩
abbrev b_Mo_find : ByteArray := prog_13_method_9_code
def y_Mo_find : MethodName := ⟨"MailChainModel", "find", "(II)I"⟩
abbrev b_Mo_at : ByteArray := prog_13_method_5_code
def y_Mo_at : MethodName := ⟨"MailChainModel", "at", "(II)I"⟩
abbrev b_Mo_compare : ByteArray := prog_13_method_8_code
def y_Mo_compare : MethodName := ⟨"MailChainModel", "compare", "(II)I"⟩
abbrev b_Mo_bytesOf : ByteArray := prog_13_method_11_code
def y_Mo_bytesOf : MethodName := ⟨"MailChainModel", "bytesOf", "(I)I"⟩
abbrev b_Mo_enter : ByteArray := prog_13_method_13_code
def y_Mo_enter : MethodName := ⟨"MailChainModel", "enter", "(I)I"⟩
abbrev b_Mo_copyEntry : ByteArray := prog_13_method_12_code
def y_Mo_copyEntry : MethodName := ⟨"MailChainModel", "copyEntry", "(II)V"⟩
abbrev b_Mo_link : ByteArray := prog_13_method_21_code
def y_Mo_link : MethodName := ⟨"MailChainModel", "link", "(I)I"⟩
abbrev b_Mo_linkedNow : ByteArray := prog_13_method_19_code
def y_Mo_linkedNow : MethodName := ⟨"MailChainModel", "linkedNow", "(I)I"⟩
abbrev b_Mo_copyAttributes : ByteArray := prog_13_method_20_code
def y_Mo_copyAttributes : MethodName := ⟨"MailChainModel", "copyAttributes", "(II)V"⟩
abbrev b_Mo_clear : ByteArray := prog_13_method_22_code
def y_Mo_clear : MethodName := ⟨"MailChainModel", "clear", "()I"⟩
abbrev b_Mo_checksum : ByteArray := prog_13_method_46_code
def y_Mo_checksum : MethodName := ⟨"MailChainModel", "checksum", "()I"⟩
abbrev b_Mo_sumOf : ByteArray := prog_13_method_45_code
def y_Mo_sumOf : MethodName := ⟨"MailChainModel", "sumOf", "([BII)I"⟩
abbrev b_Mo_step : ByteArray := prog_13_method_44_code
def y_Mo_step : MethodName := ⟨"MailChainModel", "step", "(II)I"⟩
abbrev b_Mo_pack : ByteArray := prog_13_method_47_code
def y_Mo_pack : MethodName := ⟨"MailChainModel", "pack", "(II)I"⟩
abbrev b_Mo_isLarge : ByteArray := prog_13_method_29_code
def y_Mo_isLarge : MethodName := ⟨"MailChainModel", "isLarge", "(I)Z"⟩
abbrev b_Mo_archiveOf : ByteArray := prog_13_method_28_code
def y_Mo_archiveOf : MethodName := ⟨"MailChainModel", "archiveOf", "(I)V"⟩
abbrev b_Mo_firstOf : ByteArray := prog_13_method_26_code
def y_Mo_firstOf : MethodName := ⟨"MailChainModel", "firstOf", "(II)I"⟩
abbrev b_Mo_linksOf : ByteArray := prog_13_method_27_code
def y_Mo_linksOf : MethodName := ⟨"MailChainModel", "linksOf", "(II)I"⟩
abbrev b_Mo_header : ByteArray := prog_13_method_25_code
def y_Mo_header : MethodName := ⟨"MailChainModel", "header", "(IIIIIIII)V"⟩
abbrev b_Mo_octal : ByteArray := prog_13_method_23_code
def y_Mo_octal : MethodName := ⟨"MailChainModel", "octal", "(JI)V"⟩
abbrev b_Mo_zero : ByteArray := prog_13_method_24_code
def y_Mo_zero : MethodName := ⟨"MailChainModel", "zero", "()V"⟩
abbrev b_Mo_compressRow : ByteArray := prog_13_method_35_code
def y_Mo_compressRow : MethodName := ⟨"MailChainModel", "compressRow", "([BII)V"⟩
abbrev b_Mo_clearTable : ByteArray := prog_13_method_30_code
def y_Mo_clearTable : MethodName := ⟨"MailChainModel", "clearTable", "()V"⟩
abbrev b_Mo_goOn : ByteArray := prog_13_method_34_code
def y_Mo_goOn : MethodName := ⟨"MailChainModel", "goOn", "(II)I"⟩
abbrev b_Mo_putCode : ByteArray := prog_13_method_33_code
def y_Mo_putCode : MethodName := ⟨"MailChainModel", "putCode", "(II)V"⟩
abbrev b_Mo_fill : ByteArray := prog_13_method_32_code
def y_Mo_fill : MethodName := ⟨"MailChainModel", "fill", "()V"⟩
abbrev b_Mo_putBits : ByteArray := prog_13_method_31_code
def y_Mo_putBits : MethodName := ⟨"MailChainModel", "putBits", "(II)V"⟩
abbrev b_Mo_spellRow : ByteArray := prog_13_method_42_code
def y_Mo_spellRow : MethodName := ⟨"MailChainModel", "spellRow", "([BI)V"⟩
abbrev b_Mo_lay : ByteArray := prog_13_method_40_code
def y_Mo_lay : MethodName := ⟨"MailChainModel", "lay", "(I)V"⟩
abbrev b_Mo_six : ByteArray := prog_13_method_41_code
def y_Mo_six : MethodName := ⟨"MailChainModel", "six", "(I)V"⟩
abbrev b_Mo_part : ByteArray := prog_13_method_52_code
def y_Mo_part : MethodName := ⟨"MailChainModel", "part", "(II)I"⟩
abbrev b_Mo_writePart : ByteArray := prog_13_method_51_code
def y_Mo_writePart : MethodName := ⟨"MailChainModel", "writePart", "(I)V"⟩
abbrev b_Mo_putWord : ByteArray := prog_13_method_48_code
def y_Mo_putWord : MethodName := ⟨"MailChainModel", "putWord", "([B)V"⟩
abbrev b_Mo_putChar : ByteArray := prog_13_method_50_code
def y_Mo_putChar : MethodName := ⟨"MailChainModel", "putChar", "(I)V"⟩
abbrev b_Mo_putDecimal : ByteArray := prog_13_method_49_code
def y_Mo_putDecimal : MethodName := ⟨"MailChainModel", "putDecimal", "(J)V"⟩
abbrev b_Mo_stage : ByteArray := prog_13_method_53_code
def y_Mo_stage : MethodName := ⟨"MailChainModel", "stage", "(II)I"⟩
abbrev b_Mo_receive : ByteArray := prog_13_method_59_code
def y_Mo_receive : MethodName := ⟨"MailChainModel", "receive", "()I"⟩
abbrev b_Mo_come : ByteArray := prog_13_method_56_code
def y_Mo_come : MethodName := ⟨"MailChainModel", "come", "()I"⟩
abbrev b_Mo_word : ByteArray := prog_13_method_54_code
def y_Mo_word : MethodName := ⟨"MailChainModel", "word", "([B)Z"⟩
abbrev b_Mo_decimal : ByteArray := prog_13_method_55_code
def y_Mo_decimal : MethodName := ⟨"MailChainModel", "decimal", "(I)J"⟩
abbrev b_Mo_keep : ByteArray := prog_13_method_58_code
def y_Mo_keep : MethodName := ⟨"MailChainModel", "keep", "(II[BII)V"⟩
abbrev b_Mo_pass : ByteArray := prog_13_method_60_code
def y_Mo_pass : MethodName := ⟨"MailChainModel", "pass", "(III)I"⟩
abbrev b_Mo_forge : ByteArray := prog_13_method_61_code
def y_Mo_forge : MethodName := ⟨"MailChainModel", "forge", "(II)V"⟩
abbrev b_Mo_emptyBox : ByteArray := prog_13_method_57_code
def y_Mo_emptyBox : MethodName := ⟨"MailChainModel", "emptyBox", "()V"⟩
abbrev b_Mo_empty : ByteArray := prog_13_method_62_code
def y_Mo_empty : MethodName := ⟨"MailChainModel", "empty", "()I"⟩
abbrev b_Mo_unpack : ByteArray := prog_13_method_69_code
def y_Mo_unpack : MethodName := ⟨"MailChainModel", "unpack", "()I"⟩
abbrev b_Mo_unpacked : ByteArray := prog_13_method_68_code
def y_Mo_unpacked : MethodName := ⟨"MailChainModel", "unpacked", "()I"⟩
abbrev b_Mo_unspell : ByteArray := prog_13_method_43_code
def y_Mo_unspell : MethodName := ⟨"MailChainModel", "unspell", "()V"⟩
abbrev b_Mo_areSame : ByteArray := prog_13_method_63_code
def y_Mo_areSame : MethodName := ⟨"MailChainModel", "areSame", "([BI[BI)Z"⟩
abbrev b_Mo_expand : ByteArray := prog_13_method_37_code
def y_Mo_expand : MethodName := ⟨"MailChainModel", "expand", "(I)Z"⟩
abbrev b_Mo_code : ByteArray := prog_13_method_36_code
def y_Mo_code : MethodName := ⟨"MailChainModel", "code", "(I)I"⟩
abbrev b_Mo_firstByte : ByteArray := prog_13_method_38_code
def y_Mo_firstByte : MethodName := ⟨"MailChainModel", "firstByte", "(I)I"⟩
abbrev b_Mo_layString : ByteArray := prog_13_method_39_code
def y_Mo_layString : MethodName := ⟨"MailChainModel", "layString", "(I)Z"⟩
abbrev b_Mo_readTree : ByteArray := prog_13_method_65_code
def y_Mo_readTree : MethodName := ⟨"MailChainModel", "readTree", "()Z"⟩
abbrev b_Mo_octalAt : ByteArray := prog_13_method_64_code
def y_Mo_octalAt : MethodName := ⟨"MailChainModel", "octalAt", "(II)J"⟩
abbrev b_Mo_take : ByteArray := prog_13_method_66_code
def y_Mo_take : MethodName := ⟨"MailChainModel", "take", "(IIIIII)V"⟩
abbrev b_Mo_areLinks : ByteArray := prog_13_method_67_code
def y_Mo_areLinks : MethodName := ⟨"MailChainModel", "areLinks", "()Z"⟩
abbrev b_Mo_about : ByteArray := prog_13_method_70_code
def y_Mo_about : MethodName := ⟨"MailChainModel", "about", "(III)I"⟩
abbrev b_Mo_byteOf : ByteArray := prog_13_method_71_code
def y_Mo_byteOf : MethodName := ⟨"MailChainModel", "byteOf", "(III)I"⟩
-- the tables' words that travel with every call
def tb : List Cond := lw_tbl.filter goodWord
theorem tb_in {w : Cond} (h : w ∈ lw_tbl) (hg : goodWord w = true) : w ∈ tb := List.mem_filter.mpr ⟨h, hg⟩
theorem tb_1 (i : Nat) {w : Cond} (h : tables_1[i]? = some w) (hg : goodWord w = true) : w ∈ tb := tb_in (List.mem_append_right _ (List.mem_of_getElem? h)) hg
theorem tb_p (ws : List Cond) (ps : List Nat) (hp : ws = ps.filterMap (fun i => tables_1[i]?)) (h : ws.all goodWord = true) : ∀ w ∈ ws, w ∈ tb := by
  intro w hw
  have h1 := List.all_eq_true.mp h w hw
  rw [hp] at hw
  obtain ⟨i, -, hi⟩ := List.mem_filterMap.mp hw
  exact tb_1 i hi h1
theorem tb_good : ∀ w ∈ tb, goodWord w = true := fun w h => (List.mem_filter.mp h).2
theorem tb_all {args : Array Value} {s : State} (h : ∀ w ∈ lw_tbl, w.before args s = true) : ∀ w ∈ tb, w.before args s = true := fun w hw => h w (List.mem_filter.mp hw).1
/-- a method's words: its own code, and all of the tables' -/
abbrev wo (y : MethodName) (b : ByteArray) (n : Nat) (r : Option FieldType) : List Cond := Cond.code y b n r :: tb
theorem wo_in {y : MethodName} {b : ByteArray} {n : Nat} {r : Option FieldType} (c0 : Cond) (h : Cond.code y b n r ∈ tb) : GoodIn (c0 :: tb) (wo y b n r) := by
  intro w hw
  have hw2 : w ∈ tb := by
    rcases List.mem_cons.mp hw with e | e
    · rw [e]; exact h
    · exact e
  exact ⟨List.mem_cons_of_mem _ hw2, good_of_word (tb_good w hw2)⟩
def remL : List Int32 := [0, 79764919, 159529838, 222504665, 319059676, 398814059, 445009330, 507990021, 638119352, 583659535, 797628118, 726387553, 890018660, 835552979, 1015980042, 944750013]
def strLen : List Nat := [5, 4, 6, 7, 15, 4, 86, 12, 6]
def strByt : List (List Int32) := [[80, 65, 82, 84, 32], [32, 79, 70, 32], [32, 83, 73, 90, 69, 32], [32, 67, 75, 83, 85, 77, 32], [98, 101, 103, 105, 110, 32, 54, 52, 52, 32, 109, 97, 105, 108, 10], [101, 110, 100, 10], [48, 55, 48, 55, 48, 55, 48, 48, 48, 48, 48, 48, 48, 48, 48, 48, 48, 48, 48, 48, 48, 48, 48, 48, 48, 48, 48, 48, 48, 48, 48, 48, 48, 48, 48, 48, 48, 48, 48, 48, 48, 49, 48, 48, 48, 48, 48, 48, 48, 48, 48, 48, 48, 48, 48, 48, 48, 48, 48, 48, 48, 48, 48, 49, 51, 48, 48, 48, 48, 48, 48, 48, 48, 48, 48, 48, 84, 82, 65, 73, 76, 69, 82, 33, 33, 33], [48, 55, 48, 55, 48, 55, 48, 48, 48, 48, 48, 48], [48, 48, 48, 48, 48, 48]]
def strOwn (i : Nat) : String := match i with
  | 0 => "MailChain$PartLine"
  | 1 => "MailChain$PartLine"
  | 2 => "MailChain$PartLine"
  | 3 => "MailChain$PartLine"
  | 4 => "MailChain$Spelling"
  | 5 => "MailChain$Spelling"
  | 6 => "MailChain$Archive"
  | 7 => "MailChain$Archive"
  | 8 => "MailChain$Archive"
  | 9 => "MailChain$Mail"
  | 10 => "MailChain$Mail"
  | 11 => "MailChain$Mail"
  | _ => "MailChain$Mail"
def strIx (i : Nat) : Nat := match i with
  | 0 => 15
  | 1 => 26
  | 2 => 31
  | 3 => 38
  | 4 => 16
  | 5 => 36
  | 6 => 65
  | 7 => 71
  | 8 => 92
  | 9 => 59
  | 10 => 69
  | 11 => 71
  | _ => 73
def strTx (i : Nat) : String := match i with
  | 0 => "PART "
  | 1 => " OF "
  | 2 => " SIZE "
  | 3 => " CKSUM "
  | 4 => "begin 644 mail\n"
  | 5 => "end\n"
  | 6 => "0707070000000000000000000000000000000000010000000000000000000001300000000000TRAILER!!!"
  | 7 => "070707000000"
  | 8 => "000000"
  | 9 => "PART "
  | 10 => " OF "
  | 11 => " SIZE "
  | _ => " CKSUM "
def strNo (i : Nat) : Nat := match i with
  | 0 => 0
  | 1 => 1
  | 2 => 2
  | 3 => 3
  | 4 => 4
  | 5 => 5
  | 6 => 6
  | 7 => 7
  | 8 => 8
  | 9 => 0
  | 10 => 1
  | 11 => 2
  | _ => 3
def nestF : List (String × Nat × String × String × String × String) := [("MailChain$Mail", 35, "MailChain$Row", "size", "I", "MailChain"), ("MailChain$Spelling", 22, "MailChain$Row", "size", "I", "MailChain"), ("MailChain$Squeezer", 37, "MailChain$Row", "size", "I", "MailChain"), ("MailChain$Archive", 47, "MailChain$Row", "size", "I", "MailChain"), ("MailChain", 94, "MailChain$Row", "size", "I", "MailChain"), ("MailChain$Box", 62, "MailChain$Row", "size", "I", "MailChain"), ("MailChain$Entry", 45, "MailChain$Row", "size", "I", "MailChain"), ("MailChain$Tree", 52, "MailChain$Row", "size", "I", "MailChain"), ("MailChain$Expander", 65, "MailChain$Row", "size", "I", "MailChain"), ("MailChain$Archive", 41, "MailChain$Entry", "path", "LMailChain$Row;", "MailChain"), ("MailChain", 106, "MailChain$Entry", "path", "LMailChain$Row;", "MailChain"), ("MailChain$Tree", 93, "MailChain$Entry", "path", "LMailChain$Row;", "MailChain"), ("MailChain$Archive", 77, "MailChain$Entry", "kind", "I", "MailChain"), ("MailChain", 114, "MailChain$Entry", "kind", "I", "MailChain"), ("MailChain$Tree", 45, "MailChain$Entry", "kind", "I", "MailChain"), ("MailChain$Archive", 83, "MailChain$Entry", "mode", "I", "MailChain"), ("MailChain", 117, "MailChain$Entry", "mode", "I", "MailChain"), ("MailChain$Tree", 117, "MailChain$Entry", "mode", "I", "MailChain"), ("MailChain$Archive", 86, "MailChain$Entry", "owner", "I", "MailChain"), ("MailChain", 120, "MailChain$Entry", "owner", "I", "MailChain"), ("MailChain$Tree", 110, "MailChain$Entry", "owner", "I", "MailChain"), ("MailChain$Archive", 89, "MailChain$Entry", "group", "I", "MailChain"), ("MailChain", 123, "MailChain$Entry", "group", "I", "MailChain"), ("MailChain$Tree", 114, "MailChain$Entry", "group", "I", "MailChain"), ("MailChain$Archive", 94, "MailChain$Entry", "time", "I", "MailChain"), ("MailChain", 126, "MailChain$Entry", "time", "I", "MailChain"), ("MailChain$Tree", 120, "MailChain$Entry", "time", "I", "MailChain"), ("MailChain$Archive", 61, "MailChain$Entry", "start", "I", "MailChain"), ("MailChain$Tree", 55, "MailChain$Entry", "start", "I", "MailChain"), ("MailChain$Archive", 64, "MailChain$Entry", "size", "I", "MailChain"), ("MailChain$Tree", 58, "MailChain$Entry", "size", "I", "MailChain"), ("MailChain$Tree", 59, "MailChain$Entry", "family", "I", "MailChain"), ("MailChain$Archive", 24, "MailChain$Tree", "entries", "[LMailChain$Entry;", "MailChain"), ("MailChain$Archive", 58, "MailChain$Tree", "bodies", "LMailChain$Row;", "MailChain"), ("MailChain$Archive", 20, "MailChain$Tree", "count", "I", "MailChain"), ("MailChain", 153, "MailChain$Tree", "count", "I", "MailChain")]
def nestM : List (String × Nat × MethodName × String) := [("MailChain$Box", 36, ⟨"MailChain$PartLine", "<init>", "()V"⟩, "MailChain"), ("MailChain$Expander", 31, ⟨"MailChain", "isWidth", "(I)Z"⟩, "MailChain")]
theorem u_in_Mc : ∀ w ∈ u_ws R_Mc F_Mc 14, w ∈ tb := tb_p _ [318, 320, 322, 324, 326, 328, 330, 332, 334, 336, 338, 340, 342, 344] (by decide +kernel) (by decide +kernel)
theorem u_in_Ro : ∀ w ∈ u_ws R_Ro F_Ro 2, w ∈ tb := tb_p _ [57, 59] (by decide +kernel) (by decide +kernel)
theorem u_in_En : ∀ w ∈ u_ws R_En F_En 9, w ∈ tb := tb_p _ [110, 112, 114, 116, 118, 120, 122, 124, 126] (by decide +kernel) (by decide +kernel)
theorem u_in_Tr : ∀ w ∈ u_ws R_Tr F_Tr 4, w ∈ tb := tb_p _ [139, 141, 143, 145] (by decide +kernel) (by decide +kernel)
theorem u_in_Ma : ∀ w ∈ u_ws R_Ma F_Ma 5, w ∈ tb := tb_p _ [165, 167, 169, 171, 173] (by decide +kernel) (by decide +kernel)
theorem u_in_Pl : ∀ w ∈ u_ws R_Pl F_Pl 5, w ∈ tb := tb_p _ [205, 207, 209, 211, 213] (by decide +kernel) (by decide +kernel)
theorem u_in_Bo : ∀ w ∈ u_ws R_Bo F_Bo 7, w ∈ tb := tb_p _ [224, 226, 228, 230, 232, 234, 236] (by decide +kernel) (by decide +kernel)
theorem u_in_Sq : ∀ w ∈ u_ws R_Sq F_Sq 9, w ∈ tb := tb_p _ [254, 256, 258, 260, 262, 264, 266, 268, 270] (by decide +kernel) (by decide +kernel)
theorem u_in_Ex : ∀ w ∈ u_ws R_Ex F_Ex 7, w ∈ tb := tb_p _ [286, 288, 290, 292, 294, 296, 298] (by decide +kernel) (by decide +kernel)
theorem u_in_Mo : ∀ w ∈ u_ws R_Mo F_Mo 62, w ∈ tb := tb_p _ [1331, 1333, 1335, 1337, 1339, 1341, 1343, 1345, 1347, 1349, 1351, 1353, 1355, 1357, 1359, 1361, 1363, 1365, 1367, 1369, 1371, 1373, 1375, 1377, 1379, 1381, 1383, 1385, 1387, 1389, 1391, 1393, 1395, 1397, 1399, 1401, 1403, 1405, 1407, 1409, 1411, 1413, 1415, 1417, 1419, 1421, 1423, 1425, 1427, 1429, 1431, 1433, 1435, 1437, 1439, 1441, 1443, 1445, 1447, 1449, 1451, 1453] (by decide +kernel) (by decide +kernel)
end
section
/-! The machine's world as a memory: every object and array that the law makes has a place (its number in the order of making), the cell of place k is B + k. -/
abbrev zM : Type := (Nat → Nat → Int32) × (Nat → Nat → Int64) × (Nat → Nat → Nat)
def zI (M : zM) (k j : Nat) (v : Int32) : zM := (fun a => if a = k then upd (M.1 a) j v else M.1 a, M.2.1, M.2.2)
def zL (M : zM) (k j : Nat) (v : Int64) : zM := (M.1, fun a => if a = k then vp_updL (M.2.1 a) j v else M.2.1 a, M.2.2)
def zR (M : zM) (k j : Nat) (v : Nat) : zM := (M.1, M.2.1, fun a => if a = k then va_up (M.2.2 a) j v else M.2.2 a)
/-- a whole array of whole numbers laid anew -/
def zA (M : zM) (k : Nat) (f : Nat → Int32) : zM := (fun a => if a = k then f else M.1 a, M.2.1, M.2.2)
def zfvl (B : Nat) (M : zM) (t k j : Nat) : Value := match ft t j with
  | 0 => .int (M.1 k j)
  | 1 => .long (M.2.1 k j)
  | 2 => .ref (B + (k + fo t j))
  | _ => .ref (B + M.2.2 k j)
def zfvs (B : Nat) (M : zM) (t k : Nat) : List Value := (List.range (nf t)).map (zfvl B M t k)
def zcel (B : Nat) (aC : Nat → ClassId) (M : zM) (k : Nat) : va_E :=
  if tg k < 20 then .inr (tg k, zfvs B M (tg k) k) else if tg k < 23 then .inl (aC (tg k), ln k, .inl (M.1 k)) else if tg k = 23 then .inl (aC 23, ln k, .inr (.inl (M.2.1 k))) else .inl (aC 24, ln k, .inr (.inr (.inr (.inr (fun j => some (B + M.2.2 k j))))))
def zcls (B : Nat) (aC : Nat → ClassId) (M : zM) : va_W := (List.range N0).map (fun k => (B + k, zcel B aC M k))
def ztyl (aC : Nat → ClassId) : List (ClassId × FieldType) := [(aC 20, .byte), (aC 21, .int), (aC 22, .boolean), (aC 23, .long), (aC 24, .object "MailChain$Entry")]
/-- the law's own cells, those of the places -/
abbrev zAb (B : Nat) : Nat → Prop := fun q => B ≤ q ∧ q < B + N0
theorem zcls_at {B : Nat} {aC : Nat → ClassId} {M : zM} {k : Nat} (h : k < N0) : (zcls B aC M)[k]? = some (B + k, zcel B aC M k) := by
  unfold zcls
  rw [List.getElem?_map, List.getElem?_range h]
  rfl
theorem zcls_set {B : Nat} {aC : Nat → ClassId} {M M' : zM} {k : Nat} (h : k < N0) (e : va_E) (he : zcel B aC M' k = e) (ho : ∀ j, j ≠ k → zcel B aC M' j = zcel B aC M j) : (zcls B aC M).set k (B + k, e) = zcls B aC M' := by
  apply List.ext_getElem?
  intro i
  by_cases hi : i < N0
  · rw [zcls_at hi]
    by_cases hk : k = i
    · subst hk
      have hl : k < (zcls B aC M).length := by unfold zcls; rw [List.length_map, List.length_range]; exact h
      rw [List.getElem?_set_self hl, he]
    · rw [List.getElem?_set_ne hk, zcls_at hi, ho i (fun q => hk q.symm)]
  · have h1 : (zcls B aC M').length ≤ i := by unfold zcls; rw [List.length_map, List.length_range]; omega
    have h2 : ((zcls B aC M).set k (B + k, e)).length ≤ i := by rw [List.length_set]; unfold zcls; rw [List.length_map, List.length_range]; omega
    rw [List.getElem?_eq_none h1, List.getElem?_eq_none h2]
theorem zcls_key {B : Nat} {aC : Nat → ClassId} {M : zM} (i : Nat) (q : Nat × va_E) (h : (zcls B aC M)[i]? = some q) : i < N0 ∧ q = (B + i, zcel B aC M i) := by
  by_cases hi : i < N0
  · rw [zcls_at hi] at h
    cases h
    exact ⟨hi, rfl⟩
  · have h1 : (zcls B aC M).length ≤ i := by unfold zcls; rw [List.length_map, List.length_range]; omega
    rw [List.getElem?_eq_none h1] at h
    cases h
theorem zcls_D {B : Nat} {aC : Nat → ClassId} {M : zM} : va_D (zAb B) (zcls B aC M) := by
  refine ⟨fun i j p q hp hq e => ?_, fun k q hq => ?_⟩
  · have h1 := (zcls_key i p hp).2
    have h2 := (zcls_key j q hq).2
    rw [h1, h2] at e
    have e2 : B + i = B + j := e
    omega
  · obtain ⟨h0, h1⟩ := zcls_key k q hq
    rw [h1]
    exact ⟨by show B ≤ B + k; omega, by show B + k < B + N0; omega⟩
/-- the cells of the places are no class's statics -/
theorem zcls_ns {B : Nat} {D : va_G} {aC : Nat → ClassId} {M : zM} {H : Heap} (hP : va_P D kcl (zcls B aC M) H) : ∀ (q : Nat) (cell : Cell), zAb B q → H[q]? = some cell → cell.vm.isStatics = false := by
  intro q cell hq hc
  obtain ⟨k, rfl⟩ : ∃ k, q = B + k := ⟨q - B, by have := hq.1; omega⟩
  have hk : k < N0 := by have := hq.2; omega
  have h := hP k _ (zcls_at hk)
  have hv : cell.vm = .none := by
    generalize zcel B aC M k = ce at h
    cases ce with
    | inl x =>
      have h2 : H[B + k]? = some (vp_cell x.1 x.2) := h
      rw [h2] at hc
      cases hc
      obtain ⟨a, n, f | f | f | f | f⟩ := x <;> rfl
    | inr o =>
      obtain ⟨r, -, cell2, h2, -, h3, -⟩ := h
      have h2 : H[B + k]? = some cell2 := h2
      rw [h2] at hc
      cases hc
      exact h3
  rw [hv]
  rfl
theorem zfvs_at {B : Nat} {M : zM} {t k j : Nat} (h : j < nf t) : (zfvs B M t k)[j]? = some (zfvl B M t k j) := by
  unfold zfvs
  rw [List.getElem?_map, List.getElem?_range h]
  rfl
theorem zfvs_len {B : Nat} {M : zM} {t k : Nat} : (zfvs B M t k).length = nf t := by
  unfold zfvs
  rw [List.length_map, List.length_range]
theorem zfvs_set {B : Nat} {M M' : zM} {t k j : Nat} {v : Value} (h : j < nf t) (hv : zfvl B M' t k j = v) (ho : ∀ i, i ≠ j → zfvl B M' t k i = zfvl B M t k i) : (zfvs B M t k).set j v = zfvs B M' t k := by
  apply List.ext_getElem?
  intro i
  by_cases hi : i < nf t
  · rw [zfvs_at hi]
    by_cases hk : j = i
    · subst hk
      rw [List.getElem?_set_self (by rw [zfvs_len]; exact h), hv]
    · rw [List.getElem?_set_ne hk, zfvs_at hi, ho i (fun q => hk q.symm)]
  · rw [List.getElem?_eq_none (by rw [List.length_set, zfvs_len]; omega), List.getElem?_eq_none (by rw [zfvs_len]; omega)]
theorem zcel_o {B : Nat} {aC : Nat → ClassId} {M : zM} {k t : Nat} (h : tg k = t) (ht : t < 20) : zcel B aC M k = .inr (t, zfvs B M t k) := by
  subst h
  unfold zcel
  rw [if_pos ht]
theorem zcel_i {B : Nat} {aC : Nat → ClassId} {M : zM} {k t : Nat} (h : tg k = t) (h1 : ¬ t < 20) (h2 : t < 23) : zcel B aC M k = .inl (aC t, ln k, .inl (M.1 k)) := by
  subst h
  unfold zcel
  rw [if_neg h1, if_pos h2]
theorem zcel_l {B : Nat} {aC : Nat → ClassId} {M : zM} {k : Nat} (h : tg k = 23) : zcel B aC M k = .inl (aC 23, ln k, .inr (.inl (M.2.1 k))) := by
  unfold zcel
  rw [h]
  rfl
theorem zcel_r {B : Nat} {aC : Nat → ClassId} {M : zM} {k : Nat} (h : tg k = 24) : zcel B aC M k = .inl (aC 24, ln k, .inr (.inr (.inr (.inr (fun j => some (B + M.2.2 k j)))))) := by
  unfold zcel
  rw [h]
  rfl
/-- a cell depends on its own row of the memory alone -/
theorem zcel_same {B : Nat} {aC : Nat → ClassId} {M M' : zM} {k : Nat} (h1 : M'.1 k = M.1 k) (h2 : M'.2.1 k = M.2.1 k) (h3 : M'.2.2 k = M.2.2 k) : zcel B aC M' k = zcel B aC M k := by
  have hf : ∀ t, zfvs B M' t k = zfvs B M t k := by
    intro t
    unfold zfvs
    congr 1
    funext j
    unfold zfvl
    rw [h1, h2, h3]
  unfold zcel
  rw [hf, h1, h2, h3]
theorem zI_o {M : zM} {k j a : Nat} {v : Int32} (h : a ≠ k) : (zI M k j v).1 a = M.1 a := if_neg h
theorem zL_o {M : zM} {k j a : Nat} {v : Int64} (h : a ≠ k) : (zL M k j v).2.1 a = M.2.1 a := if_neg h
theorem zR_o {M : zM} {k j a v : Nat} (h : a ≠ k) : (zR M k j v).2.2 a = M.2.2 a := if_neg h
theorem zA_o {M : zM} {k a : Nat} {f : Nat → Int32} (h : a ≠ k) : (zA M k f).1 a = M.1 a := if_neg h
theorem zI_s {M : zM} {k j : Nat} {v : Int32} : (zI M k j v).1 k = upd (M.1 k) j v := if_pos rfl
theorem zL_s {M : zM} {k j : Nat} {v : Int64} : (zL M k j v).2.1 k = vp_updL (M.2.1 k) j v := if_pos rfl
theorem zR_s {M : zM} {k j v : Nat} : (zR M k j v).2.2 k = va_up (M.2.2 k) j v := if_pos rfl
theorem zA_s {M : zM} {k : Nat} {f : Nat → Int32} : (zA M k f).1 k = f := if_pos rfl
theorem zfvs_sI {B : Nat} {M : zM} {t k j : Nat} {v : Int32} (h : j < nf t) (hf : ft t j = 0) : (zfvs B M t k).set j (.int v) = zfvs B (zI M k j v) t k := by
  refine zfvs_set h ?_ (fun i hi => ?_)
  · unfold zfvl
    rw [hf, zI_s]
    show Value.int (upd (M.1 k) j v j) = _
    rw [show upd (M.1 k) j v j = v from if_pos rfl]
  · unfold zfvl
    rw [zI_s, show upd (M.1 k) j v i = M.1 k i from if_neg hi]
    rfl
theorem zfvs_sL {B : Nat} {M : zM} {t k j : Nat} {v : Int64} (h : j < nf t) (hf : ft t j = 1) : (zfvs B M t k).set j (.long v) = zfvs B (zL M k j v) t k := by
  refine zfvs_set h ?_ (fun i hi => ?_)
  · unfold zfvl
    rw [hf, zL_s]
    show Value.long (vp_updL (M.2.1 k) j v j) = _
    rw [show vp_updL (M.2.1 k) j v j = v from if_pos rfl]
  · unfold zfvl
    rw [zL_s, show vp_updL (M.2.1 k) j v i = M.2.1 k i from if_neg hi]
    rfl
theorem zfvs_sR {B : Nat} {M : zM} {t k j v : Nat} (h : j < nf t) (hf : ft t j = 3) : (zfvs B M t k).set j (.ref (B + v)) = zfvs B (zR M k j v) t k := by
  refine zfvs_set h ?_ (fun i hi => ?_)
  · unfold zfvl
    rw [hf, zR_s]
    show Value.ref (B + va_up (M.2.2 k) j v j) = _
    rw [show va_up (M.2.2 k) j v j = v from if_pos rfl]
  · unfold zfvl
    rw [zR_s, show va_up (M.2.2 k) j v i = M.2.2 k i from if_neg hi]
    rfl
/-- the tables at a state: classes, array classes; statics and texts below the law's own cells -/
def zSx (B : Nat) (aS : Nat → Nat) (U : State) : Prop :=
  (∃ t : Nat, va_Z "MailChain$Row" "REMAINDERS" "[I" (.ref t) (zAb B) U U.heap ∧ va_T .int t 16 (fun j => .int (remL.getD j 0)) (zAb B) U U.heap) ∧
  vk_S 9 strLen strByt aS (fun i => aS (100 + i)) (zAb B) U U.heap ∧ (∀ i, i < 13 → vk_R (strOwn i) (strIx i) (strTx i) (aS (strNo i)) U) ∧
  va_Z "java/lang/String" "COMPACT_STRINGS" "Z" (.int 1) (zAb B) U U.heap ∧
  va_Zq "java/lang/Throwable" "UNASSIGNED_STACK" "[Ljava/lang/StackTraceElement;" (zAb B) U U.heap ∧ va_Zq "java/lang/Throwable" "SUPPRESSED_SENTINEL" "Ljava/util/List;" (zAb B) U U.heap ∧ va_Zq "jdk/internal/util/Preconditions" "SIOOBE_FORMATTER" "Ljava/util/function/BiFunction;" (zAb B) U U.heap ∧
  (∀ q ∈ nestF, va_Nw (.fieldLinkNest q.1 q.2.1 q.2.2.1 q.2.2.2.1 q.2.2.2.2.1 q.2.2.2.2.2) U) ∧ (∀ q ∈ nestM, va_Nw (.methodLinkNest q.1 q.2.1 q.2.2.1 q.2.2.2) U) ∧ (∀ k, 1 ≤ k → k ≤ 4 → va_Nw (.castable (exN k) (exN k)) U) ∧ (∀ q ∈ neL, va_Nc (exN q.1) (exN q.2) U) ∧ ∀ q ∈ chainL, va_Nw (.declares ⟨q, "<init>", "()V"⟩) U
theorem zSx.warm {B : Nat} {aS : Nat → Nat} {s U : State} (h : zSx B aS s) (hW : s.WarmedH U.vm) (hq : ∀ a : Nat, a < s.heap.size → ¬ zAb B a → U.heap[a]? = s.heap[a]?) : zSx B aS U := by
  obtain ⟨⟨t, h1, h2⟩, h3, h4, h5, h6, h7, h10, h8, h9, h11, h12, h13⟩ := h
  have hv := hW.alike
  exact ⟨⟨t, (h1.kept hq).moved hv, (h2.kept hq).moved hv⟩, (h3.kept hq).moved hv, fun i hi => (h4 i hi).warm hW, (h5.kept hq).moved hv, (h6.kept hq).moved hv, (h7.kept hq).moved hv, (h10.kept hq).moved hv, fun q hq => (h8 q hq).warmF hW, fun q hq => (h9 q hq).warmM hW, fun k h1 h2 => (h11 k h1 h2).warmC hW, fun q hq => (h12 q hq).moved hv, fun q hq => (h13 q hq).warmD hW⟩
theorem zSx.blind {B : Nat} {aS : Nat → Nat} {U : State} {g : JFrame} {mk : MethodId} {a : Array Value} (h : zSx B aS U) : zSx B aS (U.calling g mk a) := by
  obtain ⟨⟨t, h1, h2⟩, h3, h4, h5, h6, h7, h10, h8, h9, h11, h12, h13⟩ := h
  have hv : U.vm.Alike (U.calling g mk a).vm := Vm.Alike.refl U.vm
  exact ⟨⟨t, h1.moved hv, h2.moved hv⟩, h3.moved hv, fun i hi => (h4 i hi).same rfl, h5.moved hv, h6.moved hv, h7.moved hv, h10.moved hv, fun q hq => (h8 q hq).same rfl rfl, fun q hq => (h9 q hq).same rfl rfl, fun k h1 h2 => (h11 k h1 h2).same rfl rfl, fun q hq => (h12 q hq).moved hv, fun q hq => (h13 q hq).same rfl rfl⟩
def zCx (B : Nat) (D : va_G) (aC : Nat → ClassId) (aS : Nat → Nat) (U : State) : Prop := va_K D kcl (ztyl aC) U ∧ zSx B aS U
/-- what holds at a method's start -/
def zWl (B : Nat) (D : va_G) (aC : Nat → ClassId) (aS : Nat → Nat) (M : zM) (U : State) : Prop := va_P D kcl (zcls B aC M) U.heap ∧ B + N0 ≤ U.heap.size ∧ zCx B D aC aS U
theorem zWl.blind {B : Nat} {D : va_G} {aC : Nat → ClassId} {aS : Nat → Nat} {M : zM} {U : State} {g : JFrame} {mk : MethodId} {a : Array Value} (h : zWl B D aC aS M U) : zWl B D aC aS M (U.calling g mk a) :=
  ⟨h.1, h.2.1, va_K.moved (u := U) (U := U.calling g mk a) (Vm.Alike.refl U.vm) h.2.2.1, h.2.2.2.blind⟩
/-- behind a method: the answer, the memory -/
def zQv (B : Nat) (D : va_G) (aC : Nat → ClassId) (post : zM → Prop) : Array Value → State → Outcome → State → Prop := fun _ st oc t => ∃ M, oc = .returned none ∧ post M ∧ va_P D kcl (zcls B aC M) t.heap ∧ va_F (zAb B) st t
def zQi (B : Nat) (D : va_G) (aC : Nat → ClassId) (post : Int32 → zM → Prop) : Array Value → State → Outcome → State → Prop := fun _ st oc t => ∃ r M, oc = .returned (some (.int r)) ∧ post r M ∧ va_P D kcl (zcls B aC M) t.heap ∧ va_F (zAb B) st t
def zQl (B : Nat) (D : va_G) (aC : Nat → ClassId) (post : Int64 → zM → Prop) : Array Value → State → Outcome → State → Prop := fun _ st oc t => ∃ r M, oc = .returned (some (.long r)) ∧ post r M ∧ va_P D kcl (zcls B aC M) t.heap ∧ va_F (zAb B) st t
def zQr (B : Nat) (D : va_G) (aC : Nat → ClassId) (post : Nat → zM → Prop) : Array Value → State → Outcome → State → Prop := fun _ st oc t => ∃ r M, oc = .returned (some (.ref (B + r))) ∧ post r M ∧ va_P D kcl (zcls B aC M) t.heap ∧ va_F (zAb B) st t
end
section
/-! Rows: an instruction each, over the memory. -/
/-- the machine is at pc, with these locals, this stack, this memory, and comes to Q -/
def zAt (p : Program) (l : Launch) (e : Env) (R : Room) (s : State) (m : MethodId) (args : Array Value) (below : List Frame) (meth : Method) (c : Code) (cells slots : Nat) (Q : State → Prop) (B : Nat) (D : va_G) (aC : Nat → ClassId) (nL : Nat) (pc : Nat) (lv : List (Nat × Value)) (st : List Value) (M : zM) : Prop :=
  ∀ (H : Heap) (locs : List Loc) (ls : Array Slot), va_P D kcl (zcls B aC M) H → lv_has ls nL lv → va_S (zAb B) s.heap H locs → W p l e R s m args below meth c H locs cells slots Q (F0 m pc ls st)
/-- what stays the same through a method -/
def zFx (p : Program) (s : State) (m : MethodId) (args : Array Value) (c : Code) (B : Nat) (D : va_G) (aC : Nat → ClassId) (aS : Nat → Nat) (nL : Nat) (cc : ByteArray) (own : String) : Prop :=
  p.tables.exec = Jvm.exec ∧ c.code = cc ∧ c.maxLocals = nL ∧ s.vm.findClass own = some m.cls ∧ (∀ w ∈ tb, w.before args s = true) ∧ zCx B D aC aS s ∧ B + N0 ≤ s.heap.size ∧ ∀ (q : Nat) (cell : Cell), zAb B q → s.heap[q]? = some cell → cell.vm.isStatics = false
section ROWS
variable {p : Program} {l : Launch} {e : Env} {R : Room} {s : State} {m : MethodId} {args : Array Value} {below : List Frame} {meth : Method} {c : Code} {cells slots : Nat} {Q : State → Prop} {B : Nat} {D : va_G} {aC : Nat → ClassId} {aS : Nat → Nat} {nL : Nat} {cc : ByteArray} {own : String} {pc : Nat} {lv lv2 : List (Nat × Value)} {st : List Value} {M : zM}
theorem a_iadd (fx : zFx p s m args c B D aC aS nL cc own) {x y : Int32} (hd : decode cc pc = .ok (.iadd, 1)) (k : zAt p l e R s m args below meth c cells slots Q B D aC nL (pc + 1) lv (.int (x + y) :: st) M) : zAt p l e R s m args below meth c cells slots Q B D aC nL pc lv (.int y :: .int x :: st) M := fun H locs ls hP hl hS => lv_iadd fx.1 fx.2.1 hd (k H locs ls hP hl hS)
theorem a_isub (fx : zFx p s m args c B D aC aS nL cc own) {x y : Int32} (hd : decode cc pc = .ok (.isub, 1)) (k : zAt p l e R s m args below meth c cells slots Q B D aC nL (pc + 1) lv (.int (x - y) :: st) M) : zAt p l e R s m args below meth c cells slots Q B D aC nL pc lv (.int y :: .int x :: st) M := fun H locs ls hP hl hS => lv_isub fx.1 fx.2.1 hd (k H locs ls hP hl hS)
theorem a_imul (fx : zFx p s m args c B D aC aS nL cc own) {x y : Int32} (hd : decode cc pc = .ok (.imul, 1)) (k : zAt p l e R s m args below meth c cells slots Q B D aC nL (pc + 1) lv (.int (x * y) :: st) M) : zAt p l e R s m args below meth c cells slots Q B D aC nL pc lv (.int y :: .int x :: st) M := fun H locs ls hP hl hS => lv_imul fx.1 fx.2.1 hd (k H locs ls hP hl hS)
theorem a_iand (fx : zFx p s m args c B D aC aS nL cc own) {x y : Int32} (hd : decode cc pc = .ok (.iand, 1)) (k : zAt p l e R s m args below meth c cells slots Q B D aC nL (pc + 1) lv (.int (x &&& y) :: st) M) : zAt p l e R s m args below meth c cells slots Q B D aC nL pc lv (.int y :: .int x :: st) M := fun H locs ls hP hl hS => lv_iand fx.1 fx.2.1 hd (k H locs ls hP hl hS)
theorem a_ior (fx : zFx p s m args c B D aC aS nL cc own) {x y : Int32} (hd : decode cc pc = .ok (.ior, 1)) (k : zAt p l e R s m args below meth c cells slots Q B D aC nL (pc + 1) lv (.int (x ||| y) :: st) M) : zAt p l e R s m args below meth c cells slots Q B D aC nL pc lv (.int y :: .int x :: st) M := fun H locs ls hP hl hS => lv_ior fx.1 fx.2.1 hd (k H locs ls hP hl hS)
theorem a_ixor (fx : zFx p s m args c B D aC aS nL cc own) {x y : Int32} (hd : decode cc pc = .ok (.ixor, 1)) (k : zAt p l e R s m args below meth c cells slots Q B D aC nL (pc + 1) lv (.int (x ^^^ y) :: st) M) : zAt p l e R s m args below meth c cells slots Q B D aC nL pc lv (.int y :: .int x :: st) M := fun H locs ls hP hl hS => lv_ixor fx.1 fx.2.1 hd (k H locs ls hP hl hS)
theorem a_ladd (fx : zFx p s m args c B D aC aS nL cc own) {x y : Int64} (hd : decode cc pc = .ok (.ladd, 1)) (k : zAt p l e R s m args below meth c cells slots Q B D aC nL (pc + 1) lv (.long (x + y) :: st) M) : zAt p l e R s m args below meth c cells slots Q B D aC nL pc lv (.long y :: .long x :: st) M := fun H locs ls hP hl hS => lv_ladd fx.1 fx.2.1 hd (k H locs ls hP hl hS)
theorem a_lsub (fx : zFx p s m args c B D aC aS nL cc own) {x y : Int64} (hd : decode cc pc = .ok (.lsub, 1)) (k : zAt p l e R s m args below meth c cells slots Q B D aC nL (pc + 1) lv (.long (x - y) :: st) M) : zAt p l e R s m args below meth c cells slots Q B D aC nL pc lv (.long y :: .long x :: st) M := fun H locs ls hP hl hS => lv_lsub fx.1 fx.2.1 hd (k H locs ls hP hl hS)
theorem a_lmul (fx : zFx p s m args c B D aC aS nL cc own) {x y : Int64} (hd : decode cc pc = .ok (.lmul, 1)) (k : zAt p l e R s m args below meth c cells slots Q B D aC nL (pc + 1) lv (.long (x * y) :: st) M) : zAt p l e R s m args below meth c cells slots Q B D aC nL pc lv (.long y :: .long x :: st) M := fun H locs ls hP hl hS => lv_lmul fx.1 fx.2.1 hd (k H locs ls hP hl hS)
theorem a_land (fx : zFx p s m args c B D aC aS nL cc own) {x y : Int64} (hd : decode cc pc = .ok (.land, 1)) (k : zAt p l e R s m args below meth c cells slots Q B D aC nL (pc + 1) lv (.long (x &&& y) :: st) M) : zAt p l e R s m args below meth c cells slots Q B D aC nL pc lv (.long y :: .long x :: st) M := fun H locs ls hP hl hS => lv_land fx.1 fx.2.1 hd (k H locs ls hP hl hS)
theorem a_lor (fx : zFx p s m args c B D aC aS nL cc own) {x y : Int64} (hd : decode cc pc = .ok (.lor, 1)) (k : zAt p l e R s m args below meth c cells slots Q B D aC nL (pc + 1) lv (.long (x ||| y) :: st) M) : zAt p l e R s m args below meth c cells slots Q B D aC nL pc lv (.long y :: .long x :: st) M := fun H locs ls hP hl hS => lv_lor fx.1 fx.2.1 hd (k H locs ls hP hl hS)
theorem a_lxor (fx : zFx p s m args c B D aC aS nL cc own) {x y : Int64} (hd : decode cc pc = .ok (.lxor, 1)) (k : zAt p l e R s m args below meth c cells slots Q B D aC nL (pc + 1) lv (.long (x ^^^ y) :: st) M) : zAt p l e R s m args below meth c cells slots Q B D aC nL pc lv (.long y :: .long x :: st) M := fun H locs ls hP hl hS => lv_lxor fx.1 fx.2.1 hd (k H locs ls hP hl hS)
theorem a_idiv (fx : zFx p s m args c B D aC aS nL cc own) {x y : Int32} (hd : decode cc pc = .ok (.idiv, 1)) (hne : ¬ y = 0) (k : zAt p l e R s m args below meth c cells slots Q B D aC nL (pc + 1) lv (.int (x / y) :: st) M) : zAt p l e R s m args below meth c cells slots Q B D aC nL pc lv (.int y :: .int x :: st) M := fun H locs ls hP hl hS => lv_idiv fx.1 fx.2.1 hd hne (k H locs ls hP hl hS)
theorem a_irem (fx : zFx p s m args c B D aC aS nL cc own) {x y : Int32} (hd : decode cc pc = .ok (.irem, 1)) (hne : ¬ y = 0) (k : zAt p l e R s m args below meth c cells slots Q B D aC nL (pc + 1) lv (.int (x - x / y * y) :: st) M) : zAt p l e R s m args below meth c cells slots Q B D aC nL pc lv (.int y :: .int x :: st) M := fun H locs ls hP hl hS => lv_irem fx.1 fx.2.1 hd hne (k H locs ls hP hl hS)
theorem a_ldiv (fx : zFx p s m args c B D aC aS nL cc own) {x y : Int64} (hd : decode cc pc = .ok (.ldiv, 1)) (hne : ¬ y = 0) (k : zAt p l e R s m args below meth c cells slots Q B D aC nL (pc + 1) lv (.long (x / y) :: st) M) : zAt p l e R s m args below meth c cells slots Q B D aC nL pc lv (.long y :: .long x :: st) M := fun H locs ls hP hl hS => lv_ldiv fx.1 fx.2.1 hd hne (k H locs ls hP hl hS)
theorem a_lrem (fx : zFx p s m args c B D aC aS nL cc own) {x y : Int64} (hd : decode cc pc = .ok (.lrem, 1)) (hne : ¬ y = 0) (k : zAt p l e R s m args below meth c cells slots Q B D aC nL (pc + 1) lv (.long (x - x / y * y) :: st) M) : zAt p l e R s m args below meth c cells slots Q B D aC nL pc lv (.long y :: .long x :: st) M := fun H locs ls hP hl hS => lv_lrem fx.1 fx.2.1 hd hne (k H locs ls hP hl hS)
theorem a_ineg (fx : zFx p s m args c B D aC aS nL cc own) {x : Int32} (hd : decode cc pc = .ok (.ineg, 1)) (k : zAt p l e R s m args below meth c cells slots Q B D aC nL (pc + 1) lv (.int (-x) :: st) M) : zAt p l e R s m args below meth c cells slots Q B D aC nL pc lv (.int x :: st) M := fun H locs ls hP hl hS => lv_ineg fx.1 fx.2.1 hd (k H locs ls hP hl hS)
theorem a_ishl (fx : zFx p s m args c B D aC aS nL cc own) {x y : Int32} (hd : decode cc pc = .ok (.ishl, 1)) (k : zAt p l e R s m args below meth c cells slots Q B D aC nL (pc + 1) lv (.int (x <<< (y &&& 31)) :: st) M) : zAt p l e R s m args below meth c cells slots Q B D aC nL pc lv (.int y :: .int x :: st) M := fun H locs ls hP hl hS => lv_ishl fx.1 fx.2.1 hd (k H locs ls hP hl hS)
theorem a_ishr (fx : zFx p s m args c B D aC aS nL cc own) {x y : Int32} (hd : decode cc pc = .ok (.ishr, 1)) (k : zAt p l e R s m args below meth c cells slots Q B D aC nL (pc + 1) lv (.int (x >>> (y &&& 31)) :: st) M) : zAt p l e R s m args below meth c cells slots Q B D aC nL pc lv (.int y :: .int x :: st) M := fun H locs ls hP hl hS => lv_ishr fx.1 fx.2.1 hd (k H locs ls hP hl hS)
theorem a_iushr (fx : zFx p s m args c B D aC aS nL cc own) {x y : Int32} (hd : decode cc pc = .ok (.iushr, 1)) (k : zAt p l e R s m args below meth c cells slots Q B D aC nL (pc + 1) lv (.int (x.toUInt32 >>> (y.toUInt32 &&& Int32.toUInt32 31)).toInt32 :: st) M) : zAt p l e R s m args below meth c cells slots Q B D aC nL pc lv (.int y :: .int x :: st) M := fun H locs ls hP hl hS => lv_iushr fx.1 fx.2.1 hd rfl (k H locs ls hP hl hS)
theorem a_lushr (fx : zFx p s m args c B D aC aS nL cc own) {x : Int64} {y : Int32} (hd : decode cc pc = .ok (.lushr, 1)) (k : zAt p l e R s m args below meth c cells slots Q B D aC nL (pc + 1) lv (.long (x.toUInt64 >>> (y.toInt64.toUInt64 &&& Int64.toUInt64 63)).toInt64 :: st) M) : zAt p l e R s m args below meth c cells slots Q B D aC nL pc lv (.int y :: .long x :: st) M := fun H locs ls hP hl hS => lv_lushr fx.1 fx.2.1 hd rfl (k H locs ls hP hl hS)
theorem a_lshl (fx : zFx p s m args c B D aC aS nL cc own) {x : Int64} {y : Int32} (hd : decode cc pc = .ok (.lshl, 1)) (k : zAt p l e R s m args below meth c cells slots Q B D aC nL (pc + 1) lv (.long (x <<< (y.toInt64 &&& 63)) :: st) M) : zAt p l e R s m args below meth c cells slots Q B D aC nL pc lv (.int y :: .long x :: st) M := fun H locs ls hP hl hS => lv_lshl fx.1 fx.2.1 hd rfl (k H locs ls hP hl hS)
theorem a_lshr (fx : zFx p s m args c B D aC aS nL cc own) {x : Int64} {y : Int32} (hd : decode cc pc = .ok (.lshr, 1)) (k : zAt p l e R s m args below meth c cells slots Q B D aC nL (pc + 1) lv (.long (x >>> (y.toInt64 &&& 63)) :: st) M) : zAt p l e R s m args below meth c cells slots Q B D aC nL pc lv (.int y :: .long x :: st) M := fun H locs ls hP hl hS => lv_lshr fx.1 fx.2.1 hd rfl (k H locs ls hP hl hS)
theorem a_i2l (fx : zFx p s m args c B D aC aS nL cc own) {x : Int32} (hd : decode cc pc = .ok (.i2l, 1)) (k : zAt p l e R s m args below meth c cells slots Q B D aC nL (pc + 1) lv (.long x.toInt64 :: st) M) : zAt p l e R s m args below meth c cells slots Q B D aC nL pc lv (.int x :: st) M := fun H locs ls hP hl hS => lv_i2l fx.1 fx.2.1 hd rfl (k H locs ls hP hl hS)
theorem a_l2i (fx : zFx p s m args c B D aC aS nL cc own) {x : Int64} (hd : decode cc pc = .ok (.l2i, 1)) (k : zAt p l e R s m args below meth c cells slots Q B D aC nL (pc + 1) lv (.int x.toInt32 :: st) M) : zAt p l e R s m args below meth c cells slots Q B D aC nL pc lv (.long x :: st) M := fun H locs ls hP hl hS => lv_l2i fx.1 fx.2.1 hd rfl (k H locs ls hP hl hS)
theorem a_i2b (fx : zFx p s m args c B D aC aS nL cc own) {x : Int32} (hd : decode cc pc = .ok (.i2b, 1)) (k : zAt p l e R s m args below meth c cells slots Q B D aC nL (pc + 1) lv (.int x.toInt8.toInt32 :: st) M) : zAt p l e R s m args below meth c cells slots Q B D aC nL pc lv (.int x :: st) M := fun H locs ls hP hl hS => lv_i2b fx.1 fx.2.1 hd rfl (k H locs ls hP hl hS)
theorem a_i2c (fx : zFx p s m args c B D aC aS nL cc own) {x : Int32} (hd : decode cc pc = .ok (.i2c, 1)) (k : zAt p l e R s m args below meth c cells slots Q B D aC nL (pc + 1) lv (.int (x.toUInt32 % 65536).toInt32 :: st) M) : zAt p l e R s m args below meth c cells slots Q B D aC nL pc lv (.int x :: st) M := fun H locs ls hP hl hS => lv_i2c fx.1 fx.2.1 hd rfl (k H locs ls hP hl hS)
theorem a_iconst (fx : zFx p s m args c B D aC aS nL cc own) {n : Int} {v : Int32} (hd : decode cc pc = .ok (.iconst n, 1)) (hv : Int32.ofInt n = v) (k : zAt p l e R s m args below meth c cells slots Q B D aC nL (pc + 1) lv (.int v :: st) M) : zAt p l e R s m args below meth c cells slots Q B D aC nL pc lv (st) M := fun H locs ls hP hl hS => lv_iconst fx.1 fx.2.1 hd hv (k H locs ls hP hl hS)
theorem a_bipush (fx : zFx p s m args c B D aC aS nL cc own) {n : Int} {v : Int32} (hd : decode cc pc = .ok (.bipush n, 2)) (hv : (Int8.ofInt n).toInt32 = v) (k : zAt p l e R s m args below meth c cells slots Q B D aC nL (pc + 2) lv (.int v :: st) M) : zAt p l e R s m args below meth c cells slots Q B D aC nL pc lv (st) M := fun H locs ls hP hl hS => lv_bipush fx.1 fx.2.1 hd hv (k H locs ls hP hl hS)
theorem a_sipush (fx : zFx p s m args c B D aC aS nL cc own) {n : Int} {v : Int32} (hd : decode cc pc = .ok (.sipush n, 3)) (hv : (Int16.ofInt n).toInt32 = v) (k : zAt p l e R s m args below meth c cells slots Q B D aC nL (pc + 3) lv (.int v :: st) M) : zAt p l e R s m args below meth c cells slots Q B D aC nL pc lv (st) M := fun H locs ls hP hl hS => lv_sipush fx.1 fx.2.1 hd hv (k H locs ls hP hl hS)
theorem a_lconst (fx : zFx p s m args c B D aC aS nL cc own) {n : Fin 2} {v : Int64} (hd : decode cc pc = .ok (.lconst n, 1)) (hv : Int64.ofNat (n : Nat) = v) (k : zAt p l e R s m args below meth c cells slots Q B D aC nL (pc + 1) lv (.long v :: st) M) : zAt p l e R s m args below meth c cells slots Q B D aC nL pc lv (st) M := fun H locs ls hP hl hS => lv_lconst fx.1 fx.2.1 hd hv (k H locs ls hP hl hS)
theorem a_dup (fx : zFx p s m args c B D aC aS nL cc own) {va : Value} (hd : decode cc pc = .ok (.dup, 1)) (h1 : va.category = 1) (k : zAt p l e R s m args below meth c cells slots Q B D aC nL (pc + 1) lv (va :: va :: st) M) : zAt p l e R s m args below meth c cells slots Q B D aC nL pc lv (va :: st) M := fun H locs ls hP hl hS => lv_dup fx.1 fx.2.1 hd h1 (k H locs ls hP hl hS)
theorem a_pop (fx : zFx p s m args c B D aC aS nL cc own) {va : Value} (hd : decode cc pc = .ok (.pop, 1)) (h1 : va.category = 1) (k : zAt p l e R s m args below meth c cells slots Q B D aC nL (pc + 1) lv (st) M) : zAt p l e R s m args below meth c cells slots Q B D aC nL pc lv (va :: st) M := fun H locs ls hP hl hS => lv_pop fx.1 fx.2.1 hd h1 (k H locs ls hP hl hS)
theorem a_dup_x1 (fx : zFx p s m args c B D aC aS nL cc own) {va vb : Value} (hd : decode cc pc = .ok (.dup_x1, 1)) (h1 : va.category = 1) (h2 : vb.category = 1) (k : zAt p l e R s m args below meth c cells slots Q B D aC nL (pc + 1) lv (va :: vb :: va :: st) M) : zAt p l e R s m args below meth c cells slots Q B D aC nL pc lv (va :: vb :: st) M := fun H locs ls hP hl hS => lv_dup_x1 fx.1 fx.2.1 hd h1 h2 (k H locs ls hP hl hS)
theorem a_dup2 (fx : zFx p s m args c B D aC aS nL cc own) {va vb : Value} (hd : decode cc pc = .ok (.dup2, 1)) (h1 : va.category = 1) (h2 : vb.category = 1) (k : zAt p l e R s m args below meth c cells slots Q B D aC nL (pc + 1) lv (va :: vb :: va :: vb :: st) M) : zAt p l e R s m args below meth c cells slots Q B D aC nL pc lv (va :: vb :: st) M := fun H locs ls hP hl hS => lv_dup2_11 fx.1 fx.2.1 hd h1 h2 (k H locs ls hP hl hS)
theorem a_dup_x2 (fx : zFx p s m args c B D aC aS nL cc own) {va vb vc : Value} (hd : decode cc pc = .ok (.dup_x2, 1)) (h1 : va.category = 1) (h2 : vb.category = 1) (h3 : vc.category = 1) (k : zAt p l e R s m args below meth c cells slots Q B D aC nL (pc + 1) lv (va :: vb :: vc :: va :: st) M) : zAt p l e R s m args below meth c cells slots Q B D aC nL pc lv (va :: vb :: vc :: st) M := fun H locs ls hP hl hS => lv_dup_x2 fx.1 fx.2.1 hd h1 h2 h3 (k H locs ls hP hl hS)
theorem a_lcmp (fx : zFx p s m args c B D aC aS nL cc own) {x y : Int64} (hd : decode cc pc = .ok (.lcmp, 1)) (k : zAt p l e R s m args below meth c cells slots Q B D aC nL (pc + 1) lv (.int (lg_cmp x y) :: st) M) : zAt p l e R s m args below meth c cells slots Q B D aC nL pc lv (.long y :: .long x :: st) M := fun H locs ls hP hl hS => W.lcmp fx.1 fx.2.1 hd (k H locs ls hP hl hS)
theorem a_iload_n (fx : zFx p s m args c B D aC aS nL cc own) (q : Nat) {k0 : Fin 4} {i : Nat} {x : Int32} (hd : decode cc pc = .ok (.iload_n k0, 1)) (hi : (k0 : Nat) = i) (hq : lv[q]? = some (i, .int x)) (k : zAt p l e R s m args below meth c cells slots Q B D aC nL (pc + 1) lv (.int x :: st) M) : zAt p l e R s m args below meth c cells slots Q B D aC nL pc lv st M := fun H locs ls hP hl hS => lv_iload_n fx.1 fx.2.1 hd hi (lv_at hl q hq) (k H locs ls hP hl hS)
theorem a_iload (fx : zFx p s m args c B D aC aS nL cc own) (q : Nat) {i : Nat} {x : Int32} (hd : decode cc pc = .ok (.iload i, 2)) (hq : lv[q]? = some (i, .int x)) (k : zAt p l e R s m args below meth c cells slots Q B D aC nL (pc + 2) lv (.int x :: st) M) : zAt p l e R s m args below meth c cells slots Q B D aC nL pc lv st M := fun H locs ls hP hl hS => lv_iload fx.1 fx.2.1 hd (lv_at hl q hq) (k H locs ls hP hl hS)
theorem a_istore_n (fx : zFx p s m args c B D aC aS nL cc own) {k0 : Fin 4} {i : Nat} {x : Int32} (hd : decode cc pc = .ok (.istore_n k0, 1)) (hi : (k0 : Nat) = i) (hn : i < nL) (h2 : (i, Value.int x) :: lv.filter (fun q => !(q.1 == i) && !(q.1 + 1 == i && q.2.category == 2)) = lv2) (k : zAt p l e R s m args below meth c cells slots Q B D aC nL (pc + 1) lv2 st M) : zAt p l e R s m args below meth c cells slots Q B D aC nL pc lv (.int x :: st) M := fun H locs ls hP hl hS => lv_istore_n fx.1 fx.2.1 hd hi hl hn h2 (fun ls2 hl2 => k H locs ls2 hP hl2 hS)
theorem a_istore (fx : zFx p s m args c B D aC aS nL cc own) {i : Nat} {x : Int32} (hd : decode cc pc = .ok (.istore i, 2)) (hn : i < nL) (h2 : (i, Value.int x) :: lv.filter (fun q => !(q.1 == i) && !(q.1 + 1 == i && q.2.category == 2)) = lv2) (k : zAt p l e R s m args below meth c cells slots Q B D aC nL (pc + 2) lv2 st M) : zAt p l e R s m args below meth c cells slots Q B D aC nL pc lv (.int x :: st) M := fun H locs ls hP hl hS => lv_istore fx.1 fx.2.1 hd hl hn h2 (fun ls2 hl2 => k H locs ls2 hP hl2 hS)
theorem a_lload_n (fx : zFx p s m args c B D aC aS nL cc own) (q : Nat) {k0 : Fin 4} {i : Nat} {x : Int64} (hd : decode cc pc = .ok (.lload_n k0, 1)) (hi : (k0 : Nat) = i) (hq : lv[q]? = some (i, .long x)) (k : zAt p l e R s m args below meth c cells slots Q B D aC nL (pc + 1) lv (.long x :: st) M) : zAt p l e R s m args below meth c cells slots Q B D aC nL pc lv st M := fun H locs ls hP hl hS => lv_lload_n fx.1 fx.2.1 hd hi (lv_at hl q hq) (k H locs ls hP hl hS)
theorem a_lload (fx : zFx p s m args c B D aC aS nL cc own) (q : Nat) {i : Nat} {x : Int64} (hd : decode cc pc = .ok (.lload i, 2)) (hq : lv[q]? = some (i, .long x)) (k : zAt p l e R s m args below meth c cells slots Q B D aC nL (pc + 2) lv (.long x :: st) M) : zAt p l e R s m args below meth c cells slots Q B D aC nL pc lv st M := fun H locs ls hP hl hS => lv_lload fx.1 fx.2.1 hd (lv_at hl q hq) (k H locs ls hP hl hS)
theorem a_lstore_n (fx : zFx p s m args c B D aC aS nL cc own) {k0 : Fin 4} {i : Nat} {x : Int64} (hd : decode cc pc = .ok (.lstore_n k0, 1)) (hi : (k0 : Nat) = i) (hn : i + 1 < nL) (h2 : (i, Value.long x) :: lv.filter (fun q => !(q.1 == i) && (!(q.1 == i + 1) && !(q.1 + 1 == i && q.2.category == 2))) = lv2) (k : zAt p l e R s m args below meth c cells slots Q B D aC nL (pc + 1) lv2 st M) : zAt p l e R s m args below meth c cells slots Q B D aC nL pc lv (.long x :: st) M := fun H locs ls hP hl hS => lv_lstore_n fx.1 fx.2.1 hd hi hl hn h2 (fun ls2 hl2 => k H locs ls2 hP hl2 hS)
theorem a_lstore (fx : zFx p s m args c B D aC aS nL cc own) {i : Nat} {x : Int64} (hd : decode cc pc = .ok (.lstore i, 2)) (hn : i + 1 < nL) (h2 : (i, Value.long x) :: lv.filter (fun q => !(q.1 == i) && (!(q.1 == i + 1) && !(q.1 + 1 == i && q.2.category == 2))) = lv2) (k : zAt p l e R s m args below meth c cells slots Q B D aC nL (pc + 2) lv2 st M) : zAt p l e R s m args below meth c cells slots Q B D aC nL pc lv (.long x :: st) M := fun H locs ls hP hl hS => lv_lstore fx.1 fx.2.1 hd hl hn h2 (fun ls2 hl2 => k H locs ls2 hP hl2 hS)
theorem a_aload_n (fx : zFx p s m args c B D aC aS nL cc own) (q : Nat) {k0 : Fin 4} {i : Nat} {x : Nat} (hd : decode cc pc = .ok (.aload_n k0, 1)) (hi : (k0 : Nat) = i) (hq : lv[q]? = some (i, .ref x)) (k : zAt p l e R s m args below meth c cells slots Q B D aC nL (pc + 1) lv (.ref x :: st) M) : zAt p l e R s m args below meth c cells slots Q B D aC nL pc lv st M := fun H locs ls hP hl hS => lv_aload_n fx.1 fx.2.1 hd hi (lv_at hl q hq) (k H locs ls hP hl hS)
theorem a_aload (fx : zFx p s m args c B D aC aS nL cc own) (q : Nat) {i : Nat} {x : Nat} (hd : decode cc pc = .ok (.aload i, 2)) (hq : lv[q]? = some (i, .ref x)) (k : zAt p l e R s m args below meth c cells slots Q B D aC nL (pc + 2) lv (.ref x :: st) M) : zAt p l e R s m args below meth c cells slots Q B D aC nL pc lv st M := fun H locs ls hP hl hS => lv_aload fx.1 fx.2.1 hd (lv_at hl q hq) (k H locs ls hP hl hS)
theorem a_astore_n (fx : zFx p s m args c B D aC aS nL cc own) {k0 : Fin 4} {i : Nat} {x : Nat} (hd : decode cc pc = .ok (.astore_n k0, 1)) (hi : (k0 : Nat) = i) (hn : i < nL) (h2 : (i, Value.ref x) :: lv.filter (fun q => !(q.1 == i) && !(q.1 + 1 == i && q.2.category == 2)) = lv2) (k : zAt p l e R s m args below meth c cells slots Q B D aC nL (pc + 1) lv2 st M) : zAt p l e R s m args below meth c cells slots Q B D aC nL pc lv (.ref x :: st) M := fun H locs ls hP hl hS => lv_astore_n fx.1 fx.2.1 hd hi hl hn h2 (fun ls2 hl2 => k H locs ls2 hP hl2 hS)
theorem a_astore (fx : zFx p s m args c B D aC aS nL cc own) {i : Nat} {x : Nat} (hd : decode cc pc = .ok (.astore i, 2)) (hn : i < nL) (h2 : (i, Value.ref x) :: lv.filter (fun q => !(q.1 == i) && !(q.1 + 1 == i && q.2.category == 2)) = lv2) (k : zAt p l e R s m args below meth c cells slots Q B D aC nL (pc + 2) lv2 st M) : zAt p l e R s m args below meth c cells slots Q B D aC nL pc lv (.ref x :: st) M := fun H locs ls hP hl hS => lv_astore fx.1 fx.2.1 hd hl hn h2 (fun ls2 hl2 => k H locs ls2 hP hl2 hS)
theorem a_iinc (fx : zFx p s m args c B D aC aS nL cc own) (q : Nat) {i : Nat} {n : Int} {x v : Int32} (hd : decode cc pc = .ok (.iinc i n, 3)) (hq : lv[q]? = some (i, .int x)) (hv : x + Int32.ofInt n = v) (hn : i < nL) (h2 : (i, Value.int v) :: lv.filter (fun q => !(q.1 == i) && !(q.1 + 1 == i && q.2.category == 2)) = lv2) (k : zAt p l e R s m args below meth c cells slots Q B D aC nL (pc + 3) lv2 st M) : zAt p l e R s m args below meth c cells slots Q B D aC nL pc lv st M := fun H locs ls hP hl hS => lv_iinc fx.1 fx.2.1 hd hl hq hv hn h2 (fun ls2 hl2 => k H locs ls2 hP hl2 hS)
theorem a_sub (ks : List Nat) (h : lv_pick lv ks = lv2) (k : zAt p l e R s m args below meth c cells slots Q B D aC nL pc lv2 st M) : zAt p l e R s m args below meth c cells slots Q B D aC nL pc lv st M := fun H locs ls hP hl hS => k H locs ls hP (lv_sub hl ks h) hS
theorem a_topi {x : Int32} (k : ∀ y : Int32, y = x → zAt p l e R s m args below meth c cells slots Q B D aC nL pc lv (.int y :: st) M) : zAt p l e R s m args below meth c cells slots Q B D aC nL pc lv (.int x :: st) M := k x rfl
theorem a_topl {x : Int64} (k : ∀ y : Int64, y = x → zAt p l e R s m args below meth c cells slots Q B D aC nL pc lv (.long y :: st) M) : zAt p l e R s m args below meth c cells slots Q B D aC nL pc lv (.long x :: st) M := k x rfl
theorem a_topr {x : Nat} (k : ∀ y : Nat, y = x → zAt p l e R s m args below meth c cells slots Q B D aC nL pc lv (.ref (B + y) :: st) M) : zAt p l e R s m args below meth c cells slots Q B D aC nL pc lv (.ref (B + x) :: st) M := k x rfl
theorem a_mem (k : ∀ M2 : zM, M2 = M → zAt p l e R s m args below meth c cells slots Q B D aC nL pc lv st M2) : zAt p l e R s m args below meth c cells slots Q B D aC nL pc lv st M := k M rfl
theorem a_goto (fx : zFx p s m args c B D aC aS nL cc own) {off : Int} (tgt : Nat) (hd : decode cc pc = .ok (.goto off, 3)) (ht : (pc : Int) + off = (tgt : Int)) (k : zAt p l e R s m args below meth c cells slots Q B D aC nL tgt lv st M) : zAt p l e R s m args below meth c cells slots Q B D aC nL pc lv st M := fun H locs ls hP hl hS => lv_goto fx.1 fx.2.1 hd ht (k H locs ls hP hl hS)
theorem a_if_eq (fx : zFx p s m args c B D aC aS nL cc own) {x : Int32} {off : Int} (tgt : Nat) (hd : decode cc pc = .ok (.ifCond .eq off, 3)) (ht : (pc : Int) + off = (tgt : Int)) (kt : x = 0 → zAt p l e R s m args below meth c cells slots Q B D aC nL tgt lv st M) (kf : ¬ (x = 0) → zAt p l e R s m args below meth c cells slots Q B D aC nL (pc + 3) lv st M) : zAt p l e R s m args below meth c cells slots Q B D aC nL pc lv (.int x :: st) M := fun H locs ls hP hl hS => lv_if_eq fx.1 fx.2.1 hd ht (fun h => kt h H locs ls hP hl hS) (fun h => kf h H locs ls hP hl hS)
theorem a_icmp_eq (fx : zFx p s m args c B D aC aS nL cc own) {x y : Int32} {off : Int} (tgt : Nat) (hd : decode cc pc = .ok (.if_icmp .eq off, 3)) (ht : (pc : Int) + off = (tgt : Int)) (kt : x = y → zAt p l e R s m args below meth c cells slots Q B D aC nL tgt lv st M) (kf : ¬ (x = y) → zAt p l e R s m args below meth c cells slots Q B D aC nL (pc + 3) lv st M) : zAt p l e R s m args below meth c cells slots Q B D aC nL pc lv (.int y :: .int x :: st) M := fun H locs ls hP hl hS => lv_icmp_eq fx.1 fx.2.1 hd ht (fun h => kt h H locs ls hP hl hS) (fun h => kf h H locs ls hP hl hS)
theorem a_if_ne (fx : zFx p s m args c B D aC aS nL cc own) {x : Int32} {off : Int} (tgt : Nat) (hd : decode cc pc = .ok (.ifCond .ne off, 3)) (ht : (pc : Int) + off = (tgt : Int)) (kt : ¬ x = 0 → zAt p l e R s m args below meth c cells slots Q B D aC nL tgt lv st M) (kf : x = 0 → zAt p l e R s m args below meth c cells slots Q B D aC nL (pc + 3) lv st M) : zAt p l e R s m args below meth c cells slots Q B D aC nL pc lv (.int x :: st) M := fun H locs ls hP hl hS => lv_if_ne fx.1 fx.2.1 hd ht (fun h => kt h H locs ls hP hl hS) (fun h => kf h H locs ls hP hl hS)
theorem a_icmp_ne (fx : zFx p s m args c B D aC aS nL cc own) {x y : Int32} {off : Int} (tgt : Nat) (hd : decode cc pc = .ok (.if_icmp .ne off, 3)) (ht : (pc : Int) + off = (tgt : Int)) (kt : ¬ x = y → zAt p l e R s m args below meth c cells slots Q B D aC nL tgt lv st M) (kf : x = y → zAt p l e R s m args below meth c cells slots Q B D aC nL (pc + 3) lv st M) : zAt p l e R s m args below meth c cells slots Q B D aC nL pc lv (.int y :: .int x :: st) M := fun H locs ls hP hl hS => lv_icmp_ne fx.1 fx.2.1 hd ht (fun h => kt h H locs ls hP hl hS) (fun h => kf h H locs ls hP hl hS)
theorem a_if_lt (fx : zFx p s m args c B D aC aS nL cc own) {x : Int32} {off : Int} (tgt : Nat) (hd : decode cc pc = .ok (.ifCond .lt off, 3)) (ht : (pc : Int) + off = (tgt : Int)) (kt : x < 0 → zAt p l e R s m args below meth c cells slots Q B D aC nL tgt lv st M) (kf : ¬ (x < 0) → zAt p l e R s m args below meth c cells slots Q B D aC nL (pc + 3) lv st M) : zAt p l e R s m args below meth c cells slots Q B D aC nL pc lv (.int x :: st) M := fun H locs ls hP hl hS => lv_if_lt fx.1 fx.2.1 hd ht (fun h => kt h H locs ls hP hl hS) (fun h => kf h H locs ls hP hl hS)
theorem a_icmp_lt (fx : zFx p s m args c B D aC aS nL cc own) {x y : Int32} {off : Int} (tgt : Nat) (hd : decode cc pc = .ok (.if_icmp .lt off, 3)) (ht : (pc : Int) + off = (tgt : Int)) (kt : x < y → zAt p l e R s m args below meth c cells slots Q B D aC nL tgt lv st M) (kf : ¬ (x < y) → zAt p l e R s m args below meth c cells slots Q B D aC nL (pc + 3) lv st M) : zAt p l e R s m args below meth c cells slots Q B D aC nL pc lv (.int y :: .int x :: st) M := fun H locs ls hP hl hS => lv_icmp_lt fx.1 fx.2.1 hd ht (fun h => kt h H locs ls hP hl hS) (fun h => kf h H locs ls hP hl hS)
theorem a_if_ge (fx : zFx p s m args c B D aC aS nL cc own) {x : Int32} {off : Int} (tgt : Nat) (hd : decode cc pc = .ok (.ifCond .ge off, 3)) (ht : (pc : Int) + off = (tgt : Int)) (kt : 0 ≤ x → zAt p l e R s m args below meth c cells slots Q B D aC nL tgt lv st M) (kf : ¬ (0 ≤ x) → zAt p l e R s m args below meth c cells slots Q B D aC nL (pc + 3) lv st M) : zAt p l e R s m args below meth c cells slots Q B D aC nL pc lv (.int x :: st) M := fun H locs ls hP hl hS => lv_if_ge fx.1 fx.2.1 hd ht (fun h => kt h H locs ls hP hl hS) (fun h => kf h H locs ls hP hl hS)
theorem a_icmp_ge (fx : zFx p s m args c B D aC aS nL cc own) {x y : Int32} {off : Int} (tgt : Nat) (hd : decode cc pc = .ok (.if_icmp .ge off, 3)) (ht : (pc : Int) + off = (tgt : Int)) (kt : y ≤ x → zAt p l e R s m args below meth c cells slots Q B D aC nL tgt lv st M) (kf : ¬ (y ≤ x) → zAt p l e R s m args below meth c cells slots Q B D aC nL (pc + 3) lv st M) : zAt p l e R s m args below meth c cells slots Q B D aC nL pc lv (.int y :: .int x :: st) M := fun H locs ls hP hl hS => lv_icmp_ge fx.1 fx.2.1 hd ht (fun h => kt h H locs ls hP hl hS) (fun h => kf h H locs ls hP hl hS)
theorem a_if_gt (fx : zFx p s m args c B D aC aS nL cc own) {x : Int32} {off : Int} (tgt : Nat) (hd : decode cc pc = .ok (.ifCond .gt off, 3)) (ht : (pc : Int) + off = (tgt : Int)) (kt : 0 < x → zAt p l e R s m args below meth c cells slots Q B D aC nL tgt lv st M) (kf : ¬ (0 < x) → zAt p l e R s m args below meth c cells slots Q B D aC nL (pc + 3) lv st M) : zAt p l e R s m args below meth c cells slots Q B D aC nL pc lv (.int x :: st) M := fun H locs ls hP hl hS => lv_if_gt fx.1 fx.2.1 hd ht (fun h => kt h H locs ls hP hl hS) (fun h => kf h H locs ls hP hl hS)
theorem a_icmp_gt (fx : zFx p s m args c B D aC aS nL cc own) {x y : Int32} {off : Int} (tgt : Nat) (hd : decode cc pc = .ok (.if_icmp .gt off, 3)) (ht : (pc : Int) + off = (tgt : Int)) (kt : y < x → zAt p l e R s m args below meth c cells slots Q B D aC nL tgt lv st M) (kf : ¬ (y < x) → zAt p l e R s m args below meth c cells slots Q B D aC nL (pc + 3) lv st M) : zAt p l e R s m args below meth c cells slots Q B D aC nL pc lv (.int y :: .int x :: st) M := fun H locs ls hP hl hS => lv_icmp_gt fx.1 fx.2.1 hd ht (fun h => kt h H locs ls hP hl hS) (fun h => kf h H locs ls hP hl hS)
theorem a_if_le (fx : zFx p s m args c B D aC aS nL cc own) {x : Int32} {off : Int} (tgt : Nat) (hd : decode cc pc = .ok (.ifCond .le off, 3)) (ht : (pc : Int) + off = (tgt : Int)) (kt : x ≤ 0 → zAt p l e R s m args below meth c cells slots Q B D aC nL tgt lv st M) (kf : ¬ (x ≤ 0) → zAt p l e R s m args below meth c cells slots Q B D aC nL (pc + 3) lv st M) : zAt p l e R s m args below meth c cells slots Q B D aC nL pc lv (.int x :: st) M := fun H locs ls hP hl hS => lv_if_le fx.1 fx.2.1 hd ht (fun h => kt h H locs ls hP hl hS) (fun h => kf h H locs ls hP hl hS)
theorem a_icmp_le (fx : zFx p s m args c B D aC aS nL cc own) {x y : Int32} {off : Int} (tgt : Nat) (hd : decode cc pc = .ok (.if_icmp .le off, 3)) (ht : (pc : Int) + off = (tgt : Int)) (kt : x ≤ y → zAt p l e R s m args below meth c cells slots Q B D aC nL tgt lv st M) (kf : ¬ (x ≤ y) → zAt p l e R s m args below meth c cells slots Q B D aC nL (pc + 3) lv st M) : zAt p l e R s m args below meth c cells slots Q B D aC nL pc lv (.int y :: .int x :: st) M := fun H locs ls hP hl hS => lv_icmp_le fx.1 fx.2.1 hd ht (fun h => kt h H locs ls hP hl hS) (fun h => kf h H locs ls hP hl hS)
theorem a_ldc (fx : zFx p s m args c B D aC aS nL cc own) {index : Nat} {v : Int32} (hw : Cond.constant own index v ∈ tb) (hd : decode cc pc = .ok (.ldc index, 2)) (k : zAt p l e R s m args below meth c cells slots Q B D aC nL (pc + 2) lv (.int v :: st) M) : zAt p l e R s m args below meth c cells slots Q B D aC nL pc lv st M := fun H locs ls hP hl hS => lv_ldc fx.1 fx.2.1 fx.2.2.2.1 (fx.2.2.2.2.1 _ hw) hd (k H locs ls hP hl hS)
theorem a_ldcw (fx : zFx p s m args c B D aC aS nL cc own) {index : Nat} {v : Int32} (hw : Cond.constant own index v ∈ tb) (hd : decode cc pc = .ok (.ldc_w index, 3)) (k : zAt p l e R s m args below meth c cells slots Q B D aC nL (pc + 3) lv (.int v :: st) M) : zAt p l e R s m args below meth c cells slots Q B D aC nL pc lv st M := fun H locs ls hP hl hS => lv_ldcw fx.1 fx.2.1 fx.2.2.2.1 (fx.2.2.2.2.1 _ hw) hd (k H locs ls hP hl hS)
theorem a_ldc2 (fx : zFx p s m args c B D aC aS nL cc own) {index : Nat} {v : Int64} (hw : Cond.constantLong own index v ∈ tb) (hd : decode cc pc = .ok (.ldc2_w index, 3)) (k : zAt p l e R s m args below meth c cells slots Q B D aC nL (pc + 3) lv (.long v :: st) M) : zAt p l e R s m args below meth c cells slots Q B D aC nL pc lv st M := fun H locs ls hP hl hS => lv_ldc2 fx.1 fx.2.1 fx.2.2.2.1 (fx.2.2.2.2.1 _ hw) hd (k H locs ls hP hl hS)
theorem a_getI (fx : zFx p s m args c B D aC aS nL cc own) {C : String} {T : u_T} {N t index k j : Nat} (hk : k < N0) (ht : tg k = t) (ht2 : t < 20) (hc : kcl[t]? = some (C, T, N)) (hin : ∀ w ∈ u_ws C T N, w ∈ tb) (hj : j < N) (hj2 : j < nf t) (hf : ft t j = 0) (hT : (T j).1 = C) (hw : Cond.fieldLink own index C (T j).2.1 (T j).2.2.1 ∈ tb) (hd : decode cc pc = .ok (.getfield index, 3)) (kk : zAt p l e R s m args below meth c cells slots Q B D aC nL (pc + 3) lv (.int (M.1 k j) :: st) M) : zAt p l e R s m args below meth c cells slots Q B D aC nL pc lv (.ref (B + k) :: st) M := fun H locs ls hP hl hS => va_get (ref := C) (v := .int (M.1 k j)) fx.1 fx.2.1 (fun w hw => fx.2.2.2.2.1 w hw) hin fx.2.2.2.1 fx.2.2.2.2.2.1.1 hP k ((zcls_at hk).trans (by rw [zcel_o ht ht2])) hc j hj (fx.2.2.2.2.1 _ hw) (fun x h => by rw [hT] at h; exact h) ((zfvs_at hj2).trans (by unfold zfvl; rw [hf]; rfl)) hd (kk H locs ls hP hl hS)
theorem a_getIN (fx : zFx p s m args c B D aC aS nL cc own) {C : String} {T : u_T} {N t index k j : Nat} (hk : k < N0) (ht : tg k = t) (ht2 : t < 20) (hc : kcl[t]? = some (C, T, N)) (hin : ∀ w ∈ u_ws C T N, w ∈ tb) (hj : j < N) (hj2 : j < nf t) (hf : ft t j = 0) (hT : (T j).1 = C) (q9 : Nat) {host : String} (hw : nestF[q9]? = some (own, index, C, (T j).2.1, (T j).2.2.1, host)) (hd : decode cc pc = .ok (.getfield index, 3)) (kk : zAt p l e R s m args below meth c cells slots Q B D aC nL (pc + 3) lv (.int (M.1 k j) :: st) M) : zAt p l e R s m args below meth c cells slots Q B D aC nL pc lv (.ref (B + k) :: st) M := fun H locs ls hP hl hS => va_getN (ref := C) (v := .int (M.1 k j)) fx.1 fx.2.1 (fun w hw => fx.2.2.2.2.1 w hw) hin fx.2.2.2.1 fx.2.2.2.2.2.1.1 hP k ((zcls_at hk).trans (by rw [zcel_o ht ht2])) hc j hj (va_Nw.use (w := .fieldLinkNest own index C (T j).2.1 (T j).2.2.1 host) rfl (fx.2.2.2.2.2.1.2.2.2.2.2.2.2.2.1 _ (List.mem_of_getElem? hw))) (fun x h => by rw [hT] at h; exact h) ((zfvs_at hj2).trans (by unfold zfvl; rw [hf]; rfl)) hd (kk H locs ls hP hl hS)
theorem a_getL (fx : zFx p s m args c B D aC aS nL cc own) {C : String} {T : u_T} {N t index k j : Nat} (hk : k < N0) (ht : tg k = t) (ht2 : t < 20) (hc : kcl[t]? = some (C, T, N)) (hin : ∀ w ∈ u_ws C T N, w ∈ tb) (hj : j < N) (hj2 : j < nf t) (hf : ft t j = 1) (hT : (T j).1 = C) (hw : Cond.fieldLink own index C (T j).2.1 (T j).2.2.1 ∈ tb) (hd : decode cc pc = .ok (.getfield index, 3)) (kk : zAt p l e R s m args below meth c cells slots Q B D aC nL (pc + 3) lv (.long (M.2.1 k j) :: st) M) : zAt p l e R s m args below meth c cells slots Q B D aC nL pc lv (.ref (B + k) :: st) M := fun H locs ls hP hl hS => va_get (ref := C) (v := .long (M.2.1 k j)) fx.1 fx.2.1 (fun w hw => fx.2.2.2.2.1 w hw) hin fx.2.2.2.1 fx.2.2.2.2.2.1.1 hP k ((zcls_at hk).trans (by rw [zcel_o ht ht2])) hc j hj (fx.2.2.2.2.1 _ hw) (fun x h => by rw [hT] at h; exact h) ((zfvs_at hj2).trans (by unfold zfvl; rw [hf]; rfl)) hd (kk H locs ls hP hl hS)
theorem a_getLN (fx : zFx p s m args c B D aC aS nL cc own) {C : String} {T : u_T} {N t index k j : Nat} (hk : k < N0) (ht : tg k = t) (ht2 : t < 20) (hc : kcl[t]? = some (C, T, N)) (hin : ∀ w ∈ u_ws C T N, w ∈ tb) (hj : j < N) (hj2 : j < nf t) (hf : ft t j = 1) (hT : (T j).1 = C) (q9 : Nat) {host : String} (hw : nestF[q9]? = some (own, index, C, (T j).2.1, (T j).2.2.1, host)) (hd : decode cc pc = .ok (.getfield index, 3)) (kk : zAt p l e R s m args below meth c cells slots Q B D aC nL (pc + 3) lv (.long (M.2.1 k j) :: st) M) : zAt p l e R s m args below meth c cells slots Q B D aC nL pc lv (.ref (B + k) :: st) M := fun H locs ls hP hl hS => va_getN (ref := C) (v := .long (M.2.1 k j)) fx.1 fx.2.1 (fun w hw => fx.2.2.2.2.1 w hw) hin fx.2.2.2.1 fx.2.2.2.2.2.1.1 hP k ((zcls_at hk).trans (by rw [zcel_o ht ht2])) hc j hj (va_Nw.use (w := .fieldLinkNest own index C (T j).2.1 (T j).2.2.1 host) rfl (fx.2.2.2.2.2.1.2.2.2.2.2.2.2.2.1 _ (List.mem_of_getElem? hw))) (fun x h => by rw [hT] at h; exact h) ((zfvs_at hj2).trans (by unfold zfvl; rw [hf]; rfl)) hd (kk H locs ls hP hl hS)
theorem a_getS (fx : zFx p s m args c B D aC aS nL cc own) {C : String} {T : u_T} {N t index k j : Nat} (hk : k < N0) (ht : tg k = t) (ht2 : t < 20) (hc : kcl[t]? = some (C, T, N)) (hin : ∀ w ∈ u_ws C T N, w ∈ tb) (hj : j < N) (hj2 : j < nf t) (hf : ft t j = 2) {n9 : Nat} (hfo : fo t j = n9) (hT : (T j).1 = C) (hw : Cond.fieldLink own index C (T j).2.1 (T j).2.2.1 ∈ tb) (hd : decode cc pc = .ok (.getfield index, 3)) (kk : zAt p l e R s m args below meth c cells slots Q B D aC nL (pc + 3) lv (.ref (B + (k + n9)) :: st) M) : zAt p l e R s m args below meth c cells slots Q B D aC nL pc lv (.ref (B + k) :: st) M := fun H locs ls hP hl hS => va_get (ref := C) (v := .ref (B + (k + n9))) fx.1 fx.2.1 (fun w hw => fx.2.2.2.2.1 w hw) hin fx.2.2.2.1 fx.2.2.2.2.2.1.1 hP k ((zcls_at hk).trans (by rw [zcel_o ht ht2])) hc j hj (fx.2.2.2.2.1 _ hw) (fun x h => by rw [hT] at h; exact h) ((zfvs_at hj2).trans (by unfold zfvl; rw [hf]; subst hfo; rfl)) hd (kk H locs ls hP hl hS)
theorem a_getSN (fx : zFx p s m args c B D aC aS nL cc own) {C : String} {T : u_T} {N t index k j : Nat} (hk : k < N0) (ht : tg k = t) (ht2 : t < 20) (hc : kcl[t]? = some (C, T, N)) (hin : ∀ w ∈ u_ws C T N, w ∈ tb) (hj : j < N) (hj2 : j < nf t) (hf : ft t j = 2) {n9 : Nat} (hfo : fo t j = n9) (hT : (T j).1 = C) (q9 : Nat) {host : String} (hw : nestF[q9]? = some (own, index, C, (T j).2.1, (T j).2.2.1, host)) (hd : decode cc pc = .ok (.getfield index, 3)) (kk : zAt p l e R s m args below meth c cells slots Q B D aC nL (pc + 3) lv (.ref (B + (k + n9)) :: st) M) : zAt p l e R s m args below meth c cells slots Q B D aC nL pc lv (.ref (B + k) :: st) M := fun H locs ls hP hl hS => va_getN (ref := C) (v := .ref (B + (k + n9))) fx.1 fx.2.1 (fun w hw => fx.2.2.2.2.1 w hw) hin fx.2.2.2.1 fx.2.2.2.2.2.1.1 hP k ((zcls_at hk).trans (by rw [zcel_o ht ht2])) hc j hj (va_Nw.use (w := .fieldLinkNest own index C (T j).2.1 (T j).2.2.1 host) rfl (fx.2.2.2.2.2.1.2.2.2.2.2.2.2.2.1 _ (List.mem_of_getElem? hw))) (fun x h => by rw [hT] at h; exact h) ((zfvs_at hj2).trans (by unfold zfvl; rw [hf]; subst hfo; rfl)) hd (kk H locs ls hP hl hS)
theorem a_getR (fx : zFx p s m args c B D aC aS nL cc own) {C : String} {T : u_T} {N t index k j : Nat} (hk : k < N0) (ht : tg k = t) (ht2 : t < 20) (hc : kcl[t]? = some (C, T, N)) (hin : ∀ w ∈ u_ws C T N, w ∈ tb) (hj : j < N) (hj2 : j < nf t) (hf : ft t j = 3) (hT : (T j).1 = C) (hw : Cond.fieldLink own index C (T j).2.1 (T j).2.2.1 ∈ tb) (hd : decode cc pc = .ok (.getfield index, 3)) (kk : zAt p l e R s m args below meth c cells slots Q B D aC nL (pc + 3) lv (.ref (B + M.2.2 k j) :: st) M) : zAt p l e R s m args below meth c cells slots Q B D aC nL pc lv (.ref (B + k) :: st) M := fun H locs ls hP hl hS => va_get (ref := C) (v := .ref (B + M.2.2 k j)) fx.1 fx.2.1 (fun w hw => fx.2.2.2.2.1 w hw) hin fx.2.2.2.1 fx.2.2.2.2.2.1.1 hP k ((zcls_at hk).trans (by rw [zcel_o ht ht2])) hc j hj (fx.2.2.2.2.1 _ hw) (fun x h => by rw [hT] at h; exact h) ((zfvs_at hj2).trans (by unfold zfvl; rw [hf]; rfl)) hd (kk H locs ls hP hl hS)
theorem a_getRN (fx : zFx p s m args c B D aC aS nL cc own) {C : String} {T : u_T} {N t index k j : Nat} (hk : k < N0) (ht : tg k = t) (ht2 : t < 20) (hc : kcl[t]? = some (C, T, N)) (hin : ∀ w ∈ u_ws C T N, w ∈ tb) (hj : j < N) (hj2 : j < nf t) (hf : ft t j = 3) (hT : (T j).1 = C) (q9 : Nat) {host : String} (hw : nestF[q9]? = some (own, index, C, (T j).2.1, (T j).2.2.1, host)) (hd : decode cc pc = .ok (.getfield index, 3)) (kk : zAt p l e R s m args below meth c cells slots Q B D aC nL (pc + 3) lv (.ref (B + M.2.2 k j) :: st) M) : zAt p l e R s m args below meth c cells slots Q B D aC nL pc lv (.ref (B + k) :: st) M := fun H locs ls hP hl hS => va_getN (ref := C) (v := .ref (B + M.2.2 k j)) fx.1 fx.2.1 (fun w hw => fx.2.2.2.2.1 w hw) hin fx.2.2.2.1 fx.2.2.2.2.2.1.1 hP k ((zcls_at hk).trans (by rw [zcel_o ht ht2])) hc j hj (va_Nw.use (w := .fieldLinkNest own index C (T j).2.1 (T j).2.2.1 host) rfl (fx.2.2.2.2.2.1.2.2.2.2.2.2.2.2.1 _ (List.mem_of_getElem? hw))) (fun x h => by rw [hT] at h; exact h) ((zfvs_at hj2).trans (by unfold zfvl; rw [hf]; rfl)) hd (kk H locs ls hP hl hS)
theorem a_putI (fx : zFx p s m args c B D aC aS nL cc own) {C : String} {T : u_T} {N t index k j : Nat} {v : Int32} {ty0 : Nat → FieldType} (hk : k < N0) (ht : tg k = t) (ht2 : t < 20) (hc : kcl[t]? = some (C, T, N)) (hin : ∀ w ∈ u_ws C T N, w ∈ tb) (hty : ∀ k, k < N → parseFieldDescriptor (T k).2.2.1 = some (ty0 k)) (hnm : ∀ a, a < N → ∀ b, b < N → a ≠ b → (T a).2.1 ≠ (T b).2.1) (hj : j < N) (hj2 : j < nf t) (hf : ft t j = 0) (hT : (T j).1 = C) (hfin : (T j).2.2.2 = false) (hn : narrow (ty0 j) (.int v) = .int v) (hfit : fits (ty0 j) (.int v) = true) (hw : Cond.fieldLink own index C (T j).2.1 (T j).2.2.1 ∈ tb) (hd : decode cc pc = .ok (.putfield index, 3)) (kk : zAt p l e R s m args below meth c cells slots Q B D aC nL (pc + 3) lv st (zI M k j v)) : zAt p l e R s m args below meth c cells slots Q B D aC nL pc lv (.int v :: .ref (B + k) :: st) M := by
  intro H locs ls hP hl hS
  refine va_put (ref := C) (v := .int v) (ty := ty0 j) fx.1 fx.2.1 (fun w hw => fx.2.2.2.2.1 w hw) hin ty0 hty hnm fx.2.2.2.1 fx.2.2.2.2.2.1.1 hP zcls_D hS k ((zcls_at hk).trans (by rw [zcel_o ht ht2])) hc j hj (fx.2.2.2.2.1 _ hw) (fun x h => by rw [hT] at h; exact h) hfin (hty j hj) hn hfit (by rw [zfvs_len]; exact hj2) hd (fun H1 locs1 hP1 _ hS1 => ?_)
  rw [zfvs_sI hj2 hf, zcls_set (M := M) (M' := zI M k j v) hk _ (zcel_o ht ht2) (fun a ha => zcel_same (zI_o ha) rfl rfl)] at hP1
  exact kk H1 locs1 ls hP1 hl hS1
theorem a_putIN (fx : zFx p s m args c B D aC aS nL cc own) {C : String} {T : u_T} {N t index k j : Nat} {v : Int32} {ty0 : Nat → FieldType} (hk : k < N0) (ht : tg k = t) (ht2 : t < 20) (hc : kcl[t]? = some (C, T, N)) (hin : ∀ w ∈ u_ws C T N, w ∈ tb) (hty : ∀ k, k < N → parseFieldDescriptor (T k).2.2.1 = some (ty0 k)) (hnm : ∀ a, a < N → ∀ b, b < N → a ≠ b → (T a).2.1 ≠ (T b).2.1) (hj : j < N) (hj2 : j < nf t) (hf : ft t j = 0) (hT : (T j).1 = C) (hfin : (T j).2.2.2 = false) (hn : narrow (ty0 j) (.int v) = .int v) (hfit : fits (ty0 j) (.int v) = true) (q9 : Nat) {host : String} (hw : nestF[q9]? = some (own, index, C, (T j).2.1, (T j).2.2.1, host)) (hd : decode cc pc = .ok (.putfield index, 3)) (kk : zAt p l e R s m args below meth c cells slots Q B D aC nL (pc + 3) lv st (zI M k j v)) : zAt p l e R s m args below meth c cells slots Q B D aC nL pc lv (.int v :: .ref (B + k) :: st) M := by
  intro H locs ls hP hl hS
  refine va_putN (ref := C) (v := .int v) (ty := ty0 j) fx.1 fx.2.1 (fun w hw => fx.2.2.2.2.1 w hw) hin ty0 hty hnm fx.2.2.2.1 fx.2.2.2.2.2.1.1 hP zcls_D hS k ((zcls_at hk).trans (by rw [zcel_o ht ht2])) hc j hj (va_Nw.use (w := .fieldLinkNest own index C (T j).2.1 (T j).2.2.1 host) rfl (fx.2.2.2.2.2.1.2.2.2.2.2.2.2.2.1 _ (List.mem_of_getElem? hw))) (fun x h => by rw [hT] at h; exact h) hfin (hty j hj) hn hfit (by rw [zfvs_len]; exact hj2) hd (fun H1 locs1 hP1 _ hS1 => ?_)
  rw [zfvs_sI hj2 hf, zcls_set (M := M) (M' := zI M k j v) hk _ (zcel_o ht ht2) (fun a ha => zcel_same (zI_o ha) rfl rfl)] at hP1
  exact kk H1 locs1 ls hP1 hl hS1
theorem a_putL (fx : zFx p s m args c B D aC aS nL cc own) {C : String} {T : u_T} {N t index k j : Nat} {v : Int64} {ty0 : Nat → FieldType} (hk : k < N0) (ht : tg k = t) (ht2 : t < 20) (hc : kcl[t]? = some (C, T, N)) (hin : ∀ w ∈ u_ws C T N, w ∈ tb) (hty : ∀ k, k < N → parseFieldDescriptor (T k).2.2.1 = some (ty0 k)) (hnm : ∀ a, a < N → ∀ b, b < N → a ≠ b → (T a).2.1 ≠ (T b).2.1) (hj : j < N) (hj2 : j < nf t) (hf : ft t j = 1) (hT : (T j).1 = C) (hfin : (T j).2.2.2 = false) (hn : narrow (ty0 j) (.long v) = .long v) (hfit : fits (ty0 j) (.long v) = true) (hw : Cond.fieldLink own index C (T j).2.1 (T j).2.2.1 ∈ tb) (hd : decode cc pc = .ok (.putfield index, 3)) (kk : zAt p l e R s m args below meth c cells slots Q B D aC nL (pc + 3) lv st (zL M k j v)) : zAt p l e R s m args below meth c cells slots Q B D aC nL pc lv (.long v :: .ref (B + k) :: st) M := by
  intro H locs ls hP hl hS
  refine va_put (ref := C) (v := .long v) (ty := ty0 j) fx.1 fx.2.1 (fun w hw => fx.2.2.2.2.1 w hw) hin ty0 hty hnm fx.2.2.2.1 fx.2.2.2.2.2.1.1 hP zcls_D hS k ((zcls_at hk).trans (by rw [zcel_o ht ht2])) hc j hj (fx.2.2.2.2.1 _ hw) (fun x h => by rw [hT] at h; exact h) hfin (hty j hj) hn hfit (by rw [zfvs_len]; exact hj2) hd (fun H1 locs1 hP1 _ hS1 => ?_)
  rw [zfvs_sL hj2 hf, zcls_set (M := M) (M' := zL M k j v) hk _ (zcel_o ht ht2) (fun a ha => zcel_same rfl (zL_o ha) rfl)] at hP1
  exact kk H1 locs1 ls hP1 hl hS1
theorem a_putLN (fx : zFx p s m args c B D aC aS nL cc own) {C : String} {T : u_T} {N t index k j : Nat} {v : Int64} {ty0 : Nat → FieldType} (hk : k < N0) (ht : tg k = t) (ht2 : t < 20) (hc : kcl[t]? = some (C, T, N)) (hin : ∀ w ∈ u_ws C T N, w ∈ tb) (hty : ∀ k, k < N → parseFieldDescriptor (T k).2.2.1 = some (ty0 k)) (hnm : ∀ a, a < N → ∀ b, b < N → a ≠ b → (T a).2.1 ≠ (T b).2.1) (hj : j < N) (hj2 : j < nf t) (hf : ft t j = 1) (hT : (T j).1 = C) (hfin : (T j).2.2.2 = false) (hn : narrow (ty0 j) (.long v) = .long v) (hfit : fits (ty0 j) (.long v) = true) (q9 : Nat) {host : String} (hw : nestF[q9]? = some (own, index, C, (T j).2.1, (T j).2.2.1, host)) (hd : decode cc pc = .ok (.putfield index, 3)) (kk : zAt p l e R s m args below meth c cells slots Q B D aC nL (pc + 3) lv st (zL M k j v)) : zAt p l e R s m args below meth c cells slots Q B D aC nL pc lv (.long v :: .ref (B + k) :: st) M := by
  intro H locs ls hP hl hS
  refine va_putN (ref := C) (v := .long v) (ty := ty0 j) fx.1 fx.2.1 (fun w hw => fx.2.2.2.2.1 w hw) hin ty0 hty hnm fx.2.2.2.1 fx.2.2.2.2.2.1.1 hP zcls_D hS k ((zcls_at hk).trans (by rw [zcel_o ht ht2])) hc j hj (va_Nw.use (w := .fieldLinkNest own index C (T j).2.1 (T j).2.2.1 host) rfl (fx.2.2.2.2.2.1.2.2.2.2.2.2.2.2.1 _ (List.mem_of_getElem? hw))) (fun x h => by rw [hT] at h; exact h) hfin (hty j hj) hn hfit (by rw [zfvs_len]; exact hj2) hd (fun H1 locs1 hP1 _ hS1 => ?_)
  rw [zfvs_sL hj2 hf, zcls_set (M := M) (M' := zL M k j v) hk _ (zcel_o ht ht2) (fun a ha => zcel_same rfl (zL_o ha) rfl)] at hP1
  exact kk H1 locs1 ls hP1 hl hS1
theorem a_putR (fx : zFx p s m args c B D aC aS nL cc own) {C : String} {T : u_T} {N t index k j : Nat} {v : Nat} {ty0 : Nat → FieldType} (hk : k < N0) (ht : tg k = t) (ht2 : t < 20) (hc : kcl[t]? = some (C, T, N)) (hin : ∀ w ∈ u_ws C T N, w ∈ tb) (hty : ∀ k, k < N → parseFieldDescriptor (T k).2.2.1 = some (ty0 k)) (hnm : ∀ a, a < N → ∀ b, b < N → a ≠ b → (T a).2.1 ≠ (T b).2.1) (hj : j < N) (hj2 : j < nf t) (hf : ft t j = 3) (hT : (T j).1 = C) (hfin : (T j).2.2.2 = false) (hn : narrow (ty0 j) (.ref (B + v)) = .ref (B + v)) (hfit : fits (ty0 j) (.ref (B + v)) = true) (hw : Cond.fieldLink own index C (T j).2.1 (T j).2.2.1 ∈ tb) (hd : decode cc pc = .ok (.putfield index, 3)) (kk : zAt p l e R s m args below meth c cells slots Q B D aC nL (pc + 3) lv st (zR M k j v)) : zAt p l e R s m args below meth c cells slots Q B D aC nL pc lv (.ref (B + v) :: .ref (B + k) :: st) M := by
  intro H locs ls hP hl hS
  refine va_put (ref := C) (v := .ref (B + v)) (ty := ty0 j) fx.1 fx.2.1 (fun w hw => fx.2.2.2.2.1 w hw) hin ty0 hty hnm fx.2.2.2.1 fx.2.2.2.2.2.1.1 hP zcls_D hS k ((zcls_at hk).trans (by rw [zcel_o ht ht2])) hc j hj (fx.2.2.2.2.1 _ hw) (fun x h => by rw [hT] at h; exact h) hfin (hty j hj) hn hfit (by rw [zfvs_len]; exact hj2) hd (fun H1 locs1 hP1 _ hS1 => ?_)
  rw [zfvs_sR hj2 hf, zcls_set (M := M) (M' := zR M k j v) hk _ (zcel_o ht ht2) (fun a ha => zcel_same rfl rfl (zR_o ha))] at hP1
  exact kk H1 locs1 ls hP1 hl hS1
theorem a_putRN (fx : zFx p s m args c B D aC aS nL cc own) {C : String} {T : u_T} {N t index k j : Nat} {v : Nat} {ty0 : Nat → FieldType} (hk : k < N0) (ht : tg k = t) (ht2 : t < 20) (hc : kcl[t]? = some (C, T, N)) (hin : ∀ w ∈ u_ws C T N, w ∈ tb) (hty : ∀ k, k < N → parseFieldDescriptor (T k).2.2.1 = some (ty0 k)) (hnm : ∀ a, a < N → ∀ b, b < N → a ≠ b → (T a).2.1 ≠ (T b).2.1) (hj : j < N) (hj2 : j < nf t) (hf : ft t j = 3) (hT : (T j).1 = C) (hfin : (T j).2.2.2 = false) (hn : narrow (ty0 j) (.ref (B + v)) = .ref (B + v)) (hfit : fits (ty0 j) (.ref (B + v)) = true) (q9 : Nat) {host : String} (hw : nestF[q9]? = some (own, index, C, (T j).2.1, (T j).2.2.1, host)) (hd : decode cc pc = .ok (.putfield index, 3)) (kk : zAt p l e R s m args below meth c cells slots Q B D aC nL (pc + 3) lv st (zR M k j v)) : zAt p l e R s m args below meth c cells slots Q B D aC nL pc lv (.ref (B + v) :: .ref (B + k) :: st) M := by
  intro H locs ls hP hl hS
  refine va_putN (ref := C) (v := .ref (B + v)) (ty := ty0 j) fx.1 fx.2.1 (fun w hw => fx.2.2.2.2.1 w hw) hin ty0 hty hnm fx.2.2.2.1 fx.2.2.2.2.2.1.1 hP zcls_D hS k ((zcls_at hk).trans (by rw [zcel_o ht ht2])) hc j hj (va_Nw.use (w := .fieldLinkNest own index C (T j).2.1 (T j).2.2.1 host) rfl (fx.2.2.2.2.2.1.2.2.2.2.2.2.2.2.1 _ (List.mem_of_getElem? hw))) (fun x h => by rw [hT] at h; exact h) hfin (hty j hj) hn hfit (by rw [zfvs_len]; exact hj2) hd (fun H1 locs1 hP1 _ hS1 => ?_)
  rw [zfvs_sR hj2 hf, zcls_set (M := M) (M' := zR M k j v) hk _ (zcel_o ht ht2) (fun a ha => zcel_same rfl rfl (zR_o ha))] at hP1
  exact kk H1 locs1 ls hP1 hl hS1
theorem a_iald (fx : zFx p s m args c B D aC aS nL cc own) {k : Nat} {i : Int32} (hk : k < N0) (ht : tg k = 21) (hin : vp_in i (ln k)) (hd : decode cc pc = .ok (.iaload, 1)) (kk : zAt p l e R s m args below meth c cells slots Q B D aC nL (pc + 1) lv (.int (M.1 k i.toNatClampNeg) :: st) M) : zAt p l e R s m args below meth c cells slots Q B D aC nL pc lv (.int i :: .ref (B + k) :: st) M := fun H locs ls hP hl hS => va_iald fx.1 fx.2.1 fx.2.2.2.2.2.1.1 hP k 1 ((zcls_at hk).trans (by rw [zcel_i ht (by decide) (by decide)])) rfl hin hd (kk H locs ls hP hl hS)
theorem a_bald (fx : zFx p s m args c B D aC aS nL cc own) {k : Nat} {i : Int32} (hk : k < N0) (ht : tg k = 20) (hin : vp_in i (ln k)) (hd : decode cc pc = .ok (.baload, 1)) (kk : zAt p l e R s m args below meth c cells slots Q B D aC nL (pc + 1) lv (.int (M.1 k i.toNatClampNeg) :: st) M) : zAt p l e R s m args below meth c cells slots Q B D aC nL pc lv (.int i :: .ref (B + k) :: st) M := fun H locs ls hP hl hS => va_bald fx.1 fx.2.1 fx.2.2.2.2.2.1.1 hP k 0 ((zcls_at hk).trans (by rw [zcel_i ht (by decide) (by decide)])) rfl hin hd (kk H locs ls hP hl hS)
theorem a_zald (fx : zFx p s m args c B D aC aS nL cc own) {k : Nat} {i : Int32} (hk : k < N0) (ht : tg k = 22) (hin : vp_in i (ln k)) (hd : decode cc pc = .ok (.baload, 1)) (kk : zAt p l e R s m args below meth c cells slots Q B D aC nL (pc + 1) lv (.int (M.1 k i.toNatClampNeg) :: st) M) : zAt p l e R s m args below meth c cells slots Q B D aC nL pc lv (.int i :: .ref (B + k) :: st) M := fun H locs ls hP hl hS => va_zald fx.1 fx.2.1 fx.2.2.2.2.2.1.1 hP k 2 ((zcls_at hk).trans (by rw [zcel_i ht (by decide) (by decide)])) rfl hin hd (kk H locs ls hP hl hS)
theorem a_lald (fx : zFx p s m args c B D aC aS nL cc own) {k : Nat} {i : Int32} (hk : k < N0) (ht : tg k = 23) (hin : vp_in i (ln k)) (hd : decode cc pc = .ok (.laload, 1)) (kk : zAt p l e R s m args below meth c cells slots Q B D aC nL (pc + 1) lv (.long (M.2.1 k i.toNatClampNeg) :: st) M) : zAt p l e R s m args below meth c cells slots Q B D aC nL pc lv (.int i :: .ref (B + k) :: st) M := fun H locs ls hP hl hS => va_lald fx.1 fx.2.1 fx.2.2.2.2.2.1.1 hP k 3 ((zcls_at hk).trans (by rw [zcel_l ht])) rfl hin hd (kk H locs ls hP hl hS)
theorem a_aald (fx : zFx p s m args c B D aC aS nL cc own) {k : Nat} {i : Int32} (hk : k < N0) (ht : tg k = 24) (hin : vp_in i (ln k)) (hd : decode cc pc = .ok (.aaload, 1)) (kk : zAt p l e R s m args below meth c cells slots Q B D aC nL (pc + 1) lv (.ref (B + M.2.2 k i.toNatClampNeg) :: st) M) : zAt p l e R s m args below meth c cells slots Q B D aC nL pc lv (.int i :: .ref (B + k) :: st) M := by
  intro H locs ls hP hl hS
  refine va_aldq (f := fun j => some (B + M.2.2 k j)) fx.1 fx.2.1 fx.2.2.2.2.2.1.1 hP k 4 ((zcls_at hk).trans (by rw [zcel_r ht])) rfl hin hd ?_
  exact kk H locs ls hP hl hS
theorem a_iast (fx : zFx p s m args c B D aC aS nL cc own) {k : Nat} {i x : Int32} (hk : k < N0) (ht : tg k = 21) (hin : vp_in i (ln k)) (hd : decode cc pc = .ok (.iastore, 1)) (kk : zAt p l e R s m args below meth c cells slots Q B D aC nL (pc + 1) lv st (zI M k i.toNatClampNeg x)) : zAt p l e R s m args below meth c cells slots Q B D aC nL pc lv (.int x :: .int i :: .ref (B + k) :: st) M := by
  intro H locs ls hP hl hS
  refine va_iast fx.1 fx.2.1 fx.2.2.2.2.2.1.1 hP zcls_D hS k 1 ((zcls_at hk).trans (by rw [zcel_i ht (by decide) (by decide)])) rfl hin hd (fun H1 locs1 hP1 _ hS1 => ?_)
  rw [zcls_set (M := M) (M' := zI M k i.toNatClampNeg x) hk _ (by rw [zcel_i ht (by decide) (by decide), zI_s]) (fun a ha => zcel_same (zI_o ha) rfl rfl)] at hP1
  exact kk H1 locs1 ls hP1 hl hS1
theorem a_bast (fx : zFx p s m args c B D aC aS nL cc own) {k : Nat} {i x : Int32} (hk : k < N0) (ht : tg k = 20) (hin : vp_in i (ln k)) (hd : decode cc pc = .ok (.bastore, 1)) (kk : zAt p l e R s m args below meth c cells slots Q B D aC nL (pc + 1) lv st (zI M k i.toNatClampNeg (vp_nar .byte x))) : zAt p l e R s m args below meth c cells slots Q B D aC nL pc lv (.int x :: .int i :: .ref (B + k) :: st) M := by
  intro H locs ls hP hl hS
  refine va_bast fx.1 fx.2.1 fx.2.2.2.2.2.1.1 hP zcls_D hS k 0 ((zcls_at hk).trans (by rw [zcel_i ht (by decide) (by decide)])) rfl hin hd (fun H1 locs1 hP1 _ hS1 => ?_)
  rw [zcls_set (M := M) (M' := zI M k i.toNatClampNeg (vp_nar .byte x)) hk _ (by rw [zcel_i ht (by decide) (by decide), zI_s]) (fun a ha => zcel_same (zI_o ha) rfl rfl)] at hP1
  exact kk H1 locs1 ls hP1 hl hS1
theorem a_zast (fx : zFx p s m args c B D aC aS nL cc own) {k : Nat} {i x : Int32} (hk : k < N0) (ht : tg k = 22) (hin : vp_in i (ln k)) (hd : decode cc pc = .ok (.bastore, 1)) (kk : zAt p l e R s m args below meth c cells slots Q B D aC nL (pc + 1) lv st (zI M k i.toNatClampNeg (vp_nar .boolean x))) : zAt p l e R s m args below meth c cells slots Q B D aC nL pc lv (.int x :: .int i :: .ref (B + k) :: st) M := by
  intro H locs ls hP hl hS
  refine va_zast fx.1 fx.2.1 fx.2.2.2.2.2.1.1 hP zcls_D hS k 2 ((zcls_at hk).trans (by rw [zcel_i ht (by decide) (by decide)])) rfl hin hd (fun H1 locs1 hP1 _ hS1 => ?_)
  rw [zcls_set (M := M) (M' := zI M k i.toNatClampNeg (vp_nar .boolean x)) hk _ (by rw [zcel_i ht (by decide) (by decide), zI_s]) (fun a ha => zcel_same (zI_o ha) rfl rfl)] at hP1
  exact kk H1 locs1 ls hP1 hl hS1
theorem a_last (fx : zFx p s m args c B D aC aS nL cc own) {k : Nat} {i : Int32} {x : Int64} (hk : k < N0) (ht : tg k = 23) (hin : vp_in i (ln k)) (hd : decode cc pc = .ok (.lastore, 1)) (kk : zAt p l e R s m args below meth c cells slots Q B D aC nL (pc + 1) lv st (zL M k i.toNatClampNeg x)) : zAt p l e R s m args below meth c cells slots Q B D aC nL pc lv (.long x :: .int i :: .ref (B + k) :: st) M := by
  intro H locs ls hP hl hS
  refine va_last fx.1 fx.2.1 fx.2.2.2.2.2.1.1 hP zcls_D hS k 3 ((zcls_at hk).trans (by rw [zcel_l ht])) rfl hin hd (fun H1 locs1 hP1 _ hS1 => ?_)
  rw [zcls_set (M := M) (M' := zL M k i.toNatClampNeg x) hk _ (by rw [zcel_l ht, zL_s]) (fun a ha => zcel_same rfl (zL_o ha) rfl)] at hP1
  exact kk H1 locs1 ls hP1 hl hS1
theorem a_aast (fx : zFx p s m args c B D aC aS nL cc own) {k v : Nat} {i : Int32} (hk : k < N0) (ht : tg k = 24) (hv : v < N0) (hvt : tg v = 2) (hin : vp_in i (ln k)) (hd : decode cc pc = .ok (.aastore, 1)) (kk : zAt p l e R s m args below meth c cells slots Q B D aC nL (pc + 1) lv st (zR M k i.toNatClampNeg v)) : zAt p l e R s m args below meth c cells slots Q B D aC nL pc lv (.ref (B + v) :: .int i :: .ref (B + k) :: st) M := by
  intro H locs ls hP hl hS
  refine va_astq fx.1 fx.2.1 fx.2.2.2.2.2.1.1 hP zcls_D hS k 4 v 2 (r := (R_En, F_En, 9)) ((zcls_at hk).trans (by rw [zcel_r ht])) rfl ((zcls_at hv).trans (by rw [zcel_o hvt (by decide)])) rfl hin hd (fun H1 locs1 hP1 _ hS1 => ?_)
  have e : va_up (fun j => some (B + M.2.2 k j)) i.toNatClampNeg (some (B + v)) = fun j => some (B + (zR M k i.toNatClampNeg v).2.2 k j) := by
    funext j
    rw [zR_s]
    by_cases h : j = i.toNatClampNeg
    · simp [va_up, h]
    · simp [va_up, h]
  rw [e, zcls_set (M := M) (M' := zR M k i.toNatClampNeg v) hk _ (zcel_r ht) (fun a ha => zcel_same rfl rfl (zR_o ha))] at hP1
  exact kk H1 locs1 ls hP1 hl hS1
theorem a_alen {ty0 : FieldType} (fx : zFx p s m args c B D aC aS nL cc own) {k t : Nat} (t0 : Nat) (hk : k < N0) (ht : tg k = t) (h20 : ¬ t < 20) (h24 : t ≤ 24) (htt : (ztyl aC)[t0]? = some (aC t, ty0)) (hd : decode cc pc = .ok (.arraylength, 1)) (kk : zAt p l e R s m args below meth c cells slots Q B D aC nL (pc + 1) lv (.int (Int32.ofNat (ln k)) :: st) M) : zAt p l e R s m args below meth c cells slots Q B D aC nL pc lv (.ref (B + k) :: st) M := by
  intro H locs ls hP hl hS
  subst ht
  by_cases h1 : tg k < 23
  · exact va_alen fx.1 fx.2.1 fx.2.2.2.2.2.1.1 hP k t0 ((zcls_at hk).trans (by rw [zcel_i rfl h20 h1])) htt rfl hd (kk H locs ls hP hl hS)
  · by_cases h2 : tg k = 23
    · exact va_alen fx.1 fx.2.1 fx.2.2.2.2.2.1.1 hP k t0 ((zcls_at hk).trans (by rw [zcel_l h2])) (by rw [h2] at htt; exact htt) rfl hd (kk H locs ls hP hl hS)
    · have h3 : tg k = 24 := by omega
      exact va_alen fx.1 fx.2.1 fx.2.2.2.2.2.1.1 hP k t0 ((zcls_at hk).trans (by rw [zcel_r h3])) (by rw [h3] at htt; exact htt) rfl hd (kk H locs ls hP hl hS)
theorem a_iret (fx : zFx p s m args c B D aC aS nL cc own) (hlo : meth.locks = false) (hr : meth.sig.returnType = some .int) {post : Int32 → zM → Prop} {v : Int32} (h : post v M) (hd : decode cc pc = .ok (.ireturn, 1)) : zAt p l e R s m args below meth c cells slots (MQ below (zQi B D aC post) args s cells slots (zAb B)) B D aC nL pc lv [.int v] M := fun H locs ls hP hl hS => W.iret fx.1 fx.2.1 hr (fun t ht hW => ⟨v, M, rfl, h, by rw [ht]; exact hP, hS.F ht⟩) hS.2.2 hd
theorem a_lret (fx : zFx p s m args c B D aC aS nL cc own) (hlo : meth.locks = false) (hr : meth.sig.returnType = some .long) {post : Int64 → zM → Prop} {v : Int64} (h : post v M) (hd : decode cc pc = .ok (.lreturn, 1)) : zAt p l e R s m args below meth c cells slots (MQ below (zQl B D aC post) args s cells slots (zAb B)) B D aC nL pc lv [.long v] M := fun H locs ls hP hl hS => W.lret fx.1 fx.2.1 hr (fun t ht hW => ⟨v, M, rfl, h, by rw [ht]; exact hP, hS.F ht⟩) hS.2.2 hd
theorem a_vret (fx : zFx p s m args c B D aC aS nL cc own) (hlo : meth.locks = false) (hr : meth.sig.returnType = none) {post : zM → Prop} (h : post M) (hd : decode cc pc = .ok (.return_, 1)) : zAt p l e R s m args below meth c cells slots (MQ below (zQv B D aC post) args s cells slots (zAb B)) B D aC nL pc lv [] M := fun H locs ls hP hl hS => W.vret fx.1 fx.2.1 hr (fun t ht hW => ⟨M, rfl, h, by rw [ht]; exact hP, hS.F ht⟩) hS.2.2 hd
theorem a_zret (fx : zFx p s m args c B D aC aS nL cc own) (hlo : meth.locks = false) {ty : FieldType} (hr : meth.sig.returnType = some ty) {post : Int32 → zM → Prop} {v : Int32} (hn : narrow ty (.int v) = .int v) (h : post v M) (hd : decode cc pc = .ok (.ireturn, 1)) : zAt p l e R s m args below meth c cells slots (MQ below (zQi B D aC post) args s cells slots (zAb B)) B D aC nL pc lv [.int v] M := fun H locs ls hP hl hS => W.zret fx.1 fx.2.1 hr hn (fun t ht hW => ⟨v, M, rfl, h, by rw [ht]; exact hP, hS.F ht⟩) hS.2.2 hd
theorem a_aret (fx : zFx p s m args c B D aC aS nL cc own) (hlo : meth.locks = false) {cn : String} (hr : meth.sig.returnType = some (.object cn)) {post : Nat → zM → Prop} {v : Nat} (h : post v M) (hd : decode cc pc = .ok (.areturn, 1)) : zAt p l e R s m args below meth c cells slots (MQ below (zQr B D aC post) args s cells slots (zAb B)) B D aC nL pc lv [.ref (B + v)] M := fun H locs ls hP hl hS => W.aret fx.1 fx.2.1 hr (Or.inl ⟨cn, rfl⟩) (Or.inr ⟨_, rfl⟩) (fun t ht hW => ⟨v, M, rfl, h, by rw [ht]; exact hP, hS.F ht⟩) hS.2.2 hd
theorem a_tabI (fx : zFx p s m args c B D aC aS nL cc own) {dflt lo hi off : Int} {offs : Array Int} {n : Nat} {x : Int32} (tgt : Nat) (hd : decode cc pc = .ok (.tableswitch dflt lo hi offs, n)) (h1 : ¬ x.toInt < lo) (h2 : ¬ hi < x.toInt) (ho : offs[(x.toInt - lo).toNat]? = some off) (ht : (pc : Int) + off = (tgt : Int)) (k : zAt p l e R s m args below meth c cells slots Q B D aC nL tgt lv st M) : zAt p l e R s m args below meth c cells slots Q B D aC nL pc lv (.int x :: st) M := fun H locs ls hP hl hS => lv_tableIn fx.1 fx.2.1 hd h1 h2 ho ht (k H locs ls hP hl hS)
theorem a_tabO (fx : zFx p s m args c B D aC aS nL cc own) {dflt lo hi : Int} {offs : Array Int} {n : Nat} {x : Int32} (tgt : Nat) (hd : decode cc pc = .ok (.tableswitch dflt lo hi offs, n)) (h : x.toInt < lo ∨ hi < x.toInt) (ht : (pc : Int) + dflt = (tgt : Int)) (k : zAt p l e R s m args below meth c cells slots Q B D aC nL tgt lv st M) : zAt p l e R s m args below meth c cells slots Q B D aC nL pc lv (.int x :: st) M := fun H locs ls hP hl hS => lv_tableOut fx.1 fx.2.1 hd h ht (k H locs ls hP hl hS)
theorem a_gets (fx : zFx p s m args c B D aC aS nL cc own) {t index : Nat} (hZ : va_Z "MailChain$Row" "REMAINDERS" "[I" (.ref t) (zAb B) s s.heap) (hw : Cond.fieldLink own index "MailChain$Row" "REMAINDERS" "[I" ∈ tb) (hd : decode cc pc = .ok (.getstatic index, 3)) (k : zAt p l e R s m args below meth c cells slots Q B D aC nL (pc + 3) lv (.ref t :: st) M) : zAt p l e R s m args below meth c cells slots Q B D aC nL pc lv st M := fun H locs ls hP hl hS => va_gets fx.1 fx.2.1 hZ hS fx.2.2.2.1 (fx.2.2.2.2.1 _ hw) (fun x h => h) hd (k H locs ls hP hl hS)
theorem a_rem (fx : zFx p s m args c B D aC aS nL cc own) {t : Nat} {i : Int32} (hT : va_T .int t 16 (fun j => .int (remL.getD j 0)) (zAb B) s s.heap) (hin : vp_in i 16) (hd : decode cc pc = .ok (.iaload, 1)) (k : zAt p l e R s m args below meth c cells slots Q B D aC nL (pc + 1) lv (.int (remL.getD i.toNatClampNeg 0) :: st) M) : zAt p l e R s m args below meth c cells slots Q B D aC nL pc lv (.int i :: .ref t :: st) M := fun H locs ls hP hl hS => va_ti fx.1 fx.2.1 hT hS hin rfl hd (k H locs ls hP hl hS)
theorem a_ldcS (fx : zFx p s m args c B D aC aS nL cc own) (i : Nat) {index : Nat} (hi : i < 13) (ho : strOwn i = own) (hx : strIx i = index) {q : Nat} (hq : strNo i = q) (hd : decode cc pc = .ok (.ldc index, 2)) (k : zAt p l e R s m args below meth c cells slots Q B D aC nL (pc + 2) lv (.ref (aS q) :: st) M) : zAt p l e R s m args below meth c cells slots Q B D aC nL pc lv st M := fun H locs ls hP hl hS => va_ldcS fx.1 fx.2.1 fx.2.2.2.1 (by have h := fx.2.2.2.2.2.1.2.2.2.1 i hi; rw [ho, hx, hq] at h; exact h) hd (k H locs ls hP hl hS)
theorem a_comp (fx : zFx p s m args c B D aC aS nL cc own) {index : Nat} (hw : Cond.fieldLink own index "java/lang/String" "COMPACT_STRINGS" "Z" ∈ tb) (hd : decode cc pc = .ok (.getstatic index, 3)) (k : zAt p l e R s m args below meth c cells slots Q B D aC nL (pc + 3) lv (.int 1 :: st) M) : zAt p l e R s m args below meth c cells slots Q B D aC nL pc lv st M := fun H locs ls hP hl hS => va_gets fx.1 fx.2.1 fx.2.2.2.2.2.1.2.2.2.2.1 hS fx.2.2.2.1 (fx.2.2.2.2.1 _ hw) (fun x h => h) hd (k H locs ls hP hl hS)
theorem a_scod (fx : zFx p s m args c B D aC aS nL cc own) {index i : Nat} (hi : i < 9) (hw : Cond.fieldLink own index "java/lang/String" "coder" "B" ∈ tb) (hd : decode cc pc = .ok (.getfield index, 3)) (k : zAt p l e R s m args below meth c cells slots Q B D aC nL (pc + 3) lv (.int 0 :: st) M) : zAt p l e R s m args below meth c cells slots Q B D aC nL pc lv (.ref (aS i) :: st) M := fun H locs ls hP hl hS => vk_getf fx.1 fx.2.1 (fx.2.2.2.2.2.1.2.2.1.1 i hi).2.1 hS fx.2.2.2.1 (fx.2.2.2.2.1 _ hw) (fun x h => h) hd (k H locs ls hP hl hS)
theorem a_sval (fx : zFx p s m args c B D aC aS nL cc own) {index i : Nat} (hi : i < 9) (hw : Cond.fieldLink own index "java/lang/String" "value" "[B" ∈ tb) (hd : decode cc pc = .ok (.getfield index, 3)) (k : zAt p l e R s m args below meth c cells slots Q B D aC nL (pc + 3) lv (.ref (aS (100 + i)) :: st) M) : zAt p l e R s m args below meth c cells slots Q B D aC nL pc lv (.ref (aS i) :: st) M := fun H locs ls hP hl hS => vk_getf fx.1 fx.2.1 (fx.2.2.2.2.2.1.2.2.1.1 i hi).2.2.1 hS fx.2.2.2.1 (fx.2.2.2.2.1 _ hw) (fun x h => h) hd (k H locs ls hP hl hS)
theorem a_slen (fx : zFx p s m args c B D aC aS nL cc own) {i : Nat} (hi : i < 9) (hd : decode cc pc = .ok (.arraylength, 1)) (k : zAt p l e R s m args below meth c cells slots Q B D aC nL (pc + 1) lv (.int (Int32.ofNat (strLen.getD i 0)) :: st) M) : zAt p l e R s m args below meth c cells slots Q B D aC nL pc lv (.ref (aS (100 + i)) :: st) M := fun H locs ls hP hl hS => va_tlen fx.1 fx.2.1 (fx.2.2.2.2.2.1.2.2.1.1 i hi).2.2.2 hS rfl hd (k H locs ls hP hl hS)
theorem a_sbld (fx : zFx p s m args c B D aC aS nL cc own) {i : Nat} {x : Int32} (hi : i < 9) (hin : vp_in x (strLen.getD i 0)) (hd : decode cc pc = .ok (.baload, 1)) (k : zAt p l e R s m args below meth c cells slots Q B D aC nL (pc + 1) lv (.int ((strByt.getD i []).getD x.toNatClampNeg 0) :: st) M) : zAt p l e R s m args below meth c cells slots Q B D aC nL pc lv (.int x :: .ref (aS (100 + i)) :: st) M := fun H locs ls hP hl hS => va_tb fx.1 fx.2.1 (fx.2.2.2.2.2.1.2.2.1.1 i hi).2.2.2 hS hin rfl hd (k H locs ls hP hl hS)
theorem a_getq (fx : zFx p s m args c B D aC aS nL cc own) {index : Nat} {C n d : String} (hZ : va_Zq C n d (zAb B) s s.heap) (hw : Cond.fieldLink own index C n d ∈ tb) (hd : decode cc pc = .ok (.getstatic index, 3)) (k : ∀ v : Value, (v = .null ∨ ∃ t : Nat, v = .ref t) → zAt p l e R s m args below meth c cells slots Q B D aC nL (pc + 3) lv (v :: st) M) : zAt p l e R s m args below meth c cells slots Q B D aC nL pc lv st M := by
  intro H locs ls hP hl hS
  rcases hZ with h | ⟨t, h⟩
  · exact va_gets fx.1 fx.2.1 h hS fx.2.2.2.1 (fx.2.2.2.2.1 _ hw) (fun x h => h) hd (k _ (Or.inl rfl) H locs ls hP hl hS)
  · exact va_gets fx.1 fx.2.1 h hS fx.2.2.2.1 (fx.2.2.2.2.1 _ hw) (fun x h => h) hd (k _ (Or.inr ⟨t, rfl⟩) H locs ls hP hl hS)
end ROWS
end
section
/-! Calls over the memory; how a contract is begun. -/
section CALLS
variable {p : Program} {l : Launch} {e : Env} {R : Room} {s : State} {m : MethodId} {args : Array Value} {below : List Frame} {meth : Method} {c : Code} {cells slots mc ms : Nat} {Q : State → Prop} {B : Nat} {D : va_G} {aC : Nat → ClassId} {aS : Nat → Nat} {nL : Nat} {cc : ByteArray} {own : String} {pc : Nat} {lv lv2 : List (Nat × Value)} {st rest st0 : List Value} {M : zM} {av : Array Value}
/-- a call that has a run from every heap that holds the memory -/
def zRun (p : Program) (l : Launch) (e : Env) (R : Room) (s : State) (m : MethodId) (args : Array Value) (below : List Frame) (meth : Method) (c : Code) (cells slots mc ms : Nat) (B : Nat) (D : va_G) (aC : Nat → ClassId) (nL : Nat) (pc : Nat) (lv : List (Nat × Value)) (st0 rest : List Value) (M : zM) (Qa : State → Outcome → State → Prop) : Prop :=
  ∀ (H : Heap) (locs : List Loc) (ls : Array Slot), va_P D kcl (zcls B aC M) H → lv_has ls nL lv → va_S (zAb B) s.heap H locs → va_Run p l e R s m args below meth c H locs cells slots mc ms (F0 m pc ls st0) rest Qa (zAb B)
theorem a_calli {post : Int32 → zM → Prop} (hr : zRun p l e R s m args below meth c cells slots mc ms B D aC nL pc lv st0 rest M (zQi B D aC post av)) (k : ∀ (r : Int32) (M2 : zM), post r M2 → zAt p l e R s m args below meth c (cells + mc) (slots + ms) Q B D aC nL (pc + 3) lv (.int r :: rest) M2) : zAt p l e R s m args below meth c cells slots Q B D aC nL pc lv st0 M := by
  intro H locs ls hP hl hS T hT X
  obtain ⟨v, st₀, t, T', L, h0, X', hL, e1, e2, ⟨r, M2, hv, hp, hP1, hz, hk⟩, st⟩ := hr H locs ls hP hl hS T hT X
  cases hv
  rw [h0] at hz hk
  obtain ⟨t2, a1, b1⟩ := k r M2 hp T'.heap (locs ++ L) ls (by rw [e1]; exact hP1) hl ⟨Nat.le_trans hS.1 (by rw [e1]; exact hz), fun q h1 h2 => by rw [e1, hk q (Nat.lt_of_lt_of_le h1 hS.1) h2]; exact hS.2.1 q h1 h2, fun q hq => by
    rcases List.mem_append.mp hq with h | h
    · exact hS.2.2 q h
    · exact hL q h⟩ T' rfl X'
  exact ⟨t2, st t2 a1, b1⟩
theorem a_calll {post : Int64 → zM → Prop} (hr : zRun p l e R s m args below meth c cells slots mc ms B D aC nL pc lv st0 rest M (zQl B D aC post av)) (k : ∀ (r : Int64) (M2 : zM), post r M2 → zAt p l e R s m args below meth c (cells + mc) (slots + ms) Q B D aC nL (pc + 3) lv (.long r :: rest) M2) : zAt p l e R s m args below meth c cells slots Q B D aC nL pc lv st0 M := by
  intro H locs ls hP hl hS T hT X
  obtain ⟨v, st₀, t, T', L, h0, X', hL, e1, e2, ⟨r, M2, hv, hp, hP1, hz, hk⟩, st⟩ := hr H locs ls hP hl hS T hT X
  cases hv
  rw [h0] at hz hk
  obtain ⟨t2, a1, b1⟩ := k r M2 hp T'.heap (locs ++ L) ls (by rw [e1]; exact hP1) hl ⟨Nat.le_trans hS.1 (by rw [e1]; exact hz), fun q h1 h2 => by rw [e1, hk q (Nat.lt_of_lt_of_le h1 hS.1) h2]; exact hS.2.1 q h1 h2, fun q hq => by
    rcases List.mem_append.mp hq with h | h
    · exact hS.2.2 q h
    · exact hL q h⟩ T' rfl X'
  exact ⟨t2, st t2 a1, b1⟩
theorem a_callr {post : Nat → zM → Prop} (hr : zRun p l e R s m args below meth c cells slots mc ms B D aC nL pc lv st0 rest M (zQr B D aC post av)) (k : ∀ (r : Nat) (M2 : zM), post r M2 → zAt p l e R s m args below meth c (cells + mc) (slots + ms) Q B D aC nL (pc + 3) lv (.ref (B + r) :: rest) M2) : zAt p l e R s m args below meth c cells slots Q B D aC nL pc lv st0 M := by
  intro H locs ls hP hl hS T hT X
  obtain ⟨v, st₀, t, T', L, h0, X', hL, e1, e2, ⟨r, M2, hv, hp, hP1, hz, hk⟩, st⟩ := hr H locs ls hP hl hS T hT X
  cases hv
  rw [h0] at hz hk
  obtain ⟨t2, a1, b1⟩ := k r M2 hp T'.heap (locs ++ L) ls (by rw [e1]; exact hP1) hl ⟨Nat.le_trans hS.1 (by rw [e1]; exact hz), fun q h1 h2 => by rw [e1, hk q (Nat.lt_of_lt_of_le h1 hS.1) h2]; exact hS.2.1 q h1 h2, fun q hq => by
    rcases List.mem_append.mp hq with h | h
    · exact hS.2.2 q h
    · exact hL q h⟩ T' rfl X'
  exact ⟨t2, st t2 a1, b1⟩
theorem a_callv {post : zM → Prop} (hr : zRun p l e R s m args below meth c cells slots mc ms B D aC nL pc lv st0 rest M (zQv B D aC post av)) (k : ∀ (M2 : zM), post M2 → zAt p l e R s m args below meth c (cells + mc) (slots + ms) Q B D aC nL (pc + 3) lv (rest) M2) : zAt p l e R s m args below meth c cells slots Q B D aC nL pc lv st0 M := by
  intro H locs ls hP hl hS T hT X
  obtain ⟨v, st₀, t, T', L, h0, X', hL, e1, e2, ⟨M2, hv, hp, hP1, hz, hk⟩, st⟩ := hr H locs ls hP hl hS T hT X
  cases hv
  rw [h0] at hz hk
  obtain ⟨t2, a1, b1⟩ := k M2 hp T'.heap (locs ++ L) ls (by rw [e1]; exact hP1) hl ⟨Nat.le_trans hS.1 (by rw [e1]; exact hz), fun q h1 h2 => by rw [e1, hk q (Nat.lt_of_lt_of_le h1 hS.1) h2]; exact hS.2.1 q h1 h2, fun q hq => by
    rcases List.mem_append.mp hq with h | h
    · exact hS.2.2 q h
    · exact hL q h⟩ T' rfl X'
  exact ⟨t2, st t2 a1, b1⟩
theorem zWl_at (fx : zFx p s m args c B D aC aS nL cc own) {H : Heap} {locs : List Loc} {U : State} (hP : va_P D kcl (zcls B aC M) H) (hS : va_S (zAb B) s.heap H locs) (hU : U.heap = H) (hW : s.WarmedH U.vm) : zWl B D aC aS M U :=
  ⟨by rw [hU]; exact hP, by rw [hU]; exact Nat.le_trans fx.2.2.2.2.2.2.1 hS.1, va_K.moved hW.alike fx.2.2.2.2.2.1.1, fx.2.2.2.2.2.1.2.warm hW (fun a h1 h2 => by rw [hU]; exact hS.2.1 a h1 h2)⟩
/-- what the tables say of a method that is called on an object -/
def zCV (y : MethodName) (C : String) (b : ByteArray) (n : Nat) (r : Option FieldType) (np : Nat) : Prop := Cond.instanceMethod y ∈ tb ∧ Cond.selects C y y ∈ tb ∧ Cond.initialized C ∈ tb ∧ Cond.code y b n r ∈ tb ∧ (y.cls = C ∧ y.cls ≠ "java/lang/invoke/MethodHandle" ∧ y.cls ≠ "java/lang/invoke/VarHandle" ∧ (parseMethodDescriptor y.desc).map (fun d => d.parameters.length) = some np)
def zCS (y : MethodName) (b : ByteArray) (n : Nat) (r : Option FieldType) (np : Nat) : Prop := Cond.static y ∈ tb ∧ Cond.initialized y.cls ∈ tb ∧ Cond.code y b n r ∈ tb ∧ (y.cls ≠ "java/lang/invoke/MethodHandle" ∧ y.cls ≠ "java/lang/invoke/VarHandle" ∧ (parseMethodDescriptor y.desc).map (fun d => d.parameters.length) = some np)
theorem z_good {w : Cond} (h : w ∈ tb) : w ∈ tb ∧ ((w.onTables && w.keeps) = true ∨ ∃ ty, w = .arrayClass ty) := ⟨h, good_of_word (tb_good w h)⟩
theorem z_goodwo {y : MethodName} {b : ByteArray} {n : Nat} {r : Option FieldType} (h : Cond.code y b n r ∈ tb) : GoodIn tb (wo y b n r) := by
  intro w hw
  rcases List.mem_cons.mp hw with e | e
  · rw [e]; exact z_good h
  · exact z_good e
theorem a_runV (fx : zFx p s m args c B D aC aS nL cc own) {y : MethodName} {C : String} {b : ByteArray} {mx np : Nat} {ret : Option FieldType} {index k t N : Nat} {T : u_T} {rm : Room} {As : List Value} {Qc : Array Value → State → Outcome → State → Prop} (cv : zCV y C b mx ret np) (hl : Cond.methodLink own index y ∈ tb)
    (hM : Met l y (wo y b mx ret) rm (va_Pc (.ref (B + k) :: As) (zWl B D aC aS M)) Qc mc ms (zAb B)) (hk : k < N0) (ht : tg k = t) (ht2 : t < 20) (hc : kcl[t]? = some (C, T, N)) (hn : As.length = np) (hst : st0 = As.reverse ++ .ref (B + k) :: rest) (hw : (rest.map fun v => v.category).sum ≤ 8)
    (hrc : rm.cells = mc) (hrs : rm.slots = ms) (hR : rm.frames + 1 ≤ R.frames ∧ 8 + (mx + 11) + rm.locals ≤ R.locals) (hd : decode cc pc = .ok (.invokevirtual index, 3)) (hf : cells + mc ≤ R.cells ∧ slots + ms ≤ R.slots) : zRun p l e R s m args below meth c cells slots mc ms B D aC nL pc lv st0 rest M (Qc (Value.ref (B + k) :: As).toArray) := by
  intro H locs ls hP hlv hS
  subst hst
  obtain ⟨v1, v2, v3, v4, v5⟩ := cv
  refine va_runV (C := C) (bytes := b) (maxL := mx) (ret := ret) (Ts := tb) ⟨fx.1, fx.2.1, fx.2.2.1, fx.2.2.2.1, fx.2.2.2.2.1⟩ hM (cwV np fx.2.2.2.2.1 ?_ rfl hrc hrs v5 hR) ⟨fun a U g mk q => ⟨q.1, q.2.blind⟩, va_recv fx.2.2.2.2.2.1.1 hP hc ((zcls_at hk).trans (by rw [zcel_o ht ht2])), fun U hU hW => ⟨rfl, zWl_at fx hP hS hU hW⟩⟩ rfl hn hlv.1 rfl (lv_room hw) hd hf
  intro w hw
  rcases List.mem_append.mp hw with h | h
  · simp only [List.mem_cons, List.not_mem_nil, or_false] at h
    rcases h with h | h | h | h <;> (rw [h]; apply z_good; assumption)
  · exact z_goodwo v4 w h
theorem a_runVs (fx : zFx p s m args c B D aC aS nL cc own) {y : MethodName} {b : ByteArray} {mx np : Nat} {ret : Option FieldType} {index i : Nat} {rm : Room} {As : List Value} {Qc : Array Value → State → Outcome → State → Prop} (cv : zCV y "java/lang/String" b mx ret np) (hl : Cond.methodLink own index y ∈ tb)
    (hM : Met l y (wo y b mx ret) rm (va_Pc (.ref (aS i) :: As) (zWl B D aC aS M)) Qc mc ms (zAb B)) (hi : i < 9) (hn : As.length = np) (hst : st0 = As.reverse ++ .ref (aS i) :: rest) (hw : (rest.map fun v => v.category).sum ≤ 8)
    (hrc : rm.cells = mc) (hrs : rm.slots = ms) (hR : rm.frames + 1 ≤ R.frames ∧ 8 + (mx + 11) + rm.locals ≤ R.locals) (hd : decode cc pc = .ok (.invokevirtual index, 3)) (hf : cells + mc ≤ R.cells ∧ slots + ms ≤ R.slots) : zRun p l e R s m args below meth c cells slots mc ms B D aC nL pc lv st0 rest M (Qc (Value.ref (aS i) :: As).toArray) := by
  intro H locs ls hP hlv hS
  subst hst
  obtain ⟨v1, v2, v3, v4, v5⟩ := cv
  refine va_runV (C := "java/lang/String") (bytes := b) (maxL := mx) (ret := ret) (Ts := tb) ⟨fx.1, fx.2.1, fx.2.2.1, fx.2.2.2.1, fx.2.2.2.2.1⟩ hM (cwV np fx.2.2.2.2.1 ?_ rfl hrc hrs v5 hR) ⟨fun a U g mk q => ⟨q.1, q.2.blind⟩, vk_recv fx.2.2.2.2.2.1.2.2.1 hi hS, fun U hU hW => ⟨rfl, zWl_at fx hP hS hU hW⟩⟩ rfl hn hlv.1 rfl (lv_room hw) hd hf
  intro w hw
  rcases List.mem_append.mp hw with h | h
  · simp only [List.mem_cons, List.not_mem_nil, or_false] at h
    rcases h with h | h | h | h <;> (rw [h]; apply z_good; assumption)
  · exact z_goodwo v4 w h
theorem a_runS (fx : zFx p s m args c B D aC aS nL cc own) {y : MethodName} {b : ByteArray} {mx np : Nat} {ret : Option FieldType} {index : Nat} {rm : Room} {As : List Value} {Qc : Array Value → State → Outcome → State → Prop} (cv : zCS y b mx ret np) (hl : Cond.methodLink own index y ∈ tb)
    (hM : Met l y (wo y b mx ret) rm (va_Pc As (zWl B D aC aS M)) Qc mc ms (zAb B)) (hn : As.length = np) (hst : st0 = As.reverse ++ rest) (hw : (rest.map fun v => v.category).sum ≤ 8)
    (hrc : rm.cells = mc) (hrs : rm.slots = ms) (hR : rm.frames + 1 ≤ R.frames ∧ 8 + (mx + 11) + rm.locals ≤ R.locals) (hd : decode cc pc = .ok (.invokestatic index, 3)) (hf : cells + mc ≤ R.cells ∧ slots + ms ≤ R.slots) : zRun p l e R s m args below meth c cells slots mc ms B D aC nL pc lv st0 rest M (Qc As.toArray) := by
  intro H locs ls hP hlv hS
  subst hst
  obtain ⟨v1, v2, v3, v5⟩ := cv
  refine va_runS (bytes := b) (maxL := mx) (ret := ret) (Ts := tb) ⟨fx.1, fx.2.1, fx.2.2.1, fx.2.2.2.1, fx.2.2.2.2.1⟩ hM (va_cwS np fx.2.2.2.2.1 ?_ rfl hrc hrs v5 hR) ⟨fun a U g mk q => ⟨q.1, q.2.blind⟩, fun U hU hW => ⟨rfl, zWl_at fx hP hS hU hW⟩⟩ rfl hn hlv.1 rfl (lv_room hw) hd hf
  intro w hw
  rcases List.mem_append.mp hw with h | h
  · simp only [List.mem_cons, List.not_mem_nil, or_false] at h
    rcases h with h | h | h <;> (rw [h]; apply z_good; assumption)
  · exact z_goodwo v3 w h
theorem a_runSN (fx : zFx p s m args c B D aC aS nL cc own) {y : MethodName} {b : ByteArray} {mx np : Nat} {ret : Option FieldType} {index : Nat} {host : String} (q9 : Nat) {rm : Room} {As : List Value} {Qc : Array Value → State → Outcome → State → Prop} (cv : zCS y b mx ret np) (hl : nestM[q9]? = some (own, index, y, host))
    (hM : Met l y (wo y b mx ret) rm (va_Pc As (zWl B D aC aS M)) Qc mc ms (zAb B)) (hn : As.length = np) (hst : st0 = As.reverse ++ rest) (hw : (rest.map fun v => v.category).sum ≤ 8)
    (hrc : rm.cells = mc) (hrs : rm.slots = ms) (hR : rm.frames + 1 ≤ R.frames ∧ 8 + (mx + 11) + rm.locals ≤ R.locals) (hd : decode cc pc = .ok (.invokestatic index, 3)) (hf : cells + mc ≤ R.cells ∧ slots + ms ≤ R.slots) : zRun p l e R s m args below meth c cells slots mc ms B D aC nL pc lv st0 rest M (Qc As.toArray) := by
  intro H locs ls hP hlv hS
  subst hst
  obtain ⟨v1, v2, v3, v5⟩ := cv
  exact va_runSN (bytes := b) (maxL := mx) (ret := ret) (Ts := tb) ⟨fx.1, fx.2.1, fx.2.2.1, fx.2.2.2.1, fx.2.2.2.2.1⟩ hM ⟨va_cnB np fx.2.2.2.2.1 (z_goodwo v3) rfl hrc hrs (fx.2.2.2.2.2.1.2.2.2.2.2.2.2.2.2.1 _ (List.mem_of_getElem? hl)) (fx.2.2.2.2.1 _ v2) v5 hR, fx.2.2.2.2.1 _ v1, trivial⟩ ⟨fun a U g mk q => ⟨q.1, q.2.blind⟩, fun U hU hW => ⟨rfl, zWl_at fx hP hS hU hW⟩⟩ rfl hn hlv.1 rfl (lv_room hw) hd hf
/-- a contract is met, if the walk from its entry meets it -/
theorem z_met {y : MethodName} {b : ByteArray} {mx : Nat} {ret : Option FieldType} {rm : Room} {as : List Value} {lv0 : List (Nat × Value)} {Qc : Array Value → State → Outcome → State → Prop} (hy : plainName y.cls = true) (ho : y.cls = own) (hlen : (lg_sl as).length ≤ mx) (hlv : lv_args 0 as = lv0)
    (body : ∀ p e s m below meth c, zFx p s m as.toArray c B D aC aS mx b own → meth.sig.returnType = ret → meth.locks = false → zAt p l e rm s m as.toArray below meth c 0 0 (MQ below Qc as.toArray s mc ms (zAb B)) B D aC mx 0 lv0 [] M) : Met l y (wo y b mx ret) rm (va_Pc as (zWl B D aC aS M)) Qc mc ms (zAb B) := by
  refine Met.ofW (cc := b) (maxL := mx) (ret := ret) hy rfl ?_
  intro p e s m args below meth c s₁ BB hml hv
  obtain ⟨rfl, hP, hsz, hC⟩ := hv
  subst ho
  have hl := lv_entry as (n := mx) hlen
  rw [lg_entry_eq]
  rw [hlv] at hl
  exact body p e s m below meth c ⟨BB.exec, BB.bytes, hml, findClass_of_methodNamed BB.named, fun w hw => atoms_spec (ws := wo y b mx ret) BB.pre w (List.mem_cons_of_mem _ hw), hC, hsz, zcls_ns hP⟩ BB.returns BB.notSynchronized s.heap [] _ hP hl va_S.rf
theorem a_mmax (fx : zFx p s m args c B D aC aS nL cc own) {index : Nat} {x y : Int32} (h1 : Cond.methodLink own index Lib.Math.max.name ∈ tb) (h2 : Cond.static Lib.Math.max.name ∈ tb) (h3 : Cond.initialized "java/lang/Math" ∈ tb) (h4 : Cond.code Lib.Math.max.name Lib.Math.max.code 2 (some .int) ∈ tb) (hf : 1 ≤ R.frames) (hlo : (st.map fun v => v.category).sum + 13 ≤ R.locals) (hc : cells ≤ R.cells) (hs : slots ≤ R.slots) (hd : decode cc pc = .ok (.invokestatic index, 3)) (k : zAt p l e R s m args below meth c cells slots Q B D aC nL (pc + 3) lv (.int (if x < y then y else x) :: st) M) : zAt p l e R s m args below meth c cells slots Q B D aC nL pc lv (.int y :: .int x :: st) M := fun H locs ls hP hl hS =>
  va_mmax fx.1 fx.2.1 (fx.2.2.1.trans hl.1.symm) fx.2.2.2.1 (fx.2.2.2.2.1 _ h1) (fx.2.2.2.2.1 _ h2) (fx.2.2.2.2.1 _ h3) (fx.2.2.2.2.1 _ h4) hf hlo hc hs hd (k H locs ls hP hl hS)
theorem a_mmin (fx : zFx p s m args c B D aC aS nL cc own) {index : Nat} {x y : Int32} (h1 : Cond.methodLink own index Lib.Math.min.name ∈ tb) (h2 : Cond.static Lib.Math.min.name ∈ tb) (h3 : Cond.initialized "java/lang/Math" ∈ tb) (h4 : Cond.code Lib.Math.min.name Lib.Math.min.code 2 (some .int) ∈ tb) (hf : 1 ≤ R.frames) (hlo : (st.map fun v => v.category).sum + 13 ≤ R.locals) (hc : cells ≤ R.cells) (hs : slots ≤ R.slots) (hd : decode cc pc = .ok (.invokestatic index, 3)) (k : zAt p l e R s m args below meth c cells slots Q B D aC nL (pc + 3) lv (.int (if y < x then y else x) :: st) M) : zAt p l e R s m args below meth c cells slots Q B D aC nL pc lv (.int y :: .int x :: st) M := fun H locs ls hP hl hS =>
  va_mmin fx.1 fx.2.1 (fx.2.2.1.trans hl.1.symm) fx.2.2.2.1 (fx.2.2.2.2.1 _ h1) (fx.2.2.2.2.1 _ h2) (fx.2.2.2.2.1 _ h3) (fx.2.2.2.2.1 _ h4) hf hlo hc hs hd (k H locs ls hP hl hS)
theorem a_copy (fx : zFx p s m args c B D aC aS nL cc own) {index k1 k2 : Nat} {sp dp n : Int32} (h1 : Cond.methodLink own index arraycopyName ∈ tb) (h2 : Cond.native arraycopyName ∈ tb) (h3 : Cond.static arraycopyName ∈ tb) (h4 : Cond.initialized "java/lang/System" ∈ tb) (hk1 : k1 < N0) (ht1 : tg k1 = 20) (hk2 : k2 < N0) (ht2 : tg k2 = 20) (hsp : ¬ sp < 0) (hdp : ¬ dp < 0) (hn : ¬ n < 0) (hs1 : sp.toNatClampNeg + n.toNatClampNeg ≤ ln k1) (hs2 : dp.toNatClampNeg + n.toNatClampNeg ≤ ln k2) (hfit : ∀ i, i < n.toNatClampNeg → fits .byte (.int (M.1 k1 (sp.toNatClampNeg + i))) = true)
    (hf : 1 ≤ R.frames) (hlo : (st.map fun v => v.category).sum + (nativeFrameWords "java/lang/System" "arraycopy" 5 + 11) ≤ R.locals) (hd : decode cc pc = .ok (.invokestatic index, 3)) (k : zAt p l e R s m args below meth c cells slots Q B D aC nL (pc + 3) lv st (zA M k2 (va_cpy (M.1 k1) (M.1 k2) sp.toNatClampNeg dp.toNatClampNeg n.toNatClampNeg))) : zAt p l e R s m args below meth c cells slots Q B D aC nL pc lv (.int n :: .int dp :: .ref (B + k2) :: .int sp :: .ref (B + k1) :: st) M := by
  intro H locs ls hP hl hS
  refine va_copyi (ty := .byte) fx.1 fx.2.1 (fx.2.2.1.trans hl.1.symm) fx.2.2.2.1 (fx.2.2.2.2.1 _ h1) (fx.2.2.2.2.1 _ h2) (fx.2.2.2.2.1 _ h3) (fx.2.2.2.2.1 _ h4) fx.2.2.2.2.2.1.1 hP zcls_D hS k1 k2 0 0 ((zcls_at hk1).trans (by rw [zcel_i ht1 (by decide) (by decide)])) ((zcls_at hk2).trans (by rw [zcel_i ht2 (by decide) (by decide)])) rfl rfl rfl hsp hdp hn hs1 hs2 hfit hf hlo hd (fun H1 locs1 hP1 _ hS1 => ?_)
  rw [zcls_set (M := M) (M' := zA M k2 (va_cpy (M.1 k1) (M.1 k2) sp.toNatClampNeg dp.toNatClampNeg n.toNatClampNeg)) hk2 _ (by rw [zcel_i ht2 (by decide) (by decide), zA_s]) (fun a ha => zcel_same (zA_o ha) rfl rfl)] at hP1
  exact k H1 locs1 ls hP1 hl hS1
end CALLS
end
section
/-! What is thrown: contracts of methods that may throw, their calls, and what is caught. -/
/-- a contract of a method that returns or throws -/
def MetT (l : Launch) (y : MethodName) (ws : List Cond) (rm : Room) (Pc : Array Value → State → Prop) (Qc : Array Value → State → Outcome → State → Prop) (mc ms : Nat) (free : Addr → Prop) : Prop :=
  MetFree l y (headSpec ws rm) Pc (fun _ _ _ _ _ => True) (fun a st o t => Qc a st o t ∧ st.WarmedH t.vm ∧ ∃ L, st.sameButNew ({ t with vm := st.vm } : State) L mc ms ∧ ∀ q ∈ L, free q.base)
def MQT (below : List Frame) (Qc : Array Value → State → Outcome → State → Prop) (a : Array Value) (s : State) (mc ms : Nat) (free : Addr → Prop) : State → Prop := fun t =>
  ∃ o, t.status = .running ∧ Ended t below o ∧ Qc a s o t ∧ s.WarmedH t.vm ∧ ∃ L, s.sameButNew ({ t with vm := s.vm } : State) L mc ms ∧ ∀ q ∈ L, free q.base
/-- behind a method that may throw -/
def zQT (B : Nat) (D : va_G) (aC : Nat → ClassId) (post : Option Value → zM → Prop) (postT : Nat → zM → Prop) : Array Value → State → Outcome → State → Prop := fun _ st oc t =>
  ∃ M, va_P D kcl (zcls B aC M) t.heap ∧ va_F (zAb B) st t ∧ ((∃ v, oc = .returned v ∧ post v M) ∨ ∃ (x k : Nat) (cell : Cell), oc = .threw x ∧ postT k M ∧ t.heap[x]? = some cell ∧ cell.vm.isStatics = false ∧ st.vm.findClass (exN k) = some cell.cls)
section THR
variable {p : Program} {l : Launch} {e : Env} {R : Room} {s : State} {m : MethodId} {args : Array Value} {below : List Frame} {meth : Method} {c : Code} {T : State} {locs : List Loc} {cells slots : Nat}
theorem MetT.ofW {y : MethodName} {ws ws' : List Cond} {rm : Room} {Pc : Array Value → State → Prop} {Qc : Array Value → State → Outcome → State → Prop} {mc ms : Nat} {free : Addr → Prop} {cc : ByteArray} {maxL : Nat} {ret : Option FieldType}
    (hy : plainName y.cls = true) (hw : ws = Cond.code y cc maxL ret :: ws')
    (body : ∀ p e s m args below meth c s₁, BodyLoose p l y (headSpec ws rm) cc maxL ret e s m args below meth c s₁ → c.maxLocals = maxL → Pc args s →
      W p l e (headSpec ws rm).room s m args below meth c s.heap [] 0 0 (MQT below Qc args s mc ms free) (entryFrame m args maxL)) : MetT l y ws rm Pc Qc mc ms free := by
  refine MetFree.of_bodyS (code := cc) (maxLocals := maxL) (ret := ret) hy ?_ ?_
  · intro args s m h hn
    obtain ⟨meth, c, h1, h2, h3, h4, h5, h6, -, -⟩ := Cond.code_spec hn (atoms_spec (ws := ws) h _ (by rw [hw]; exact List.mem_cons_self))
    exact ⟨meth, c, h1, h2, h3, h4, h5, h6⟩
  · intro p e s m args below meth c s₁ BB hml hP _
    have hh0 : s₁.heap = s.heap := by rw [BB.state]; rfl
    obtain ⟨t, a1, o, b1, b2, b3⟩ := body p e s m args below meth c s₁ BB hml hP s₁ hh0 (Stand.of_body BB)
    exact ⟨t, o, a1, b1, b2, b3⟩
/-- a call of a method that may throw: it returns, or its exception lies over the caller's frame -/
theorem z_callT {y : MethodName} {ws : List Cond} {rm : Room} {Pc : Array Value → State → Prop} {Qc : Array Value → State → Outcome → State → Prop} {mc ms : Nat} {free : Addr → Prop} {bytes : ByteArray} {maxL W0 : Nat} {ret : Option FieldType}
    (X : Stand p l e R s m args below meth c T locs cells slots) (hM : MetT l y ws rm Pc Qc mc ms free) {g : JFrame} (hg : g.method = m) (hsize : g.locals.size = c.maxLocals) {ig : Instr} (hdg : decode c.code g.pc = .ok (ig, 3))
    (hW : 2 * g.monitorRoom + (g.stack.map fun v => v.category).sum ≤ W0) {mk : MethodId} (hn : T.methodNamed? y = some mk) {a : Array Value}
    (hframes : rm.frames + 1 ≤ R.frames) (hlocals : W0 + (maxL + 11) + rm.locals ≤ R.locals) (hrc : rm.cells = mc) (hrs : rm.slots = ms) (h4 : cells + mc ≤ R.cells) (h5 : slots + ms ≤ R.slots)
    (h1 : (headSpec ws rm).pre.before a T = true) (h2 : (Cond.code y bytes maxL ret).before a T = true) (h3 : (Cond.initialized y.cls).before a T = true) (hP : Pc a (T.calling g mk a)) :
    ∃ (o : Outcome) (T' t : State) (L : List Loc), Stand p l e R s m args below meth c T' (locs ++ L) (cells + mc) (slots + ms) ∧ (∀ q ∈ L, free q.base) ∧ T'.heap = t.heap ∧ T'.vm = t.vm ∧ Qc a (T.calling g mk a) o t ∧
      ((∃ v, o = .returned v ∧ Steps p.tables e below (doInvoke e (T.setTop g) [] mk a).1 (T'.setTop { g with pc := g.pc + 3, stack := v.toList ++ g.stack })) ∨
        ∃ x, o = .threw x ∧ Steps p.tables e below (doInvoke e (T.setTop g) [] mk a).1 ((T'.setTop g).pushFrame (.throwing x))) := by
  obtain ⟨methY, cY, hmY, hcY, -, hlY, -, -, -, -⟩ := Cond.code_spec hn h2
  obtain ⟨kY, hkY, -⟩ := className_of_methodNamed hn
  have hinitY : kY.init = .initialized := Cond.initialized_spec (findClass_of_methodNamed hn) hkY h3
  have h : _root_.Jvm.At T g.method c below := by rw [hg]; exact X.here
  have happ : (headSpec ws rm).appliesLoose y e.platform (T.calling g mk a) = true :=
    Spec.appliesLoose_calling (g := g) h hdg hn hkY hinitY
      (X.room_calling (g := g) (R' := (headSpec ws rm).room) hsize hmY hcY hframes (by rw [hlY]; show _ + rm.locals ≤ _; omega) (by show cells + rm.cells ≤ _; omega) (by show slots + rm.slots ≤ _; omega)) h1
  obtain ⟨mid, hmid⟩ := h.above
  have hfr : (T.setTop g).frames = (.java g :: mid) ++ below := by rw [State.frames_setTop' g h.top, hmid]; rfl
  obtain ⟨o, s₂, hsteps, -, hend, hq, hW₂, L, hsm, hL⟩ := Steps.callFree hM p X.admits X.cas X.clock (acts := []) hfr happ hP trivial
  rw [State.frames_setTop' g h.top, X.tail] at hend
  cases o with
  | returned v =>
    obtain ⟨T', X', e1, e2, e4⟩ := X.outOf hg hdg hend hW₂ hsm
    exact ⟨_, T', s₂, L, X', hL, by rw [e4]; simp, by rw [e4]; simp, hq, Or.inl ⟨v, rfl, by rw [← e4]; exact hsteps⟩⟩
  | threw x =>
    obtain ⟨T', X', e1, e2, e4⟩ := X.outOfThrown hg hend hW₂ hsm
    exact ⟨_, T', s₂, L, X', hL, by rw [e4]; simp [State.pushFrame], by rw [e4]; simp [State.pushFrame], hq, Or.inr ⟨x, rfl, by rw [← e4]; exact hsteps⟩⟩
theorem z_mono {Q Q' : State → Prop} {H : Heap} {g : JFrame} (h : ∀ t, Q t → Q' t) (w : W p l e R s m args below meth c H locs cells slots Q g) : W p l e R s m args below meth c H locs cells slots Q' g := by
  intro T hT X
  obtain ⟨t, a, b⟩ := w T hT X
  exact ⟨t, a, h t b⟩
theorem MQ.toT {Qc : Array Value → State → Outcome → State → Prop} {mc ms : Nat} {free : Addr → Prop} {t : State} (h : MQ below Qc args s mc ms free t) : MQT below Qc args s mc ms free t := by
  obtain ⟨o, h1, h2, h3, L, ⟨-, h4, h5⟩, h6⟩ := h
  exact ⟨o, h1, h2, h3, h4, L, h5, h6⟩
end THR
section THR2
variable {p : Program} {l : Launch} {e : Env} {R : Room} {s : State} {m : MethodId} {args : Array Value} {below : List Frame} {meth : Method} {c : Code} {cells slots mc ms : Nat} {Q : State → Prop} {B : Nat} {D : va_G} {aC : Nat → ClassId} {aS : Nat → Nat} {nL : Nat} {cc : ByteArray} {own : String} {pc : Nat} {lv lv2 : List (Nat × Value)} {st rest st0 : List Value} {M : zM} {av : Array Value} {post : Option Value → zM → Prop} {postT : Nat → zM → Prop}
theorem a_widen (h1 : cells ≤ mc) (h2 : slots ≤ ms) (k : zAt p l e R s m args below meth c mc ms Q B D aC nL pc lv st M) : zAt p l e R s m args below meth c cells slots Q B D aC nL pc lv st M := fun H locs ls hP hl hS => W.widen h1 h2 (k H locs ls hP hl hS)
theorem a_iretT (fx : zFx p s m args c B D aC aS nL cc own) (hlo : meth.locks = false) (hr : meth.sig.returnType = some .int) {v : Int32} (h : post (some (.int v)) M) (hd : decode cc pc = .ok (.ireturn, 1)) : zAt p l e R s m args below meth c cells slots (MQT below (zQT B D aC post postT) args s cells slots (zAb B)) B D aC nL pc lv [.int v] M := fun H locs ls hP hl hS => z_mono (fun _ => MQ.toT) (W.iret fx.1 fx.2.1 hr (fun t ht hW => ⟨M, by rw [ht]; exact hP, hS.F ht, Or.inl ⟨_, rfl, h⟩⟩) hS.2.2 hd)
theorem a_vretT (fx : zFx p s m args c B D aC aS nL cc own) (hlo : meth.locks = false) (hr : meth.sig.returnType = none) (h : post none M) (hd : decode cc pc = .ok (.return_, 1)) : zAt p l e R s m args below meth c cells slots (MQT below (zQT B D aC post postT) args s cells slots (zAb B)) B D aC nL pc lv [] M := fun H locs ls hP hl hS => z_mono (fun _ => MQ.toT) (W.vret fx.1 fx.2.1 hr (fun t ht hW => ⟨M, by rw [ht]; exact hP, hS.F ht, Or.inl ⟨_, rfl, h⟩⟩) hS.2.2 hd)
theorem z_isRef {C n d : String} {A : Nat → Prop} {a : Array Value} {U : State} (h : va_Zq C n d A U U.heap) : (Cond.isRef (.static C n d)).before a U = true := by
  rcases h with ⟨cf, kf, fi, f, ad, cell, h1, h2, h3, h4, h5, h6, h7, h8⟩ | ⟨t, cf, kf, fi, f, ad, cell, h1, h2, h3, h4, h5, h6, h7, h8⟩
  · simp [Cond.before, Cond.holds, Cond.value, Term.eval, State.fieldNamed?, h1, h2, h4, h5, h6, h7]
  · simp [Cond.before, Cond.holds, Cond.value, Term.eval, State.fieldNamed?, h1, h2, h4, h5, h6, h7]
theorem z_rebase {T : State} {locs : List Loc} (X : Stand p l e R s m args below meth c T locs cells slots) (h1 : cells ≤ R.cells) (h2 : slots ≤ R.slots) :
    Stand p l e { R with cells := R.cells - cells, slots := R.slots - slots } ({ s with heap := T.heap, slotsUsed := T.slotsUsed } : State) m args below meth c T [] 0 0 := by
  refine ⟨X.admits, X.cas, X.clock, X.frames, ?_, X.hears, X.method, X.code, X.here, X.tail, X.warmed, X.limits, X.bytes, ?_⟩
  · have hr := X.room
    have hc := X.cellsAbove (n := R.cells - cells) (by omega)
    have hs := X.slotsAbove (n := R.slots - slots) (by omega)
    have hb := X.book
    simp only [State.hasRoom, Bool.and_eq_true, decide_eq_true_eq] at hr ⊢
    obtain ⟨⟨⟨⟨r1, r2⟩, r3⟩, r4⟩, r5⟩ := hr
    exact ⟨⟨⟨⟨r1, r2⟩, hc⟩, hs⟩, hb⟩
  · obtain ⟨e1, -⟩ := X.same
    refine ⟨e1, Nat.le_refl _, Nat.le_refl _, ?_, ?_, fun a c hc => ⟨c, hc, rfl, rfl, fun _ _ => rfl⟩⟩
    · show T.slotsUsed = T.slotsUsed + ((T.heap.toList.drop T.heap.size).map (·.slots.size)).sum
      rw [List.drop_eq_nil_of_le (by simp)]
      rfl
    · show ((T.heap.toList.drop T.heap.size).map (·.slots.size)).sum ≤ 0
      rw [List.drop_eq_nil_of_le (by simp)]
      exact Nat.le_refl _
set_option maxHeartbeats 4000000 in
/-- new X(); athrow: the exception leaves the method -/
theorem a_throw (fx : zFx p s m args c B D aC aS nL cc own) (hfl : l.flags = pinnedFlags ++ [noTraceFlag]) (hlo : meth.locks = false) (hno : c.exceptionTable.isEmpty = true) (k : Nat) (hk1 : 1 ≤ k) (hk4 : k ≤ 4) {i1 i2 : Nat}
    (hcl : Cond.classLink own i1 (exN k) ∈ tb) (hins : Cond.instantiable (exN k) 6 ∈ tb) (hini : Cond.initialized (exN k) ∈ tb) (hfit : Bundle.fit (exN k) = true)
    (hat : ∀ w ∈ Bundle.ownAtoms0 own i2 (exN k) ["java/lang/RuntimeException", "java/lang/Exception"], w ∈ tb ∨ w = .castable (exN k) (exN k) ∨ w = .isRef (.static Bundle.tN "UNASSIGNED_STACK" Bundle.steD) ∨ w = .isRef (.static Bundle.tN "SUPPRESSED_SENTINEL" Bundle.listD) ∨ ∃ q ∈ chainL, w = .declares ⟨q, "<init>", "()V"⟩)
    (hRf : 5 < R.frames) (hRl : (st.map fun v => v.category).sum + 90 ≤ R.locals) (hRc : cells + 1 ≤ R.cells) (hRs : slots + 6 ≤ R.slots)
    (d1 : decode cc pc = .ok (.new i1, 3)) (d2 : decode cc (pc + 3) = .ok (.dup, 1)) (d3 : decode cc (pc + 4) = .ok (.invokespecial i2, 3)) (d4 : decode cc (pc + 7) = .ok (.athrow, 1)) (h : postT k M) :
    zAt p l e R s m args below meth c cells slots (MQT below (zQT B D aC post postT) args s (cells + 1) (slots + 6) (zAb B)) B D aC nL pc lv st M := by
  intro H locs ls hP hl hS T0 hT0 X0
  have X1 := z_rebase X0 (by omega) (by omega)
  obtain ⟨sv, hsv⟩ : ∃ sv : State, sv = ({ s with heap := T0.heap, slotsUsed := T0.slotsUsed } : State) := ⟨_, rfl⟩
  rw [← hsv] at X1
  have hsvh : sv.heap = H := by rw [hsv]; exact hT0
  have hsvm : sv.vm = s.vm := by rw [hsv]
  obtain ⟨R', hR'⟩ : ∃ R' : Room, R' = { R with cells := R.cells - cells, slots := R.slots - slots } := ⟨_, rfl⟩
  rw [← hR'] at X1
  have hRc' : 0 + 1 ≤ R'.cells := by rw [hR']; show 0 + 1 ≤ R.cells - cells; omega
  have hRs' : 0 + 6 ≤ R'.slots := by rw [hR']; show 0 + 6 ≤ R.slots - slots; omega
  have hRf' : 5 < R'.frames := by rw [hR']; exact hRf
  have hRl' : (st.map fun v => v.category).sum + 90 ≤ R'.locals := by rw [hR']; exact hRl
  have hWs : s.WarmedH sv.vm := by rw [hsvm]; exact State.WarmedH.refl s
  have hC1 : zCx B D aC aS sv := (zWl_at (U := sv) fx hP hS hsvh hWs).2.2
  obtain ⟨hx, hb, hml, hown, hts, hC, hsz, hns⟩ := fx
  have hts1 : ∀ w ∈ tb, w.before args sv = true := fun w hw => word_at hWs (good_of_word (tb_good w hw)) (hts w hw)
  have hown1 : sv.vm.findClass own = some m.cls := by rw [hsvm]; exact hown
  have w1 : W p l e R' sv m args below meth c H [] 0 0
      (fun U => U.status = .running ∧ Ended U below (.threw H.size) ∧ sv.WarmedH U.vm ∧ sv.sameButNew ({ U with vm := sv.vm } : State) [] 1 6 ∧ ∃ ce, U.heap[H.size]? = some ce ∧ ce.vm.isStatics = false ∧ sv.vm.findClass (exN k) = some ce.cls) (F0 m pc ls st) := by
    have q1 := hts1 _ hcl
    have q2 := hts1 _ hins
    have q3 := hts1 _ hini
    refine W.newc hx hb hown1 q1 q2 q3 rfl d1 hRc' hRs' (fun cC kC g1 g2 g3 g4 => ?_)
    refine lv_dup hx hb d2 rfl ?_
    intro T hT X
    have hce : T.heap[H.size]? = some (freshCell cC kC) := by rw [hT]; simp [freshCell]
    have hat1 : ∀ w ∈ Bundle.ownAtoms0 own i2 (exN k) ["java/lang/RuntimeException", "java/lang/Exception"], w.before args sv = true := fun w hw => by
        rcases hat w hw with q | q | q | q | ⟨n, hn, q⟩
        · exact hts1 w q
        · rw [q]; exact va_Nw.use rfl (hC1.2.2.2.2.2.2.2.2.2.2.1 k hk1 hk4)
        · rw [q]; exact z_isRef hC1.2.2.2.2.2.1
        · rw [q]; exact z_isRef hC1.2.2.2.2.2.2.1
        · rw [q]; exact va_Nw.use rfl (hC1.2.2.2.2.2.2.2.2.2.2.2.2 n hn)
    have hRl2 : 2 * (F0 m (pc + 3 + 1) ls (.ref H.size :: .ref H.size :: st)).monitorRoom + ((Value.ref H.size :: st).map fun v => v.category).sum + (13 * ((["java/lang/RuntimeException", "java/lang/Exception"] : List String).length + 1) + 41) ≤ R'.locals := by
      show 2 * 0 + (1 + (List.map (fun v => v.category) st).sum) + (13 * (2 + 1) + 41) ≤ R'.locals
      omega
    have hnew : sv.heap.size ≤ H.size := by rw [hsvh]; exact Nat.le_refl _
    obtain ⟨U, s1, s2, s3, s4, s5, ce, c1, c2⟩ := X.ctorThrow0 hx (Launch.traces_off hfl X.admits) (own := own) (cls := exN k) (names := ["java/lang/RuntimeException", "java/lang/Exception"]) (ic := i2) hown1 hfit (by decide +kernel) hat1
      (fun x hx => by cases hx) g1 g2 hce hnew (g := F0 m (pc + 3 + 1) ls (.ref H.size :: .ref H.size :: st)) rfl (by rw [hml]; exact hl.1) rfl rfl rfl (by rw [hb]; exact d3) (by rw [hb]; exact d4) (fun x hx => by rw [Array.isEmpty_iff] at hno; rw [hno] at hx; cases hx) hRf' hRl2
    exact ⟨U, s1, s2, s3, s4, s5, ce, c1, by rw [c2.vm]; rfl, c2.cls⟩
  obtain ⟨U, a1, s2, s3, s4, s5, ce, c1, c2, c3⟩ := w1 T0 hT0 X1
  rw [hsvm] at s5 c3
  have hWU : s.WarmedH U.vm := State.WarmedH.trans hWs s4
  have hsame : s.sameButNew ({ U with vm := s.vm } : State) locs (cells + 1) (slots + 6) := by
    have e0 := X0.same.1
    have h1 : (T0.setVm s.vm).sameButNew ({ U with vm := s.vm } : State) [] 1 6 := by
      subst hsv
      obtain ⟨e1, e2, e3, e4, e5, e6⟩ := s5
      refine ⟨?_, e2, e3, e4, e5, e6⟩
      refine e1.trans ?_
      generalize ({ U with vm := s.vm } : State).frames = F
      have e7 : (T0.setVm s.vm).setFrames F = ({ s.setFrames F with heap := T0.heap, slotsUsed := T0.slotsUsed } : State) := by
        rw [e0]
        show ({ (s.setFrames (T0.setVm s.vm).frames).setFrames F with heap := T0.heap, slotsUsed := T0.slotsUsed } : State) = _
        rw [State.setFrames_setFrames]
      rw [e7]
      rfl
    have h2 := X0.same.trans h1
    rw [List.append_nil] at h2
    exact h2
  refine ⟨U, a1, .threw H.size, s2, s3, ?_, hWU, locs, hsame, hS.2.2⟩
  have hk : ∀ q : Nat, q < H.size → U.heap[q]? = H[q]? := by
    intro q hq
    obtain ⟨c', r1, r2, r3, r4⟩ := s5.2.2.2.2.2 q H[q] (by rw [hsvh]; exact Array.getElem?_eq_getElem hq)
    have e1 : c' = H[q] := by
      rw [r2]
      have e2 : c'.slots = H[q].slots := Array.ext_getElem? (fun i => r4 i (by simp))
      rw [e2]
    rw [Array.getElem?_eq_getElem hq, ← e1]
    exact r1
  refine ⟨M, hP.kept (fun j q hq => hk q.1 ((hP j q hq).lt)), ⟨?_, fun q h1 h2 => ?_⟩, Or.inr ⟨H.size, k, ce, rfl, h, c1, c2, c3⟩⟩
  · exact Nat.le_trans hS.1 (by have := s5.2.1; rw [hsvh] at this; exact this)
  · rw [hk q (Nat.lt_of_lt_of_le h1 hS.1)]
    exact hS.2.1 q h1 h2
/-- a call that may throw, from every heap that holds the memory -/
def zRunT (p : Program) (l : Launch) (e : Env) (R : Room) (s : State) (m : MethodId) (args : Array Value) (below : List Frame) (meth : Method) (c : Code) (cells slots mc ms : Nat) (B : Nat) (D : va_G) (aC : Nat → ClassId) (nL : Nat) (pc : Nat) (lv : List (Nat × Value)) (st0 rest : List Value) (M : zM) (post : Option Value → zM → Prop) (postT : Nat → zM → Prop) : Prop :=
  ∀ (H : Heap) (locs : List Loc) (ls : Array Slot), va_P D kcl (zcls B aC M) H → lv_has ls nL lv → va_S (zAb B) s.heap H locs → ∀ T : State, T.heap = H → Stand p l e R s m args below meth c T locs cells slots →
    ∃ (M2 : zM) (T2 : State) (L : List Loc), Stand p l e R s m args below meth c T2 (locs ++ L) (cells + mc) (slots + ms) ∧ va_P D kcl (zcls B aC M2) T2.heap ∧ va_S (zAb B) s.heap T2.heap (locs ++ L) ∧
      ((∃ v : Option Value, post v M2 ∧ ∀ tg, Steps p.tables e below (T2.setTop (F0 m (pc + 3) ls (v.toList ++ rest))) tg → Steps p.tables e below (T.setTop (F0 m pc ls st0)) tg) ∨
        ∃ (x k : Nat) (cell : Cell), postT k M2 ∧ T2.heap[x]? = some cell ∧ cell.vm.isStatics = false ∧ s.vm.findClass (exN k) = some cell.cls ∧ ∀ tg, Steps p.tables e below ((T2.setTop (F0 m pc ls rest)).pushFrame (.throwing x)) tg → Steps p.tables e below (T.setTop (F0 m pc ls st0)) tg)
theorem a_runVT (fx : zFx p s m args c B D aC aS nL cc own) {y : MethodName} {C : String} {b : ByteArray} {mx np : Nat} {ret : Option FieldType} {index k t N : Nat} {Tb : u_T} {rm : Room} {As : List Value} (cv : zCV y C b mx ret np) (hl : Cond.methodLink own index y ∈ tb)
    (hM : MetT l y (wo y b mx ret) rm (va_Pc (.ref (B + k) :: As) (zWl B D aC aS M)) (zQT B D aC post postT) mc ms (zAb B)) (hk : k < N0) (ht : tg k = t) (ht2 : t < 20) (hc : kcl[t]? = some (C, Tb, N)) (hn : As.length = np) (hst : st0 = As.reverse ++ .ref (B + k) :: rest) (hw : (rest.map fun v => v.category).sum ≤ 8)
    (hrc : rm.cells = mc) (hrs : rm.slots = ms) (hR : rm.frames + 1 ≤ R.frames ∧ 8 + (mx + 11) + rm.locals ≤ R.locals) (hd : decode cc pc = .ok (.invokevirtual index, 3)) (hf : cells + mc ≤ R.cells ∧ slots + ms ≤ R.slots) : zRunT p l e R s m args below meth c cells slots mc ms B D aC nL pc lv st0 rest M post postT := by
  intro H locs ls hP hlv hS T hT X
  subst hst
  obtain ⟨v1, v2, v3, v4, v5, v6, v7, v8⟩ := cv
  have hts := fx.2.2.2.2.1
  have hcode := hts _ v4
  obtain ⟨cellB, hcell, hobj, hcls⟩ := va_recv fx.2.2.2.2.2.1.1 hP hc ((zcls_at hk).trans (by rw [zcel_o ht ht2]))
  obtain ⟨mk, methM, hnamed, hmethM, hstM, habM⟩ := Cond.instanceMethod_spec (hts _ v1)
  obtain ⟨methM', cM, hmethM', -, -, -, -, -, -, hsigM⟩ := Cond.code_spec hnamed hcode
  cases hmethM.symm.trans hmethM'
  obtain ⟨c2, r2, m2, q1, q2, q3, q4, kP, hkP, hkPi⟩ := Cond.selects_spec (hts _ v2)
  cases hcls.symm.trans q1
  cases (State.methodFound?_of_named hnamed ⟨v6, v7⟩).symm.trans q2
  cases hnamed.symm.trans q3
  have hselP : selectMethod e.platform s.vm cellB.cls mk = .method mk := by rw [Launch.admits_selectMethod X.admits]; exact q4
  have hlen : As.length = methM.sig.parameters.length := by
    rw [hsigM] at v8
    exact hn.trans (Option.some.inj v8).symm
  obtain ⟨vm₁, X₁, hstep₁⟩ := X.invokevirtual fx.1 fx.2.2.2.1 (hts _ hl) hnamed hmethM hstM hkP hkPi ⟨v6, v7⟩ (a := B + k) (cell := cellB) (by rw [hT]; exact hcell)
    (fun z h => by rw [h] at hobj; cases hobj) hselP hmethM habM hkP hkPi (g := F0 m pc ls (As.reverse ++ .ref (B + k) :: rest)) rfl (argsL := As) (rest := rest) hlen rfl (by rw [fx.2.1]; exact hd)
  have hW1 : s.WarmedH (T.setVm vm₁).vm := X₁.warmed
  have hWl : zWl B D aC aS M (T.setVm vm₁) := zWl_at fx hP hS hT hW1
  obtain ⟨o, T2, t2, L, X2, hL, e1, e2, ⟨M2, hP2, hF2, hor⟩, hst⟩ := z_callT (bytes := b) (maxL := mx) (ret := ret) (W0 := 8) X₁ hM (g := F0 m pc ls rest) rfl (by show ls.size = _; rw [fx.2.2.1]; exact hlv.1) (by rw [fx.2.1]; exact hd) (lv_room hw) (X₁.named hnamed) (a := (Value.ref (B + k) :: As).toArray)
    hR.1 hR.2 hrc hrs hf.1 hf.2 (atoms_intro fun w hw => by
      rcases List.mem_cons.mp hw with h | h
      · rw [h]; exact word_at hW1 (z_good v4).2 hcode
      · exact word_at hW1 (z_good h).2 (hts w h)) (word_at hW1 (z_good v4).2 hcode) (by rw [v5]; exact word_at hW1 (z_good v3).2 (hts _ v3)) ⟨rfl, hWl.blind⟩
  have hF3 : H.size ≤ t2.heap.size ∧ ∀ q : Nat, q < H.size → ¬ zAb B q → t2.heap[q]? = H[q]? := by
    obtain ⟨g1, g2⟩ := hF2
    have e3 : ((T.setVm vm₁).calling (F0 m pc ls rest) mk (Value.ref (B + k) :: As).toArray).heap = H := hT
    rw [e3] at g1 g2
    exact ⟨g1, g2⟩
  have hS2 : va_S (zAb B) s.heap T2.heap (locs ++ L) := ⟨Nat.le_trans hS.1 (by rw [e1]; exact hF3.1), fun q h1 h2 => by rw [e1, hF3.2 q (Nat.lt_of_lt_of_le h1 hS.1) h2]; exact hS.2.1 q h1 h2, fun q hq => by
    rcases List.mem_append.mp hq with h | h
    · exact hS.2.2 q h
    · exact hL q h⟩
  refine ⟨M2, T2, L, X2, by rw [e1]; exact hP2, hS2, ?_⟩
  rcases hor with ⟨v, ho, hpo⟩ | ⟨x, kx, cell, ho, hpo, hx1, hx2, hx3⟩
  · rcases hst with ⟨v', ho', hs'⟩ | ⟨x', ho', -⟩
    · rw [ho] at ho'
      cases ho'
      exact Or.inl ⟨v, hpo, fun tg htg => hstep₁ _ fun acts => by rw [doInvoke_state]; exact hs'.trans htg⟩
    · rw [ho] at ho'
      cases ho'
  · rcases hst with ⟨v', ho', -⟩ | ⟨x', ho', hs'⟩
    · rw [ho] at ho'
      cases ho'
    · rw [ho] at ho'
      cases ho'
      have e4 : ((T.setVm vm₁).calling (F0 m pc ls rest) mk (Value.ref (B + k) :: As).toArray).vm = vm₁ := rfl
      rw [e4] at hx3
      have hal : s.vm.Alike vm₁ := hW1.alike
      rw [hal.findClass] at hx3
      exact Or.inr ⟨x, kx, cell, hpo, by rw [e1]; exact hx1, hx2, hx3, fun tg htg => hstep₁ _ fun acts => by rw [doInvoke_state]; exact hs'.trans htg⟩
/-- a call that may throw, in a method that catches nothing -/
theorem a_callTp {post2 : Option Value → zM → Prop} {postT2 : Nat → zM → Prop} (hlo : meth.locks = false) (hno : c.exceptionTable.isEmpty = true) (hr : zRunT p l e R s m args below meth c cells slots mc ms B D aC nL pc lv st0 rest M post postT)
    (k : ∀ (v : Option Value) (M2 : zM), post v M2 → zAt p l e R s m args below meth c (cells + mc) (slots + ms) (MQT below (zQT B D aC post2 postT2) args s (cells + mc) (slots + ms) (zAb B)) B D aC nL (pc + 3) lv (v.toList ++ rest) M2) (kt : ∀ (j : Nat) (M2 : zM), postT j M2 → postT2 j M2) :
    zAt p l e R s m args below meth c cells slots (MQT below (zQT B D aC post2 postT2) args s (cells + mc) (slots + ms) (zAb B)) B D aC nL pc lv st0 M := by
  intro H locs ls hP hl hS T hT X
  obtain ⟨M2, T2, L, X2, hP2, hS2, hor⟩ := hr H locs ls hP hl hS T hT X
  rcases hor with ⟨v, hpo, hst⟩ | ⟨x, j, cell, hpo, hx1, hx2, hx3, hst⟩
  · obtain ⟨t, a1, b1⟩ := k v M2 hpo T2.heap _ ls hP2 hl hS2 T2 rfl X2
    exact ⟨t, hst t a1, b1⟩
  · obtain ⟨w1, w2, w3, w4, w5⟩ := X2.leaveThrown x (g := F0 m pc ls rest) rfl rfl rfl (fun x hx => by rw [Array.isEmpty_iff] at hno; rw [hno] at hx; cases hx)
    exact ⟨_, hst _ w1, .threw x, w2, w3, ⟨M2, hP2, hS2.F rfl, Or.inr ⟨x, j, cell, rfl, kt j M2 hpo, hx1, hx2, hx3⟩⟩, w4, _, w5, hS2.2.2⟩
/-- a contract of a method that may throw is met, if the walk from its entry meets it -/
theorem z_metT {y : MethodName} {b : ByteArray} {mx : Nat} {ret : Option FieldType} {rm : Room} {as : List Value} {lv0 : List (Nat × Value)} {Qc : Array Value → State → Outcome → State → Prop} (hy : plainName y.cls = true) (ho : y.cls = own) (hlen : (lg_sl as).length ≤ mx) (hlv : lv_args 0 as = lv0)
    (body : ∀ p e s m below meth c, zFx p s m as.toArray c B D aC aS mx b own → meth.sig.returnType = ret → meth.locks = false → c.exceptionTable.isEmpty = true → zAt p l e rm s m as.toArray below meth c 0 0 (MQT below Qc as.toArray s mc ms (zAb B)) B D aC mx 0 lv0 [] M) : MetT l y (wo y b mx ret) rm (va_Pc as (zWl B D aC aS M)) Qc mc ms (zAb B) := by
  refine MetT.ofW (cc := b) (maxL := mx) (ret := ret) hy rfl ?_
  intro p e s m args below meth c s₁ BB hml hv
  obtain ⟨rfl, hP, hsz, hC⟩ := hv
  subst ho
  have hl := lv_entry as (n := mx) hlen
  rw [lg_entry_eq]
  rw [hlv] at hl
  have hts := atoms_spec (ws := wo y b mx ret) BB.pre
  exact body p e s m below meth c ⟨BB.exec, BB.bytes, hml, findClass_of_methodNamed BB.named, fun w hw => hts w (List.mem_cons_of_mem _ hw), hC, hsz, zcls_ns hP⟩ BB.returns BB.notSynchronized (BB.noHandlers (hts _ List.mem_cons_self)) s.heap [] _ hP hl va_S.rf
end THR2
section THR3
variable {p : Program} {l : Launch} {e : Env} {R : Room} {s : State} {m : MethodId} {args : Array Value} {below : List Frame} {meth : Method} {c : Code} {cells slots mc ms : Nat} {Q : State → Prop} {B : Nat} {D : va_G} {aC : Nat → ClassId} {aS : Nat → Nat} {nL : Nat} {cc : ByteArray} {own : String} {pc : Nat} {lv lv2 : List (Nat × Value)} {st rest st0 : List Value} {M : zM} {av : Array Value} {post : Option Value → zM → Prop} {postT : Nat → zM → Prop}
/-- one row of a handler table, its class resolved then and there -/
theorem z_go1 {u : State} {f : JFrame} {a : Addr} {x : ExceptionTableEntry} {t : List ExceptionTableEntry} {cx : ClassId} {vm' : Vm} {cell : Cell} {Qh : Handler → Pre} {E : CtlPost} {d : Bool} {acts : List Action} (hx : covers x f.pc = true) (h0 : x.catchType ≠ 0)
    (hg : (resolveClass f.method.cls x.catchType).Gives e.toSetting u.vm (.ok cx) vm') (hsz : vm'.classes.size ≤ u.vm.classes.size) (hcell : u.heap[a]? = some cell) (hobj : ∀ k, cell.vm ≠ .statics k) (hk : ∃ k, vm'.classes[cell.cls]? = some k) (hc : ∃ k, vm'.classes[cx]? = some k) :
    wp (findHandler.go f a (x :: t)) Qh E e d acts u ↔ if vm'.assignable cell.cls cx = true then Qh (.found x.handlerPc) d acts (u.setVm vm') else wp (findHandler.go f a t) Qh E e d acts (u.setVm vm') := by
  obtain ⟨ha, ht⟩ := hg.op (op := VmOp.resolveClass f.method.cls x.catchType) rfl
  simp only [covers] at hx
  have hsz2 : ((VmOp.resolveClass f.method.cls x.catchType).tables e u.vm).classes.size ≤ u.vm.classes.size := by rw [ht]; exact hsz
  cases hfit : vm'.assignable cell.cls cx <;>
    simp [findHandler.go, hx, h0, _root_.Jvm.W.vmOp_same _ hsz2, ha, ht, hcell, hobj, hk, hc, hfit, VmOp.dirties, VmOp.acts]
def pickH (kx : Nat) : List (Nat × Nat) → Option Nat
  | [] => none
  | h :: r => if h.2 = kx then some h.1 else if (kx, h.2) ∈ neL then pickH kx r else none
def okH (own : String) (pc : Nat) : List ExceptionTableEntry → List (Nat × Nat) → Prop
  | [], [] => True
  | x :: t, h :: r => covers x pc = true ∧ x.catchType ≠ 0 ∧ x.handlerPc = h.1 ∧ Cond.classLink own x.catchType (exN h.2) ∈ tb ∧ okH own pc t r
  | _, _ => False
theorem z_find (fx : zFx p s m args c B D aC aS nL cc own) (hpl : e.platform.magicAccessors = ({} : Platform).magicAccessors) {f : JFrame} (hf : f.method = m) {a : Addr} {kx : Nat} {cell : Cell} (hobj : cell.vm.isStatics = false) (hcls : s.vm.findClass (exN kx) = some cell.cls) : ∀ (tbl : List ExceptionTableEntry) (hs : List (Nat × Nat)) (hpc : Nat), okH own f.pc tbl hs → pickH kx hs = some hpc → ∀ u : State, s.WarmedH u.vm → u.heap[a]? = some cell →
    ∃ vm', s.WarmedH vm' ∧ ∀ (Qh : Handler → Pre) (E : CtlPost) (d : Bool) (acts : List Action), wp (findHandler.go f a tbl) Qh E e d acts u ↔ Qh (.found hpc) d acts (u.setVm vm') := by
  intro tbl
  induction tbl with
  | nil =>
    intro hs hpc hok hp
    cases hs with
    | nil => cases hp
    | cons h r => exact hok.elim
  | cons x t ih =>
    intro hs hpc hok hp u hW hcell
    cases hs with
    | nil => exact hok.elim
    | cons h r =>
      obtain ⟨o1, o2, o3, o4, o5⟩ := hok
      obtain ⟨cx, hfx, hcl⟩ := Cond.classLink_spec fx.2.2.2.1 (fx.2.2.2.2.1 _ o4) e.platform hpl
      obtain ⟨g1, g2, g3⟩ := State.classEntry (e := e) hW hcl
      rw [← hf] at g1 g2
      generalize u.vm.noted f.method.cls x.catchType (.cls cx) = vm1 at g1 g2
      have hsz : vm1.classes.size ≤ u.vm.classes.size := by
        have h1 := g2.alike
        have h2 := hW.alike
        exact Nat.le_trans (Vm.Alike.size_le h1) (Vm.Alike.size_le h2.symm)
      have hk : ∃ k, vm1.classes[cell.cls]? = some k := by
        obtain ⟨k, hk⟩ := Vm.classAt_of_findClass hcls
        obtain ⟨k', hk', -⟩ := g2.alike.2.2 _ _ hk
        exact ⟨k', hk'⟩
      have hc2 : ∃ k, vm1.classes[cx]? = some k := by
        obtain ⟨k, hk⟩ := Vm.classAt_of_findClass hfx
        obtain ⟨k', hk', -⟩ := g2.alike.2.2 _ _ hk
        exact ⟨k', hk'⟩
      have hob : ∀ k, cell.vm ≠ .statics k := fun k h => by rw [h] at hobj; cases hobj
      by_cases he : h.2 = kx
      · rw [pickH, if_pos he] at hp
        cases hp
        rw [he] at hfx
        have e1 : cx = cell.cls := Option.some.inj (hfx.symm.trans hcls)
        refine ⟨vm1, g2, fun Qh E d acts => ?_⟩
        rw [z_go1 o1 o2 g1 hsz hcell hob hk hc2, e1, if_pos (va_asg _ _), o3]
      · rw [pickH, if_neg he] at hp
        by_cases hn : (kx, h.2) ∈ neL
        · rw [if_pos hn] at hp
          obtain ⟨c1, c2, q1, q2, q3⟩ := fx.2.2.2.2.2.1.2.2.2.2.2.2.2.2.2.2.2.1 _ hn
          have e1 : c1 = cell.cls := Option.some.inj (q1.symm.trans hcls)
          have e2 : c2 = cx := Option.some.inj (q2.symm.trans hfx)
          subst e1
          subst e2
          obtain ⟨vm2, hW2, h2⟩ := ih r hpc o5 hp (u.setVm vm1) g2 hcell
          refine ⟨vm2, hW2, fun Qh E d acts => ?_⟩
          rw [z_go1 o1 o2 g1 hsz hcell hob hk hc2, if_neg (by rw [g2.alike.assignable, q3]; decide)]
          exact h2 Qh E d acts
        · rw [if_neg hn] at hp
          cases hp
/-- a call that may throw, in a method that catches what comes -/
theorem a_callTc (fx : zFx p s m args c B D aC aS nL cc own) (hr : zRunT p l e R s m args below meth c cells slots mc ms B D aC nL pc lv st0 rest M post postT) {hs : List (Nat × Nat)} (hok : okH own pc c.exceptionTable.toList hs)
    (k : ∀ (v : Option Value) (M2 : zM), post v M2 → zAt p l e R s m args below meth c (cells + mc) (slots + ms) Q B D aC nL (pc + 3) lv (v.toList ++ rest) M2)
    (kt : ∀ (j : Nat) (M2 : zM), postT j M2 → ∃ hpc, pickH j hs = some hpc ∧ ∀ x : Nat, zAt p l e R s m args below meth c (cells + mc) (slots + ms) Q B D aC nL hpc lv [.ref x] M2) :
    zAt p l e R s m args below meth c cells slots Q B D aC nL pc lv st0 M := by
  intro H locs ls hP hl hS T hT X
  obtain ⟨M2, T2, L, X2, hP2, hS2, hor⟩ := hr H locs ls hP hl hS T hT X
  rcases hor with ⟨v, hpo, hst⟩ | ⟨x, j, cell, hpo, hx1, hx2, hx3, hst⟩
  · obtain ⟨t, a1, b1⟩ := k v M2 hpo T2.heap _ ls hP2 hl hS2 T2 rfl X2
    exact ⟨t, hst t a1, b1⟩
  · obtain ⟨hpc, hp, kk⟩ := kt j M2 hpo
    have hpl : e.platform.magicAccessors = ({} : Platform).magicAccessors := by rw [X.admits.platform]
    have hu1 : (((T2.setTop (F0 m pc ls rest)).pushFrame (.throwing x))).vm = T2.vm := Stand.throwing_vm _ _ _
    have hu2 : (((T2.setTop (F0 m pc ls rest)).pushFrame (.throwing x))).heap = T2.heap := Stand.throwing_heap _ _ _
    obtain ⟨vm2, hW2, hfind⟩ := z_find (e := e) fx hpl (f := F0 m pc ls rest) rfl (a := x) hx2 hx3 c.exceptionTable.toList hs hpc hok hp ((T2.setTop (F0 m pc ls rest)).pushFrame (.throwing x)) (by rw [hu1]; exact X2.warmed) (by rw [hu2]; exact hx1)
    have X3 := X2.noted hW2
    obtain ⟨t, a1, b1⟩ := kk x T2.heap _ ls hP2 hl hS2 (T2.setVm vm2) rfl X3
    refine ⟨t, hst t ?_, b1⟩
    have hat : _root_.Jvm.At T2 (F0 m pc ls rest).method c below := X2.here
    obtain ⟨hgo, hw⟩ := hat.throwing x
    refine Steps.head hgo hw ?_
    have hmeth : ((T2.setTop (F0 m pc ls rest)).pushFrame (.throwing x)).vm.method? (F0 m pc ls rest).method = some meth := by rw [hu1]; exact X2.method'
    have hIs : (stepThrowing e ((T2.setTop (F0 m pc ls rest)).pushFrame (.throwing x)) x (.java (F0 m pc ls rest) :: T2.frames.tail)).Is ((((T2.setTop (F0 m pc ls rest)).pushFrame (.throwing x)).setVm vm2).setFrames (.java { (F0 m pc ls rest) with pc := hpc, stack := [.ref x] } :: T2.frames.tail)) [] := by
      simp only [stepThrowing, searchFrame, vmDo]
      generalize hr2 : Sem.go _ e false [] ((T2.setTop (F0 m pc ls rest)).pushFrame (.throwing x)) = res
      obtain ⟨as, rfl, ha⟩ := Sem.eq_ok_of hr2 (a := Handler.found hpc) (s' := ((T2.setTop (F0 m pc ls rest)).pushFrame (.throwing x)).setVm vm2) (acts' := []) (by
        simp [_root_.Jvm.W.findHandler_eq hmeth X2.code, hfind])
      exact ⟨rfl, ha⟩
    rw [stepThread_throwing (frames_entered hat.top _), hIs.1]
    obtain ⟨g₀, hg⟩ := Option.isSome_iff_exists.mp hat.top
    obtain ⟨r, hr3⟩ := State.topJava?_eq_some.mp hg
    have e1 : T2.frames.tail = r := by rw [hr3]; rfl
    have e2 : (T2.setVm vm2).setTop (F0 m hpc ls [.ref x]) = (T2.setVm vm2).setFrames (.java (F0 m hpc ls [.ref x]) :: r) := State.setTop_of_frames _ (show (T2.setVm vm2).frames = _ from hr3)
    rw [e2] at a1
    rw [e1]
    have e3 : (((T2.setTop (F0 m pc ls rest)).pushFrame (.throwing x)).setVm vm2).setFrames (.java (F0 m hpc ls [.ref x]) :: r) = (T2.setVm vm2).setFrames (.java (F0 m hpc ls [.ref x]) :: r) := by
      rw [State.pushFrame, State.setTop_of_frames _ hr3]
      show (((T2.setVm vm2).setFrames _).setFrames _).setFrames _ = _
      rw [State.setFrames_setFrames, State.setFrames_setFrames]
    show Steps p.tables e below ((((T2.setTop (F0 m pc ls rest)).pushFrame (.throwing x)).setVm vm2).setFrames (.java (F0 m hpc ls [.ref x]) :: r)) t
    rw [e3]
    exact a1
abbrev woW (y : MethodName) (b : ByteArray) (n : Nat) (r : Option FieldType) (hh : List (Nat × Nat × Nat × Nat)) : List Cond := Cond.codeWith y b n r hh :: tb
/-- a contract of a method with handlers is met, if the walk from its entry meets it -/
theorem z_metW {y : MethodName} {b : ByteArray} {mx : Nat} {ret : Option FieldType} {hh : List (Nat × Nat × Nat × Nat)} {rm : Room} {as : List Value} {lv0 : List (Nat × Value)} {Qc : Array Value → State → Outcome → State → Prop} (hy : plainName y.cls = true) (ho : y.cls = own) (hlen : (lg_sl as).length ≤ mx) (hlv : lv_args 0 as = lv0)
    (body : ∀ p e s m below meth c, zFx p s m as.toArray c B D aC aS mx b own → meth.sig.returnType = ret → meth.locks = false → c.exceptionTable.toList.map (fun h => (h.startPc, h.endPc, h.handlerPc, h.catchType)) = hh → zAt p l e rm s m as.toArray below meth c 0 0 (MQ below Qc as.toArray s mc ms (zAb B)) B D aC mx 0 lv0 [] M) : Met l y (woW y b mx ret hh) rm (va_Pc as (zWl B D aC aS M)) Qc mc ms (zAb B) := by
  refine va_MetW (cc := b) (maxL := mx) (ret := ret) (hh := hh) hy rfl ?_
  intro p e s m args below meth c s₁ BB hml hv
  obtain ⟨rfl, hP, hsz, hC⟩ := hv
  subst ho
  have hl := lv_entry as (n := mx) hlen
  rw [lg_entry_eq]
  rw [hlv] at hl
  have hts := atoms_spec (ws := woW y b mx ret hh) BB.pre
  obtain ⟨m9, meth9, c9, k1, k2, k3, k4, k5, k6, k7, k8, -⟩ := Cond.codeWith_spec (hts _ List.mem_cons_self)
  cases BB.named.symm.trans k1
  cases BB.method.symm.trans k2
  cases (Stand.of_body BB).code.symm.trans k3
  exact body p e s m below meth c ⟨BB.exec, BB.bytes, hml, findClass_of_methodNamed BB.named, fun w hw => hts w (List.mem_cons_of_mem _ hw), hC, hsz, zcls_ns hP⟩ BB.returns BB.notSynchronized k6 s.heap [] _ hP hl va_S.rf
def zCW (y : MethodName) (b : ByteArray) (n : Nat) (r : Option FieldType) (hh : List (Nat × Nat × Nat × Nat)) (np : Nat) : Prop := Cond.static y ∈ tb ∧ Cond.initialized y.cls ∈ tb ∧ Cond.codeWith y b n r hh ∈ tb ∧ (y.cls ≠ "java/lang/invoke/MethodHandle" ∧ y.cls ≠ "java/lang/invoke/VarHandle" ∧ (parseMethodDescriptor y.desc).map (fun d => d.parameters.length) = some np)
theorem a_runSW (fx : zFx p s m args c B D aC aS nL cc own) {y : MethodName} {b : ByteArray} {mx np : Nat} {ret : Option FieldType} {hh : List (Nat × Nat × Nat × Nat)} {index : Nat} {rm : Room} {As : List Value} {Qc : Array Value → State → Outcome → State → Prop} (cv : zCW y b mx ret hh np) (hl : Cond.methodLink own index y ∈ tb)
    (hM : Met l y (woW y b mx ret hh) rm (va_Pc As (zWl B D aC aS M)) Qc mc ms (zAb B)) (hn : As.length = np) (hst : st0 = As.reverse ++ rest) (hw : (rest.map fun v => v.category).sum ≤ 8)
    (hrc : rm.cells = mc) (hrs : rm.slots = ms) (hR : rm.frames + 1 ≤ R.frames ∧ 8 + (mx + 11) + rm.locals ≤ R.locals) (hd : decode cc pc = .ok (.invokestatic index, 3)) (hf : cells + mc ≤ R.cells ∧ slots + ms ≤ R.slots) : zRun p l e R s m args below meth c cells slots mc ms B D aC nL pc lv st0 rest M (Qc As.toArray) := by
  intro H locs ls hP hlv hS T hT X
  subst hst
  obtain ⟨v1, v2, v3, v6, v7, v8⟩ := cv
  have hts := fx.2.2.2.2.1
  obtain ⟨mk, methM, cM, hnamed, hmethM, -, -, -, -, -, -, hsigM⟩ := Cond.codeWith_spec (hts _ v3)
  have hstatic : methM.isStatic = true := Cond.static_spec hnamed hmethM (hts _ v1)
  obtain ⟨kP, hkP, -⟩ := className_of_methodNamed hnamed
  have hinitP : kP.init = .initialized := Cond.initialized_spec (findClass_of_methodNamed hnamed) hkP (hts _ v2)
  have hlen : As.length = methM.sig.parameters.length := by
    rw [hsigM] at v8
    exact hn.trans (Option.some.inj v8).symm
  have hK : Back l R p e below s args y 3 8 (PreOf R mc ms (va_Pc As (zWl B D aC aS M))) (PostOf Qc mc ms (zAb B)) := va_backW (hh := hh) (bytes := b) (maxL := mx) (ret := ret) hM (fun a U g mk q => ⟨q.1, q.2.blind⟩) hrc hrs hR.1 hR.2 (fun w hw a' U hW => by
      rcases List.mem_cons.mp hw with h | h
      · rw [h]; exact word_at hW (z_good v3).2 (hts _ v3)
      · exact word_at hW (z_good h).2 (hts w h)) List.mem_cons_self (fun a' U hW => word_at hW (z_good v2).2 (hts _ v2))
  obtain ⟨vm₁, X₁, hstep₁⟩ := X.invokestatic fx.1 fx.2.2.2.1 (hts _ hl) hnamed hmethM hstatic hkP hinitP ⟨v6, v7⟩ (g := F0 m pc ls (As.reverse ++ rest)) rfl (argsL := As) (rest := rest) hlen rfl (by rw [fx.2.1]; exact hd)
  obtain ⟨v, ⟨U', l2, c2, s2⟩, X', ⟨g', mk', t, L, e1, e2, hq, h1, hL, h2, h3⟩, hsteps⟩ := hK m meth c ⟨T.setVm vm₁, locs, cells, slots⟩ (F0 m pc ls rest) (.invokestatic index) mk As.toArray X₁ rfl (by show ls.size = _; rw [fx.2.2.1]; exact hlv.1) (by rw [fx.2.1]; exact hd) (lv_room hw) (X₁.named hnamed) ⟨hf.1, hf.2, rfl, zWl_at fx hP hS hT X₁.warmed⟩
  dsimp only [Pt.U, Pt.locs, Pt.cells, Pt.slots] at X' e1 e2 h1 h2 h3 hsteps
  subst h1; subst h2; subst h3
  exact ⟨v, (T.setVm vm₁).calling g' mk' As.toArray, t, U', L, hT, X', hL, e1, e2, hq, fun target h => hstep₁ _ fun acts => by rw [doInvoke_state]; exact hsteps.trans h⟩
end THR3
end
