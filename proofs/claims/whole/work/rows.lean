section
-- ===== PART A: goes FIRST, ahead of the names: the tables' words, and 'selects' of the private methods out of them =====
/-- a private method of a class that the tables say can be made, by its rows of tables_1 -/
def lw_okq (q : MethodName × Nat) : Prop := (q.1.cls ≠ "java/lang/invoke/MethodHandle" ∧ q.1.cls ≠ "java/lang/invoke/VarHandle") ∧ Cond.instantiable q.1.cls q.2 ∈ tables_1 ∧ Cond.privateMethod q.1 ∈ tables_1 ∧ Cond.instanceMethod q.1 ∈ tables_1
theorem lw_p0 : lw_okq (⟨"MailChain$PartLine", "number", "(LMailChain$Row;Ljava/lang/String;J)J"⟩, 5) := ⟨⟨by decide +kernel, by decide +kernel⟩, List.mem_of_getElem? (i := 190) (by decide +kernel), List.mem_of_getElem? (i := 392) (by decide +kernel), List.mem_of_getElem? (i := 393) (by decide +kernel)⟩
theorem lw_p1 : lw_okq (⟨"MailChain$Expander", "begin", "()V"⟩, 7) := ⟨⟨by decide +kernel, by decide +kernel⟩, List.mem_of_getElem? (i := 274) (by decide +kernel), List.mem_of_getElem? (i := 554) (by decide +kernel), List.mem_of_getElem? (i := 555) (by decide +kernel)⟩
theorem lw_p2 : lw_okq (⟨"MailChain$Expander", "readCode", "(LMailChain$Row;)I"⟩, 7) := ⟨⟨by decide +kernel, by decide +kernel⟩, List.mem_of_getElem? (i := 274) (by decide +kernel), List.mem_of_getElem? (i := 558) (by decide +kernel), List.mem_of_getElem? (i := 559) (by decide +kernel)⟩
theorem lw_p3 : lw_okq (⟨"MailChain$Expander", "changeWidth", "(I)V"⟩, 7) := ⟨⟨by decide +kernel, by decide +kernel⟩, List.mem_of_getElem? (i := 274) (by decide +kernel), List.mem_of_getElem? (i := 562) (by decide +kernel), List.mem_of_getElem? (i := 563) (by decide +kernel)⟩
theorem lw_p4 : lw_okq (⟨"MailChain$Expander", "tell", "(ILMailChain$Row;)Z"⟩, 7) := ⟨⟨by decide +kernel, by decide +kernel⟩, List.mem_of_getElem? (i := 274) (by decide +kernel), List.mem_of_getElem? (i := 567) (by decide +kernel), List.mem_of_getElem? (i := 568) (by decide +kernel)⟩
theorem lw_p5 : lw_okq (⟨"MailChain$Expander", "restart", "()V"⟩, 7) := ⟨⟨by decide +kernel, by decide +kernel⟩, List.mem_of_getElem? (i := 274) (by decide +kernel), List.mem_of_getElem? (i := 573) (by decide +kernel), List.mem_of_getElem? (i := 574) (by decide +kernel)⟩
theorem lw_p6 : lw_okq (⟨"MailChain$Squeezer", "begin", "(I)V"⟩, 9) := ⟨⟨by decide +kernel, by decide +kernel⟩, List.mem_of_getElem? (i := 240) (by decide +kernel), List.mem_of_getElem? (i := 584) (by decide +kernel), List.mem_of_getElem? (i := 585) (by decide +kernel)⟩
theorem lw_p7 : lw_okq (⟨"MailChain$Squeezer", "forget", "()V"⟩, 9) := ⟨⟨by decide +kernel, by decide +kernel⟩, List.mem_of_getElem? (i := 240) (by decide +kernel), List.mem_of_getElem? (i := 588) (by decide +kernel), List.mem_of_getElem? (i := 589) (by decide +kernel)⟩
theorem lw_p8 : lw_okq (⟨"java/lang/Throwable", "fillInStackTrace", "(I)Ljava/lang/Throwable;"⟩, 6) := ⟨⟨by decide +kernel, by decide +kernel⟩, List.mem_of_getElem? (i := 638) (by decide +kernel), List.mem_of_getElem? (i := 636) (by decide +kernel), List.mem_of_getElem? (i := 637) (by decide +kernel)⟩
theorem lw_p9 : lw_okq (⟨"MailChain$Squeezer", "childOf", "(II)I"⟩, 9) := ⟨⟨by decide +kernel, by decide +kernel⟩, List.mem_of_getElem? (i := 240) (by decide +kernel), List.mem_of_getElem? (i := 900) (by decide +kernel), List.mem_of_getElem? (i := 901) (by decide +kernel)⟩
theorem lw_p10 : lw_okq (⟨"MailChain$Squeezer", "putCode", "(ILMailChain$Row;)V"⟩, 9) := ⟨⟨by decide +kernel, by decide +kernel⟩, List.mem_of_getElem? (i := 240) (by decide +kernel), List.mem_of_getElem? (i := 904) (by decide +kernel), List.mem_of_getElem? (i := 905) (by decide +kernel)⟩
theorem lw_p11 : lw_okq (⟨"MailChain$Squeezer", "changeWidth", "(ILMailChain$Row;)V"⟩, 9) := ⟨⟨by decide +kernel, by decide +kernel⟩, List.mem_of_getElem? (i := 240) (by decide +kernel), List.mem_of_getElem? (i := 908) (by decide +kernel), List.mem_of_getElem? (i := 909) (by decide +kernel)⟩
theorem lw_p12 : lw_okq (⟨"MailChain$Squeezer", "putBits", "(ILMailChain$Row;)V"⟩, 9) := ⟨⟨by decide +kernel, by decide +kernel⟩, List.mem_of_getElem? (i := 240) (by decide +kernel), List.mem_of_getElem? (i := 912) (by decide +kernel), List.mem_of_getElem? (i := 913) (by decide +kernel)⟩
theorem lw_p13 : lw_okq (⟨"MailChain$Squeezer", "learn", "(IILMailChain$Row;)V"⟩, 9) := ⟨⟨by decide +kernel, by decide +kernel⟩, List.mem_of_getElem? (i := 240) (by decide +kernel), List.mem_of_getElem? (i := 916) (by decide +kernel), List.mem_of_getElem? (i := 917) (by decide +kernel)⟩
theorem lw_p14 : lw_okq (⟨"MailChain$Tree", "insertDraft", "()I"⟩, 4) := ⟨⟨by decide +kernel, by decide +kernel⟩, List.mem_of_getElem? (i := 64) (by decide +kernel), List.mem_of_getElem? (i := 970) (by decide +kernel), List.mem_of_getElem? (i := 971) (by decide +kernel)⟩
theorem lw_p15 : lw_okq (⟨"MailChain$Entry", "isName", "(II)Z"⟩, 9) := ⟨⟨by decide +kernel, by decide +kernel⟩, List.mem_of_getElem? (i := 71) (by decide +kernel), List.mem_of_getElem? (i := 979) (by decide +kernel), List.mem_of_getElem? (i := 980) (by decide +kernel)⟩
def lw_privs_1 : List (MethodName × Nat) := [(⟨"MailChain$PartLine", "number", "(LMailChain$Row;Ljava/lang/String;J)J"⟩, 5), (⟨"MailChain$Expander", "begin", "()V"⟩, 7), (⟨"MailChain$Expander", "readCode", "(LMailChain$Row;)I"⟩, 7), (⟨"MailChain$Expander", "changeWidth", "(I)V"⟩, 7), (⟨"MailChain$Expander", "tell", "(ILMailChain$Row;)Z"⟩, 7), (⟨"MailChain$Expander", "restart", "()V"⟩, 7), (⟨"MailChain$Squeezer", "begin", "(I)V"⟩, 9), (⟨"MailChain$Squeezer", "forget", "()V"⟩, 9), (⟨"java/lang/Throwable", "fillInStackTrace", "(I)Ljava/lang/Throwable;"⟩, 6), (⟨"MailChain$Squeezer", "childOf", "(II)I"⟩, 9), (⟨"MailChain$Squeezer", "putCode", "(ILMailChain$Row;)V"⟩, 9), (⟨"MailChain$Squeezer", "changeWidth", "(ILMailChain$Row;)V"⟩, 9), (⟨"MailChain$Squeezer", "putBits", "(ILMailChain$Row;)V"⟩, 9), (⟨"MailChain$Squeezer", "learn", "(IILMailChain$Row;)V"⟩, 9), (⟨"MailChain$Tree", "insertDraft", "()I"⟩, 4), (⟨"MailChain$Entry", "isName", "(II)Z"⟩, 9)]
theorem lw_r1 : ∀ q ∈ lw_privs_1, lw_okq q := List.forall_mem_cons.mpr ⟨lw_p0, List.forall_mem_cons.mpr ⟨lw_p1, List.forall_mem_cons.mpr ⟨lw_p2, List.forall_mem_cons.mpr ⟨lw_p3, List.forall_mem_cons.mpr ⟨lw_p4, List.forall_mem_cons.mpr ⟨lw_p5, List.forall_mem_cons.mpr ⟨lw_p6, List.forall_mem_cons.mpr ⟨lw_p7, List.forall_mem_cons.mpr ⟨lw_p8, List.forall_mem_cons.mpr ⟨lw_p9, List.forall_mem_cons.mpr ⟨lw_p10, List.forall_mem_cons.mpr ⟨lw_p11, List.forall_mem_cons.mpr ⟨lw_p12, List.forall_mem_cons.mpr ⟨lw_p13, List.forall_mem_cons.mpr ⟨lw_p14, List.forall_mem_cons.mpr ⟨lw_p15, fun _ h => absurd h List.not_mem_nil⟩⟩⟩⟩⟩⟩⟩⟩⟩⟩⟩⟩⟩⟩⟩⟩
theorem lw_p16 : lw_okq (⟨"MailChain$Tree", "hasParentOf", "(LMailChain$Entry;)Z"⟩, 4) := ⟨⟨by decide +kernel, by decide +kernel⟩, List.mem_of_getElem? (i := 64) (by decide +kernel), List.mem_of_getElem? (i := 983) (by decide +kernel), List.mem_of_getElem? (i := 984) (by decide +kernel)⟩
theorem lw_p17 : lw_okq (⟨"MailChain$Tree", "placeOf", "(LMailChain$Row;I)I"⟩, 4) := ⟨⟨by decide +kernel, by decide +kernel⟩, List.mem_of_getElem? (i := 64) (by decide +kernel), List.mem_of_getElem? (i := 991) (by decide +kernel), List.mem_of_getElem? (i := 992) (by decide +kernel)⟩
theorem lw_p18 : lw_okq (⟨"MailChain", "swapYours", "()V"⟩, 14) := ⟨⟨by decide +kernel, by decide +kernel⟩, List.mem_of_getElem? (i := 33) (by decide +kernel), List.mem_of_getElem? (i := 1039) (by decide +kernel), List.mem_of_getElem? (i := 1040) (by decide +kernel)⟩
theorem lw_p19 : lw_okq (⟨"MailChain", "afterEntering", "(I)I"⟩, 14) := ⟨⟨by decide +kernel, by decide +kernel⟩, List.mem_of_getElem? (i := 33) (by decide +kernel), List.mem_of_getElem? (i := 1099) (by decide +kernel), List.mem_of_getElem? (i := 1100) (by decide +kernel)⟩
theorem lw_p20 : lw_okq (⟨"MailChain", "refreshArchive", "()V"⟩, 14) := ⟨⟨by decide +kernel, by decide +kernel⟩, List.mem_of_getElem? (i := 33) (by decide +kernel), List.mem_of_getElem? (i := 1151) (by decide +kernel), List.mem_of_getElem? (i := 1152) (by decide +kernel)⟩
theorem lw_p21 : lw_okq (⟨"MailChain$Mail", "pieceEnd", "(I)I"⟩, 5) := ⟨⟨by decide +kernel, by decide +kernel⟩, List.mem_of_getElem? (i := 149) (by decide +kernel), List.mem_of_getElem? (i := 1160) (by decide +kernel), List.mem_of_getElem? (i := 1161) (by decide +kernel)⟩
theorem lw_p22 : lw_okq (⟨"MailChain", "textOfTape", "(II)LMailChain$Row;"⟩, 14) := ⟨⟨by decide +kernel, by decide +kernel⟩, List.mem_of_getElem? (i := 33) (by decide +kernel), List.mem_of_getElem? (i := 1226) (by decide +kernel), List.mem_of_getElem? (i := 1227) (by decide +kernel)⟩
theorem lw_p23 : lw_okq (⟨"MailChainModel", "added", "(IIIIII)I"⟩, 62) := ⟨⟨by decide +kernel, by decide +kernel⟩, List.mem_of_getElem? (i := 1259) (by decide +kernel), List.mem_of_getElem? (i := 1474) (by decide +kernel), List.mem_of_getElem? (i := 1475) (by decide +kernel)⟩
theorem lw_p24 : lw_okq (⟨"MailChainModel", "look", "([BII)V"⟩, 62) := ⟨⟨by decide +kernel, by decide +kernel⟩, List.mem_of_getElem? (i := 1259) (by decide +kernel), List.mem_of_getElem? (i := 1481) (by decide +kernel), List.mem_of_getElem? (i := 1482) (by decide +kernel)⟩
theorem lw_p25 : lw_okq (⟨"MailChainModel", "mayBe", "(II)Z"⟩, 62) := ⟨⟨by decide +kernel, by decide +kernel⟩, List.mem_of_getElem? (i := 1259) (by decide +kernel), List.mem_of_getElem? (i := 1485) (by decide +kernel), List.mem_of_getElem? (i := 1486) (by decide +kernel)⟩
theorem lw_p26 : lw_okq (⟨"MailChainModel", "isPath", "()Z"⟩, 62) := ⟨⟨by decide +kernel, by decide +kernel⟩, List.mem_of_getElem? (i := 1259) (by decide +kernel), List.mem_of_getElem? (i := 1492) (by decide +kernel), List.mem_of_getElem? (i := 1493) (by decide +kernel)⟩
theorem lw_p27 : lw_okq (⟨"MailChainModel", "hasParent", "(I)Z"⟩, 62) := ⟨⟨by decide +kernel, by decide +kernel⟩, List.mem_of_getElem? (i := 1259) (by decide +kernel), List.mem_of_getElem? (i := 1496) (by decide +kernel), List.mem_of_getElem? (i := 1497) (by decide +kernel)⟩
theorem lw_p28 : lw_okq (⟨"MailChainModel", "find", "(II)I"⟩, 62) := ⟨⟨by decide +kernel, by decide +kernel⟩, List.mem_of_getElem? (i := 1259) (by decide +kernel), List.mem_of_getElem? (i := 1500) (by decide +kernel), List.mem_of_getElem? (i := 1501) (by decide +kernel)⟩
theorem lw_p29 : lw_okq (⟨"MailChainModel", "compare", "(II)I"⟩, 62) := ⟨⟨by decide +kernel, by decide +kernel⟩, List.mem_of_getElem? (i := 1259) (by decide +kernel), List.mem_of_getElem? (i := 1507) (by decide +kernel), List.mem_of_getElem? (i := 1508) (by decide +kernel)⟩
theorem lw_p30 : lw_okq (⟨"MailChainModel", "bytesOf", "(I)I"⟩, 62) := ⟨⟨by decide +kernel, by decide +kernel⟩, List.mem_of_getElem? (i := 1259) (by decide +kernel), List.mem_of_getElem? (i := 1511) (by decide +kernel), List.mem_of_getElem? (i := 1512) (by decide +kernel)⟩
theorem lw_p31 : lw_okq (⟨"MailChainModel", "enter", "(I)I"⟩, 62) := ⟨⟨by decide +kernel, by decide +kernel⟩, List.mem_of_getElem? (i := 1259) (by decide +kernel), List.mem_of_getElem? (i := 1515) (by decide +kernel), List.mem_of_getElem? (i := 1516) (by decide +kernel)⟩
def lw_privs_2 : List (MethodName × Nat) := [(⟨"MailChain$Tree", "hasParentOf", "(LMailChain$Entry;)Z"⟩, 4), (⟨"MailChain$Tree", "placeOf", "(LMailChain$Row;I)I"⟩, 4), (⟨"MailChain", "swapYours", "()V"⟩, 14), (⟨"MailChain", "afterEntering", "(I)I"⟩, 14), (⟨"MailChain", "refreshArchive", "()V"⟩, 14), (⟨"MailChain$Mail", "pieceEnd", "(I)I"⟩, 5), (⟨"MailChain", "textOfTape", "(II)LMailChain$Row;"⟩, 14), (⟨"MailChainModel", "added", "(IIIIII)I"⟩, 62), (⟨"MailChainModel", "look", "([BII)V"⟩, 62), (⟨"MailChainModel", "mayBe", "(II)Z"⟩, 62), (⟨"MailChainModel", "isPath", "()Z"⟩, 62), (⟨"MailChainModel", "hasParent", "(I)Z"⟩, 62), (⟨"MailChainModel", "find", "(II)I"⟩, 62), (⟨"MailChainModel", "compare", "(II)I"⟩, 62), (⟨"MailChainModel", "bytesOf", "(I)I"⟩, 62), (⟨"MailChainModel", "enter", "(I)I"⟩, 62)]
theorem lw_r2 : ∀ q ∈ lw_privs_2, lw_okq q := List.forall_mem_cons.mpr ⟨lw_p16, List.forall_mem_cons.mpr ⟨lw_p17, List.forall_mem_cons.mpr ⟨lw_p18, List.forall_mem_cons.mpr ⟨lw_p19, List.forall_mem_cons.mpr ⟨lw_p20, List.forall_mem_cons.mpr ⟨lw_p21, List.forall_mem_cons.mpr ⟨lw_p22, List.forall_mem_cons.mpr ⟨lw_p23, List.forall_mem_cons.mpr ⟨lw_p24, List.forall_mem_cons.mpr ⟨lw_p25, List.forall_mem_cons.mpr ⟨lw_p26, List.forall_mem_cons.mpr ⟨lw_p27, List.forall_mem_cons.mpr ⟨lw_p28, List.forall_mem_cons.mpr ⟨lw_p29, List.forall_mem_cons.mpr ⟨lw_p30, List.forall_mem_cons.mpr ⟨lw_p31, fun _ h => absurd h List.not_mem_nil⟩⟩⟩⟩⟩⟩⟩⟩⟩⟩⟩⟩⟩⟩⟩⟩
theorem lw_p32 : lw_okq (⟨"MailChainModel", "copyEntry", "(II)V"⟩, 62) := ⟨⟨by decide +kernel, by decide +kernel⟩, List.mem_of_getElem? (i := 1259) (by decide +kernel), List.mem_of_getElem? (i := 1519) (by decide +kernel), List.mem_of_getElem? (i := 1520) (by decide +kernel)⟩
theorem lw_p33 : lw_okq (⟨"MailChainModel", "linkedNow", "(I)I"⟩, 62) := ⟨⟨by decide +kernel, by decide +kernel⟩, List.mem_of_getElem? (i := 1259) (by decide +kernel), List.mem_of_getElem? (i := 1527) (by decide +kernel), List.mem_of_getElem? (i := 1528) (by decide +kernel)⟩
theorem lw_p34 : lw_okq (⟨"MailChainModel", "copyAttributes", "(II)V"⟩, 62) := ⟨⟨by decide +kernel, by decide +kernel⟩, List.mem_of_getElem? (i := 1259) (by decide +kernel), List.mem_of_getElem? (i := 1531) (by decide +kernel), List.mem_of_getElem? (i := 1532) (by decide +kernel)⟩
theorem lw_p35 : lw_okq (⟨"MailChainModel", "isLarge", "(I)Z"⟩, 62) := ⟨⟨by decide +kernel, by decide +kernel⟩, List.mem_of_getElem? (i := 1259) (by decide +kernel), List.mem_of_getElem? (i := 1554) (by decide +kernel), List.mem_of_getElem? (i := 1555) (by decide +kernel)⟩
theorem lw_p36 : lw_okq (⟨"MailChainModel", "archiveOf", "(I)V"⟩, 62) := ⟨⟨by decide +kernel, by decide +kernel⟩, List.mem_of_getElem? (i := 1259) (by decide +kernel), List.mem_of_getElem? (i := 1559) (by decide +kernel), List.mem_of_getElem? (i := 1560) (by decide +kernel)⟩
theorem lw_p37 : lw_okq (⟨"MailChainModel", "firstOf", "(II)I"⟩, 62) := ⟨⟨by decide +kernel, by decide +kernel⟩, List.mem_of_getElem? (i := 1259) (by decide +kernel), List.mem_of_getElem? (i := 1565) (by decide +kernel), List.mem_of_getElem? (i := 1566) (by decide +kernel)⟩
theorem lw_p38 : lw_okq (⟨"MailChainModel", "linksOf", "(II)I"⟩, 62) := ⟨⟨by decide +kernel, by decide +kernel⟩, List.mem_of_getElem? (i := 1259) (by decide +kernel), List.mem_of_getElem? (i := 1569) (by decide +kernel), List.mem_of_getElem? (i := 1570) (by decide +kernel)⟩
theorem lw_p39 : lw_okq (⟨"MailChainModel", "header", "(IIIIIIII)V"⟩, 62) := ⟨⟨by decide +kernel, by decide +kernel⟩, List.mem_of_getElem? (i := 1259) (by decide +kernel), List.mem_of_getElem? (i := 1573) (by decide +kernel), List.mem_of_getElem? (i := 1574) (by decide +kernel)⟩
theorem lw_p40 : lw_okq (⟨"MailChainModel", "octal", "(JI)V"⟩, 62) := ⟨⟨by decide +kernel, by decide +kernel⟩, List.mem_of_getElem? (i := 1259) (by decide +kernel), List.mem_of_getElem? (i := 1578) (by decide +kernel), List.mem_of_getElem? (i := 1579) (by decide +kernel)⟩
theorem lw_p41 : lw_okq (⟨"MailChainModel", "zero", "()V"⟩, 62) := ⟨⟨by decide +kernel, by decide +kernel⟩, List.mem_of_getElem? (i := 1259) (by decide +kernel), List.mem_of_getElem? (i := 1583) (by decide +kernel), List.mem_of_getElem? (i := 1584) (by decide +kernel)⟩
theorem lw_p42 : lw_okq (⟨"MailChainModel", "compressRow", "([BII)V"⟩, 62) := ⟨⟨by decide +kernel, by decide +kernel⟩, List.mem_of_getElem? (i := 1259) (by decide +kernel), List.mem_of_getElem? (i := 1587) (by decide +kernel), List.mem_of_getElem? (i := 1588) (by decide +kernel)⟩
theorem lw_p43 : lw_okq (⟨"MailChainModel", "clearTable", "()V"⟩, 62) := ⟨⟨by decide +kernel, by decide +kernel⟩, List.mem_of_getElem? (i := 1259) (by decide +kernel), List.mem_of_getElem? (i := 1591) (by decide +kernel), List.mem_of_getElem? (i := 1592) (by decide +kernel)⟩
theorem lw_p44 : lw_okq (⟨"MailChainModel", "goOn", "(II)I"⟩, 62) := ⟨⟨by decide +kernel, by decide +kernel⟩, List.mem_of_getElem? (i := 1259) (by decide +kernel), List.mem_of_getElem? (i := 1596) (by decide +kernel), List.mem_of_getElem? (i := 1597) (by decide +kernel)⟩
theorem lw_p45 : lw_okq (⟨"MailChainModel", "putCode", "(II)V"⟩, 62) := ⟨⟨by decide +kernel, by decide +kernel⟩, List.mem_of_getElem? (i := 1259) (by decide +kernel), List.mem_of_getElem? (i := 1600) (by decide +kernel), List.mem_of_getElem? (i := 1601) (by decide +kernel)⟩
theorem lw_p46 : lw_okq (⟨"MailChainModel", "fill", "()V"⟩, 62) := ⟨⟨by decide +kernel, by decide +kernel⟩, List.mem_of_getElem? (i := 1259) (by decide +kernel), List.mem_of_getElem? (i := 1604) (by decide +kernel), List.mem_of_getElem? (i := 1605) (by decide +kernel)⟩
theorem lw_p47 : lw_okq (⟨"MailChainModel", "putBits", "(II)V"⟩, 62) := ⟨⟨by decide +kernel, by decide +kernel⟩, List.mem_of_getElem? (i := 1259) (by decide +kernel), List.mem_of_getElem? (i := 1608) (by decide +kernel), List.mem_of_getElem? (i := 1609) (by decide +kernel)⟩
def lw_privs_3 : List (MethodName × Nat) := [(⟨"MailChainModel", "copyEntry", "(II)V"⟩, 62), (⟨"MailChainModel", "linkedNow", "(I)I"⟩, 62), (⟨"MailChainModel", "copyAttributes", "(II)V"⟩, 62), (⟨"MailChainModel", "isLarge", "(I)Z"⟩, 62), (⟨"MailChainModel", "archiveOf", "(I)V"⟩, 62), (⟨"MailChainModel", "firstOf", "(II)I"⟩, 62), (⟨"MailChainModel", "linksOf", "(II)I"⟩, 62), (⟨"MailChainModel", "header", "(IIIIIIII)V"⟩, 62), (⟨"MailChainModel", "octal", "(JI)V"⟩, 62), (⟨"MailChainModel", "zero", "()V"⟩, 62), (⟨"MailChainModel", "compressRow", "([BII)V"⟩, 62), (⟨"MailChainModel", "clearTable", "()V"⟩, 62), (⟨"MailChainModel", "goOn", "(II)I"⟩, 62), (⟨"MailChainModel", "putCode", "(II)V"⟩, 62), (⟨"MailChainModel", "fill", "()V"⟩, 62), (⟨"MailChainModel", "putBits", "(II)V"⟩, 62)]
theorem lw_r3 : ∀ q ∈ lw_privs_3, lw_okq q := List.forall_mem_cons.mpr ⟨lw_p32, List.forall_mem_cons.mpr ⟨lw_p33, List.forall_mem_cons.mpr ⟨lw_p34, List.forall_mem_cons.mpr ⟨lw_p35, List.forall_mem_cons.mpr ⟨lw_p36, List.forall_mem_cons.mpr ⟨lw_p37, List.forall_mem_cons.mpr ⟨lw_p38, List.forall_mem_cons.mpr ⟨lw_p39, List.forall_mem_cons.mpr ⟨lw_p40, List.forall_mem_cons.mpr ⟨lw_p41, List.forall_mem_cons.mpr ⟨lw_p42, List.forall_mem_cons.mpr ⟨lw_p43, List.forall_mem_cons.mpr ⟨lw_p44, List.forall_mem_cons.mpr ⟨lw_p45, List.forall_mem_cons.mpr ⟨lw_p46, List.forall_mem_cons.mpr ⟨lw_p47, fun _ h => absurd h List.not_mem_nil⟩⟩⟩⟩⟩⟩⟩⟩⟩⟩⟩⟩⟩⟩⟩⟩
theorem lw_p48 : lw_okq (⟨"MailChainModel", "spellRow", "([BI)V"⟩, 62) := ⟨⟨by decide +kernel, by decide +kernel⟩, List.mem_of_getElem? (i := 1259) (by decide +kernel), List.mem_of_getElem? (i := 1612) (by decide +kernel), List.mem_of_getElem? (i := 1613) (by decide +kernel)⟩
theorem lw_p49 : lw_okq (⟨"MailChainModel", "lay", "(I)V"⟩, 62) := ⟨⟨by decide +kernel, by decide +kernel⟩, List.mem_of_getElem? (i := 1259) (by decide +kernel), List.mem_of_getElem? (i := 1616) (by decide +kernel), List.mem_of_getElem? (i := 1617) (by decide +kernel)⟩
theorem lw_p50 : lw_okq (⟨"MailChainModel", "six", "(I)V"⟩, 62) := ⟨⟨by decide +kernel, by decide +kernel⟩, List.mem_of_getElem? (i := 1259) (by decide +kernel), List.mem_of_getElem? (i := 1620) (by decide +kernel), List.mem_of_getElem? (i := 1621) (by decide +kernel)⟩
theorem lw_p51 : lw_okq (⟨"MailChainModel", "writePart", "(I)V"⟩, 62) := ⟨⟨by decide +kernel, by decide +kernel⟩, List.mem_of_getElem? (i := 1259) (by decide +kernel), List.mem_of_getElem? (i := 1628) (by decide +kernel), List.mem_of_getElem? (i := 1629) (by decide +kernel)⟩
theorem lw_p52 : lw_okq (⟨"MailChainModel", "putWord", "([B)V"⟩, 62) := ⟨⟨by decide +kernel, by decide +kernel⟩, List.mem_of_getElem? (i := 1259) (by decide +kernel), List.mem_of_getElem? (i := 1632) (by decide +kernel), List.mem_of_getElem? (i := 1633) (by decide +kernel)⟩
theorem lw_p53 : lw_okq (⟨"MailChainModel", "putChar", "(I)V"⟩, 62) := ⟨⟨by decide +kernel, by decide +kernel⟩, List.mem_of_getElem? (i := 1259) (by decide +kernel), List.mem_of_getElem? (i := 1636) (by decide +kernel), List.mem_of_getElem? (i := 1637) (by decide +kernel)⟩
theorem lw_p54 : lw_okq (⟨"MailChainModel", "putDecimal", "(J)V"⟩, 62) := ⟨⟨by decide +kernel, by decide +kernel⟩, List.mem_of_getElem? (i := 1259) (by decide +kernel), List.mem_of_getElem? (i := 1640) (by decide +kernel), List.mem_of_getElem? (i := 1641) (by decide +kernel)⟩
theorem lw_p55 : lw_okq (⟨"MailChainModel", "come", "()I"⟩, 62) := ⟨⟨by decide +kernel, by decide +kernel⟩, List.mem_of_getElem? (i := 1259) (by decide +kernel), List.mem_of_getElem? (i := 1654) (by decide +kernel), List.mem_of_getElem? (i := 1655) (by decide +kernel)⟩
theorem lw_p56 : lw_okq (⟨"MailChainModel", "word", "([B)Z"⟩, 62) := ⟨⟨by decide +kernel, by decide +kernel⟩, List.mem_of_getElem? (i := 1259) (by decide +kernel), List.mem_of_getElem? (i := 1658) (by decide +kernel), List.mem_of_getElem? (i := 1659) (by decide +kernel)⟩
theorem lw_p57 : lw_okq (⟨"MailChainModel", "decimal", "(I)J"⟩, 62) := ⟨⟨by decide +kernel, by decide +kernel⟩, List.mem_of_getElem? (i := 1259) (by decide +kernel), List.mem_of_getElem? (i := 1662) (by decide +kernel), List.mem_of_getElem? (i := 1663) (by decide +kernel)⟩
theorem lw_p58 : lw_okq (⟨"MailChainModel", "keep", "(II[BII)V"⟩, 62) := ⟨⟨by decide +kernel, by decide +kernel⟩, List.mem_of_getElem? (i := 1259) (by decide +kernel), List.mem_of_getElem? (i := 1670) (by decide +kernel), List.mem_of_getElem? (i := 1671) (by decide +kernel)⟩
theorem lw_p59 : lw_okq (⟨"MailChainModel", "emptyBox", "()V"⟩, 62) := ⟨⟨by decide +kernel, by decide +kernel⟩, List.mem_of_getElem? (i := 1259) (by decide +kernel), List.mem_of_getElem? (i := 1682) (by decide +kernel), List.mem_of_getElem? (i := 1683) (by decide +kernel)⟩
theorem lw_p60 : lw_okq (⟨"MailChainModel", "unpacked", "()I"⟩, 62) := ⟨⟨by decide +kernel, by decide +kernel⟩, List.mem_of_getElem? (i := 1259) (by decide +kernel), List.mem_of_getElem? (i := 1694) (by decide +kernel), List.mem_of_getElem? (i := 1695) (by decide +kernel)⟩
theorem lw_p61 : lw_okq (⟨"MailChainModel", "unspell", "()V"⟩, 62) := ⟨⟨by decide +kernel, by decide +kernel⟩, List.mem_of_getElem? (i := 1259) (by decide +kernel), List.mem_of_getElem? (i := 1698) (by decide +kernel), List.mem_of_getElem? (i := 1699) (by decide +kernel)⟩
theorem lw_p62 : lw_okq (⟨"MailChainModel", "expand", "(I)Z"⟩, 62) := ⟨⟨by decide +kernel, by decide +kernel⟩, List.mem_of_getElem? (i := 1259) (by decide +kernel), List.mem_of_getElem? (i := 1705) (by decide +kernel), List.mem_of_getElem? (i := 1706) (by decide +kernel)⟩
theorem lw_p63 : lw_okq (⟨"MailChainModel", "code", "(I)I"⟩, 62) := ⟨⟨by decide +kernel, by decide +kernel⟩, List.mem_of_getElem? (i := 1259) (by decide +kernel), List.mem_of_getElem? (i := 1709) (by decide +kernel), List.mem_of_getElem? (i := 1710) (by decide +kernel)⟩
def lw_privs_4 : List (MethodName × Nat) := [(⟨"MailChainModel", "spellRow", "([BI)V"⟩, 62), (⟨"MailChainModel", "lay", "(I)V"⟩, 62), (⟨"MailChainModel", "six", "(I)V"⟩, 62), (⟨"MailChainModel", "writePart", "(I)V"⟩, 62), (⟨"MailChainModel", "putWord", "([B)V"⟩, 62), (⟨"MailChainModel", "putChar", "(I)V"⟩, 62), (⟨"MailChainModel", "putDecimal", "(J)V"⟩, 62), (⟨"MailChainModel", "come", "()I"⟩, 62), (⟨"MailChainModel", "word", "([B)Z"⟩, 62), (⟨"MailChainModel", "decimal", "(I)J"⟩, 62), (⟨"MailChainModel", "keep", "(II[BII)V"⟩, 62), (⟨"MailChainModel", "emptyBox", "()V"⟩, 62), (⟨"MailChainModel", "unpacked", "()I"⟩, 62), (⟨"MailChainModel", "unspell", "()V"⟩, 62), (⟨"MailChainModel", "expand", "(I)Z"⟩, 62), (⟨"MailChainModel", "code", "(I)I"⟩, 62)]
theorem lw_r4 : ∀ q ∈ lw_privs_4, lw_okq q := List.forall_mem_cons.mpr ⟨lw_p48, List.forall_mem_cons.mpr ⟨lw_p49, List.forall_mem_cons.mpr ⟨lw_p50, List.forall_mem_cons.mpr ⟨lw_p51, List.forall_mem_cons.mpr ⟨lw_p52, List.forall_mem_cons.mpr ⟨lw_p53, List.forall_mem_cons.mpr ⟨lw_p54, List.forall_mem_cons.mpr ⟨lw_p55, List.forall_mem_cons.mpr ⟨lw_p56, List.forall_mem_cons.mpr ⟨lw_p57, List.forall_mem_cons.mpr ⟨lw_p58, List.forall_mem_cons.mpr ⟨lw_p59, List.forall_mem_cons.mpr ⟨lw_p60, List.forall_mem_cons.mpr ⟨lw_p61, List.forall_mem_cons.mpr ⟨lw_p62, List.forall_mem_cons.mpr ⟨lw_p63, fun _ h => absurd h List.not_mem_nil⟩⟩⟩⟩⟩⟩⟩⟩⟩⟩⟩⟩⟩⟩⟩⟩
theorem lw_p64 : lw_okq (⟨"MailChainModel", "firstByte", "(I)I"⟩, 62) := ⟨⟨by decide +kernel, by decide +kernel⟩, List.mem_of_getElem? (i := 1259) (by decide +kernel), List.mem_of_getElem? (i := 1713) (by decide +kernel), List.mem_of_getElem? (i := 1714) (by decide +kernel)⟩
theorem lw_p65 : lw_okq (⟨"MailChainModel", "layString", "(I)Z"⟩, 62) := ⟨⟨by decide +kernel, by decide +kernel⟩, List.mem_of_getElem? (i := 1259) (by decide +kernel), List.mem_of_getElem? (i := 1717) (by decide +kernel), List.mem_of_getElem? (i := 1718) (by decide +kernel)⟩
theorem lw_p66 : lw_okq (⟨"MailChainModel", "readTree", "()Z"⟩, 62) := ⟨⟨by decide +kernel, by decide +kernel⟩, List.mem_of_getElem? (i := 1259) (by decide +kernel), List.mem_of_getElem? (i := 1721) (by decide +kernel), List.mem_of_getElem? (i := 1722) (by decide +kernel)⟩
theorem lw_p67 : lw_okq (⟨"MailChainModel", "octalAt", "(II)J"⟩, 62) := ⟨⟨by decide +kernel, by decide +kernel⟩, List.mem_of_getElem? (i := 1259) (by decide +kernel), List.mem_of_getElem? (i := 1725) (by decide +kernel), List.mem_of_getElem? (i := 1726) (by decide +kernel)⟩
theorem lw_p68 : lw_okq (⟨"MailChainModel", "take", "(IIIIII)V"⟩, 62) := ⟨⟨by decide +kernel, by decide +kernel⟩, List.mem_of_getElem? (i := 1259) (by decide +kernel), List.mem_of_getElem? (i := 1731) (by decide +kernel), List.mem_of_getElem? (i := 1732) (by decide +kernel)⟩
theorem lw_p69 : lw_okq (⟨"MailChainModel", "areLinks", "()Z"⟩, 62) := ⟨⟨by decide +kernel, by decide +kernel⟩, List.mem_of_getElem? (i := 1259) (by decide +kernel), List.mem_of_getElem? (i := 1735) (by decide +kernel), List.mem_of_getElem? (i := 1736) (by decide +kernel)⟩
def lw_privs_5 : List (MethodName × Nat) := [(⟨"MailChainModel", "firstByte", "(I)I"⟩, 62), (⟨"MailChainModel", "layString", "(I)Z"⟩, 62), (⟨"MailChainModel", "readTree", "()Z"⟩, 62), (⟨"MailChainModel", "octalAt", "(II)J"⟩, 62), (⟨"MailChainModel", "take", "(IIIIII)V"⟩, 62), (⟨"MailChainModel", "areLinks", "()Z"⟩, 62)]
theorem lw_r5 : ∀ q ∈ lw_privs_5, lw_okq q := List.forall_mem_cons.mpr ⟨lw_p64, List.forall_mem_cons.mpr ⟨lw_p65, List.forall_mem_cons.mpr ⟨lw_p66, List.forall_mem_cons.mpr ⟨lw_p67, List.forall_mem_cons.mpr ⟨lw_p68, List.forall_mem_cons.mpr ⟨lw_p69, fun _ h => absurd h List.not_mem_nil⟩⟩⟩⟩⟩⟩
def lw_privs : List (MethodName × Nat) := lw_privs_1 ++ (lw_privs_2 ++ (lw_privs_3 ++ (lw_privs_4 ++ (lw_privs_5))))
def lw_tbl : List Cond := k2_sels lw_privs ++ tables_1
theorem lw_privs_ok : ∀ q ∈ lw_privs, lw_okq q := by
  show ∀ q ∈ lw_privs_1 ++ (lw_privs_2 ++ (lw_privs_3 ++ (lw_privs_4 ++ (lw_privs_5)))), lw_okq q
  exact List.forall_mem_append.mpr ⟨lw_r1, List.forall_mem_append.mpr ⟨lw_r2, List.forall_mem_append.mpr ⟨lw_r3, List.forall_mem_append.mpr ⟨lw_r4, lw_r5⟩⟩⟩⟩
end
section
-- names, fields, layout: by names.py out of the listing
abbrev R_Mc : String := "MailChain"
def F_Mc : u_T := fun k => match k with
  | 0 => ("MailChain", "tape", "LMailChain$Row;", true)
  | 1 => ("MailChain", "mine", "LMailChain$Tree;", true)
  | 2 => ("MailChain", "yours", "LMailChain$Tree;", false)
  | 3 => ("MailChain", "draftOfYours", "LMailChain$Tree;", false)
  | 4 => ("MailChain", "archive", "LMailChain$Row;", true)
  | 5 => ("MailChain", "archiveIsFresh", "Z", false)
  | 6 => ("MailChain", "mail", "LMailChain$Mail;", true)
  | 7 => ("MailChain", "box", "LMailChain$Box;", true)
  | 8 => ("MailChain", "squeezer", "LMailChain$Squeezer;", true)
  | 9 => ("MailChain", "expander", "LMailChain$Expander;", true)
  | 10 => ("MailChain", "plain", "LMailChain$Row;", true)
  | 11 => ("MailChain", "squeezed", "LMailChain$Row;", true)
  | 12 => ("MailChain", "text", "LMailChain$Row;", true)
  | _ => ("MailChain", "proof", "LMailChain$Row;", true)
def t_Mc : Nat → FieldType := fun k => match k with
  | 0 => .object "MailChain$Row"
  | 1 => .object "MailChain$Tree"
  | 2 => .object "MailChain$Tree"
  | 3 => .object "MailChain$Tree"
  | 4 => .object "MailChain$Row"
  | 5 => .boolean
  | 6 => .object "MailChain$Mail"
  | 7 => .object "MailChain$Box"
  | 8 => .object "MailChain$Squeezer"
  | 9 => .object "MailChain$Expander"
  | 10 => .object "MailChain$Row"
  | 11 => .object "MailChain$Row"
  | 12 => .object "MailChain$Row"
  | _ => .object "MailChain$Row"
theorem n_Mc : ∀ a, a < 14 → ∀ b, b < 14 → a ≠ b → (F_Mc a).2.1 ≠ (F_Mc b).2.1 := by decide +kernel
theorem t_Mc_ok : ∀ k, k < 14 → parseFieldDescriptor (F_Mc k).2.2.1 = some (t_Mc k) := by decide +kernel
abbrev R_Ro : String := "MailChain$Row"
def F_Ro : u_T := fun k => match k with
  | 0 => ("MailChain$Row", "bytes", "[B", true)
  | _ => ("MailChain$Row", "size", "I", false)
def t_Ro : Nat → FieldType := fun k => match k with
  | 0 => .array (.byte)
  | _ => .int
theorem n_Ro : ∀ a, a < 2 → ∀ b, b < 2 → a ≠ b → (F_Ro a).2.1 ≠ (F_Ro b).2.1 := by decide +kernel
theorem t_Ro_ok : ∀ k, k < 2 → parseFieldDescriptor (F_Ro k).2.2.1 = some (t_Ro k) := by decide +kernel
abbrev R_En : String := "MailChain$Entry"
def F_En : u_T := fun k => match k with
  | 0 => ("MailChain$Entry", "path", "LMailChain$Row;", true)
  | 1 => ("MailChain$Entry", "kind", "I", false)
  | 2 => ("MailChain$Entry", "mode", "I", false)
  | 3 => ("MailChain$Entry", "owner", "I", false)
  | 4 => ("MailChain$Entry", "group", "I", false)
  | 5 => ("MailChain$Entry", "time", "I", false)
  | 6 => ("MailChain$Entry", "start", "I", false)
  | 7 => ("MailChain$Entry", "size", "I", false)
  | _ => ("MailChain$Entry", "family", "I", false)
def t_En : Nat → FieldType := fun k => match k with
  | 0 => .object "MailChain$Row"
  | 1 => .int
  | 2 => .int
  | 3 => .int
  | 4 => .int
  | 5 => .int
  | 6 => .int
  | 7 => .int
  | _ => .int
theorem n_En : ∀ a, a < 9 → ∀ b, b < 9 → a ≠ b → (F_En a).2.1 ≠ (F_En b).2.1 := by decide +kernel
theorem t_En_ok : ∀ k, k < 9 → parseFieldDescriptor (F_En k).2.2.1 = some (t_En k) := by decide +kernel
abbrev R_Tr : String := "MailChain$Tree"
def F_Tr : u_T := fun k => match k with
  | 0 => ("MailChain$Tree", "entries", "[LMailChain$Entry;", true)
  | 1 => ("MailChain$Tree", "bodies", "LMailChain$Row;", true)
  | 2 => ("MailChain$Tree", "count", "I", false)
  | _ => ("MailChain$Tree", "contents", "I", false)
def t_Tr : Nat → FieldType := fun k => match k with
  | 0 => .array (.object "MailChain$Entry")
  | 1 => .object "MailChain$Row"
  | 2 => .int
  | _ => .int
theorem n_Tr : ∀ a, a < 4 → ∀ b, b < 4 → a ≠ b → (F_Tr a).2.1 ≠ (F_Tr b).2.1 := by decide +kernel
theorem t_Tr_ok : ∀ k, k < 4 → parseFieldDescriptor (F_Tr k).2.2.1 = some (t_Tr k) := by decide +kernel
abbrev R_Ma : String := "MailChain$Mail"
def F_Ma : u_T := fun k => match k with
  | 0 => ("MailChain$Mail", "squeezed", "LMailChain$Row;", true)
  | 1 => ("MailChain$Mail", "text", "LMailChain$Row;", true)
  | 2 => ("MailChain$Mail", "count", "I", false)
  | 3 => ("MailChain$Mail", "length", "I", false)
  | _ => ("MailChain$Mail", "sums", "[I", true)
def t_Ma : Nat → FieldType := fun k => match k with
  | 0 => .object "MailChain$Row"
  | 1 => .object "MailChain$Row"
  | 2 => .int
  | 3 => .int
  | _ => .array (.int)
theorem n_Ma : ∀ a, a < 5 → ∀ b, b < 5 → a ≠ b → (F_Ma a).2.1 ≠ (F_Ma b).2.1 := by decide +kernel
theorem t_Ma_ok : ∀ k, k < 5 → parseFieldDescriptor (F_Ma k).2.2.1 = some (t_Ma k) := by decide +kernel
abbrev R_Pl : String := "MailChain$PartLine"
def F_Pl : u_T := fun k => match k with
  | 0 => ("MailChain$PartLine", "k", "I", false)
  | 1 => ("MailChain$PartLine", "n", "I", false)
  | 2 => ("MailChain$PartLine", "size", "I", false)
  | 3 => ("MailChain$PartLine", "sum", "J", false)
  | _ => ("MailChain$PartLine", "end", "I", false)
def t_Pl : Nat → FieldType := fun k => match k with
  | 0 => .int
  | 1 => .int
  | 2 => .int
  | 3 => .long
  | _ => .int
theorem n_Pl : ∀ a, a < 5 → ∀ b, b < 5 → a ≠ b → (F_Pl a).2.1 ≠ (F_Pl b).2.1 := by decide +kernel
theorem t_Pl_ok : ∀ k, k < 5 → parseFieldDescriptor (F_Pl k).2.2.1 = some (t_Pl k) := by decide +kernel
abbrev R_Bo : String := "MailChain$Box"
def F_Bo : u_T := fun k => match k with
  | 0 => ("MailChain$Box", "pieces", "LMailChain$Row;", true)
  | 1 => ("MailChain$Box", "starts", "[I", true)
  | 2 => ("MailChain$Box", "sizes", "[I", true)
  | 3 => ("MailChain$Box", "line", "LMailChain$PartLine;", true)
  | 4 => ("MailChain$Box", "n", "I", false)
  | 5 => ("MailChain$Box", "bytes", "I", false)
  | _ => ("MailChain$Box", "count", "I", false)
def t_Bo : Nat → FieldType := fun k => match k with
  | 0 => .object "MailChain$Row"
  | 1 => .array (.int)
  | 2 => .array (.int)
  | 3 => .object "MailChain$PartLine"
  | 4 => .int
  | 5 => .int
  | _ => .int
theorem n_Bo : ∀ a, a < 7 → ∀ b, b < 7 → a ≠ b → (F_Bo a).2.1 ≠ (F_Bo b).2.1 := by decide +kernel
theorem t_Bo_ok : ∀ k, k < 7 → parseFieldDescriptor (F_Bo k).2.2.1 = some (t_Bo k) := by decide +kernel
abbrev R_Sq : String := "MailChain$Squeezer"
def F_Sq : u_T := fun k => match k with
  | 0 => ("MailChain$Squeezer", "firstChild", "[I", true)
  | 1 => ("MailChain$Squeezer", "nextChild", "[I", true)
  | 2 => ("MailChain$Squeezer", "lastByte", "[I", true)
  | 3 => ("MailChain$Squeezer", "greatest", "I", false)
  | 4 => ("MailChain$Squeezer", "next", "I", false)
  | 5 => ("MailChain$Squeezer", "width", "I", false)
  | 6 => ("MailChain$Squeezer", "codesOfWidth", "I", false)
  | 7 => ("MailChain$Squeezer", "bits", "I", false)
  | _ => ("MailChain$Squeezer", "bitCount", "I", false)
def t_Sq : Nat → FieldType := fun k => match k with
  | 0 => .array (.int)
  | 1 => .array (.int)
  | 2 => .array (.int)
  | 3 => .int
  | 4 => .int
  | 5 => .int
  | 6 => .int
  | 7 => .int
  | _ => .int
theorem n_Sq : ∀ a, a < 9 → ∀ b, b < 9 → a ≠ b → (F_Sq a).2.1 ≠ (F_Sq b).2.1 := by decide +kernel
theorem t_Sq_ok : ∀ k, k < 9 → parseFieldDescriptor (F_Sq k).2.2.1 = some (t_Sq k) := by decide +kernel
abbrev R_Ex : String := "MailChain$Expander"
def F_Ex : u_T := fun k => match k with
  | 0 => ("MailChain$Expander", "starts", "[I", true)
  | 1 => ("MailChain$Expander", "sizes", "[I", true)
  | 2 => ("MailChain$Expander", "greatest", "I", false)
  | 3 => ("MailChain$Expander", "next", "I", false)
  | 4 => ("MailChain$Expander", "width", "I", false)
  | 5 => ("MailChain$Expander", "codesOfWidth", "I", false)
  | _ => ("MailChain$Expander", "groupStart", "I", false)
def t_Ex : Nat → FieldType := fun k => match k with
  | 0 => .array (.int)
  | 1 => .array (.int)
  | 2 => .int
  | 3 => .int
  | 4 => .int
  | 5 => .int
  | _ => .int
theorem n_Ex : ∀ a, a < 7 → ∀ b, b < 7 → a ≠ b → (F_Ex a).2.1 ≠ (F_Ex b).2.1 := by decide +kernel
theorem t_Ex_ok : ∀ k, k < 7 → parseFieldDescriptor (F_Ex k).2.2.1 = some (t_Ex k) := by decide +kernel
abbrev R_Mo : String := "MailChainModel"
def F_Mo : u_T := fun k => match k with
  | 0 => ("MailChainModel", "trailerName", "[B", true)
  | 1 => ("MailChainModel", "beginLine", "[B", true)
  | 2 => ("MailChainModel", "partWord", "[B", true)
  | 3 => ("MailChainModel", "ofWord", "[B", true)
  | 4 => ("MailChainModel", "sizeWord", "[B", true)
  | 5 => ("MailChainModel", "sumWord", "[B", true)
  | 6 => ("MailChainModel", "thrown", "I", false)
  | 7 => ("MailChainModel", "taped", "I", false)
  | 8 => ("MailChainModel", "tape", "[B", true)
  | 9 => ("MailChainModel", "count", "[I", true)
  | 10 => ("MailChainModel", "paths", "[B", true)
  | 11 => ("MailChainModel", "pathSize", "[I", true)
  | 12 => ("MailChainModel", "kind", "[I", true)
  | 13 => ("MailChainModel", "mode", "[I", true)
  | 14 => ("MailChainModel", "owner", "[I", true)
  | 15 => ("MailChainModel", "group", "[I", true)
  | 16 => ("MailChainModel", "time", "[I", true)
  | 17 => ("MailChainModel", "from", "[I", true)
  | 18 => ("MailChainModel", "size", "[I", true)
  | 19 => ("MailChainModel", "linked", "[I", true)
  | 20 => ("MailChainModel", "used", "[I", true)
  | 21 => ("MailChainModel", "contents", "[B", true)
  | 22 => ("MailChainModel", "groups", "I", false)
  | 23 => ("MailChainModel", "path", "[B", true)
  | 24 => ("MailChainModel", "pathBytes", "I", false)
  | 25 => ("MailChainModel", "archived", "I", false)
  | 26 => ("MailChainModel", "archive", "[B", true)
  | 27 => ("MailChainModel", "compressed", "I", false)
  | 28 => ("MailChainModel", "compress", "[B", true)
  | 29 => ("MailChainModel", "spelled", "I", false)
  | 30 => ("MailChainModel", "spell", "[B", true)
  | 31 => ("MailChainModel", "parts", "I", false)
  | 32 => ("MailChainModel", "pieceSize", "I", false)
  | 33 => ("MailChainModel", "packedSize", "I", false)
  | 34 => ("MailChainModel", "packed", "[B", true)
  | 35 => ("MailChainModel", "textSize", "I", false)
  | 36 => ("MailChainModel", "text", "[B", true)
  | 37 => ("MailChainModel", "boxOf", "I", false)
  | 38 => ("MailChainModel", "boxParts", "I", false)
  | 39 => ("MailChainModel", "boxBytes", "J", false)
  | 40 => ("MailChainModel", "has", "[Z", true)
  | 41 => ("MailChainModel", "boxSize", "[I", true)
  | 42 => ("MailChainModel", "boxFrom", "[I", true)
  | 43 => ("MailChainModel", "boxUsed", "I", false)
  | 44 => ("MailChainModel", "box", "[B", true)
  | 45 => ("MailChainModel", "readSize", "I", false)
  | 46 => ("MailChainModel", "read", "[B", true)
  | 47 => ("MailChainModel", "backSize", "I", false)
  | 48 => ("MailChainModel", "back", "[B", true)
  | 49 => ("MailChainModel", "child", "[I", true)
  | 50 => ("MailChainModel", "beside", "[I", true)
  | 51 => ("MailChainModel", "last", "[I", true)
  | 52 => ("MailChainModel", "before", "[I", true)
  | 53 => ("MailChainModel", "next", "I", false)
  | 54 => ("MailChainModel", "width", "I", false)
  | 55 => ("MailChainModel", "codes", "I", false)
  | 56 => ("MailChainModel", "bits", "I", false)
  | 57 => ("MailChainModel", "bitCount", "I", false)
  | 58 => ("MailChainModel", "bitAt", "I", false)
  | 59 => ("MailChainModel", "partSize", "I", false)
  | 60 => ("MailChainModel", "one", "[B", true)
  | _ => ("MailChainModel", "head", "I", false)
def t_Mo : Nat → FieldType := fun k => match k with
  | 0 => .array (.byte)
  | 1 => .array (.byte)
  | 2 => .array (.byte)
  | 3 => .array (.byte)
  | 4 => .array (.byte)
  | 5 => .array (.byte)
  | 6 => .int
  | 7 => .int
  | 8 => .array (.byte)
  | 9 => .array (.int)
  | 10 => .array (.byte)
  | 11 => .array (.int)
  | 12 => .array (.int)
  | 13 => .array (.int)
  | 14 => .array (.int)
  | 15 => .array (.int)
  | 16 => .array (.int)
  | 17 => .array (.int)
  | 18 => .array (.int)
  | 19 => .array (.int)
  | 20 => .array (.int)
  | 21 => .array (.byte)
  | 22 => .int
  | 23 => .array (.byte)
  | 24 => .int
  | 25 => .int
  | 26 => .array (.byte)
  | 27 => .int
  | 28 => .array (.byte)
  | 29 => .int
  | 30 => .array (.byte)
  | 31 => .int
  | 32 => .int
  | 33 => .int
  | 34 => .array (.byte)
  | 35 => .int
  | 36 => .array (.byte)
  | 37 => .int
  | 38 => .int
  | 39 => .long
  | 40 => .array (.boolean)
  | 41 => .array (.int)
  | 42 => .array (.int)
  | 43 => .int
  | 44 => .array (.byte)
  | 45 => .int
  | 46 => .array (.byte)
  | 47 => .int
  | 48 => .array (.byte)
  | 49 => .array (.int)
  | 50 => .array (.int)
  | 51 => .array (.int)
  | 52 => .array (.int)
  | 53 => .int
  | 54 => .int
  | 55 => .int
  | 56 => .int
  | 57 => .int
  | 58 => .int
  | 59 => .int
  | 60 => .array (.byte)
  | _ => .int
theorem n_Mo : ∀ a, a < 62 → ∀ b, b < 62 → a ≠ b → (F_Mo a).2.1 ≠ (F_Mo b).2.1 := by decide +kernel
theorem t_Mo_ok : ∀ k, k < 62 → parseFieldDescriptor (F_Mo k).2.2.1 = some (t_Mo k) := by decide +kernel
abbrev R_Ar : String := "MailChain$Archive"
abbrev R_Sp : String := "MailChain$Spelling"
abbrev R_La : String := "MailChainLaw"
def kcl : List vw_C := [(R_Mc, F_Mc, 14), (R_Ro, F_Ro, 2), (R_En, F_En, 9), (R_Tr, F_Tr, 4), (R_Ma, F_Ma, 5), (R_Pl, F_Pl, 5), (R_Bo, F_Bo, 7), (R_Sq, F_Sq, 9), (R_Ex, F_Ex, 7), (R_Mo, F_Mo, 62)]
/-- the number of fields of a class -/
def nf (t : Nat) : Nat := match t with
  | 0 => 14
  | 1 => 2
  | 2 => 9
  | 3 => 4
  | 4 => 5
  | 5 => 5
  | 6 => 7
  | 7 => 9
  | 8 => 7
  | 9 => 62
  | _ => 0
/-- a field: 0 whole number, 1 long, 2 a reference that never changes, 3 a reference that may -/
def ft (t j : Nat) : Nat := match t with
  | 0 => [2, 2, 3, 3, 2, 0, 2, 2, 2, 2, 2, 2, 2, 2].getD j 0
  | 1 => [2, 0].getD j 0
  | 2 => [2, 0, 0, 0, 0, 0, 0, 0, 0].getD j 0
  | 3 => [2, 2, 0, 0].getD j 0
  | 4 => [2, 2, 0, 0, 2].getD j 0
  | 5 => [0, 0, 0, 1, 0].getD j 0
  | 6 => [2, 2, 2, 2, 0, 0, 0].getD j 0
  | 7 => [2, 2, 2, 0, 0, 0, 0, 0, 0].getD j 0
  | 8 => [2, 2, 0, 0, 0, 0, 0].getD j 0
  | 9 => [2, 2, 2, 2, 2, 2, 0, 0, 2, 2, 2, 2, 2, 2, 2, 2, 2, 2, 2, 2, 2, 2, 0, 2, 0, 0, 2, 0, 2, 0, 2, 0, 0, 0, 2, 0, 2, 0, 0, 1, 2, 2, 2, 0, 2, 0, 2, 0, 2, 2, 2, 2, 2, 0, 0, 0, 0, 0, 0, 0, 2, 0].getD j 0
  | _ => 0
/-- where the object of a reference that never changes lies, counted from its owner -/
def fo (t j : Nat) : Nat := match t with
  | 0 => [1, 3, 0, 0, 384, 0, 386, 392, 398, 402, 405, 407, 409, 411].getD j 0
  | 1 => [1, 0].getD j 0
  | 2 => [1, 0, 0, 0, 0, 0, 0, 0, 0].getD j 0
  | 3 => [1, 125, 0, 0].getD j 0
  | 4 => [1, 3, 0, 0, 5].getD j 0
  | 5 => [0, 0, 0, 0, 0].getD j 0
  | 6 => [1, 3, 4, 5, 0, 0, 0].getD j 0
  | 7 => [1, 2, 3, 0, 0, 0, 0, 0, 0].getD j 0
  | 8 => [1, 2, 0, 0, 0, 0, 0].getD j 0
  | 9 => [1, 2, 3, 4, 5, 6, 0, 0, 7, 8, 9, 10, 11, 12, 13, 14, 15, 16, 17, 18, 19, 20, 0, 21, 0, 0, 22, 0, 23, 0, 24, 0, 0, 0, 25, 0, 26, 0, 0, 0, 27, 28, 29, 0, 30, 0, 31, 0, 32, 33, 34, 35, 36, 0, 0, 0, 0, 0, 0, 0, 37, 0].getD j 0
  | _ => 0
def layL : List (Nat × Nat) := [(0, 0), (1, 0), (20, 8000), (3, 0), (24, 41), (2, 0), (1, 0), (20, 60), (2, 0), (1, 0), (20, 60), (2, 0), (1, 0), (20, 60), (2, 0), (1, 0), (20, 60), (2, 0), (1, 0), (20, 60), (2, 0), (1, 0), (20, 60), (2, 0), (1, 0), (20, 60), (2, 0), (1, 0), (20, 60), (2, 0), (1, 0), (20, 60), (2, 0), (1, 0), (20, 60), (2, 0), (1, 0), (20, 60), (2, 0), (1, 0), (20, 60), (2, 0), (1, 0), (20, 60), (2, 0), (1, 0), (20, 60), (2, 0), (1, 0), (20, 60), (2, 0), (1, 0), (20, 60), (2, 0), (1, 0), (20, 60), (2, 0), (1, 0), (20, 60), (2, 0), (1, 0), (20, 60), (2, 0), (1, 0), (20, 60), (2, 0), (1, 0), (20, 60), (2, 0), (1, 0), (20, 60), (2, 0), (1, 0), (20, 60), (2, 0), (1, 0), (20, 60), (2, 0), (1, 0), (20, 60), (2, 0), (1, 0), (20, 60), (2, 0), (1, 0), (20, 60), (2, 0), (1, 0), (20, 60), (2, 0), (1, 0), (20, 60), (2, 0), (1, 0), (20, 60), (2, 0), (1, 0), (20, 60), (2, 0), (1, 0), (20, 60), (2, 0), (1, 0), (20, 60), (2, 0), (1, 0), (20, 60), (2, 0), (1, 0), (20, 60), (2, 0), (1, 0), (20, 60), (2, 0), (1, 0), (20, 60), (2, 0), (1, 0), (20, 60), (2, 0), (1, 0), (20, 60), (2, 0), (1, 0), (20, 60), (2, 0), (1, 0), (20, 60), (1, 0), (20, 8400), (3, 0), (24, 41), (2, 0), (1, 0), (20, 60), (2, 0), (1, 0), (20, 60), (2, 0), (1, 0), (20, 60), (2, 0), (1, 0), (20, 60), (2, 0), (1, 0), (20, 60), (2, 0), (1, 0), (20, 60), (2, 0), (1, 0), (20, 60), (2, 0), (1, 0), (20, 60), (2, 0), (1, 0), (20, 60), (2, 0), (1, 0), (20, 60), (2, 0), (1, 0), (20, 60), (2, 0), (1, 0), (20, 60), (2, 0), (1, 0), (20, 60), (2, 0), (1, 0), (20, 60), (2, 0), (1, 0), (20, 60), (2, 0), (1, 0), (20, 60), (2, 0), (1, 0), (20, 60), (2, 0), (1, 0), (20, 60), (2, 0), (1, 0), (20, 60), (2, 0), (1, 0), (20, 60), (2, 0), (1, 0), (20, 60), (2, 0), (1, 0), (20, 60), (2, 0), (1, 0), (20, 60), (2, 0), (1, 0), (20, 60), (2, 0), (1, 0), (20, 60), (2, 0), (1, 0), (20, 60), (2, 0), (1, 0), (20, 60), (2, 0), (1, 0), (20, 60), (2, 0), (1, 0), (20, 60), (2, 0), (1, 0), (20, 60), (2, 0), (1, 0), (20, 60), (2, 0), (1, 0), (20, 60), (2, 0), (1, 0), (20, 60), (2, 0), (1, 0), (20, 60), (2, 0), (1, 0), (20, 60), (2, 0), (1, 0), (20, 60), (2, 0), (1, 0), (20, 60), (2, 0), (1, 0), (20, 60), (2, 0), (1, 0), (20, 60), (2, 0), (1, 0), (20, 60), (2, 0), (1, 0), (20, 60), (1, 0), (20, 8400), (3, 0), (24, 41), (2, 0), (1, 0), (20, 60), (2, 0), (1, 0), (20, 60), (2, 0), (1, 0), (20, 60), (2, 0), (1, 0), (20, 60), (2, 0), (1, 0), (20, 60), (2, 0), (1, 0), (20, 60), (2, 0), (1, 0), (20, 60), (2, 0), (1, 0), (20, 60), (2, 0), (1, 0), (20, 60), (2, 0), (1, 0), (20, 60), (2, 0), (1, 0), (20, 60), (2, 0), (1, 0), (20, 60), (2, 0), (1, 0), (20, 60), (2, 0), (1, 0), (20, 60), (2, 0), (1, 0), (20, 60), (2, 0), (1, 0), (20, 60), (2, 0), (1, 0), (20, 60), (2, 0), (1, 0), (20, 60), (2, 0), (1, 0), (20, 60), (2, 0), (1, 0), (20, 60), (2, 0), (1, 0), (20, 60), (2, 0), (1, 0), (20, 60), (2, 0), (1, 0), (20, 60), (2, 0), (1, 0), (20, 60), (2, 0), (1, 0), (20, 60), (2, 0), (1, 0), (20, 60), (2, 0), (1, 0), (20, 60), (2, 0), (1, 0), (20, 60), (2, 0), (1, 0), (20, 60), (2, 0), (1, 0), (20, 60), (2, 0), (1, 0), (20, 60), (2, 0), (1, 0), (20, 60), (2, 0), (1, 0), (20, 60), (2, 0), (1, 0), (20, 60), (2, 0), (1, 0), (20, 60), (2, 0), (1, 0), (20, 60), (2, 0), (1, 0), (20, 60), (2, 0), (1, 0), (20, 60), (2, 0), (1, 0), (20, 60), (2, 0), (1, 0), (20, 60), (2, 0), (1, 0), (20, 60), (1, 0), (20, 8400), (1, 0), (20, 14000), (4, 0), (1, 0), (20, 26000), (1, 0), (20, 36000), (21, 999), (6, 0), (1, 0), (20, 48000), (21, 1000), (21, 1000), (5, 0), (7, 0), (21, 16384), (21, 16384), (21, 16384), (8, 0), (21, 16384), (21, 16384), (1, 0), (20, 16000), (1, 0), (20, 36000), (1, 0), (20, 48000), (1, 0), (20, 50000), (9, 0), (20, 10), (20, 15), (20, 5), (20, 3), (20, 5), (20, 6), (20, 8000), (21, 3), (20, 7380), (21, 123), (21, 123), (21, 123), (21, 123), (21, 123), (21, 123), (21, 123), (21, 123), (21, 123), (21, 3), (20, 60000), (20, 60), (20, 24000), (20, 40000), (20, 56000), (20, 40000), (20, 56000), (22, 1000), (21, 1000), (21, 1000), (20, 70000), (20, 56000), (20, 56000), (21, 65537), (21, 65537), (21, 65537), (21, 65537), (20, 9000), (23, 1)]
def N0 : Nat := 452
/-- what a place holds: below 20 an object of that class, 20 byte[], 21 int[], 22 boolean[], 23 long[], 24 Entry[] -/
def tg (k : Nat) : Nat := (layL.getD k (99, 0)).1
def ln (k : Nat) : Nat := (layL.getD k (99, 0)).2
/-- the classes of what is thrown -/
def exN (k : Nat) : String := match k with
  | 1 => "java/lang/IllegalArgumentException"
  | 2 => "java/lang/UnsupportedOperationException"
  | 3 => "java/lang/IllegalStateException"
  | _ => "java/lang/IndexOutOfBoundsException"
def chainL : List String := ["java/lang/RuntimeException", "java/lang/Exception", "java/lang/Throwable"]
/-- what is thrown is not of those classes -/
def neL : List (Nat × Nat) := [(2, 1), (3, 1), (2, 3), (1, 4), (3, 4), (2, 4), (4, 1)]
-- methods
abbrev b_Mc_init : ByteArray := prog_1_method_1_code
def y_Mc_init : MethodName := ⟨"MailChain", "<init>", "()V"⟩
abbrev b_JObject_init : ByteArray := object_method_1_code
def y_JObject_init : MethodName := ⟨"java/lang/Object", "<init>", "()V"⟩
abbrev b_Ro_init : ByteArray := prog_8_method_1_code
def y_Ro_init : MethodName := ⟨"MailChain$Row", "<init>", "(I)V"⟩
abbrev b_Tr_init : ByteArray := prog_11_method_1_code
def y_Tr_init : MethodName := ⟨"MailChain$Tree", "<init>", "()V"⟩
abbrev b_En_init : ByteArray := prog_4_method_1_code
def y_En_init : MethodName := ⟨"MailChain$Entry", "<init>", "()V"⟩
abbrev b_Ma_init : ByteArray := prog_6_method_1_code
def y_Ma_init : MethodName := ⟨"MailChain$Mail", "<init>", "()V"⟩
abbrev b_Bo_init : ByteArray := prog_3_method_1_code
def y_Bo_init : MethodName := ⟨"MailChain$Box", "<init>", "()V"⟩
abbrev b_JArrays_fill : ByteArray := prog_31_method_103_code
def y_JArrays_fill : MethodName := ⟨"java/util/Arrays", "fill", "([II)V"⟩
abbrev b_Pl_init : ByteArray := prog_7_method_1_code
def y_Pl_init : MethodName := ⟨"MailChain$PartLine", "<init>", "()V"⟩
abbrev b_Sq_init : ByteArray := prog_10_method_1_code
def y_Sq_init : MethodName := ⟨"MailChain$Squeezer", "<init>", "()V"⟩
abbrev b_Ex_init : ByteArray := prog_5_method_1_code
def y_Ex_init : MethodName := ⟨"MailChain$Expander", "<init>", "()V"⟩
abbrev b_Mc_clear : ByteArray := prog_1_method_7_code
def y_Mc_clear : MethodName := ⟨"MailChain", "clear", "()I"⟩
abbrev b_Tr_wipe : ByteArray := prog_11_method_2_code
def y_Tr_wipe : MethodName := ⟨"MailChain$Tree", "wipe", "()V"⟩
abbrev b_Ro_wipe : ByteArray := prog_8_method_2_code
def y_Ro_wipe : MethodName := ⟨"MailChain$Row", "wipe", "()V"⟩
abbrev b_Mc_checksum : ByteArray := prog_1_method_13_code
def y_Mc_checksum : MethodName := ⟨"MailChain", "checksum", "()I"⟩
abbrev b_Ro_sum : ByteArray := prog_8_method_16_code
def y_Ro_sum : MethodName := ⟨"MailChain$Row", "sum", "(II)I"⟩
abbrev b_Ro_at : ByteArray := prog_8_method_5_code
def y_Ro_at : MethodName := ⟨"MailChain$Row", "at", "(I)I"⟩
abbrev b_Ro_divide : ByteArray := prog_8_method_17_code
def y_Ro_divide : MethodName := ⟨"MailChain$Row", "divide", "(II)I"⟩
abbrev b_Mc_receive : ByteArray := prog_1_method_14_code
def y_Mc_receive : MethodName := ⟨"MailChain", "receive", "()I"⟩
abbrev b_Bo_take : ByteArray := prog_3_method_3_code
def y_Bo_take : MethodName := ⟨"MailChain$Box", "take", "(LMailChain$Row;)I"⟩
abbrev b_Pl_read : ByteArray := prog_7_method_2_code
def y_Pl_read : MethodName := ⟨"MailChain$PartLine", "read", "(LMailChain$Row;)Z"⟩
abbrev b_Pl_number : ByteArray := prog_7_method_3_code
def y_Pl_number : MethodName := ⟨"MailChain$PartLine", "number", "(LMailChain$Row;Ljava/lang/String;J)J"⟩
abbrev b_Ro_hasText : ByteArray := prog_8_method_13_code
def y_Ro_hasText : MethodName := ⟨"MailChain$Row", "hasText", "(Ljava/lang/String;I)Z"⟩
abbrev b_JString_length : ByteArray := prog_24_method_54_code
def y_JString_length : MethodName := ⟨"java/lang/String", "length", "()I"⟩
abbrev b_JString_coder : ByteArray := prog_24_method_152_code
def y_JString_coder : MethodName := ⟨"java/lang/String", "coder", "()B"⟩
abbrev b_JString_charAt : ByteArray := prog_24_method_56_code
def y_JString_charAt : MethodName := ⟨"java/lang/String", "charAt", "(I)C"⟩
abbrev b_JString_isLatin1 : ByteArray := prog_24_method_154_code
def y_JString_isLatin1 : MethodName := ⟨"java/lang/String", "isLatin1", "()Z"⟩
abbrev b_JStringLatin1_charAt : ByteArray := prog_26_method_2_code
def y_JStringLatin1_charAt : MethodName := ⟨"java/lang/StringLatin1", "charAt", "([BI)C"⟩
abbrev b_JString_checkIndex : ByteArray := prog_24_method_155_code
def y_JString_checkIndex : MethodName := ⟨"java/lang/String", "checkIndex", "(II)V"⟩
abbrev b_JPreconditions_checkIndex : ByteArray := prog_33_method_11_code
def y_JPreconditions_checkIndex : MethodName := ⟨"jdk/internal/util/Preconditions", "checkIndex", "(IILjava/util/function/BiFunction;)I"⟩
abbrev b_JStringUTF16_charAt : ByteArray := prog_27_method_83_code
def y_JStringUTF16_charAt : MethodName := ⟨"java/lang/StringUTF16", "charAt", "([BI)C"⟩
abbrev b_JStringUTF16_checkIndex : ByteArray := prog_27_method_91_code
def y_JStringUTF16_checkIndex : MethodName := ⟨"java/lang/StringUTF16", "checkIndex", "(I[B)V"⟩
abbrev b_JStringUTF16_length : ByteArray := prog_27_method_6_code
def y_JStringUTF16_length : MethodName := ⟨"java/lang/StringUTF16", "length", "([B)I"⟩
abbrev b_JStringUTF16_getChar : ByteArray := prog_27_method_5_code
def y_JStringUTF16_getChar : MethodName := ⟨"java/lang/StringUTF16", "getChar", "([BI)C"⟩
abbrev b_Pl_isDigit : ByteArray := prog_7_method_4_code
def y_Pl_isDigit : MethodName := ⟨"MailChain$PartLine", "isDigit", "(I)Z"⟩
abbrev b_Bo_keep : ByteArray := prog_3_method_4_code
def y_Bo_keep : MethodName := ⟨"MailChain$Box", "keep", "(IILMailChain$Row;I)V"⟩
abbrev b_Ro_putRange : ByteArray := prog_8_method_8_code
def y_Ro_putRange : MethodName := ⟨"MailChain$Row", "putRange", "(LMailChain$Row;II)V"⟩
abbrev b_Ro_room : ByteArray := prog_8_method_3_code
def y_Ro_room : MethodName := ⟨"MailChain$Row", "room", "()I"⟩
abbrev b_Mc_empty : ByteArray := prog_1_method_18_code
def y_Mc_empty : MethodName := ⟨"MailChain", "empty", "()I"⟩
abbrev b_Bo_wipe : ByteArray := prog_3_method_2_code
def y_Bo_wipe : MethodName := ⟨"MailChain$Box", "wipe", "()V"⟩
abbrev b_Mc_unpack : ByteArray := prog_1_method_19_code
def y_Mc_unpack : MethodName := ⟨"MailChain", "unpack", "()I"⟩
abbrev b_Bo_isWhole : ByteArray := prog_3_method_5_code
def y_Bo_isWhole : MethodName := ⟨"MailChain$Box", "isWhole", "()Z"⟩
abbrev b_Bo_join : ByteArray := prog_3_method_6_code
def y_Bo_join : MethodName := ⟨"MailChain$Box", "join", "(LMailChain$Row;)Z"⟩
abbrev b_Sp_read : ByteArray := prog_9_method_6_code
def y_Sp_read : MethodName := ⟨"MailChain$Spelling", "read", "(LMailChain$Row;LMailChain$Row;)V"⟩
abbrev b_Sp_sixOf : ByteArray := prog_9_method_5_code
def y_Sp_sixOf : MethodName := ⟨"MailChain$Spelling", "sixOf", "(I)I"⟩
abbrev b_Sp_readLine : ByteArray := prog_9_method_7_code
def y_Sp_readLine : MethodName := ⟨"MailChain$Spelling", "readLine", "(LMailChain$Row;IILMailChain$Row;)V"⟩
abbrev b_Ro_put : ByteArray := prog_8_method_6_code
def y_Ro_put : MethodName := ⟨"MailChain$Row", "put", "(I)V"⟩
abbrev b_Sp_write : ByteArray := prog_9_method_2_code
def y_Sp_write : MethodName := ⟨"MailChain$Spelling", "write", "(LMailChain$Row;LMailChain$Row;)V"⟩
abbrev b_Ro_putText : ByteArray := prog_8_method_10_code
def y_Ro_putText : MethodName := ⟨"MailChain$Row", "putText", "(Ljava/lang/String;)V"⟩
abbrev b_JMath_min : ByteArray := prog_22_method_69_code
def y_JMath_min : MethodName := ⟨"java/lang/Math", "min", "(II)I"⟩
abbrev b_Sp_writeLine : ByteArray := prog_9_method_3_code
def y_Sp_writeLine : MethodName := ⟨"MailChain$Spelling", "writeLine", "(LMailChain$Row;IILMailChain$Row;)V"⟩
abbrev b_Sp_letter : ByteArray := prog_9_method_4_code
def y_Sp_letter : MethodName := ⟨"MailChain$Spelling", "letter", "(I)I"⟩
abbrev b_JMath_max : ByteArray := prog_22_method_65_code
def y_JMath_max : MethodName := ⟨"java/lang/Math", "max", "(II)I"⟩
abbrev b_Ro_same : ByteArray := prog_8_method_14_code
def y_Ro_same : MethodName := ⟨"MailChain$Row", "same", "(LMailChain$Row;)Z"⟩
abbrev b_Ro_order : ByteArray := prog_8_method_15_code
def y_Ro_order : MethodName := ⟨"MailChain$Row", "order", "(LMailChain$Row;I)I"⟩
abbrev b_Ex_expand : ByteArray := prog_5_method_2_code
def y_Ex_expand : MethodName := ⟨"MailChain$Expander", "expand", "(LMailChain$Row;LMailChain$Row;)Z"⟩
abbrev b_Mc_isWidth : ByteArray := prog_1_method_9_code
def y_Mc_isWidth : MethodName := ⟨"MailChain", "isWidth", "(I)Z"⟩
abbrev b_Ex_begin : ByteArray := prog_5_method_3_code
def y_Ex_begin : MethodName := ⟨"MailChain$Expander", "begin", "()V"⟩
abbrev b_Ex_readCode : ByteArray := prog_5_method_6_code
def y_Ex_readCode : MethodName := ⟨"MailChain$Expander", "readCode", "(LMailChain$Row;)I"⟩
abbrev b_Ex_changeWidth : ByteArray := prog_5_method_5_code
def y_Ex_changeWidth : MethodName := ⟨"MailChain$Expander", "changeWidth", "(I)V"⟩
abbrev b_Ex_tell : ByteArray := prog_5_method_7_code
def y_Ex_tell : MethodName := ⟨"MailChain$Expander", "tell", "(ILMailChain$Row;)Z"⟩
abbrev b_Ex_restart : ByteArray := prog_5_method_4_code
def y_Ex_restart : MethodName := ⟨"MailChain$Expander", "restart", "()V"⟩
abbrev b_Sq_squeeze : ByteArray := prog_10_method_2_code
def y_Sq_squeeze : MethodName := ⟨"MailChain$Squeezer", "squeeze", "(LMailChain$Row;ILMailChain$Row;)V"⟩
abbrev b_Sq_begin : ByteArray := prog_10_method_3_code
def y_Sq_begin : MethodName := ⟨"MailChain$Squeezer", "begin", "(I)V"⟩
abbrev b_Sq_forget : ByteArray := prog_10_method_4_code
def y_Sq_forget : MethodName := ⟨"MailChain$Squeezer", "forget", "()V"⟩
abbrev b_JArrays_fillx : ByteArray := prog_31_method_104_code
def y_JArrays_fillx : MethodName := ⟨"java/util/Arrays", "fill", "([IIII)V"⟩
abbrev b_JArrays_rangeCheck : ByteArray := prog_31_method_30_code
def y_JArrays_rangeCheck : MethodName := ⟨"java/util/Arrays", "rangeCheck", "(III)V"⟩
abbrev b_JThrowable_init : ByteArray := prog_29_method_1_code
def y_JThrowable_init : MethodName := ⟨"java/lang/Throwable", "<init>", "()V"⟩
abbrev b_JThrowable_fillInStackTrace : ByteArray := prog_29_method_18_code
def y_JThrowable_fillInStackTrace : MethodName := ⟨"java/lang/Throwable", "fillInStackTrace", "()Ljava/lang/Throwable;"⟩
abbrev b_JStringBuilder_init : ByteArray := prog_25_method_1_code
def y_JStringBuilder_init : MethodName := ⟨"java/lang/StringBuilder", "<init>", "()V"⟩
abbrev b_JAbstractStringBuilder_init : ByteArray := prog_14_method_2_code
def y_JAbstractStringBuilder_init : MethodName := ⟨"java/lang/AbstractStringBuilder", "<init>", "(I)V"⟩
abbrev b_JStringUTF16_newBytesFor : ByteArray := prog_27_method_2_code
def y_JStringUTF16_newBytesFor : MethodName := ⟨"java/lang/StringUTF16", "newBytesFor", "(I)[B"⟩
abbrev b_JStringUTF16_newBytesLength : ByteArray := prog_27_method_3_code
def y_JStringUTF16_newBytesLength : MethodName := ⟨"java/lang/StringUTF16", "newBytesLength", "(I)I"⟩
abbrev b_JStringBuilder_append : ByteArray := prog_25_method_7_code
def y_JStringBuilder_append : MethodName := ⟨"java/lang/StringBuilder", "append", "(Ljava/lang/String;)Ljava/lang/StringBuilder;"⟩
abbrev b_JAbstractStringBuilder_append : ByteArray := prog_14_method_22_code
def y_JAbstractStringBuilder_append : MethodName := ⟨"java/lang/AbstractStringBuilder", "append", "(Ljava/lang/String;)Ljava/lang/AbstractStringBuilder;"⟩
abbrev b_JAbstractStringBuilder_appendNull : ByteArray := prog_14_method_26_code
def y_JAbstractStringBuilder_appendNull : MethodName := ⟨"java/lang/AbstractStringBuilder", "appendNull", "()Ljava/lang/AbstractStringBuilder;"⟩
abbrev b_JAbstractStringBuilder_ensureCapacityInternal : ByteArray := prog_14_method_9_code
def y_JAbstractStringBuilder_ensureCapacityInternal : MethodName := ⟨"java/lang/AbstractStringBuilder", "ensureCapacityInternal", "(I)V"⟩
abbrev b_JAbstractStringBuilder_newCapacity : ByteArray := prog_14_method_10_code
def y_JAbstractStringBuilder_newCapacity : MethodName := ⟨"java/lang/AbstractStringBuilder", "newCapacity", "(I)I"⟩
abbrev b_JArraysSupport_newLength : ByteArray := prog_32_method_27_code
def y_JArraysSupport_newLength : MethodName := ⟨"jdk/internal/util/ArraysSupport", "newLength", "(III)I"⟩
abbrev b_JArraysSupport_hugeLength : ByteArray := prog_32_method_28_code
def y_JArraysSupport_hugeLength : MethodName := ⟨"jdk/internal/util/ArraysSupport", "hugeLength", "(II)I"⟩
abbrev b_JArrays_copyOf : ByteArray := prog_31_method_121_code
def y_JArrays_copyOf : MethodName := ⟨"java/util/Arrays", "copyOf", "([BI)[B"⟩
abbrev b_JAbstractStringBuilder_isLatin1 : ByteArray := prog_14_method_68_code
def y_JAbstractStringBuilder_isLatin1 : MethodName := ⟨"java/lang/AbstractStringBuilder", "isLatin1", "()Z"⟩
abbrev b_JStringUTF16_putCharsAt : ByteArray := prog_27_method_81_code
def y_JStringUTF16_putCharsAt : MethodName := ⟨"java/lang/StringUTF16", "putCharsAt", "([BICCCC)I"⟩
abbrev b_JStringUTF16_checkBoundsBeginEnd : ByteArray := prog_27_method_93_code
def y_JStringUTF16_checkBoundsBeginEnd : MethodName := ⟨"java/lang/StringUTF16", "checkBoundsBeginEnd", "(II[B)V"⟩
abbrev b_JString_checkBoundsBeginEnd : ByteArray := prog_24_method_158_code
def y_JString_checkBoundsBeginEnd : MethodName := ⟨"java/lang/String", "checkBoundsBeginEnd", "(III)V"⟩
abbrev b_JPreconditions_checkFromToIndex : ByteArray := prog_33_method_12_code
def y_JPreconditions_checkFromToIndex : MethodName := ⟨"jdk/internal/util/Preconditions", "checkFromToIndex", "(IIILjava/util/function/BiFunction;)I"⟩
abbrev b_JStringUTF16_putChar : ByteArray := prog_27_method_4_code
def y_JStringUTF16_putChar : MethodName := ⟨"java/lang/StringUTF16", "putChar", "([BII)V"⟩
abbrev b_JAbstractStringBuilder_putStringAt : ByteArray := prog_14_method_73_code
def y_JAbstractStringBuilder_putStringAt : MethodName := ⟨"java/lang/AbstractStringBuilder", "putStringAt", "(ILjava/lang/String;)V"⟩
abbrev b_JAbstractStringBuilder_inflateIfNeededFor : ByteArray := prog_14_method_71_code
def y_JAbstractStringBuilder_inflateIfNeededFor : MethodName := ⟨"java/lang/AbstractStringBuilder", "inflateIfNeededFor", "(Ljava/lang/String;)V"⟩
abbrev b_JAbstractStringBuilder_inflate : ByteArray := prog_14_method_11_code
def y_JAbstractStringBuilder_inflate : MethodName := ⟨"java/lang/AbstractStringBuilder", "inflate", "()V"⟩
abbrev b_JStringLatin1_inflate : ByteArray := prog_26_method_50_code
def y_JStringLatin1_inflate : MethodName := ⟨"java/lang/StringLatin1", "inflate", "([BI[BII)V"⟩
abbrev b_JStringUTF16_inflate : ByteArray := prog_27_method_86_code
def y_JStringUTF16_inflate : MethodName := ⟨"java/lang/StringUTF16", "inflate", "([BI[BII)V"⟩
abbrev b_JStringUTF16_checkBoundsOffCount : ByteArray := prog_27_method_94_code
def y_JStringUTF16_checkBoundsOffCount : MethodName := ⟨"java/lang/StringUTF16", "checkBoundsOffCount", "(II[B)V"⟩
abbrev b_JString_checkBoundsOffCount : ByteArray := prog_24_method_157_code
def y_JString_checkBoundsOffCount : MethodName := ⟨"java/lang/String", "checkBoundsOffCount", "(III)I"⟩
abbrev b_JPreconditions_checkFromIndexSize : ByteArray := prog_33_method_13_code
def y_JPreconditions_checkFromIndexSize : MethodName := ⟨"jdk/internal/util/Preconditions", "checkFromIndexSize", "(IIILjava/util/function/BiFunction;)I"⟩
abbrev b_JString_getBytes : ByteArray := prog_24_method_147_code
def y_JString_getBytes : MethodName := ⟨"java/lang/String", "getBytes", "([BIB)V"⟩
abbrev b_JStringBuilder_appendx : ByteArray := prog_25_method_15_code
def y_JStringBuilder_appendx : MethodName := ⟨"java/lang/StringBuilder", "append", "(I)Ljava/lang/StringBuilder;"⟩
abbrev b_JAbstractStringBuilder_appendx : ByteArray := prog_14_method_32_code
def y_JAbstractStringBuilder_appendx : MethodName := ⟨"java/lang/AbstractStringBuilder", "append", "(I)Ljava/lang/AbstractStringBuilder;"⟩
abbrev b_JInteger_stringSize : ByteArray := prog_21_method_13_code
def y_JInteger_stringSize : MethodName := ⟨"java/lang/Integer", "stringSize", "(I)I"⟩
abbrev b_JInteger_getChars : ByteArray := prog_21_method_12_code
def y_JInteger_getChars : MethodName := ⟨"java/lang/Integer", "getChars", "(II[B)I"⟩
abbrev b_JStringUTF16_getChars : ByteArray := prog_27_method_77_code
def y_JStringUTF16_getChars : MethodName := ⟨"java/lang/StringUTF16", "getChars", "(III[B)I"⟩
abbrev b_JStringUTF16_getCharsx : ByteArray := prog_27_method_89_code
def y_JStringUTF16_getCharsx : MethodName := ⟨"java/lang/StringUTF16", "getChars", "(II[B)I"⟩
abbrev b_JStringBuilder_toString : ByteArray := prog_25_method_42_code
def y_JStringBuilder_toString : MethodName := ⟨"java/lang/StringBuilder", "toString", "()Ljava/lang/String;"⟩
abbrev b_JString_init : ByteArray := prog_24_method_53_code
def y_JString_init : MethodName := ⟨"java/lang/String", "<init>", "(Ljava/lang/StringBuilder;)V"⟩
abbrev b_JString_initx : ByteArray := prog_24_method_150_code
def y_JString_initx : MethodName := ⟨"java/lang/String", "<init>", "(Ljava/lang/AbstractStringBuilder;Ljava/lang/Void;)V"⟩
abbrev b_JAbstractStringBuilder_getValue : ByteArray := prog_14_method_64_code
def y_JAbstractStringBuilder_getValue : MethodName := ⟨"java/lang/AbstractStringBuilder", "getValue", "()[B"⟩
abbrev b_JStringBuilder_length : ByteArray := prog_25_method_93_code
def y_JStringBuilder_length : MethodName := ⟨"java/lang/StringBuilder", "length", "()I"⟩
abbrev b_JAbstractStringBuilder_length : ByteArray := prog_14_method_6_code
def y_JAbstractStringBuilder_length : MethodName := ⟨"java/lang/AbstractStringBuilder", "length", "()I"⟩
abbrev b_JArrays_copyOfRange : ByteArray := prog_31_method_132_code
def y_JArrays_copyOfRange : MethodName := ⟨"java/util/Arrays", "copyOfRange", "([BII)[B"⟩
abbrev b_JArrays_copyOfRangeByte : ByteArray := prog_31_method_133_code
def y_JArrays_copyOfRangeByte : MethodName := ⟨"java/util/Arrays", "copyOfRangeByte", "([BII)[B"⟩
abbrev b_JArrays_checkLength : ByteArray := prog_31_method_131_code
def y_JArrays_checkLength : MethodName := ⟨"java/util/Arrays", "checkLength", "(II)V"⟩
abbrev b_JIllegalArgumentException_init : ByteArray := prog_18_method_2_code
def y_JIllegalArgumentException_init : MethodName := ⟨"java/lang/IllegalArgumentException", "<init>", "(Ljava/lang/String;)V"⟩
abbrev b_JRuntimeException_init : ByteArray := prog_23_method_2_code
def y_JRuntimeException_init : MethodName := ⟨"java/lang/RuntimeException", "<init>", "(Ljava/lang/String;)V"⟩
abbrev b_JException_init : ByteArray := prog_17_method_2_code
def y_JException_init : MethodName := ⟨"java/lang/Exception", "<init>", "(Ljava/lang/String;)V"⟩
abbrev b_JThrowable_initx : ByteArray := prog_29_method_2_code
def y_JThrowable_initx : MethodName := ⟨"java/lang/Throwable", "<init>", "(Ljava/lang/String;)V"⟩
abbrev b_JStringUTF16_compress : ByteArray := prog_27_method_17_code
def y_JStringUTF16_compress : MethodName := ⟨"java/lang/StringUTF16", "compress", "([BII)[B"⟩
abbrev b_JStringUTF16_compressx : ByteArray := prog_27_method_22_code
def y_JStringUTF16_compressx : MethodName := ⟨"java/lang/StringUTF16", "compress", "([BI[BII)I"⟩
abbrev b_JStringUTF16_coderFromArrayLen : ByteArray := prog_27_method_15_code
def y_JStringUTF16_coderFromArrayLen : MethodName := ⟨"java/lang/StringUTF16", "coderFromArrayLen", "([BI)B"⟩
abbrev b_JArrayIndexOutOfBoundsException_init : ByteArray := prog_15_method_3_code
def y_JArrayIndexOutOfBoundsException_init : MethodName := ⟨"java/lang/ArrayIndexOutOfBoundsException", "<init>", "(I)V"⟩
abbrev b_JIndexOutOfBoundsException_init : ByteArray := prog_20_method_2_code
def y_JIndexOutOfBoundsException_init : MethodName := ⟨"java/lang/IndexOutOfBoundsException", "<init>", "(Ljava/lang/String;)V"⟩
abbrev b_Sq_childOf : ByteArray := prog_10_method_5_code
def y_Sq_childOf : MethodName := ⟨"MailChain$Squeezer", "childOf", "(II)I"⟩
abbrev b_Sq_putCode : ByteArray := prog_10_method_7_code
def y_Sq_putCode : MethodName := ⟨"MailChain$Squeezer", "putCode", "(ILMailChain$Row;)V"⟩
abbrev b_Sq_changeWidth : ByteArray := prog_10_method_8_code
def y_Sq_changeWidth : MethodName := ⟨"MailChain$Squeezer", "changeWidth", "(ILMailChain$Row;)V"⟩
abbrev b_Sq_putBits : ByteArray := prog_10_method_9_code
def y_Sq_putBits : MethodName := ⟨"MailChain$Squeezer", "putBits", "(ILMailChain$Row;)V"⟩
abbrev b_Sq_learn : ByteArray := prog_10_method_6_code
def y_Sq_learn : MethodName := ⟨"MailChain$Squeezer", "learn", "(IILMailChain$Row;)V"⟩
abbrev b_Ar_read : ByteArray := prog_2_method_6_code
def y_Ar_read : MethodName := ⟨"MailChain$Archive", "read", "(LMailChain$Row;LMailChain$Tree;)Z"⟩
abbrev b_Ar_readEntry : ByteArray := prog_2_method_7_code
def y_Ar_readEntry : MethodName := ⟨"MailChain$Archive", "readEntry", "(LMailChain$Row;ILMailChain$Tree;)I"⟩
abbrev b_Ar_octal : ByteArray := prog_2_method_9_code
def y_Ar_octal : MethodName := ⟨"MailChain$Archive", "octal", "(LMailChain$Row;II)I"⟩
abbrev b_Tr_draft : ByteArray := prog_11_method_4_code
def y_Tr_draft : MethodName := ⟨"MailChain$Tree", "draft", "()LMailChain$Entry;"⟩
abbrev b_Ro_copy : ByteArray := prog_8_method_9_code
def y_Ro_copy : MethodName := ⟨"MailChain$Row", "copy", "(LMailChain$Row;II)V"⟩
abbrev b_Ar_readFields : ByteArray := prog_2_method_8_code
def y_Ar_readFields : MethodName := ⟨"MailChain$Archive", "readFields", "(LMailChain$Row;ILMailChain$Entry;)V"⟩
abbrev b_Ar_kindOf : ByteArray := prog_2_method_5_code
def y_Ar_kindOf : MethodName := ⟨"MailChain$Archive", "kindOf", "(I)I"⟩
abbrev b_Ar_kindDigits : ByteArray := prog_2_method_4_code
def y_Ar_kindDigits : MethodName := ⟨"MailChain$Archive", "kindDigits", "(I)I"⟩
abbrev b_Tr_enter : ByteArray := prog_11_method_5_code
def y_Tr_enter : MethodName := ⟨"MailChain$Tree", "enter", "(LMailChain$Row;II)I"⟩
abbrev b_En_hasSoundFields : ByteArray := prog_4_method_3_code
def y_En_hasSoundFields : MethodName := ⟨"MailChain$Entry", "hasSoundFields", "()Z"⟩
abbrev b_Tr_isBody : ByteArray := prog_11_method_7_code
def y_Tr_isBody : MethodName := ⟨"MailChain$Tree", "isBody", "(ILMailChain$Row;II)Z"⟩
abbrev b_Tr_isTarget : ByteArray := prog_11_method_8_code
def y_Tr_isTarget : MethodName := ⟨"MailChain$Tree", "isTarget", "(LMailChain$Row;II)Z"⟩
abbrev b_Tr_insertDraft : ByteArray := prog_11_method_9_code
def y_Tr_insertDraft : MethodName := ⟨"MailChain$Tree", "insertDraft", "()I"⟩
abbrev b_En_hasSoundPath : ByteArray := prog_4_method_4_code
def y_En_hasSoundPath : MethodName := ⟨"MailChain$Entry", "hasSoundPath", "()Z"⟩
abbrev b_En_isName : ByteArray := prog_4_method_5_code
def y_En_isName : MethodName := ⟨"MailChain$Entry", "isName", "(II)Z"⟩
abbrev b_Tr_hasParentOf : ByteArray := prog_11_method_10_code
def y_Tr_hasParentOf : MethodName := ⟨"MailChain$Tree", "hasParentOf", "(LMailChain$Entry;)Z"⟩
abbrev b_En_parentSize : ByteArray := prog_4_method_6_code
def y_En_parentSize : MethodName := ⟨"MailChain$Entry", "parentSize", "()I"⟩
abbrev b_Tr_placeOf : ByteArray := prog_11_method_11_code
def y_Tr_placeOf : MethodName := ⟨"MailChain$Tree", "placeOf", "(LMailChain$Row;I)I"⟩
abbrev b_Tr_has : ByteArray := prog_11_method_3_code
def y_Tr_has : MethodName := ⟨"MailChain$Tree", "has", "(I)Z"⟩
abbrev b_Tr_enterLink : ByteArray := prog_11_method_6_code
def y_Tr_enterLink : MethodName := ⟨"MailChain$Tree", "enterLink", "(I)I"⟩
abbrev b_En_becomeLinkOf : ByteArray := prog_4_method_2_code
def y_En_becomeLinkOf : MethodName := ⟨"MailChain$Entry", "becomeLinkOf", "(LMailChain$Entry;)V"⟩
abbrev b_Ar_write : ByteArray := prog_2_method_2_code
def y_Ar_write : MethodName := ⟨"MailChain$Archive", "write", "(LMailChain$Tree;LMailChain$Row;)V"⟩
abbrev b_Tr_hasArchive : ByteArray := prog_11_method_14_code
def y_Tr_hasArchive : MethodName := ⟨"MailChain$Tree", "hasArchive", "()Z"⟩
abbrev b_Tr_firstLinkOf : ByteArray := prog_11_method_12_code
def y_Tr_firstLinkOf : MethodName := ⟨"MailChain$Tree", "firstLinkOf", "(I)I"⟩
abbrev b_Tr_linksOf : ByteArray := prog_11_method_13_code
def y_Tr_linksOf : MethodName := ⟨"MailChain$Tree", "linksOf", "(I)I"⟩
abbrev b_Ar_writeHeader : ByteArray := prog_2_method_3_code
def y_Ar_writeHeader : MethodName := ⟨"MailChain$Archive", "writeHeader", "(LMailChain$Entry;IILMailChain$Row;)V"⟩
abbrev b_Ro_putOctal : ByteArray := prog_8_method_11_code
def y_Ro_putOctal : MethodName := ⟨"MailChain$Row", "putOctal", "(II)V"⟩
abbrev b_Mc_swapYours : ByteArray := prog_1_method_20_code
def y_Mc_swapYours : MethodName := ⟨"MailChain", "swapYours", "()V"⟩
abbrev b_La_type : ByteArray := method_3_code
def y_La_type : MethodName := ⟨"MailChainLaw", "type", "(LMailChain;JI[J)I"⟩
abbrev b_Mc_type : ByteArray := prog_1_method_2_code
def y_Mc_type : MethodName := ⟨"MailChain", "type", "(JI)I"⟩
abbrev b_JIllegalArgumentException_initx : ByteArray := prog_18_method_1_code
def y_JIllegalArgumentException_initx : MethodName := ⟨"java/lang/IllegalArgumentException", "<init>", "()V"⟩
abbrev b_JRuntimeException_initx : ByteArray := prog_23_method_1_code
def y_JRuntimeException_initx : MethodName := ⟨"java/lang/RuntimeException", "<init>", "()V"⟩
abbrev b_JException_initx : ByteArray := prog_17_method_1_code
def y_JException_initx : MethodName := ⟨"java/lang/Exception", "<init>", "()V"⟩
abbrev b_JUnsupportedOperationException_init : ByteArray := prog_30_method_1_code
def y_JUnsupportedOperationException_init : MethodName := ⟨"java/lang/UnsupportedOperationException", "<init>", "()V"⟩
abbrev b_La_again : ByteArray := method_4_code
def y_La_again : MethodName := ⟨"MailChainLaw", "again", "(LMailChain;I[J)I"⟩
abbrev b_Mc_again : ByteArray := prog_1_method_3_code
def y_Mc_again : MethodName := ⟨"MailChain", "again", "(I)I"⟩
abbrev b_La_add : ByteArray := method_5_code
def y_La_add : MethodName := ⟨"MailChainLaw", "add", "(LMailChain;IIIIII[J)I"⟩
abbrev b_Mc_add : ByteArray := prog_1_method_4_code
def y_Mc_add : MethodName := ⟨"MailChain", "add", "(IIIIII)I"⟩
abbrev b_Mc_afterEntering : ByteArray := prog_1_method_6_code
def y_Mc_afterEntering : MethodName := ⟨"MailChain", "afterEntering", "(I)I"⟩
abbrev b_JIndexOutOfBoundsException_initx : ByteArray := prog_20_method_1_code
def y_JIndexOutOfBoundsException_initx : MethodName := ⟨"java/lang/IndexOutOfBoundsException", "<init>", "()V"⟩
abbrev b_JIllegalStateException_init : ByteArray := prog_19_method_1_code
def y_JIllegalStateException_init : MethodName := ⟨"java/lang/IllegalStateException", "<init>", "()V"⟩
abbrev b_La_link : ByteArray := method_6_code
def y_La_link : MethodName := ⟨"MailChainLaw", "link", "(LMailChain;I[J)I"⟩
abbrev b_Mc_link : ByteArray := prog_1_method_5_code
def y_Mc_link : MethodName := ⟨"MailChain", "link", "(I)I"⟩
abbrev b_La_pack : ByteArray := method_7_code
def y_La_pack : MethodName := ⟨"MailChainLaw", "pack", "(LMailChain;II[J)I"⟩
abbrev b_Mc_pack : ByteArray := prog_1_method_8_code
def y_Mc_pack : MethodName := ⟨"MailChain", "pack", "(II)I"⟩
abbrev b_Mc_refreshArchive : ByteArray := prog_1_method_10_code
def y_Mc_refreshArchive : MethodName := ⟨"MailChain", "refreshArchive", "()V"⟩
abbrev b_Ma_keep : ByteArray := prog_6_method_2_code
def y_Ma_keep : MethodName := ⟨"MailChain$Mail", "keep", "(LMailChain$Row;LMailChain$Row;I)V"⟩
abbrev b_Ma_pieceEnd : ByteArray := prog_6_method_5_code
def y_Ma_pieceEnd : MethodName := ⟨"MailChain$Mail", "pieceEnd", "(I)I"⟩
abbrev b_La_part : ByteArray := method_8_code
def y_La_part : MethodName := ⟨"MailChainLaw", "part", "(LMailChain;II[J)I"⟩
abbrev b_Mc_part : ByteArray := prog_1_method_11_code
def y_Mc_part : MethodName := ⟨"MailChain", "part", "(II)I"⟩
abbrev b_Ma_has : ByteArray := prog_6_method_3_code
def y_Ma_has : MethodName := ⟨"MailChain$Mail", "has", "(I)Z"⟩
abbrev b_Ma_write : ByteArray := prog_6_method_4_code
def y_Ma_write : MethodName := ⟨"MailChain$Mail", "write", "(ILMailChain$Row;)V"⟩
abbrev b_Ro_putDecimal : ByteArray := prog_8_method_12_code
def y_Ro_putDecimal : MethodName := ⟨"MailChain$Row", "putDecimal", "(J)V"⟩
abbrev b_Ro_has : ByteArray := prog_8_method_4_code
def y_Ro_has : MethodName := ⟨"MailChain$Row", "has", "(I)Z"⟩
abbrev b_La_stage : ByteArray := method_9_code
def y_La_stage : MethodName := ⟨"MailChainLaw", "stage", "(LMailChain;II[J)I"⟩
abbrev b_Mc_stage : ByteArray := prog_1_method_12_code
def y_Mc_stage : MethodName := ⟨"MailChain", "stage", "(II)I"⟩
abbrev b_La_pass : ByteArray := method_10_code
def y_La_pass : MethodName := ⟨"MailChainLaw", "pass", "(LMailChain;III[J)I"⟩
abbrev b_Mc_pass : ByteArray := prog_1_method_15_code
def y_Mc_pass : MethodName := ⟨"MailChain", "pass", "(III)I"⟩
abbrev b_Ro_turn : ByteArray := prog_8_method_7_code
def y_Ro_turn : MethodName := ⟨"MailChain$Row", "turn", "(II)V"⟩
abbrev b_La_forge : ByteArray := method_11_code
def y_La_forge : MethodName := ⟨"MailChainLaw", "forge", "(LMailChain;II)I"⟩
abbrev b_Mc_forge : ByteArray := prog_1_method_16_code
def y_Mc_forge : MethodName := ⟨"MailChain", "forge", "(II)V"⟩
abbrev b_Mc_textOfTape : ByteArray := prog_1_method_17_code
def y_Mc_textOfTape : MethodName := ⟨"MailChain", "textOfTape", "(II)LMailChain$Row;"⟩
abbrev b_La_about : ByteArray := method_12_code
def y_La_about : MethodName := ⟨"MailChainLaw", "about", "(LMailChain;III[J)I"⟩
abbrev b_Mc_about : ByteArray := prog_1_method_21_code
def y_Mc_about : MethodName := ⟨"MailChain", "about", "(III)I"⟩
abbrev b_Tr_tell : ByteArray := prog_11_method_15_code
def y_Tr_tell : MethodName := ⟨"MailChain$Tree", "tell", "(II)I"⟩
abbrev b_La_byteOf : ByteArray := method_13_code
def y_La_byteOf : MethodName := ⟨"MailChainLaw", "byteOf", "(LMailChain;III[J)I"⟩
abbrev b_Mc_byteOf : ByteArray := prog_1_method_22_code
def y_Mc_byteOf : MethodName := ⟨"MailChain", "byteOf", "(III)I"⟩
abbrev b_Tr_hasByte : ByteArray := prog_11_method_16_code
def y_Tr_hasByte : MethodName := ⟨"MailChain$Tree", "hasByte", "(II)Z"⟩
abbrev b_Tr_byteAt : ByteArray := prog_11_method_17_code
def y_Tr_byteAt : MethodName := ⟨"MailChain$Tree", "byteAt", "(II)I"⟩
abbrev b_Mo_init : ByteArray := prog_13_method_1_code
def y_Mo_init : MethodName := ⟨"MailChainModel", "<init>", "()V"⟩
abbrev b_Mo_thrown : ByteArray := prog_13_method_2_code
def y_Mo_thrown : MethodName := ⟨"MailChainModel", "thrown", "()I"⟩
abbrev b_Mo_type : ByteArray := prog_13_method_3_code
def y_Mo_type : MethodName := ⟨"MailChainModel", "type", "(JI)I"⟩
abbrev b_Mo_again : ByteArray := prog_13_method_4_code
def y_Mo_again : MethodName := ⟨"MailChainModel", "again", "(I)I"⟩
abbrev b_Mo_add : ByteArray := prog_13_method_18_code
def y_Mo_add : MethodName := ⟨"MailChainModel", "add", "(IIIIII)I"⟩
abbrev b_Mo_added : ByteArray := prog_13_method_17_code
def y_Mo_added : MethodName := ⟨"MailChainModel", "added", "(IIIIII)I"⟩
abbrev b_Mo_isNumber : ByteArray := prog_13_method_14_code
def y_Mo_isNumber : MethodName := ⟨"MailChainModel", "isNumber", "(I)Z"⟩
abbrev b_Mo_look : ByteArray := prog_13_method_6_code
def y_Mo_look : MethodName := ⟨"MailChainModel", "look", "([BII)V"⟩
abbrev b_Mo_mayBe : ByteArray := prog_13_method_16_code
def y_Mo_mayBe : MethodName := ⟨"MailChainModel", "mayBe", "(II)Z"⟩
abbrev b_Mo_isTarget : ByteArray := prog_13_method_15_code
def y_Mo_isTarget : MethodName := ⟨"MailChainModel", "isTarget", "([BII)Z"⟩
abbrev b_Mo_isPath : ByteArray := prog_13_method_7_code
def y_Mo_isPath : MethodName := ⟨"MailChainModel", "isPath", "()Z"⟩
abbrev b_Mo_hasParent : ByteArray := prog_13_method_10_code
def y_Mo_hasParent : MethodName := ⟨"MailChainModel", "hasParent", "(I)Z"⟩
abbrev b_Mo_find : ByteArray := prog_13_method_9_code
def y_Mo_find : MethodName := ⟨"MailChainModel", "find", "(II)I"⟩
abbrev b_Mo_at : ByteArray := prog_13_method_5_code
def y_Mo_at : MethodName := ⟨"MailChainModel", "at", "(II)I"⟩
abbrev b_Mo_compare : ByteArray := prog_13_method_8_code
def y_Mo_compare : MethodName := ⟨"MailChainModel", "compare", "(II)I"⟩
abbrev b_Mo_bytesOf : ByteArray := prog_13_method_11_code
def y_Mo_bytesOf : MethodName := ⟨"MailChainModel", "bytesOf", "(I)I"⟩
abbrev b_Mo_enter : ByteArray := prog_13_method_13_code
def y_Mo_enter : MethodName := ⟨"MailChainModel", "enter", "(I)I"⟩
abbrev b_Mo_copyEntry : ByteArray := prog_13_method_12_code
def y_Mo_copyEntry : MethodName := ⟨"MailChainModel", "copyEntry", "(II)V"⟩
abbrev b_Mo_link : ByteArray := prog_13_method_21_code
def y_Mo_link : MethodName := ⟨"MailChainModel", "link", "(I)I"⟩
abbrev b_Mo_linkedNow : ByteArray := prog_13_method_19_code
def y_Mo_linkedNow : MethodName := ⟨"MailChainModel", "linkedNow", "(I)I"⟩
abbrev b_Mo_copyAttributes : ByteArray := prog_13_method_20_code
def y_Mo_copyAttributes : MethodName := ⟨"MailChainModel", "copyAttributes", "(II)V"⟩
abbrev b_Mo_clear : ByteArray := prog_13_method_22_code
def y_Mo_clear : MethodName := ⟨"MailChainModel", "clear", "()I"⟩
abbrev b_Mo_checksum : ByteArray := prog_13_method_46_code
def y_Mo_checksum : MethodName := ⟨"MailChainModel", "checksum", "()I"⟩
abbrev b_Mo_sumOf : ByteArray := prog_13_method_45_code
def y_Mo_sumOf : MethodName := ⟨"MailChainModel", "sumOf", "([BII)I"⟩
abbrev b_Mo_step : ByteArray := prog_13_method_44_code
def y_Mo_step : MethodName := ⟨"MailChainModel", "step", "(II)I"⟩
abbrev b_Mo_pack : ByteArray := prog_13_method_47_code
def y_Mo_pack : MethodName := ⟨"MailChainModel", "pack", "(II)I"⟩
abbrev b_Mo_isLarge : ByteArray := prog_13_method_29_code
def y_Mo_isLarge : MethodName := ⟨"MailChainModel", "isLarge", "(I)Z"⟩
abbrev b_Mo_archiveOf : ByteArray := prog_13_method_28_code
def y_Mo_archiveOf : MethodName := ⟨"MailChainModel", "archiveOf", "(I)V"⟩
abbrev b_Mo_firstOf : ByteArray := prog_13_method_26_code
def y_Mo_firstOf : MethodName := ⟨"MailChainModel", "firstOf", "(II)I"⟩
abbrev b_Mo_linksOf : ByteArray := prog_13_method_27_code
def y_Mo_linksOf : MethodName := ⟨"MailChainModel", "linksOf", "(II)I"⟩
abbrev b_Mo_header : ByteArray := prog_13_method_25_code
def y_Mo_header : MethodName := ⟨"MailChainModel", "header", "(IIIIIIII)V"⟩
abbrev b_Mo_octal : ByteArray := prog_13_method_23_code
def y_Mo_octal : MethodName := ⟨"MailChainModel", "octal", "(JI)V"⟩
abbrev b_Mo_zero : ByteArray := prog_13_method_24_code
def y_Mo_zero : MethodName := ⟨"MailChainModel", "zero", "()V"⟩
abbrev b_Mo_compressRow : ByteArray := prog_13_method_35_code
def y_Mo_compressRow : MethodName := ⟨"MailChainModel", "compressRow", "([BII)V"⟩
abbrev b_Mo_clearTable : ByteArray := prog_13_method_30_code
def y_Mo_clearTable : MethodName := ⟨"MailChainModel", "clearTable", "()V"⟩
abbrev b_Mo_goOn : ByteArray := prog_13_method_34_code
def y_Mo_goOn : MethodName := ⟨"MailChainModel", "goOn", "(II)I"⟩
abbrev b_Mo_putCode : ByteArray := prog_13_method_33_code
def y_Mo_putCode : MethodName := ⟨"MailChainModel", "putCode", "(II)V"⟩
abbrev b_Mo_fill : ByteArray := prog_13_method_32_code
def y_Mo_fill : MethodName := ⟨"MailChainModel", "fill", "()V"⟩
abbrev b_Mo_putBits : ByteArray := prog_13_method_31_code
def y_Mo_putBits : MethodName := ⟨"MailChainModel", "putBits", "(II)V"⟩
abbrev b_Mo_spellRow : ByteArray := prog_13_method_42_code
def y_Mo_spellRow : MethodName := ⟨"MailChainModel", "spellRow", "([BI)V"⟩
abbrev b_Mo_lay : ByteArray := prog_13_method_40_code
def y_Mo_lay : MethodName := ⟨"MailChainModel", "lay", "(I)V"⟩
abbrev b_Mo_six : ByteArray := prog_13_method_41_code
def y_Mo_six : MethodName := ⟨"MailChainModel", "six", "(I)V"⟩
abbrev b_Mo_part : ByteArray := prog_13_method_52_code
def y_Mo_part : MethodName := ⟨"MailChainModel", "part", "(II)I"⟩
abbrev b_Mo_writePart : ByteArray := prog_13_method_51_code
def y_Mo_writePart : MethodName := ⟨"MailChainModel", "writePart", "(I)V"⟩
abbrev b_Mo_putWord : ByteArray := prog_13_method_48_code
def y_Mo_putWord : MethodName := ⟨"MailChainModel", "putWord", "([B)V"⟩
abbrev b_Mo_putChar : ByteArray := prog_13_method_50_code
def y_Mo_putChar : MethodName := ⟨"MailChainModel", "putChar", "(I)V"⟩
abbrev b_Mo_putDecimal : ByteArray := prog_13_method_49_code
def y_Mo_putDecimal : MethodName := ⟨"MailChainModel", "putDecimal", "(J)V"⟩
abbrev b_Mo_stage : ByteArray := prog_13_method_53_code
def y_Mo_stage : MethodName := ⟨"MailChainModel", "stage", "(II)I"⟩
abbrev b_Mo_receive : ByteArray := prog_13_method_59_code
def y_Mo_receive : MethodName := ⟨"MailChainModel", "receive", "()I"⟩
abbrev b_Mo_come : ByteArray := prog_13_method_56_code
def y_Mo_come : MethodName := ⟨"MailChainModel", "come", "()I"⟩
abbrev b_Mo_word : ByteArray := prog_13_method_54_code
def y_Mo_word : MethodName := ⟨"MailChainModel", "word", "([B)Z"⟩
abbrev b_Mo_decimal : ByteArray := prog_13_method_55_code
def y_Mo_decimal : MethodName := ⟨"MailChainModel", "decimal", "(I)J"⟩
abbrev b_Mo_keep : ByteArray := prog_13_method_58_code
def y_Mo_keep : MethodName := ⟨"MailChainModel", "keep", "(II[BII)V"⟩
abbrev b_Mo_pass : ByteArray := prog_13_method_60_code
def y_Mo_pass : MethodName := ⟨"MailChainModel", "pass", "(III)I"⟩
abbrev b_Mo_forge : ByteArray := prog_13_method_61_code
def y_Mo_forge : MethodName := ⟨"MailChainModel", "forge", "(II)V"⟩
abbrev b_Mo_emptyBox : ByteArray := prog_13_method_57_code
def y_Mo_emptyBox : MethodName := ⟨"MailChainModel", "emptyBox", "()V"⟩
abbrev b_Mo_empty : ByteArray := prog_13_method_62_code
def y_Mo_empty : MethodName := ⟨"MailChainModel", "empty", "()I"⟩
abbrev b_Mo_unpack : ByteArray := prog_13_method_69_code
def y_Mo_unpack : MethodName := ⟨"MailChainModel", "unpack", "()I"⟩
abbrev b_Mo_unpacked : ByteArray := prog_13_method_68_code
def y_Mo_unpacked : MethodName := ⟨"MailChainModel", "unpacked", "()I"⟩
abbrev b_Mo_unspell : ByteArray := prog_13_method_43_code
def y_Mo_unspell : MethodName := ⟨"MailChainModel", "unspell", "()V"⟩
abbrev b_Mo_areSame : ByteArray := prog_13_method_63_code
def y_Mo_areSame : MethodName := ⟨"MailChainModel", "areSame", "([BI[BI)Z"⟩
abbrev b_Mo_expand : ByteArray := prog_13_method_37_code
def y_Mo_expand : MethodName := ⟨"MailChainModel", "expand", "(I)Z"⟩
abbrev b_Mo_code : ByteArray := prog_13_method_36_code
def y_Mo_code : MethodName := ⟨"MailChainModel", "code", "(I)I"⟩
abbrev b_Mo_firstByte : ByteArray := prog_13_method_38_code
def y_Mo_firstByte : MethodName := ⟨"MailChainModel", "firstByte", "(I)I"⟩
abbrev b_Mo_layString : ByteArray := prog_13_method_39_code
def y_Mo_layString : MethodName := ⟨"MailChainModel", "layString", "(I)Z"⟩
abbrev b_Mo_readTree : ByteArray := prog_13_method_65_code
def y_Mo_readTree : MethodName := ⟨"MailChainModel", "readTree", "()Z"⟩
abbrev b_Mo_octalAt : ByteArray := prog_13_method_64_code
def y_Mo_octalAt : MethodName := ⟨"MailChainModel", "octalAt", "(II)J"⟩
abbrev b_Mo_take : ByteArray := prog_13_method_66_code
def y_Mo_take : MethodName := ⟨"MailChainModel", "take", "(IIIIII)V"⟩
abbrev b_Mo_areLinks : ByteArray := prog_13_method_67_code
def y_Mo_areLinks : MethodName := ⟨"MailChainModel", "areLinks", "()Z"⟩
abbrev b_Mo_about : ByteArray := prog_13_method_70_code
def y_Mo_about : MethodName := ⟨"MailChainModel", "about", "(III)I"⟩
abbrev b_Mo_byteOf : ByteArray := prog_13_method_71_code
def y_Mo_byteOf : MethodName := ⟨"MailChainModel", "byteOf", "(III)I"⟩
-- the tables' words that travel with every call
def tb : List Cond := lw_tbl.filter goodWord
theorem tb_in {w : Cond} (h : w ∈ lw_tbl) (hg : goodWord w = true) : w ∈ tb := List.mem_filter.mpr ⟨h, hg⟩
theorem tb_1 (i : Nat) {w : Cond} (h : tables_1[i]? = some w) (hg : goodWord w = true) : w ∈ tb := tb_in (List.mem_append_right _ (List.mem_of_getElem? h)) hg
theorem tb_p (ws : List Cond) (ps : List Nat) (hp : ws = ps.filterMap (fun i => tables_1[i]?)) (h : ws.all goodWord = true) : ∀ w ∈ ws, w ∈ tb := by
  intro w hw
  have h1 := List.all_eq_true.mp h w hw
  rw [hp] at hw
  obtain ⟨i, -, hi⟩ := List.mem_filterMap.mp hw
  exact tb_1 i hi h1
theorem tb_good : ∀ w ∈ tb, goodWord w = true := fun w h => (List.mem_filter.mp h).2
theorem tb_all {args : Array Value} {s : State} (h : ∀ w ∈ lw_tbl, w.before args s = true) : ∀ w ∈ tb, w.before args s = true := fun w hw => h w (List.mem_filter.mp hw).1
/-- a method's words: its own code, and all of the tables' -/
abbrev wo (y : MethodName) (b : ByteArray) (n : Nat) (r : Option FieldType) : List Cond := Cond.code y b n r :: tb
theorem wo_in {y : MethodName} {b : ByteArray} {n : Nat} {r : Option FieldType} (c0 : Cond) (h : Cond.code y b n r ∈ tb) : GoodIn (c0 :: tb) (wo y b n r) := by
  intro w hw
  have hw2 : w ∈ tb := by
    rcases List.mem_cons.mp hw with e | e
    · rw [e]; exact h
    · exact e
  exact ⟨List.mem_cons_of_mem _ hw2, good_of_word (tb_good w hw2)⟩
def remL : List Int32 := [0, 79764919, 159529838, 222504665, 319059676, 398814059, 445009330, 507990021, 638119352, 583659535, 797628118, 726387553, 890018660, 835552979, 1015980042, 944750013]
def strLen : List Nat := [5, 4, 6, 7, 15, 4, 86, 12, 6]
def strByt : List (List Int32) := [[80, 65, 82, 84, 32], [32, 79, 70, 32], [32, 83, 73, 90, 69, 32], [32, 67, 75, 83, 85, 77, 32], [98, 101, 103, 105, 110, 32, 54, 52, 52, 32, 109, 97, 105, 108, 10], [101, 110, 100, 10], [48, 55, 48, 55, 48, 55, 48, 48, 48, 48, 48, 48, 48, 48, 48, 48, 48, 48, 48, 48, 48, 48, 48, 48, 48, 48, 48, 48, 48, 48, 48, 48, 48, 48, 48, 48, 48, 48, 48, 48, 48, 49, 48, 48, 48, 48, 48, 48, 48, 48, 48, 48, 48, 48, 48, 48, 48, 48, 48, 48, 48, 48, 48, 49, 51, 48, 48, 48, 48, 48, 48, 48, 48, 48, 48, 48, 84, 82, 65, 73, 76, 69, 82, 33, 33, 33], [48, 55, 48, 55, 48, 55, 48, 48, 48, 48, 48, 48], [48, 48, 48, 48, 48, 48]]
def strOwn (i : Nat) : String := match i with
  | 0 => "MailChain$PartLine"
  | 1 => "MailChain$PartLine"
  | 2 => "MailChain$PartLine"
  | 3 => "MailChain$PartLine"
  | 4 => "MailChain$Spelling"
  | 5 => "MailChain$Spelling"
  | 6 => "MailChain$Archive"
  | 7 => "MailChain$Archive"
  | 8 => "MailChain$Archive"
  | 9 => "MailChain$Mail"
  | 10 => "MailChain$Mail"
  | 11 => "MailChain$Mail"
  | _ => "MailChain$Mail"
def strIx (i : Nat) : Nat := match i with
  | 0 => 15
  | 1 => 26
  | 2 => 31
  | 3 => 38
  | 4 => 16
  | 5 => 36
  | 6 => 65
  | 7 => 71
  | 8 => 92
  | 9 => 59
  | 10 => 69
  | 11 => 71
  | _ => 73
def strTx (i : Nat) : String := match i with
  | 0 => "PART "
  | 1 => " OF "
  | 2 => " SIZE "
  | 3 => " CKSUM "
  | 4 => "begin 644 mail\n"
  | 5 => "end\n"
  | 6 => "0707070000000000000000000000000000000000010000000000000000000001300000000000TRAILER!!!"
  | 7 => "070707000000"
  | 8 => "000000"
  | 9 => "PART "
  | 10 => " OF "
  | 11 => " SIZE "
  | _ => " CKSUM "
def strNo (i : Nat) : Nat := match i with
  | 0 => 0
  | 1 => 1
  | 2 => 2
  | 3 => 3
  | 4 => 4
  | 5 => 5
  | 6 => 6
  | 7 => 7
  | 8 => 8
  | 9 => 0
  | 10 => 1
  | 11 => 2
  | _ => 3
def nestF : List (String × Nat × String × String × String × String) := [("MailChain$Mail", 35, "MailChain$Row", "size", "I", "MailChain"), ("MailChain$Spelling", 22, "MailChain$Row", "size", "I", "MailChain"), ("MailChain$Squeezer", 37, "MailChain$Row", "size", "I", "MailChain"), ("MailChain$Archive", 47, "MailChain$Row", "size", "I", "MailChain"), ("MailChain", 94, "MailChain$Row", "size", "I", "MailChain"), ("MailChain$Box", 62, "MailChain$Row", "size", "I", "MailChain"), ("MailChain$Entry", 45, "MailChain$Row", "size", "I", "MailChain"), ("MailChain$Tree", 52, "MailChain$Row", "size", "I", "MailChain"), ("MailChain$Expander", 65, "MailChain$Row", "size", "I", "MailChain"), ("MailChain$Archive", 41, "MailChain$Entry", "path", "LMailChain$Row;", "MailChain"), ("MailChain", 106, "MailChain$Entry", "path", "LMailChain$Row;", "MailChain"), ("MailChain$Tree", 93, "MailChain$Entry", "path", "LMailChain$Row;", "MailChain"), ("MailChain$Archive", 77, "MailChain$Entry", "kind", "I", "MailChain"), ("MailChain", 114, "MailChain$Entry", "kind", "I", "MailChain"), ("MailChain$Tree", 45, "MailChain$Entry", "kind", "I", "MailChain"), ("MailChain$Archive", 83, "MailChain$Entry", "mode", "I", "MailChain"), ("MailChain", 117, "MailChain$Entry", "mode", "I", "MailChain"), ("MailChain$Tree", 117, "MailChain$Entry", "mode", "I", "MailChain"), ("MailChain$Archive", 86, "MailChain$Entry", "owner", "I", "MailChain"), ("MailChain", 120, "MailChain$Entry", "owner", "I", "MailChain"), ("MailChain$Tree", 110, "MailChain$Entry", "owner", "I", "MailChain"), ("MailChain$Archive", 89, "MailChain$Entry", "group", "I", "MailChain"), ("MailChain", 123, "MailChain$Entry", "group", "I", "MailChain"), ("MailChain$Tree", 114, "MailChain$Entry", "group", "I", "MailChain"), ("MailChain$Archive", 94, "MailChain$Entry", "time", "I", "MailChain"), ("MailChain", 126, "MailChain$Entry", "time", "I", "MailChain"), ("MailChain$Tree", 120, "MailChain$Entry", "time", "I", "MailChain"), ("MailChain$Archive", 61, "MailChain$Entry", "start", "I", "MailChain"), ("MailChain$Tree", 55, "MailChain$Entry", "start", "I", "MailChain"), ("MailChain$Archive", 64, "MailChain$Entry", "size", "I", "MailChain"), ("MailChain$Tree", 58, "MailChain$Entry", "size", "I", "MailChain"), ("MailChain$Tree", 59, "MailChain$Entry", "family", "I", "MailChain"), ("MailChain$Archive", 24, "MailChain$Tree", "entries", "[LMailChain$Entry;", "MailChain"), ("MailChain$Archive", 58, "MailChain$Tree", "bodies", "LMailChain$Row;", "MailChain"), ("MailChain$Archive", 20, "MailChain$Tree", "count", "I", "MailChain"), ("MailChain", 153, "MailChain$Tree", "count", "I", "MailChain")]
def nestM : List (String × Nat × MethodName × String) := [("MailChain$Box", 36, ⟨"MailChain$PartLine", "<init>", "()V"⟩, "MailChain"), ("MailChain$Expander", 31, ⟨"MailChain", "isWidth", "(I)Z"⟩, "MailChain")]
theorem u_in_Mc : ∀ w ∈ u_ws R_Mc F_Mc 14, w ∈ tb := tb_p _ [318, 320, 322, 324, 326, 328, 330, 332, 334, 336, 338, 340, 342, 344] (by decide +kernel) (by decide +kernel)
theorem u_in_Ro : ∀ w ∈ u_ws R_Ro F_Ro 2, w ∈ tb := tb_p _ [57, 59] (by decide +kernel) (by decide +kernel)
theorem u_in_En : ∀ w ∈ u_ws R_En F_En 9, w ∈ tb := tb_p _ [110, 112, 114, 116, 118, 120, 122, 124, 126] (by decide +kernel) (by decide +kernel)
theorem u_in_Tr : ∀ w ∈ u_ws R_Tr F_Tr 4, w ∈ tb := tb_p _ [139, 141, 143, 145] (by decide +kernel) (by decide +kernel)
theorem u_in_Ma : ∀ w ∈ u_ws R_Ma F_Ma 5, w ∈ tb := tb_p _ [165, 167, 169, 171, 173] (by decide +kernel) (by decide +kernel)
theorem u_in_Pl : ∀ w ∈ u_ws R_Pl F_Pl 5, w ∈ tb := tb_p _ [205, 207, 209, 211, 213] (by decide +kernel) (by decide +kernel)
theorem u_in_Bo : ∀ w ∈ u_ws R_Bo F_Bo 7, w ∈ tb := tb_p _ [224, 226, 228, 230, 232, 234, 236] (by decide +kernel) (by decide +kernel)
theorem u_in_Sq : ∀ w ∈ u_ws R_Sq F_Sq 9, w ∈ tb := tb_p _ [254, 256, 258, 260, 262, 264, 266, 268, 270] (by decide +kernel) (by decide +kernel)
theorem u_in_Ex : ∀ w ∈ u_ws R_Ex F_Ex 7, w ∈ tb := tb_p _ [286, 288, 290, 292, 294, 296, 298] (by decide +kernel) (by decide +kernel)
theorem u_in_Mo : ∀ w ∈ u_ws R_Mo F_Mo 62, w ∈ tb := tb_p _ [1331, 1333, 1335, 1337, 1339, 1341, 1343, 1345, 1347, 1349, 1351, 1353, 1355, 1357, 1359, 1361, 1363, 1365, 1367, 1369, 1371, 1373, 1375, 1377, 1379, 1381, 1383, 1385, 1387, 1389, 1391, 1393, 1395, 1397, 1399, 1401, 1403, 1405, 1407, 1409, 1411, 1413, 1415, 1417, 1419, 1421, 1423, 1425, 1427, 1429, 1431, 1433, 1435, 1437, 1439, 1441, 1443, 1445, 1447, 1449, 1451, 1453] (by decide +kernel) (by decide +kernel)
end
section
/-! The machine's world as a memory: every object and array that the law makes has a place (its number in the order of making), the cell of place k is B + k. -/
abbrev zM : Type := (Nat → Nat → Int32) × (Nat → Nat → Int64) × (Nat → Nat → Nat)
def zI (M : zM) (k j : Nat) (v : Int32) : zM := (fun a => if a = k then upd (M.1 a) j v else M.1 a, M.2.1, M.2.2)
def zL (M : zM) (k j : Nat) (v : Int64) : zM := (M.1, fun a => if a = k then vp_updL (M.2.1 a) j v else M.2.1 a, M.2.2)
def zR (M : zM) (k j : Nat) (v : Nat) : zM := (M.1, M.2.1, fun a => if a = k then va_up (M.2.2 a) j v else M.2.2 a)
/-- a whole array of whole numbers laid anew -/
def zA (M : zM) (k : Nat) (f : Nat → Int32) : zM := (fun a => if a = k then f else M.1 a, M.2.1, M.2.2)
def zfvl (B : Nat) (M : zM) (t k j : Nat) : Value := match ft t j with
  | 0 => .int (M.1 k j)
  | 1 => .long (M.2.1 k j)
  | 2 => .ref (B + (k + fo t j))
  | _ => .ref (B + M.2.2 k j)
def zfvs (B : Nat) (M : zM) (t k : Nat) : List Value := (List.range (nf t)).map (zfvl B M t k)
def zcel (B : Nat) (aC : Nat → ClassId) (M : zM) (k : Nat) : va_E :=
  if tg k < 20 then .inr (tg k, zfvs B M (tg k) k) else if tg k < 23 then .inl (aC (tg k), ln k, .inl (M.1 k)) else if tg k = 23 then .inl (aC 23, ln k, .inr (.inl (M.2.1 k))) else .inl (aC 24, ln k, .inr (.inr (.inr (.inr (fun j => some (B + M.2.2 k j))))))
def zcls (B : Nat) (aC : Nat → ClassId) (M : zM) : va_W := (List.range N0).map (fun k => (B + k, zcel B aC M k))
def ztyl (aC : Nat → ClassId) : List (ClassId × FieldType) := [(aC 20, .byte), (aC 21, .int), (aC 22, .boolean), (aC 23, .long), (aC 24, .object "MailChain$Entry")]
/-- the law's own cells, those of the places -/
abbrev zAb (B : Nat) : Nat → Prop := fun q => B ≤ q ∧ q < B + N0
theorem zcls_at {B : Nat} {aC : Nat → ClassId} {M : zM} {k : Nat} (h : k < N0) : (zcls B aC M)[k]? = some (B + k, zcel B aC M k) := by
  unfold zcls
  rw [List.getElem?_map, List.getElem?_range h]
  rfl
theorem zcls_set {B : Nat} {aC : Nat → ClassId} {M M' : zM} {k : Nat} (h : k < N0) (e : va_E) (he : zcel B aC M' k = e) (ho : ∀ j, j ≠ k → zcel B aC M' j = zcel B aC M j) : (zcls B aC M).set k (B + k, e) = zcls B aC M' := by
  apply List.ext_getElem?
  intro i
  by_cases hi : i < N0
  · rw [zcls_at hi]
    by_cases hk : k = i
    · subst hk
      have hl : k < (zcls B aC M).length := by unfold zcls; rw [List.length_map, List.length_range]; exact h
      rw [List.getElem?_set_self hl, he]
    · rw [List.getElem?_set_ne hk, zcls_at hi, ho i (fun q => hk q.symm)]
  · have h1 : (zcls B aC M').length ≤ i := by unfold zcls; rw [List.length_map, List.length_range]; omega
    have h2 : ((zcls B aC M).set k (B + k, e)).length ≤ i := by rw [List.length_set]; unfold zcls; rw [List.length_map, List.length_range]; omega
    rw [List.getElem?_eq_none h1, List.getElem?_eq_none h2]
theorem zcls_key {B : Nat} {aC : Nat → ClassId} {M : zM} (i : Nat) (q : Nat × va_E) (h : (zcls B aC M)[i]? = some q) : i < N0 ∧ q = (B + i, zcel B aC M i) := by
  by_cases hi : i < N0
  · rw [zcls_at hi] at h
    cases h
    exact ⟨hi, rfl⟩
  · have h1 : (zcls B aC M).length ≤ i := by unfold zcls; rw [List.length_map, List.length_range]; omega
    rw [List.getElem?_eq_none h1] at h
    cases h
theorem zcls_D {B : Nat} {aC : Nat → ClassId} {M : zM} : va_D (zAb B) (zcls B aC M) := by
  refine ⟨fun i j p q hp hq e => ?_, fun k q hq => ?_⟩
  · have h1 := (zcls_key i p hp).2
    have h2 := (zcls_key j q hq).2
    rw [h1, h2] at e
    have e2 : B + i = B + j := e
    omega
  · obtain ⟨h0, h1⟩ := zcls_key k q hq
    rw [h1]
    exact ⟨by show B ≤ B + k; omega, by show B + k < B + N0; omega⟩
/-- the cells of the places are no class's statics -/
theorem zcls_ns {B : Nat} {D : va_G} {aC : Nat → ClassId} {M : zM} {H : Heap} (hP : va_P D kcl (zcls B aC M) H) : ∀ (q : Nat) (cell : Cell), zAb B q → H[q]? = some cell → cell.vm.isStatics = false := by
  intro q cell hq hc
  obtain ⟨k, rfl⟩ : ∃ k, q = B + k := ⟨q - B, by have := hq.1; omega⟩
  have hk : k < N0 := by have := hq.2; omega
  have h := hP k _ (zcls_at hk)
  have hv : cell.vm = .none := by
    generalize zcel B aC M k = ce at h
    cases ce with
    | inl x =>
      have h2 : H[B + k]? = some (vp_cell x.1 x.2) := h
      rw [h2] at hc
      cases hc
      obtain ⟨a, n, f | f | f | f | f⟩ := x <;> rfl
    | inr o =>
      obtain ⟨r, -, cell2, h2, -, h3, -⟩ := h
      have h2 : H[B + k]? = some cell2 := h2
      rw [h2] at hc
      cases hc
      exact h3
  rw [hv]
  rfl
theorem zfvs_at {B : Nat} {M : zM} {t k j : Nat} (h : j < nf t) : (zfvs B M t k)[j]? = some (zfvl B M t k j) := by
  unfold zfvs
  rw [List.getElem?_map, List.getElem?_range h]
  rfl
theorem zfvs_len {B : Nat} {M : zM} {t k : Nat} : (zfvs B M t k).length = nf t := by
  unfold zfvs
  rw [List.length_map, List.length_range]
theorem zfvs_set {B : Nat} {M M' : zM} {t k j : Nat} {v : Value} (h : j < nf t) (hv : zfvl B M' t k j = v) (ho : ∀ i, i ≠ j → zfvl B M' t k i = zfvl B M t k i) : (zfvs B M t k).set j v = zfvs B M' t k := by
  apply List.ext_getElem?
  intro i
  by_cases hi : i < nf t
  · rw [zfvs_at hi]
    by_cases hk : j = i
    · subst hk
      rw [List.getElem?_set_self (by rw [zfvs_len]; exact h), hv]
    · rw [List.getElem?_set_ne hk, zfvs_at hi, ho i (fun q => hk q.symm)]
  · rw [List.getElem?_eq_none (by rw [List.length_set, zfvs_len]; omega), List.getElem?_eq_none (by rw [zfvs_len]; omega)]
theorem zcel_o {B : Nat} {aC : Nat → ClassId} {M : zM} {k t : Nat} (h : tg k = t) (ht : t < 20) : zcel B aC M k = .inr (t, zfvs B M t k) := by
  subst h
  unfold zcel
  rw [if_pos ht]
theorem zcel_i {B : Nat} {aC : Nat → ClassId} {M : zM} {k t : Nat} (h : tg k = t) (h1 : ¬ t < 20) (h2 : t < 23) : zcel B aC M k = .inl (aC t, ln k, .inl (M.1 k)) := by
  subst h
  unfold zcel
  rw [if_neg h1, if_pos h2]
theorem zcel_l {B : Nat} {aC : Nat → ClassId} {M : zM} {k : Nat} (h : tg k = 23) : zcel B aC M k = .inl (aC 23, ln k, .inr (.inl (M.2.1 k))) := by
  unfold zcel
  rw [h]
  rfl
theorem zcel_r {B : Nat} {aC : Nat → ClassId} {M : zM} {k : Nat} (h : tg k = 24) : zcel B aC M k = .inl (aC 24, ln k, .inr (.inr (.inr (.inr (fun j => some (B + M.2.2 k j)))))) := by
  unfold zcel
  rw [h]
  rfl
/-- a cell depends on its own row of the memory alone -/
theorem zcel_same {B : Nat} {aC : Nat → ClassId} {M M' : zM} {k : Nat} (h1 : M'.1 k = M.1 k) (h2 : M'.2.1 k = M.2.1 k) (h3 : M'.2.2 k = M.2.2 k) : zcel B aC M' k = zcel B aC M k := by
  have hf : ∀ t, zfvs B M' t k = zfvs B M t k := by
    intro t
    unfold zfvs
    congr 1
    funext j
    unfold zfvl
    rw [h1, h2, h3]
  unfold zcel
  rw [hf, h1, h2, h3]
theorem zI_o {M : zM} {k j a : Nat} {v : Int32} (h : a ≠ k) : (zI M k j v).1 a = M.1 a := if_neg h
theorem zL_o {M : zM} {k j a : Nat} {v : Int64} (h : a ≠ k) : (zL M k j v).2.1 a = M.2.1 a := if_neg h
theorem zR_o {M : zM} {k j a v : Nat} (h : a ≠ k) : (zR M k j v).2.2 a = M.2.2 a := if_neg h
theorem zA_o {M : zM} {k a : Nat} {f : Nat → Int32} (h : a ≠ k) : (zA M k f).1 a = M.1 a := if_neg h
theorem zI_s {M : zM} {k j : Nat} {v : Int32} : (zI M k j v).1 k = upd (M.1 k) j v := if_pos rfl
theorem zL_s {M : zM} {k j : Nat} {v : Int64} : (zL M k j v).2.1 k = vp_updL (M.2.1 k) j v := if_pos rfl
theorem zR_s {M : zM} {k j v : Nat} : (zR M k j v).2.2 k = va_up (M.2.2 k) j v := if_pos rfl
theorem zA_s {M : zM} {k : Nat} {f : Nat → Int32} : (zA M k f).1 k = f := if_pos rfl
theorem zfvs_sI {B : Nat} {M : zM} {t k j : Nat} {v : Int32} (h : j < nf t) (hf : ft t j = 0) : (zfvs B M t k).set j (.int v) = zfvs B (zI M k j v) t k := by
  refine zfvs_set h ?_ (fun i hi => ?_)
  · unfold zfvl
    rw [hf, zI_s]
    show Value.int (upd (M.1 k) j v j) = _
    rw [show upd (M.1 k) j v j = v from if_pos rfl]
  · unfold zfvl
    rw [zI_s, show upd (M.1 k) j v i = M.1 k i from if_neg hi]
    rfl
theorem zfvs_sL {B : Nat} {M : zM} {t k j : Nat} {v : Int64} (h : j < nf t) (hf : ft t j = 1) : (zfvs B M t k).set j (.long v) = zfvs B (zL M k j v) t k := by
  refine zfvs_set h ?_ (fun i hi => ?_)
  · unfold zfvl
    rw [hf, zL_s]
    show Value.long (vp_updL (M.2.1 k) j v j) = _
    rw [show vp_updL (M.2.1 k) j v j = v from if_pos rfl]
  · unfold zfvl
    rw [zL_s, show vp_updL (M.2.1 k) j v i = M.2.1 k i from if_neg hi]
    rfl
theorem zfvs_sR {B : Nat} {M : zM} {t k j v : Nat} (h : j < nf t) (hf : ft t j = 3) : (zfvs B M t k).set j (.ref (B + v)) = zfvs B (zR M k j v) t k := by
  refine zfvs_set h ?_ (fun i hi => ?_)
  · unfold zfvl
    rw [hf, zR_s]
    show Value.ref (B + va_up (M.2.2 k) j v j) = _
    rw [show va_up (M.2.2 k) j v j = v from if_pos rfl]
  · unfold zfvl
    rw [zR_s, show va_up (M.2.2 k) j v i = M.2.2 k i from if_neg hi]
    rfl
/-- a class has a static field of that name; its cell is none of the places' -/
def zLs (C n d : String) (B : Nat) (U : State) : Prop := ∃ (c : ClassId) (k : Class) (i : Nat) (f : Field) (a : Nat) (cell : Cell), U.vm.findClass C = some c ∧ U.fieldFound? C n d = some (c, k, i, f) ∧ f.isStatic = true ∧ k.statics = some a ∧ U.heap[a]? = some cell ∧ cell.vm.isStatics = true ∧ cell.cls = c ∧ f.slot < cell.slots.size ∧ k.staticTypes[f.slot]? = some f.type ∧ ¬ zAb B a
theorem zLs.warm {C n d : String} {B : Nat} {s U : State} (h : zLs C n d B s) (hv : s.vm.Alike U.vm) (hq : ∀ a : Nat, a < s.heap.size → ¬ zAb B a → U.heap[a]? = s.heap[a]?) : zLs C n d B U := by
  obtain ⟨c, k, i, f, a, cell, h1, h2, h3, h4, h5, h6, h7, h8, h9, h10⟩ := h
  obtain ⟨k', hi', he⟩ := State.fieldFound?_setVm hv h2
  exact ⟨c, k', i, f, a, cell, by rw [hv.findClass]; exact h1, hi', h3, by rw [he]; exact h4, by rw [hq a (Array.getElem?_eq_some_iff.mp h5).1 h10]; exact h5, h6, h7, h8, by rw [he]; exact h9, h10⟩
theorem zLs.use {C n d : String} {B : Nat} {U : State} {args : Array Value} (h : zLs C n d B U) : (Cond.laysStatic C n d).before args U = true := by
  obtain ⟨c, k, i, f, a, cell, h1, h2, h3, h4, h5, h6, h7, h8, h9, h10⟩ := h
  exact Cond.laysStatic_of h1 h2 h3 h4 h5 h6 h7 h8 h9
/-- the tables at a state: classes, array classes; statics and texts below the law's own cells -/
def zSx (B : Nat) (aS : Nat → Nat) (U : State) : Prop :=
  (∃ t : Nat, va_Z "MailChain$Row" "REMAINDERS" "[I" (.ref t) (zAb B) U U.heap ∧ va_T .int t 16 (fun j => .int (remL.getD j 0)) (zAb B) U U.heap) ∧
  vk_S 9 strLen strByt aS (fun i => aS (100 + i)) (zAb B) U U.heap ∧ (∀ i, i < 13 → vk_R (strOwn i) (strIx i) (strTx i) (aS (strNo i)) U) ∧
  va_Z "java/lang/String" "COMPACT_STRINGS" "Z" (.int 1) (zAb B) U U.heap ∧
  va_Zq "java/lang/Throwable" "UNASSIGNED_STACK" "[Ljava/lang/StackTraceElement;" (zAb B) U U.heap ∧ va_Zq "java/lang/Throwable" "SUPPRESSED_SENTINEL" "Ljava/util/List;" (zAb B) U U.heap ∧ va_Zq "jdk/internal/util/Preconditions" "SIOOBE_FORMATTER" "Ljava/util/function/BiFunction;" (zAb B) U U.heap ∧
  (∀ q ∈ nestF, va_Nw (.fieldLinkNest q.1 q.2.1 q.2.2.1 q.2.2.2.1 q.2.2.2.2.1 q.2.2.2.2.2) U) ∧ (∀ q ∈ nestM, va_Nw (.methodLinkNest q.1 q.2.1 q.2.2.1 q.2.2.2) U) ∧ (∀ k, 1 ≤ k → k ≤ 4 → va_Nw (.castable (exN k) (exN k)) U) ∧ (∀ q ∈ neL, va_Nc (exN q.1) (exN q.2) U) ∧ (∀ q ∈ chainL, va_Nw (.declares ⟨q, "<init>", "()V"⟩) U) ∧ zLs "java/lang/Throwable" "UNASSIGNED_STACK" "[Ljava/lang/StackTraceElement;" B U ∧ zLs "java/lang/Throwable" "SUPPRESSED_SENTINEL" "Ljava/util/List;" B U
theorem zSx.warm {B : Nat} {aS : Nat → Nat} {s U : State} (h : zSx B aS s) (hW : s.WarmedH U.vm) (hq : ∀ a : Nat, a < s.heap.size → ¬ zAb B a → U.heap[a]? = s.heap[a]?) : zSx B aS U := by
  obtain ⟨⟨t, h1, h2⟩, h3, h4, h5, h6, h7, h10, h8, h9, h11, h12, h13, h14, h15⟩ := h
  have hv := hW.alike
  exact ⟨⟨t, (h1.kept hq).moved hv, (h2.kept hq).moved hv⟩, (h3.kept hq).moved hv, fun i hi => (h4 i hi).warm hW, (h5.kept hq).moved hv, (h6.kept hq).moved hv, (h7.kept hq).moved hv, (h10.kept hq).moved hv, fun q hq => (h8 q hq).warmF hW, fun q hq => (h9 q hq).warmM hW, fun k h1 h2 => (h11 k h1 h2).warmC hW, fun q hq => (h12 q hq).moved hv, fun q hq => (h13 q hq).warmD hW, h14.warm hv hq, h15.warm hv hq⟩
theorem zSx.blind {B : Nat} {aS : Nat → Nat} {U : State} {g : JFrame} {mk : MethodId} {a : Array Value} (h : zSx B aS U) : zSx B aS (U.calling g mk a) := by
  obtain ⟨⟨t, h1, h2⟩, h3, h4, h5, h6, h7, h10, h8, h9, h11, h12, h13, h14, h15⟩ := h
  have hv : U.vm.Alike (U.calling g mk a).vm := Vm.Alike.refl U.vm
  exact ⟨⟨t, h1.moved hv, h2.moved hv⟩, h3.moved hv, fun i hi => (h4 i hi).same rfl, h5.moved hv, h6.moved hv, h7.moved hv, h10.moved hv, fun q hq => (h8 q hq).same rfl rfl, fun q hq => (h9 q hq).same rfl rfl, fun k h1 h2 => (h11 k h1 h2).same rfl rfl, fun q hq => (h12 q hq).moved hv, fun q hq => (h13 q hq).same rfl rfl, h14.warm hv (fun _ _ _ => rfl), h15.warm hv (fun _ _ _ => rfl)⟩
def zCx (B : Nat) (D : va_G) (aC : Nat → ClassId) (aS : Nat → Nat) (U : State) : Prop := va_K D kcl (ztyl aC) U ∧ zSx B aS U
/-- what holds at a method's start -/
def zWl (B : Nat) (D : va_G) (aC : Nat → ClassId) (aS : Nat → Nat) (M : zM) (U : State) : Prop := va_P D kcl (zcls B aC M) U.heap ∧ B + N0 ≤ U.heap.size ∧ zCx B D aC aS U
theorem zWl.blind {B : Nat} {D : va_G} {aC : Nat → ClassId} {aS : Nat → Nat} {M : zM} {U : State} {g : JFrame} {mk : MethodId} {a : Array Value} (h : zWl B D aC aS M U) : zWl B D aC aS M (U.calling g mk a) :=
  ⟨h.1, h.2.1, va_K.moved (u := U) (U := U.calling g mk a) (Vm.Alike.refl U.vm) h.2.2.1, h.2.2.2.blind⟩
/-- behind a method: the answer, the memory -/
def zQv (B : Nat) (D : va_G) (aC : Nat → ClassId) (post : zM → Prop) : Array Value → State → Outcome → State → Prop := fun _ st oc t => ∃ M, oc = .returned none ∧ post M ∧ va_P D kcl (zcls B aC M) t.heap ∧ va_F (zAb B) st t
def zQi (B : Nat) (D : va_G) (aC : Nat → ClassId) (post : Int32 → zM → Prop) : Array Value → State → Outcome → State → Prop := fun _ st oc t => ∃ r M, oc = .returned (some (.int r)) ∧ post r M ∧ va_P D kcl (zcls B aC M) t.heap ∧ va_F (zAb B) st t
def zQl (B : Nat) (D : va_G) (aC : Nat → ClassId) (post : Int64 → zM → Prop) : Array Value → State → Outcome → State → Prop := fun _ st oc t => ∃ r M, oc = .returned (some (.long r)) ∧ post r M ∧ va_P D kcl (zcls B aC M) t.heap ∧ va_F (zAb B) st t
def zQr (B : Nat) (D : va_G) (aC : Nat → ClassId) (post : Nat → zM → Prop) : Array Value → State → Outcome → State → Prop := fun _ st oc t => ∃ r M, oc = .returned (some (.ref (B + r))) ∧ post r M ∧ va_P D kcl (zcls B aC M) t.heap ∧ va_F (zAb B) st t
end
section
/-! Rows: an instruction each, over the memory. -/
/-- the machine is at pc, with these locals, this stack, this memory, and comes to Q -/
def zAt (p : Program) (l : Launch) (e : Env) (R : Room) (s : State) (m : MethodId) (args : Array Value) (below : List Frame) (meth : Method) (c : Code) (cells slots : Nat) (Q : State → Prop) (B : Nat) (D : va_G) (aC : Nat → ClassId) (nL : Nat) (pc : Nat) (lv : List (Nat × Value)) (st : List Value) (M : zM) : Prop :=
  ∀ (H : Heap) (locs : List Loc) (ls : Array Slot), va_P D kcl (zcls B aC M) H → lv_has ls nL lv → va_S (zAb B) s.heap H locs → W p l e R s m args below meth c H locs cells slots Q (F0 m pc ls st)
/-- what stays the same through a method -/
def zFx (p : Program) (s : State) (m : MethodId) (args : Array Value) (c : Code) (B : Nat) (D : va_G) (aC : Nat → ClassId) (aS : Nat → Nat) (nL : Nat) (cc : ByteArray) (own : String) : Prop :=
  p.tables.exec = Jvm.exec ∧ c.code = cc ∧ c.maxLocals = nL ∧ s.vm.findClass own = some m.cls ∧ (∀ w ∈ tb, w.before args s = true) ∧ zCx B D aC aS s ∧ B + N0 ≤ s.heap.size ∧ ∀ (q : Nat) (cell : Cell), zAb B q → s.heap[q]? = some cell → cell.vm.isStatics = false
section ROWS
variable {p : Program} {l : Launch} {e : Env} {R : Room} {s : State} {m : MethodId} {args : Array Value} {below : List Frame} {meth : Method} {c : Code} {cells slots : Nat} {Q : State → Prop} {B : Nat} {D : va_G} {aC : Nat → ClassId} {aS : Nat → Nat} {nL : Nat} {cc : ByteArray} {own : String} {pc : Nat} {lv lv2 : List (Nat × Value)} {st : List Value} {M : zM}
theorem a_iadd (fx : zFx p s m args c B D aC aS nL cc own) {x y : Int32} (hd : decode cc pc = .ok (.iadd, 1)) (k : zAt p l e R s m args below meth c cells slots Q B D aC nL (pc + 1) lv (.int (x + y) :: st) M) : zAt p l e R s m args below meth c cells slots Q B D aC nL pc lv (.int y :: .int x :: st) M := fun H locs ls hP hl hS => lv_iadd fx.1 fx.2.1 hd (k H locs ls hP hl hS)
theorem a_isub (fx : zFx p s m args c B D aC aS nL cc own) {x y : Int32} (hd : decode cc pc = .ok (.isub, 1)) (k : zAt p l e R s m args below meth c cells slots Q B D aC nL (pc + 1) lv (.int (x - y) :: st) M) : zAt p l e R s m args below meth c cells slots Q B D aC nL pc lv (.int y :: .int x :: st) M := fun H locs ls hP hl hS => lv_isub fx.1 fx.2.1 hd (k H locs ls hP hl hS)
theorem a_imul (fx : zFx p s m args c B D aC aS nL cc own) {x y : Int32} (hd : decode cc pc = .ok (.imul, 1)) (k : zAt p l e R s m args below meth c cells slots Q B D aC nL (pc + 1) lv (.int (x * y) :: st) M) : zAt p l e R s m args below meth c cells slots Q B D aC nL pc lv (.int y :: .int x :: st) M := fun H locs ls hP hl hS => lv_imul fx.1 fx.2.1 hd (k H locs ls hP hl hS)
theorem a_iand (fx : zFx p s m args c B D aC aS nL cc own) {x y : Int32} (hd : decode cc pc = .ok (.iand, 1)) (k : zAt p l e R s m args below meth c cells slots Q B D aC nL (pc + 1) lv (.int (x &&& y) :: st) M) : zAt p l e R s m args below meth c cells slots Q B D aC nL pc lv (.int y :: .int x :: st) M := fun H locs ls hP hl hS => lv_iand fx.1 fx.2.1 hd (k H locs ls hP hl hS)
theorem a_ior (fx : zFx p s m args c B D aC aS nL cc own) {x y : Int32} (hd : decode cc pc = .ok (.ior, 1)) (k : zAt p l e R s m args below meth c cells slots Q B D aC nL (pc + 1) lv (.int (x ||| y) :: st) M) : zAt p l e R s m args below meth c cells slots Q B D aC nL pc lv (.int y :: .int x :: st) M := fun H locs ls hP hl hS => lv_ior fx.1 fx.2.1 hd (k H locs ls hP hl hS)
theorem a_ixor (fx : zFx p s m args c B D aC aS nL cc own) {x y : Int32} (hd : decode cc pc = .ok (.ixor, 1)) (k : zAt p l e R s m args below meth c cells slots Q B D aC nL (pc + 1) lv (.int (x ^^^ y) :: st) M) : zAt p l e R s m args below meth c cells slots Q B D aC nL pc lv (.int y :: .int x :: st) M := fun H locs ls hP hl hS => lv_ixor fx.1 fx.2.1 hd (k H locs ls hP hl hS)
theorem a_ladd (fx : zFx p s m args c B D aC aS nL cc own) {x y : Int64} (hd : decode cc pc = .ok (.ladd, 1)) (k : zAt p l e R s m args below meth c cells slots Q B D aC nL (pc + 1) lv (.long (x + y) :: st) M) : zAt p l e R s m args below meth c cells slots Q B D aC nL pc lv (.long y :: .long x :: st) M := fun H locs ls hP hl hS => lv_ladd fx.1 fx.2.1 hd (k H locs ls hP hl hS)
theorem a_lsub (fx : zFx p s m args c B D aC aS nL cc own) {x y : Int64} (hd : decode cc pc = .ok (.lsub, 1)) (k : zAt p l e R s m args below meth c cells slots Q B D aC nL (pc + 1) lv (.long (x - y) :: st) M) : zAt p l e R s m args below meth c cells slots Q B D aC nL pc lv (.long y :: .long x :: st) M := fun H locs ls hP hl hS => lv_lsub fx.1 fx.2.1 hd (k H locs ls hP hl hS)
theorem a_lmul (fx : zFx p s m args c B D aC aS nL cc own) {x y : Int64} (hd : decode cc pc = .ok (.lmul, 1)) (k : zAt p l e R s m args below meth c cells slots Q B D aC nL (pc + 1) lv (.long (x * y) :: st) M) : zAt p l e R s m args below meth c cells slots Q B D aC nL pc lv (.long y :: .long x :: st) M := fun H locs ls hP hl hS => lv_lmul fx.1 fx.2.1 hd (k H locs ls hP hl hS)
theorem a_land (fx : zFx p s m args c B D aC aS nL cc own) {x y : Int64} (hd : decode cc pc = .ok (.land, 1)) (k : zAt p l e R s m args below meth c cells slots Q B D aC nL (pc + 1) lv (.long (x &&& y) :: st) M) : zAt p l e R s m args below meth c cells slots Q B D aC nL pc lv (.long y :: .long x :: st) M := fun H locs ls hP hl hS => lv_land fx.1 fx.2.1 hd (k H locs ls hP hl hS)
theorem a_lor (fx : zFx p s m args c B D aC aS nL cc own) {x y : Int64} (hd : decode cc pc = .ok (.lor, 1)) (k : zAt p l e R s m args below meth c cells slots Q B D aC nL (pc + 1) lv (.long (x ||| y) :: st) M) : zAt p l e R s m args below meth c cells slots Q B D aC nL pc lv (.long y :: .long x :: st) M := fun H locs ls hP hl hS => lv_lor fx.1 fx.2.1 hd (k H locs ls hP hl hS)
theorem a_lxor (fx : zFx p s m args c B D aC aS nL cc own) {x y : Int64} (hd : decode cc pc = .ok (.lxor, 1)) (k : zAt p l e R s m args below meth c cells slots Q B D aC nL (pc + 1) lv (.long (x ^^^ y) :: st) M) : zAt p l e R s m args below meth c cells slots Q B D aC nL pc lv (.long y :: .long x :: st) M := fun H locs ls hP hl hS => lv_lxor fx.1 fx.2.1 hd (k H locs ls hP hl hS)
theorem a_idiv (fx : zFx p s m args c B D aC aS nL cc own) {x y : Int32} (hd : decode cc pc = .ok (.idiv, 1)) (hne : ¬ y = 0) (k : zAt p l e R s m args below meth c cells slots Q B D aC nL (pc + 1) lv (.int (x / y) :: st) M) : zAt p l e R s m args below meth c cells slots Q B D aC nL pc lv (.int y :: .int x :: st) M := fun H locs ls hP hl hS => lv_idiv fx.1 fx.2.1 hd hne (k H locs ls hP hl hS)
theorem a_irem (fx : zFx p s m args c B D aC aS nL cc own) {x y : Int32} (hd : decode cc pc = .ok (.irem, 1)) (hne : ¬ y = 0) (k : zAt p l e R s m args below meth c cells slots Q B D aC nL (pc + 1) lv (.int (x - x / y * y) :: st) M) : zAt p l e R s m args below meth c cells slots Q B D aC nL pc lv (.int y :: .int x :: st) M := fun H locs ls hP hl hS => lv_irem fx.1 fx.2.1 hd hne (k H locs ls hP hl hS)
theorem a_ldiv (fx : zFx p s m args c B D aC aS nL cc own) {x y : Int64} (hd : decode cc pc = .ok (.ldiv, 1)) (hne : ¬ y = 0) (k : zAt p l e R s m args below meth c cells slots Q B D aC nL (pc + 1) lv (.long (x / y) :: st) M) : zAt p l e R s m args below meth c cells slots Q B D aC nL pc lv (.long y :: .long x :: st) M := fun H locs ls hP hl hS => lv_ldiv fx.1 fx.2.1 hd hne (k H locs ls hP hl hS)
theorem a_lrem (fx : zFx p s m args c B D aC aS nL cc own) {x y : Int64} (hd : decode cc pc = .ok (.lrem, 1)) (hne : ¬ y = 0) (k : zAt p l e R s m args below meth c cells slots Q B D aC nL (pc + 1) lv (.long (x - x / y * y) :: st) M) : zAt p l e R s m args below meth c cells slots Q B D aC nL pc lv (.long y :: .long x :: st) M := fun H locs ls hP hl hS => lv_lrem fx.1 fx.2.1 hd hne (k H locs ls hP hl hS)
theorem a_ineg (fx : zFx p s m args c B D aC aS nL cc own) {x : Int32} (hd : decode cc pc = .ok (.ineg, 1)) (k : zAt p l e R s m args below meth c cells slots Q B D aC nL (pc + 1) lv (.int (-x) :: st) M) : zAt p l e R s m args below meth c cells slots Q B D aC nL pc lv (.int x :: st) M := fun H locs ls hP hl hS => lv_ineg fx.1 fx.2.1 hd (k H locs ls hP hl hS)
theorem a_ishl (fx : zFx p s m args c B D aC aS nL cc own) {x y : Int32} (hd : decode cc pc = .ok (.ishl, 1)) (k : zAt p l e R s m args below meth c cells slots Q B D aC nL (pc + 1) lv (.int (x <<< (y &&& 31)) :: st) M) : zAt p l e R s m args below meth c cells slots Q B D aC nL pc lv (.int y :: .int x :: st) M := fun H locs ls hP hl hS => lv_ishl fx.1 fx.2.1 hd (k H locs ls hP hl hS)
theorem a_ishr (fx : zFx p s m args c B D aC aS nL cc own) {x y : Int32} (hd : decode cc pc = .ok (.ishr, 1)) (k : zAt p l e R s m args below meth c cells slots Q B D aC nL (pc + 1) lv (.int (x >>> (y &&& 31)) :: st) M) : zAt p l e R s m args below meth c cells slots Q B D aC nL pc lv (.int y :: .int x :: st) M := fun H locs ls hP hl hS => lv_ishr fx.1 fx.2.1 hd (k H locs ls hP hl hS)
theorem a_iushr (fx : zFx p s m args c B D aC aS nL cc own) {x y : Int32} (hd : decode cc pc = .ok (.iushr, 1)) (k : zAt p l e R s m args below meth c cells slots Q B D aC nL (pc + 1) lv (.int (x.toUInt32 >>> (y.toUInt32 &&& Int32.toUInt32 31)).toInt32 :: st) M) : zAt p l e R s m args below meth c cells slots Q B D aC nL pc lv (.int y :: .int x :: st) M := fun H locs ls hP hl hS => lv_iushr fx.1 fx.2.1 hd rfl (k H locs ls hP hl hS)
theorem a_lushr (fx : zFx p s m args c B D aC aS nL cc own) {x : Int64} {y : Int32} (hd : decode cc pc = .ok (.lushr, 1)) (k : zAt p l e R s m args below meth c cells slots Q B D aC nL (pc + 1) lv (.long (x.toUInt64 >>> (y.toInt64.toUInt64 &&& Int64.toUInt64 63)).toInt64 :: st) M) : zAt p l e R s m args below meth c cells slots Q B D aC nL pc lv (.int y :: .long x :: st) M := fun H locs ls hP hl hS => lv_lushr fx.1 fx.2.1 hd rfl (k H locs ls hP hl hS)
theorem a_lshl (fx : zFx p s m args c B D aC aS nL cc own) {x : Int64} {y : Int32} (hd : decode cc pc = .ok (.lshl, 1)) (k : zAt p l e R s m args below meth c cells slots Q B D aC nL (pc + 1) lv (.long (x <<< (y.toInt64 &&& 63)) :: st) M) : zAt p l e R s m args below meth c cells slots Q B D aC nL pc lv (.int y :: .long x :: st) M := fun H locs ls hP hl hS => lv_lshl fx.1 fx.2.1 hd rfl (k H locs ls hP hl hS)
theorem a_lshr (fx : zFx p s m args c B D aC aS nL cc own) {x : Int64} {y : Int32} (hd : decode cc pc = .ok (.lshr, 1)) (k : zAt p l e R s m args below meth c cells slots Q B D aC nL (pc + 1) lv (.long (x >>> (y.toInt64 &&& 63)) :: st) M) : zAt p l e R s m args below meth c cells slots Q B D aC nL pc lv (.int y :: .long x :: st) M := fun H locs ls hP hl hS => lv_lshr fx.1 fx.2.1 hd rfl (k H locs ls hP hl hS)
theorem a_i2l (fx : zFx p s m args c B D aC aS nL cc own) {x : Int32} (hd : decode cc pc = .ok (.i2l, 1)) (k : zAt p l e R s m args below meth c cells slots Q B D aC nL (pc + 1) lv (.long x.toInt64 :: st) M) : zAt p l e R s m args below meth c cells slots Q B D aC nL pc lv (.int x :: st) M := fun H locs ls hP hl hS => lv_i2l fx.1 fx.2.1 hd rfl (k H locs ls hP hl hS)
theorem a_l2i (fx : zFx p s m args c B D aC aS nL cc own) {x : Int64} (hd : decode cc pc = .ok (.l2i, 1)) (k : zAt p l e R s m args below meth c cells slots Q B D aC nL (pc + 1) lv (.int x.toInt32 :: st) M) : zAt p l e R s m args below meth c cells slots Q B D aC nL pc lv (.long x :: st) M := fun H locs ls hP hl hS => lv_l2i fx.1 fx.2.1 hd rfl (k H locs ls hP hl hS)
theorem a_i2b (fx : zFx p s m args c B D aC aS nL cc own) {x : Int32} (hd : decode cc pc = .ok (.i2b, 1)) (k : zAt p l e R s m args below meth c cells slots Q B D aC nL (pc + 1) lv (.int x.toInt8.toInt32 :: st) M) : zAt p l e R s m args below meth c cells slots Q B D aC nL pc lv (.int x :: st) M := fun H locs ls hP hl hS => lv_i2b fx.1 fx.2.1 hd rfl (k H locs ls hP hl hS)
theorem a_i2c (fx : zFx p s m args c B D aC aS nL cc own) {x : Int32} (hd : decode cc pc = .ok (.i2c, 1)) (k : zAt p l e R s m args below meth c cells slots Q B D aC nL (pc + 1) lv (.int (x.toUInt32 % 65536).toInt32 :: st) M) : zAt p l e R s m args below meth c cells slots Q B D aC nL pc lv (.int x :: st) M := fun H locs ls hP hl hS => lv_i2c fx.1 fx.2.1 hd rfl (k H locs ls hP hl hS)
theorem a_iconst (fx : zFx p s m args c B D aC aS nL cc own) {n : Int} {v : Int32} (hd : decode cc pc = .ok (.iconst n, 1)) (hv : Int32.ofInt n = v) (k : zAt p l e R s m args below meth c cells slots Q B D aC nL (pc + 1) lv (.int v :: st) M) : zAt p l e R s m args below meth c cells slots Q B D aC nL pc lv (st) M := fun H locs ls hP hl hS => lv_iconst fx.1 fx.2.1 hd hv (k H locs ls hP hl hS)
theorem a_bipush (fx : zFx p s m args c B D aC aS nL cc own) {n : Int} {v : Int32} (hd : decode cc pc = .ok (.bipush n, 2)) (hv : (Int8.ofInt n).toInt32 = v) (k : zAt p l e R s m args below meth c cells slots Q B D aC nL (pc + 2) lv (.int v :: st) M) : zAt p l e R s m args below meth c cells slots Q B D aC nL pc lv (st) M := fun H locs ls hP hl hS => lv_bipush fx.1 fx.2.1 hd hv (k H locs ls hP hl hS)
theorem a_sipush (fx : zFx p s m args c B D aC aS nL cc own) {n : Int} {v : Int32} (hd : decode cc pc = .ok (.sipush n, 3)) (hv : (Int16.ofInt n).toInt32 = v) (k : zAt p l e R s m args below meth c cells slots Q B D aC nL (pc + 3) lv (.int v :: st) M) : zAt p l e R s m args below meth c cells slots Q B D aC nL pc lv (st) M := fun H locs ls hP hl hS => lv_sipush fx.1 fx.2.1 hd hv (k H locs ls hP hl hS)
theorem a_lconst (fx : zFx p s m args c B D aC aS nL cc own) {n : Fin 2} {v : Int64} (hd : decode cc pc = .ok (.lconst n, 1)) (hv : Int64.ofNat (n : Nat) = v) (k : zAt p l e R s m args below meth c cells slots Q B D aC nL (pc + 1) lv (.long v :: st) M) : zAt p l e R s m args below meth c cells slots Q B D aC nL pc lv (st) M := fun H locs ls hP hl hS => lv_lconst fx.1 fx.2.1 hd hv (k H locs ls hP hl hS)
theorem a_dup (fx : zFx p s m args c B D aC aS nL cc own) {va : Value} (hd : decode cc pc = .ok (.dup, 1)) (h1 : va.category = 1) (k : zAt p l e R s m args below meth c cells slots Q B D aC nL (pc + 1) lv (va :: va :: st) M) : zAt p l e R s m args below meth c cells slots Q B D aC nL pc lv (va :: st) M := fun H locs ls hP hl hS => lv_dup fx.1 fx.2.1 hd h1 (k H locs ls hP hl hS)
theorem a_pop (fx : zFx p s m args c B D aC aS nL cc own) {va : Value} (hd : decode cc pc = .ok (.pop, 1)) (h1 : va.category = 1) (k : zAt p l e R s m args below meth c cells slots Q B D aC nL (pc + 1) lv (st) M) : zAt p l e R s m args below meth c cells slots Q B D aC nL pc lv (va :: st) M := fun H locs ls hP hl hS => lv_pop fx.1 fx.2.1 hd h1 (k H locs ls hP hl hS)
theorem a_dup_x1 (fx : zFx p s m args c B D aC aS nL cc own) {va vb : Value} (hd : decode cc pc = .ok (.dup_x1, 1)) (h1 : va.category = 1) (h2 : vb.category = 1) (k : zAt p l e R s m args below meth c cells slots Q B D aC nL (pc + 1) lv (va :: vb :: va :: st) M) : zAt p l e R s m args below meth c cells slots Q B D aC nL pc lv (va :: vb :: st) M := fun H locs ls hP hl hS => lv_dup_x1 fx.1 fx.2.1 hd h1 h2 (k H locs ls hP hl hS)
theorem a_dup2 (fx : zFx p s m args c B D aC aS nL cc own) {va vb : Value} (hd : decode cc pc = .ok (.dup2, 1)) (h1 : va.category = 1) (h2 : vb.category = 1) (k : zAt p l e R s m args below meth c cells slots Q B D aC nL (pc + 1) lv (va :: vb :: va :: vb :: st) M) : zAt p l e R s m args below meth c cells slots Q B D aC nL pc lv (va :: vb :: st) M := fun H locs ls hP hl hS => lv_dup2_11 fx.1 fx.2.1 hd h1 h2 (k H locs ls hP hl hS)
theorem a_dup_x2 (fx : zFx p s m args c B D aC aS nL cc own) {va vb vc : Value} (hd : decode cc pc = .ok (.dup_x2, 1)) (h1 : va.category = 1) (h2 : vb.category = 1) (h3 : vc.category = 1) (k : zAt p l e R s m args below meth c cells slots Q B D aC nL (pc + 1) lv (va :: vb :: vc :: va :: st) M) : zAt p l e R s m args below meth c cells slots Q B D aC nL pc lv (va :: vb :: vc :: st) M := fun H locs ls hP hl hS => lv_dup_x2 fx.1 fx.2.1 hd h1 h2 h3 (k H locs ls hP hl hS)
theorem a_lcmp (fx : zFx p s m args c B D aC aS nL cc own) {x y : Int64} (hd : decode cc pc = .ok (.lcmp, 1)) (k : zAt p l e R s m args below meth c cells slots Q B D aC nL (pc + 1) lv (.int (lg_cmp x y) :: st) M) : zAt p l e R s m args below meth c cells slots Q B D aC nL pc lv (.long y :: .long x :: st) M := fun H locs ls hP hl hS => W.lcmp fx.1 fx.2.1 hd (k H locs ls hP hl hS)
theorem a_iload_n (fx : zFx p s m args c B D aC aS nL cc own) (q : Nat) {k0 : Fin 4} {i : Nat} {x : Int32} (hd : decode cc pc = .ok (.iload_n k0, 1)) (hi : (k0 : Nat) = i) (hq : lv[q]? = some (i, .int x)) (k : zAt p l e R s m args below meth c cells slots Q B D aC nL (pc + 1) lv (.int x :: st) M) : zAt p l e R s m args below meth c cells slots Q B D aC nL pc lv st M := fun H locs ls hP hl hS => lv_iload_n fx.1 fx.2.1 hd hi (lv_at hl q hq) (k H locs ls hP hl hS)
theorem a_iload (fx : zFx p s m args c B D aC aS nL cc own) (q : Nat) {i : Nat} {x : Int32} (hd : decode cc pc = .ok (.iload i, 2)) (hq : lv[q]? = some (i, .int x)) (k : zAt p l e R s m args below meth c cells slots Q B D aC nL (pc + 2) lv (.int x :: st) M) : zAt p l e R s m args below meth c cells slots Q B D aC nL pc lv st M := fun H locs ls hP hl hS => lv_iload fx.1 fx.2.1 hd (lv_at hl q hq) (k H locs ls hP hl hS)
theorem a_istore_n (fx : zFx p s m args c B D aC aS nL cc own) {k0 : Fin 4} {i : Nat} {x : Int32} (hd : decode cc pc = .ok (.istore_n k0, 1)) (hi : (k0 : Nat) = i) (hn : i < nL) (h2 : (i, Value.int x) :: lv.filter (fun q => !(q.1 == i) && !(q.1 + 1 == i && q.2.category == 2)) = lv2) (k : zAt p l e R s m args below meth c cells slots Q B D aC nL (pc + 1) lv2 st M) : zAt p l e R s m args below meth c cells slots Q B D aC nL pc lv (.int x :: st) M := fun H locs ls hP hl hS => lv_istore_n fx.1 fx.2.1 hd hi hl hn h2 (fun ls2 hl2 => k H locs ls2 hP hl2 hS)
theorem a_istore (fx : zFx p s m args c B D aC aS nL cc own) {i : Nat} {x : Int32} (hd : decode cc pc = .ok (.istore i, 2)) (hn : i < nL) (h2 : (i, Value.int x) :: lv.filter (fun q => !(q.1 == i) && !(q.1 + 1 == i && q.2.category == 2)) = lv2) (k : zAt p l e R s m args below meth c cells slots Q B D aC nL (pc + 2) lv2 st M) : zAt p l e R s m args below meth c cells slots Q B D aC nL pc lv (.int x :: st) M := fun H locs ls hP hl hS => lv_istore fx.1 fx.2.1 hd hl hn h2 (fun ls2 hl2 => k H locs ls2 hP hl2 hS)
theorem a_lload_n (fx : zFx p s m args c B D aC aS nL cc own) (q : Nat) {k0 : Fin 4} {i : Nat} {x : Int64} (hd : decode cc pc = .ok (.lload_n k0, 1)) (hi : (k0 : Nat) = i) (hq : lv[q]? = some (i, .long x)) (k : zAt p l e R s m args below meth c cells slots Q B D aC nL (pc + 1) lv (.long x :: st) M) : zAt p l e R s m args below meth c cells slots Q B D aC nL pc lv st M := fun H locs ls hP hl hS => lv_lload_n fx.1 fx.2.1 hd hi (lv_at hl q hq) (k H locs ls hP hl hS)
theorem a_lload (fx : zFx p s m args c B D aC aS nL cc own) (q : Nat) {i : Nat} {x : Int64} (hd : decode cc pc = .ok (.lload i, 2)) (hq : lv[q]? = some (i, .long x)) (k : zAt p l e R s m args below meth c cells slots Q B D aC nL (pc + 2) lv (.long x :: st) M) : zAt p l e R s m args below meth c cells slots Q B D aC nL pc lv st M := fun H locs ls hP hl hS => lv_lload fx.1 fx.2.1 hd (lv_at hl q hq) (k H locs ls hP hl hS)
theorem a_lstore_n (fx : zFx p s m args c B D aC aS nL cc own) {k0 : Fin 4} {i : Nat} {x : Int64} (hd : decode cc pc = .ok (.lstore_n k0, 1)) (hi : (k0 : Nat) = i) (hn : i + 1 < nL) (h2 : (i, Value.long x) :: lv.filter (fun q => !(q.1 == i) && (!(q.1 == i + 1) && !(q.1 + 1 == i && q.2.category == 2))) = lv2) (k : zAt p l e R s m args below meth c cells slots Q B D aC nL (pc + 1) lv2 st M) : zAt p l e R s m args below meth c cells slots Q B D aC nL pc lv (.long x :: st) M := fun H locs ls hP hl hS => lv_lstore_n fx.1 fx.2.1 hd hi hl hn h2 (fun ls2 hl2 => k H locs ls2 hP hl2 hS)
theorem a_lstore (fx : zFx p s m args c B D aC aS nL cc own) {i : Nat} {x : Int64} (hd : decode cc pc = .ok (.lstore i, 2)) (hn : i + 1 < nL) (h2 : (i, Value.long x) :: lv.filter (fun q => !(q.1 == i) && (!(q.1 == i + 1) && !(q.1 + 1 == i && q.2.category == 2))) = lv2) (k : zAt p l e R s m args below meth c cells slots Q B D aC nL (pc + 2) lv2 st M) : zAt p l e R s m args below meth c cells slots Q B D aC nL pc lv (.long x :: st) M := fun H locs ls hP hl hS => lv_lstore fx.1 fx.2.1 hd hl hn h2 (fun ls2 hl2 => k H locs ls2 hP hl2 hS)
theorem a_aload_n (fx : zFx p s m args c B D aC aS nL cc own) (q : Nat) {k0 : Fin 4} {i : Nat} {x : Nat} (hd : decode cc pc = .ok (.aload_n k0, 1)) (hi : (k0 : Nat) = i) (hq : lv[q]? = some (i, .ref x)) (k : zAt p l e R s m args below meth c cells slots Q B D aC nL (pc + 1) lv (.ref x :: st) M) : zAt p l e R s m args below meth c cells slots Q B D aC nL pc lv st M := fun H locs ls hP hl hS => lv_aload_n fx.1 fx.2.1 hd hi (lv_at hl q hq) (k H locs ls hP hl hS)
theorem a_aload (fx : zFx p s m args c B D aC aS nL cc own) (q : Nat) {i : Nat} {x : Nat} (hd : decode cc pc = .ok (.aload i, 2)) (hq : lv[q]? = some (i, .ref x)) (k : zAt p l e R s m args below meth c cells slots Q B D aC nL (pc + 2) lv (.ref x :: st) M) : zAt p l e R s m args below meth c cells slots Q B D aC nL pc lv st M := fun H locs ls hP hl hS => lv_aload fx.1 fx.2.1 hd (lv_at hl q hq) (k H locs ls hP hl hS)
theorem a_astore_n (fx : zFx p s m args c B D aC aS nL cc own) {k0 : Fin 4} {i : Nat} {x : Nat} (hd : decode cc pc = .ok (.astore_n k0, 1)) (hi : (k0 : Nat) = i) (hn : i < nL) (h2 : (i, Value.ref x) :: lv.filter (fun q => !(q.1 == i) && !(q.1 + 1 == i && q.2.category == 2)) = lv2) (k : zAt p l e R s m args below meth c cells slots Q B D aC nL (pc + 1) lv2 st M) : zAt p l e R s m args below meth c cells slots Q B D aC nL pc lv (.ref x :: st) M := fun H locs ls hP hl hS => lv_astore_n fx.1 fx.2.1 hd hi hl hn h2 (fun ls2 hl2 => k H locs ls2 hP hl2 hS)
theorem a_astore (fx : zFx p s m args c B D aC aS nL cc own) {i : Nat} {x : Nat} (hd : decode cc pc = .ok (.astore i, 2)) (hn : i < nL) (h2 : (i, Value.ref x) :: lv.filter (fun q => !(q.1 == i) && !(q.1 + 1 == i && q.2.category == 2)) = lv2) (k : zAt p l e R s m args below meth c cells slots Q B D aC nL (pc + 2) lv2 st M) : zAt p l e R s m args below meth c cells slots Q B D aC nL pc lv (.ref x :: st) M := fun H locs ls hP hl hS => lv_astore fx.1 fx.2.1 hd hl hn h2 (fun ls2 hl2 => k H locs ls2 hP hl2 hS)
theorem a_iinc (fx : zFx p s m args c B D aC aS nL cc own) (q : Nat) {i : Nat} {n : Int} {x v : Int32} (hd : decode cc pc = .ok (.iinc i n, 3)) (hq : lv[q]? = some (i, .int x)) (hv : x + Int32.ofInt n = v) (hn : i < nL) (h2 : (i, Value.int v) :: lv.filter (fun q => !(q.1 == i) && !(q.1 + 1 == i && q.2.category == 2)) = lv2) (k : zAt p l e R s m args below meth c cells slots Q B D aC nL (pc + 3) lv2 st M) : zAt p l e R s m args below meth c cells slots Q B D aC nL pc lv st M := fun H locs ls hP hl hS => lv_iinc fx.1 fx.2.1 hd hl hq hv hn h2 (fun ls2 hl2 => k H locs ls2 hP hl2 hS)
theorem a_sub (ks : List Nat) (h : lv_pick lv ks = lv2) (k : zAt p l e R s m args below meth c cells slots Q B D aC nL pc lv2 st M) : zAt p l e R s m args below meth c cells slots Q B D aC nL pc lv st M := fun H locs ls hP hl hS => k H locs ls hP (lv_sub hl ks h) hS
theorem a_topi {x : Int32} (k : ∀ y : Int32, y = x → zAt p l e R s m args below meth c cells slots Q B D aC nL pc lv (.int y :: st) M) : zAt p l e R s m args below meth c cells slots Q B D aC nL pc lv (.int x :: st) M := k x rfl
theorem a_topl {x : Int64} (k : ∀ y : Int64, y = x → zAt p l e R s m args below meth c cells slots Q B D aC nL pc lv (.long y :: st) M) : zAt p l e R s m args below meth c cells slots Q B D aC nL pc lv (.long x :: st) M := k x rfl
theorem a_topr {x : Nat} (k : ∀ y : Nat, y = x → zAt p l e R s m args below meth c cells slots Q B D aC nL pc lv (.ref (B + y) :: st) M) : zAt p l e R s m args below meth c cells slots Q B D aC nL pc lv (.ref (B + x) :: st) M := k x rfl
theorem a_mem (k : ∀ M2 : zM, M2 = M → zAt p l e R s m args below meth c cells slots Q B D aC nL pc lv st M2) : zAt p l e R s m args below meth c cells slots Q B D aC nL pc lv st M := k M rfl
theorem a_goto (fx : zFx p s m args c B D aC aS nL cc own) {off : Int} (tgt : Nat) (hd : decode cc pc = .ok (.goto off, 3)) (ht : (pc : Int) + off = (tgt : Int)) (k : zAt p l e R s m args below meth c cells slots Q B D aC nL tgt lv st M) : zAt p l e R s m args below meth c cells slots Q B D aC nL pc lv st M := fun H locs ls hP hl hS => lv_goto fx.1 fx.2.1 hd ht (k H locs ls hP hl hS)
theorem a_if_eq (fx : zFx p s m args c B D aC aS nL cc own) {x : Int32} {off : Int} (tgt : Nat) (hd : decode cc pc = .ok (.ifCond .eq off, 3)) (ht : (pc : Int) + off = (tgt : Int)) (kt : x = 0 → zAt p l e R s m args below meth c cells slots Q B D aC nL tgt lv st M) (kf : ¬ (x = 0) → zAt p l e R s m args below meth c cells slots Q B D aC nL (pc + 3) lv st M) : zAt p l e R s m args below meth c cells slots Q B D aC nL pc lv (.int x :: st) M := fun H locs ls hP hl hS => lv_if_eq fx.1 fx.2.1 hd ht (fun h => kt h H locs ls hP hl hS) (fun h => kf h H locs ls hP hl hS)
theorem a_icmp_eq (fx : zFx p s m args c B D aC aS nL cc own) {x y : Int32} {off : Int} (tgt : Nat) (hd : decode cc pc = .ok (.if_icmp .eq off, 3)) (ht : (pc : Int) + off = (tgt : Int)) (kt : x = y → zAt p l e R s m args below meth c cells slots Q B D aC nL tgt lv st M) (kf : ¬ (x = y) → zAt p l e R s m args below meth c cells slots Q B D aC nL (pc + 3) lv st M) : zAt p l e R s m args below meth c cells slots Q B D aC nL pc lv (.int y :: .int x :: st) M := fun H locs ls hP hl hS => lv_icmp_eq fx.1 fx.2.1 hd ht (fun h => kt h H locs ls hP hl hS) (fun h => kf h H locs ls hP hl hS)
theorem a_if_ne (fx : zFx p s m args c B D aC aS nL cc own) {x : Int32} {off : Int} (tgt : Nat) (hd : decode cc pc = .ok (.ifCond .ne off, 3)) (ht : (pc : Int) + off = (tgt : Int)) (kt : ¬ x = 0 → zAt p l e R s m args below meth c cells slots Q B D aC nL tgt lv st M) (kf : x = 0 → zAt p l e R s m args below meth c cells slots Q B D aC nL (pc + 3) lv st M) : zAt p l e R s m args below meth c cells slots Q B D aC nL pc lv (.int x :: st) M := fun H locs ls hP hl hS => lv_if_ne fx.1 fx.2.1 hd ht (fun h => kt h H locs ls hP hl hS) (fun h => kf h H locs ls hP hl hS)
theorem a_icmp_ne (fx : zFx p s m args c B D aC aS nL cc own) {x y : Int32} {off : Int} (tgt : Nat) (hd : decode cc pc = .ok (.if_icmp .ne off, 3)) (ht : (pc : Int) + off = (tgt : Int)) (kt : ¬ x = y → zAt p l e R s m args below meth c cells slots Q B D aC nL tgt lv st M) (kf : x = y → zAt p l e R s m args below meth c cells slots Q B D aC nL (pc + 3) lv st M) : zAt p l e R s m args below meth c cells slots Q B D aC nL pc lv (.int y :: .int x :: st) M := fun H locs ls hP hl hS => lv_icmp_ne fx.1 fx.2.1 hd ht (fun h => kt h H locs ls hP hl hS) (fun h => kf h H locs ls hP hl hS)
theorem a_if_lt (fx : zFx p s m args c B D aC aS nL cc own) {x : Int32} {off : Int} (tgt : Nat) (hd : decode cc pc = .ok (.ifCond .lt off, 3)) (ht : (pc : Int) + off = (tgt : Int)) (kt : x < 0 → zAt p l e R s m args below meth c cells slots Q B D aC nL tgt lv st M) (kf : ¬ (x < 0) → zAt p l e R s m args below meth c cells slots Q B D aC nL (pc + 3) lv st M) : zAt p l e R s m args below meth c cells slots Q B D aC nL pc lv (.int x :: st) M := fun H locs ls hP hl hS => lv_if_lt fx.1 fx.2.1 hd ht (fun h => kt h H locs ls hP hl hS) (fun h => kf h H locs ls hP hl hS)
theorem a_icmp_lt (fx : zFx p s m args c B D aC aS nL cc own) {x y : Int32} {off : Int} (tgt : Nat) (hd : decode cc pc = .ok (.if_icmp .lt off, 3)) (ht : (pc : Int) + off = (tgt : Int)) (kt : x < y → zAt p l e R s m args below meth c cells slots Q B D aC nL tgt lv st M) (kf : ¬ (x < y) → zAt p l e R s m args below meth c cells slots Q B D aC nL (pc + 3) lv st M) : zAt p l e R s m args below meth c cells slots Q B D aC nL pc lv (.int y :: .int x :: st) M := fun H locs ls hP hl hS => lv_icmp_lt fx.1 fx.2.1 hd ht (fun h => kt h H locs ls hP hl hS) (fun h => kf h H locs ls hP hl hS)
theorem a_if_ge (fx : zFx p s m args c B D aC aS nL cc own) {x : Int32} {off : Int} (tgt : Nat) (hd : decode cc pc = .ok (.ifCond .ge off, 3)) (ht : (pc : Int) + off = (tgt : Int)) (kt : 0 ≤ x → zAt p l e R s m args below meth c cells slots Q B D aC nL tgt lv st M) (kf : ¬ (0 ≤ x) → zAt p l e R s m args below meth c cells slots Q B D aC nL (pc + 3) lv st M) : zAt p l e R s m args below meth c cells slots Q B D aC nL pc lv (.int x :: st) M := fun H locs ls hP hl hS => lv_if_ge fx.1 fx.2.1 hd ht (fun h => kt h H locs ls hP hl hS) (fun h => kf h H locs ls hP hl hS)
theorem a_icmp_ge (fx : zFx p s m args c B D aC aS nL cc own) {x y : Int32} {off : Int} (tgt : Nat) (hd : decode cc pc = .ok (.if_icmp .ge off, 3)) (ht : (pc : Int) + off = (tgt : Int)) (kt : y ≤ x → zAt p l e R s m args below meth c cells slots Q B D aC nL tgt lv st M) (kf : ¬ (y ≤ x) → zAt p l e R s m args below meth c cells slots Q B D aC nL (pc + 3) lv st M) : zAt p l e R s m args below meth c cells slots Q B D aC nL pc lv (.int y :: .int x :: st) M := fun H locs ls hP hl hS => lv_icmp_ge fx.1 fx.2.1 hd ht (fun h => kt h H locs ls hP hl hS) (fun h => kf h H locs ls hP hl hS)
theorem a_if_gt (fx : zFx p s m args c B D aC aS nL cc own) {x : Int32} {off : Int} (tgt : Nat) (hd : decode cc pc = .ok (.ifCond .gt off, 3)) (ht : (pc : Int) + off = (tgt : Int)) (kt : 0 < x → zAt p l e R s m args below meth c cells slots Q B D aC nL tgt lv st M) (kf : ¬ (0 < x) → zAt p l e R s m args below meth c cells slots Q B D aC nL (pc + 3) lv st M) : zAt p l e R s m args below meth c cells slots Q B D aC nL pc lv (.int x :: st) M := fun H locs ls hP hl hS => lv_if_gt fx.1 fx.2.1 hd ht (fun h => kt h H locs ls hP hl hS) (fun h => kf h H locs ls hP hl hS)
theorem a_icmp_gt (fx : zFx p s m args c B D aC aS nL cc own) {x y : Int32} {off : Int} (tgt : Nat) (hd : decode cc pc = .ok (.if_icmp .gt off, 3)) (ht : (pc : Int) + off = (tgt : Int)) (kt : y < x → zAt p l e R s m args below meth c cells slots Q B D aC nL tgt lv st M) (kf : ¬ (y < x) → zAt p l e R s m args below meth c cells slots Q B D aC nL (pc + 3) lv st M) : zAt p l e R s m args below meth c cells slots Q B D aC nL pc lv (.int y :: .int x :: st) M := fun H locs ls hP hl hS => lv_icmp_gt fx.1 fx.2.1 hd ht (fun h => kt h H locs ls hP hl hS) (fun h => kf h H locs ls hP hl hS)
theorem a_if_le (fx : zFx p s m args c B D aC aS nL cc own) {x : Int32} {off : Int} (tgt : Nat) (hd : decode cc pc = .ok (.ifCond .le off, 3)) (ht : (pc : Int) + off = (tgt : Int)) (kt : x ≤ 0 → zAt p l e R s m args below meth c cells slots Q B D aC nL tgt lv st M) (kf : ¬ (x ≤ 0) → zAt p l e R s m args below meth c cells slots Q B D aC nL (pc + 3) lv st M) : zAt p l e R s m args below meth c cells slots Q B D aC nL pc lv (.int x :: st) M := fun H locs ls hP hl hS => lv_if_le fx.1 fx.2.1 hd ht (fun h => kt h H locs ls hP hl hS) (fun h => kf h H locs ls hP hl hS)
theorem a_icmp_le (fx : zFx p s m args c B D aC aS nL cc own) {x y : Int32} {off : Int} (tgt : Nat) (hd : decode cc pc = .ok (.if_icmp .le off, 3)) (ht : (pc : Int) + off = (tgt : Int)) (kt : x ≤ y → zAt p l e R s m args below meth c cells slots Q B D aC nL tgt lv st M) (kf : ¬ (x ≤ y) → zAt p l e R s m args below meth c cells slots Q B D aC nL (pc + 3) lv st M) : zAt p l e R s m args below meth c cells slots Q B D aC nL pc lv (.int y :: .int x :: st) M := fun H locs ls hP hl hS => lv_icmp_le fx.1 fx.2.1 hd ht (fun h => kt h H locs ls hP hl hS) (fun h => kf h H locs ls hP hl hS)
theorem a_ldc (fx : zFx p s m args c B D aC aS nL cc own) {index : Nat} {v : Int32} (hw : Cond.constant own index v ∈ tb) (hd : decode cc pc = .ok (.ldc index, 2)) (k : zAt p l e R s m args below meth c cells slots Q B D aC nL (pc + 2) lv (.int v :: st) M) : zAt p l e R s m args below meth c cells slots Q B D aC nL pc lv st M := fun H locs ls hP hl hS => lv_ldc fx.1 fx.2.1 fx.2.2.2.1 (fx.2.2.2.2.1 _ hw) hd (k H locs ls hP hl hS)
theorem a_ldcw (fx : zFx p s m args c B D aC aS nL cc own) {index : Nat} {v : Int32} (hw : Cond.constant own index v ∈ tb) (hd : decode cc pc = .ok (.ldc_w index, 3)) (k : zAt p l e R s m args below meth c cells slots Q B D aC nL (pc + 3) lv (.int v :: st) M) : zAt p l e R s m args below meth c cells slots Q B D aC nL pc lv st M := fun H locs ls hP hl hS => lv_ldcw fx.1 fx.2.1 fx.2.2.2.1 (fx.2.2.2.2.1 _ hw) hd (k H locs ls hP hl hS)
theorem a_ldc2 (fx : zFx p s m args c B D aC aS nL cc own) {index : Nat} {v : Int64} (hw : Cond.constantLong own index v ∈ tb) (hd : decode cc pc = .ok (.ldc2_w index, 3)) (k : zAt p l e R s m args below meth c cells slots Q B D aC nL (pc + 3) lv (.long v :: st) M) : zAt p l e R s m args below meth c cells slots Q B D aC nL pc lv st M := fun H locs ls hP hl hS => lv_ldc2 fx.1 fx.2.1 fx.2.2.2.1 (fx.2.2.2.2.1 _ hw) hd (k H locs ls hP hl hS)
theorem a_getI (fx : zFx p s m args c B D aC aS nL cc own) {C : String} {T : u_T} {N t index k j : Nat} (hk : k < N0) (ht : tg k = t) (ht2 : t < 20) (hc : kcl[t]? = some (C, T, N)) (hin : ∀ w ∈ u_ws C T N, w ∈ tb) (hj : j < N) (hj2 : j < nf t) (hf : ft t j = 0) (hT : (T j).1 = C) (hw : Cond.fieldLink own index C (T j).2.1 (T j).2.2.1 ∈ tb) (hd : decode cc pc = .ok (.getfield index, 3)) (kk : zAt p l e R s m args below meth c cells slots Q B D aC nL (pc + 3) lv (.int (M.1 k j) :: st) M) : zAt p l e R s m args below meth c cells slots Q B D aC nL pc lv (.ref (B + k) :: st) M := fun H locs ls hP hl hS => va_get (ref := C) (v := .int (M.1 k j)) fx.1 fx.2.1 (fun w hw => fx.2.2.2.2.1 w hw) hin fx.2.2.2.1 fx.2.2.2.2.2.1.1 hP k ((zcls_at hk).trans (by rw [zcel_o ht ht2])) hc j hj (fx.2.2.2.2.1 _ hw) (fun x h => by rw [hT] at h; exact h) ((zfvs_at hj2).trans (by unfold zfvl; rw [hf]; rfl)) hd (kk H locs ls hP hl hS)
theorem a_getIN (fx : zFx p s m args c B D aC aS nL cc own) {C : String} {T : u_T} {N t index k j : Nat} (hk : k < N0) (ht : tg k = t) (ht2 : t < 20) (hc : kcl[t]? = some (C, T, N)) (hin : ∀ w ∈ u_ws C T N, w ∈ tb) (hj : j < N) (hj2 : j < nf t) (hf : ft t j = 0) (hT : (T j).1 = C) (q9 : Nat) {host : String} (hw : nestF[q9]? = some (own, index, C, (T j).2.1, (T j).2.2.1, host)) (hd : decode cc pc = .ok (.getfield index, 3)) (kk : zAt p l e R s m args below meth c cells slots Q B D aC nL (pc + 3) lv (.int (M.1 k j) :: st) M) : zAt p l e R s m args below meth c cells slots Q B D aC nL pc lv (.ref (B + k) :: st) M := fun H locs ls hP hl hS => va_getN (ref := C) (v := .int (M.1 k j)) fx.1 fx.2.1 (fun w hw => fx.2.2.2.2.1 w hw) hin fx.2.2.2.1 fx.2.2.2.2.2.1.1 hP k ((zcls_at hk).trans (by rw [zcel_o ht ht2])) hc j hj (va_Nw.use (w := .fieldLinkNest own index C (T j).2.1 (T j).2.2.1 host) rfl (fx.2.2.2.2.2.1.2.2.2.2.2.2.2.2.1 _ (List.mem_of_getElem? hw))) (fun x h => by rw [hT] at h; exact h) ((zfvs_at hj2).trans (by unfold zfvl; rw [hf]; rfl)) hd (kk H locs ls hP hl hS)
theorem a_getL (fx : zFx p s m args c B D aC aS nL cc own) {C : String} {T : u_T} {N t index k j : Nat} (hk : k < N0) (ht : tg k = t) (ht2 : t < 20) (hc : kcl[t]? = some (C, T, N)) (hin : ∀ w ∈ u_ws C T N, w ∈ tb) (hj : j < N) (hj2 : j < nf t) (hf : ft t j = 1) (hT : (T j).1 = C) (hw : Cond.fieldLink own index C (T j).2.1 (T j).2.2.1 ∈ tb) (hd : decode cc pc = .ok (.getfield index, 3)) (kk : zAt p l e R s m args below meth c cells slots Q B D aC nL (pc + 3) lv (.long (M.2.1 k j) :: st) M) : zAt p l e R s m args below meth c cells slots Q B D aC nL pc lv (.ref (B + k) :: st) M := fun H locs ls hP hl hS => va_get (ref := C) (v := .long (M.2.1 k j)) fx.1 fx.2.1 (fun w hw => fx.2.2.2.2.1 w hw) hin fx.2.2.2.1 fx.2.2.2.2.2.1.1 hP k ((zcls_at hk).trans (by rw [zcel_o ht ht2])) hc j hj (fx.2.2.2.2.1 _ hw) (fun x h => by rw [hT] at h; exact h) ((zfvs_at hj2).trans (by unfold zfvl; rw [hf]; rfl)) hd (kk H locs ls hP hl hS)
theorem a_getLN (fx : zFx p s m args c B D aC aS nL cc own) {C : String} {T : u_T} {N t index k j : Nat} (hk : k < N0) (ht : tg k = t) (ht2 : t < 20) (hc : kcl[t]? = some (C, T, N)) (hin : ∀ w ∈ u_ws C T N, w ∈ tb) (hj : j < N) (hj2 : j < nf t) (hf : ft t j = 1) (hT : (T j).1 = C) (q9 : Nat) {host : String} (hw : nestF[q9]? = some (own, index, C, (T j).2.1, (T j).2.2.1, host)) (hd : decode cc pc = .ok (.getfield index, 3)) (kk : zAt p l e R s m args below meth c cells slots Q B D aC nL (pc + 3) lv (.long (M.2.1 k j) :: st) M) : zAt p l e R s m args below meth c cells slots Q B D aC nL pc lv (.ref (B + k) :: st) M := fun H locs ls hP hl hS => va_getN (ref := C) (v := .long (M.2.1 k j)) fx.1 fx.2.1 (fun w hw => fx.2.2.2.2.1 w hw) hin fx.2.2.2.1 fx.2.2.2.2.2.1.1 hP k ((zcls_at hk).trans (by rw [zcel_o ht ht2])) hc j hj (va_Nw.use (w := .fieldLinkNest own index C (T j).2.1 (T j).2.2.1 host) rfl (fx.2.2.2.2.2.1.2.2.2.2.2.2.2.2.1 _ (List.mem_of_getElem? hw))) (fun x h => by rw [hT] at h; exact h) ((zfvs_at hj2).trans (by unfold zfvl; rw [hf]; rfl)) hd (kk H locs ls hP hl hS)
theorem a_getS (fx : zFx p s m args c B D aC aS nL cc own) {C : String} {T : u_T} {N t index k j : Nat} (hk : k < N0) (ht : tg k = t) (ht2 : t < 20) (hc : kcl[t]? = some (C, T, N)) (hin : ∀ w ∈ u_ws C T N, w ∈ tb) (hj : j < N) (hj2 : j < nf t) (hf : ft t j = 2) {n9 : Nat} (hfo : fo t j = n9) (hT : (T j).1 = C) (hw : Cond.fieldLink own index C (T j).2.1 (T j).2.2.1 ∈ tb) (hd : decode cc pc = .ok (.getfield index, 3)) (kk : zAt p l e R s m args below meth c cells slots Q B D aC nL (pc + 3) lv (.ref (B + (k + n9)) :: st) M) : zAt p l e R s m args below meth c cells slots Q B D aC nL pc lv (.ref (B + k) :: st) M := fun H locs ls hP hl hS => va_get (ref := C) (v := .ref (B + (k + n9))) fx.1 fx.2.1 (fun w hw => fx.2.2.2.2.1 w hw) hin fx.2.2.2.1 fx.2.2.2.2.2.1.1 hP k ((zcls_at hk).trans (by rw [zcel_o ht ht2])) hc j hj (fx.2.2.2.2.1 _ hw) (fun x h => by rw [hT] at h; exact h) ((zfvs_at hj2).trans (by unfold zfvl; rw [hf]; subst hfo; rfl)) hd (kk H locs ls hP hl hS)
theorem a_getSN (fx : zFx p s m args c B D aC aS nL cc own) {C : String} {T : u_T} {N t index k j : Nat} (hk : k < N0) (ht : tg k = t) (ht2 : t < 20) (hc : kcl[t]? = some (C, T, N)) (hin : ∀ w ∈ u_ws C T N, w ∈ tb) (hj : j < N) (hj2 : j < nf t) (hf : ft t j = 2) {n9 : Nat} (hfo : fo t j = n9) (hT : (T j).1 = C) (q9 : Nat) {host : String} (hw : nestF[q9]? = some (own, index, C, (T j).2.1, (T j).2.2.1, host)) (hd : decode cc pc = .ok (.getfield index, 3)) (kk : zAt p l e R s m args below meth c cells slots Q B D aC nL (pc + 3) lv (.ref (B + (k + n9)) :: st) M) : zAt p l e R s m args below meth c cells slots Q B D aC nL pc lv (.ref (B + k) :: st) M := fun H locs ls hP hl hS => va_getN (ref := C) (v := .ref (B + (k + n9))) fx.1 fx.2.1 (fun w hw => fx.2.2.2.2.1 w hw) hin fx.2.2.2.1 fx.2.2.2.2.2.1.1 hP k ((zcls_at hk).trans (by rw [zcel_o ht ht2])) hc j hj (va_Nw.use (w := .fieldLinkNest own index C (T j).2.1 (T j).2.2.1 host) rfl (fx.2.2.2.2.2.1.2.2.2.2.2.2.2.2.1 _ (List.mem_of_getElem? hw))) (fun x h => by rw [hT] at h; exact h) ((zfvs_at hj2).trans (by unfold zfvl; rw [hf]; subst hfo; rfl)) hd (kk H locs ls hP hl hS)
theorem a_getR (fx : zFx p s m args c B D aC aS nL cc own) {C : String} {T : u_T} {N t index k j : Nat} (hk : k < N0) (ht : tg k = t) (ht2 : t < 20) (hc : kcl[t]? = some (C, T, N)) (hin : ∀ w ∈ u_ws C T N, w ∈ tb) (hj : j < N) (hj2 : j < nf t) (hf : ft t j = 3) (hT : (T j).1 = C) (hw : Cond.fieldLink own index C (T j).2.1 (T j).2.2.1 ∈ tb) (hd : decode cc pc = .ok (.getfield index, 3)) (kk : zAt p l e R s m args below meth c cells slots Q B D aC nL (pc + 3) lv (.ref (B + M.2.2 k j) :: st) M) : zAt p l e R s m args below meth c cells slots Q B D aC nL pc lv (.ref (B + k) :: st) M := fun H locs ls hP hl hS => va_get (ref := C) (v := .ref (B + M.2.2 k j)) fx.1 fx.2.1 (fun w hw => fx.2.2.2.2.1 w hw) hin fx.2.2.2.1 fx.2.2.2.2.2.1.1 hP k ((zcls_at hk).trans (by rw [zcel_o ht ht2])) hc j hj (fx.2.2.2.2.1 _ hw) (fun x h => by rw [hT] at h; exact h) ((zfvs_at hj2).trans (by unfold zfvl; rw [hf]; rfl)) hd (kk H locs ls hP hl hS)
theorem a_getRN (fx : zFx p s m args c B D aC aS nL cc own) {C : String} {T : u_T} {N t index k j : Nat} (hk : k < N0) (ht : tg k = t) (ht2 : t < 20) (hc : kcl[t]? = some (C, T, N)) (hin : ∀ w ∈ u_ws C T N, w ∈ tb) (hj : j < N) (hj2 : j < nf t) (hf : ft t j = 3) (hT : (T j).1 = C) (q9 : Nat) {host : String} (hw : nestF[q9]? = some (own, index, C, (T j).2.1, (T j).2.2.1, host)) (hd : decode cc pc = .ok (.getfield index, 3)) (kk : zAt p l e R s m args below meth c cells slots Q B D aC nL (pc + 3) lv (.ref (B + M.2.2 k j) :: st) M) : zAt p l e R s m args below meth c cells slots Q B D aC nL pc lv (.ref (B + k) :: st) M := fun H locs ls hP hl hS => va_getN (ref := C) (v := .ref (B + M.2.2 k j)) fx.1 fx.2.1 (fun w hw => fx.2.2.2.2.1 w hw) hin fx.2.2.2.1 fx.2.2.2.2.2.1.1 hP k ((zcls_at hk).trans (by rw [zcel_o ht ht2])) hc j hj (va_Nw.use (w := .fieldLinkNest own index C (T j).2.1 (T j).2.2.1 host) rfl (fx.2.2.2.2.2.1.2.2.2.2.2.2.2.2.1 _ (List.mem_of_getElem? hw))) (fun x h => by rw [hT] at h; exact h) ((zfvs_at hj2).trans (by unfold zfvl; rw [hf]; rfl)) hd (kk H locs ls hP hl hS)
theorem a_putI (fx : zFx p s m args c B D aC aS nL cc own) {C : String} {T : u_T} {N t index k j : Nat} {v : Int32} {ty0 : Nat → FieldType} (hk : k < N0) (ht : tg k = t) (ht2 : t < 20) (hc : kcl[t]? = some (C, T, N)) (hin : ∀ w ∈ u_ws C T N, w ∈ tb) (hty : ∀ k, k < N → parseFieldDescriptor (T k).2.2.1 = some (ty0 k)) (hnm : ∀ a, a < N → ∀ b, b < N → a ≠ b → (T a).2.1 ≠ (T b).2.1) (hj : j < N) (hj2 : j < nf t) (hf : ft t j = 0) (hT : (T j).1 = C) (hfin : (T j).2.2.2 = false) (hn : narrow (ty0 j) (.int v) = .int v) (hfit : fits (ty0 j) (.int v) = true) (hw : Cond.fieldLink own index C (T j).2.1 (T j).2.2.1 ∈ tb) (hd : decode cc pc = .ok (.putfield index, 3)) (kk : zAt p l e R s m args below meth c cells slots Q B D aC nL (pc + 3) lv st (zI M k j v)) : zAt p l e R s m args below meth c cells slots Q B D aC nL pc lv (.int v :: .ref (B + k) :: st) M := by
  intro H locs ls hP hl hS
  refine va_put (ref := C) (v := .int v) (ty := ty0 j) fx.1 fx.2.1 (fun w hw => fx.2.2.2.2.1 w hw) hin ty0 hty hnm fx.2.2.2.1 fx.2.2.2.2.2.1.1 hP zcls_D hS k ((zcls_at hk).trans (by rw [zcel_o ht ht2])) hc j hj (fx.2.2.2.2.1 _ hw) (fun x h => by rw [hT] at h; exact h) hfin (hty j hj) hn hfit (by rw [zfvs_len]; exact hj2) hd (fun H1 locs1 hP1 _ hS1 => ?_)
  rw [zfvs_sI hj2 hf, zcls_set (M := M) (M' := zI M k j v) hk _ (zcel_o ht ht2) (fun a ha => zcel_same (zI_o ha) rfl rfl)] at hP1
  exact kk H1 locs1 ls hP1 hl hS1
theorem a_putIN (fx : zFx p s m args c B D aC aS nL cc own) {C : String} {T : u_T} {N t index k j : Nat} {v : Int32} {ty0 : Nat → FieldType} (hk : k < N0) (ht : tg k = t) (ht2 : t < 20) (hc : kcl[t]? = some (C, T, N)) (hin : ∀ w ∈ u_ws C T N, w ∈ tb) (hty : ∀ k, k < N → parseFieldDescriptor (T k).2.2.1 = some (ty0 k)) (hnm : ∀ a, a < N → ∀ b, b < N → a ≠ b → (T a).2.1 ≠ (T b).2.1) (hj : j < N) (hj2 : j < nf t) (hf : ft t j = 0) (hT : (T j).1 = C) (hfin : (T j).2.2.2 = false) (hn : narrow (ty0 j) (.int v) = .int v) (hfit : fits (ty0 j) (.int v) = true) (q9 : Nat) {host : String} (hw : nestF[q9]? = some (own, index, C, (T j).2.1, (T j).2.2.1, host)) (hd : decode cc pc = .ok (.putfield index, 3)) (kk : zAt p l e R s m args below meth c cells slots Q B D aC nL (pc + 3) lv st (zI M k j v)) : zAt p l e R s m args below meth c cells slots Q B D aC nL pc lv (.int v :: .ref (B + k) :: st) M := by
  intro H locs ls hP hl hS
  refine va_putN (ref := C) (v := .int v) (ty := ty0 j) fx.1 fx.2.1 (fun w hw => fx.2.2.2.2.1 w hw) hin ty0 hty hnm fx.2.2.2.1 fx.2.2.2.2.2.1.1 hP zcls_D hS k ((zcls_at hk).trans (by rw [zcel_o ht ht2])) hc j hj (va_Nw.use (w := .fieldLinkNest own index C (T j).2.1 (T j).2.2.1 host) rfl (fx.2.2.2.2.2.1.2.2.2.2.2.2.2.2.1 _ (List.mem_of_getElem? hw))) (fun x h => by rw [hT] at h; exact h) hfin (hty j hj) hn hfit (by rw [zfvs_len]; exact hj2) hd (fun H1 locs1 hP1 _ hS1 => ?_)
  rw [zfvs_sI hj2 hf, zcls_set (M := M) (M' := zI M k j v) hk _ (zcel_o ht ht2) (fun a ha => zcel_same (zI_o ha) rfl rfl)] at hP1
  exact kk H1 locs1 ls hP1 hl hS1
theorem a_putL (fx : zFx p s m args c B D aC aS nL cc own) {C : String} {T : u_T} {N t index k j : Nat} {v : Int64} {ty0 : Nat → FieldType} (hk : k < N0) (ht : tg k = t) (ht2 : t < 20) (hc : kcl[t]? = some (C, T, N)) (hin : ∀ w ∈ u_ws C T N, w ∈ tb) (hty : ∀ k, k < N → parseFieldDescriptor (T k).2.2.1 = some (ty0 k)) (hnm : ∀ a, a < N → ∀ b, b < N → a ≠ b → (T a).2.1 ≠ (T b).2.1) (hj : j < N) (hj2 : j < nf t) (hf : ft t j = 1) (hT : (T j).1 = C) (hfin : (T j).2.2.2 = false) (hn : narrow (ty0 j) (.long v) = .long v) (hfit : fits (ty0 j) (.long v) = true) (hw : Cond.fieldLink own index C (T j).2.1 (T j).2.2.1 ∈ tb) (hd : decode cc pc = .ok (.putfield index, 3)) (kk : zAt p l e R s m args below meth c cells slots Q B D aC nL (pc + 3) lv st (zL M k j v)) : zAt p l e R s m args below meth c cells slots Q B D aC nL pc lv (.long v :: .ref (B + k) :: st) M := by
  intro H locs ls hP hl hS
  refine va_put (ref := C) (v := .long v) (ty := ty0 j) fx.1 fx.2.1 (fun w hw => fx.2.2.2.2.1 w hw) hin ty0 hty hnm fx.2.2.2.1 fx.2.2.2.2.2.1.1 hP zcls_D hS k ((zcls_at hk).trans (by rw [zcel_o ht ht2])) hc j hj (fx.2.2.2.2.1 _ hw) (fun x h => by rw [hT] at h; exact h) hfin (hty j hj) hn hfit (by rw [zfvs_len]; exact hj2) hd (fun H1 locs1 hP1 _ hS1 => ?_)
  rw [zfvs_sL hj2 hf, zcls_set (M := M) (M' := zL M k j v) hk _ (zcel_o ht ht2) (fun a ha => zcel_same rfl (zL_o ha) rfl)] at hP1
  exact kk H1 locs1 ls hP1 hl hS1
theorem a_putLN (fx : zFx p s m args c B D aC aS nL cc own) {C : String} {T : u_T} {N t index k j : Nat} {v : Int64} {ty0 : Nat → FieldType} (hk : k < N0) (ht : tg k = t) (ht2 : t < 20) (hc : kcl[t]? = some (C, T, N)) (hin : ∀ w ∈ u_ws C T N, w ∈ tb) (hty : ∀ k, k < N → parseFieldDescriptor (T k).2.2.1 = some (ty0 k)) (hnm : ∀ a, a < N → ∀ b, b < N → a ≠ b → (T a).2.1 ≠ (T b).2.1) (hj : j < N) (hj2 : j < nf t) (hf : ft t j = 1) (hT : (T j).1 = C) (hfin : (T j).2.2.2 = false) (hn : narrow (ty0 j) (.long v) = .long v) (hfit : fits (ty0 j) (.long v) = true) (q9 : Nat) {host : String} (hw : nestF[q9]? = some (own, index, C, (T j).2.1, (T j).2.2.1, host)) (hd : decode cc pc = .ok (.putfield index, 3)) (kk : zAt p l e R s m args below meth c cells slots Q B D aC nL (pc + 3) lv st (zL M k j v)) : zAt p l e R s m args below meth c cells slots Q B D aC nL pc lv (.long v :: .ref (B + k) :: st) M := by
  intro H locs ls hP hl hS
  refine va_putN (ref := C) (v := .long v) (ty := ty0 j) fx.1 fx.2.1 (fun w hw => fx.2.2.2.2.1 w hw) hin ty0 hty hnm fx.2.2.2.1 fx.2.2.2.2.2.1.1 hP zcls_D hS k ((zcls_at hk).trans (by rw [zcel_o ht ht2])) hc j hj (va_Nw.use (w := .fieldLinkNest own index C (T j).2.1 (T j).2.2.1 host) rfl (fx.2.2.2.2.2.1.2.2.2.2.2.2.2.2.1 _ (List.mem_of_getElem? hw))) (fun x h => by rw [hT] at h; exact h) hfin (hty j hj) hn hfit (by rw [zfvs_len]; exact hj2) hd (fun H1 locs1 hP1 _ hS1 => ?_)
  rw [zfvs_sL hj2 hf, zcls_set (M := M) (M' := zL M k j v) hk _ (zcel_o ht ht2) (fun a ha => zcel_same rfl (zL_o ha) rfl)] at hP1
  exact kk H1 locs1 ls hP1 hl hS1
theorem a_putR (fx : zFx p s m args c B D aC aS nL cc own) {C : String} {T : u_T} {N t index k j : Nat} {v : Nat} {ty0 : Nat → FieldType} (hk : k < N0) (ht : tg k = t) (ht2 : t < 20) (hc : kcl[t]? = some (C, T, N)) (hin : ∀ w ∈ u_ws C T N, w ∈ tb) (hty : ∀ k, k < N → parseFieldDescriptor (T k).2.2.1 = some (ty0 k)) (hnm : ∀ a, a < N → ∀ b, b < N → a ≠ b → (T a).2.1 ≠ (T b).2.1) (hj : j < N) (hj2 : j < nf t) (hf : ft t j = 3) (hT : (T j).1 = C) (hfin : (T j).2.2.2 = false) (hn : narrow (ty0 j) (.ref (B + v)) = .ref (B + v)) (hfit : fits (ty0 j) (.ref (B + v)) = true) (hw : Cond.fieldLink own index C (T j).2.1 (T j).2.2.1 ∈ tb) (hd : decode cc pc = .ok (.putfield index, 3)) (kk : zAt p l e R s m args below meth c cells slots Q B D aC nL (pc + 3) lv st (zR M k j v)) : zAt p l e R s m args below meth c cells slots Q B D aC nL pc lv (.ref (B + v) :: .ref (B + k) :: st) M := by
  intro H locs ls hP hl hS
  refine va_put (ref := C) (v := .ref (B + v)) (ty := ty0 j) fx.1 fx.2.1 (fun w hw => fx.2.2.2.2.1 w hw) hin ty0 hty hnm fx.2.2.2.1 fx.2.2.2.2.2.1.1 hP zcls_D hS k ((zcls_at hk).trans (by rw [zcel_o ht ht2])) hc j hj (fx.2.2.2.2.1 _ hw) (fun x h => by rw [hT] at h; exact h) hfin (hty j hj) hn hfit (by rw [zfvs_len]; exact hj2) hd (fun H1 locs1 hP1 _ hS1 => ?_)
  rw [zfvs_sR hj2 hf, zcls_set (M := M) (M' := zR M k j v) hk _ (zcel_o ht ht2) (fun a ha => zcel_same rfl rfl (zR_o ha))] at hP1
  exact kk H1 locs1 ls hP1 hl hS1
theorem a_putRN (fx : zFx p s m args c B D aC aS nL cc own) {C : String} {T : u_T} {N t index k j : Nat} {v : Nat} {ty0 : Nat → FieldType} (hk : k < N0) (ht : tg k = t) (ht2 : t < 20) (hc : kcl[t]? = some (C, T, N)) (hin : ∀ w ∈ u_ws C T N, w ∈ tb) (hty : ∀ k, k < N → parseFieldDescriptor (T k).2.2.1 = some (ty0 k)) (hnm : ∀ a, a < N → ∀ b, b < N → a ≠ b → (T a).2.1 ≠ (T b).2.1) (hj : j < N) (hj2 : j < nf t) (hf : ft t j = 3) (hT : (T j).1 = C) (hfin : (T j).2.2.2 = false) (hn : narrow (ty0 j) (.ref (B + v)) = .ref (B + v)) (hfit : fits (ty0 j) (.ref (B + v)) = true) (q9 : Nat) {host : String} (hw : nestF[q9]? = some (own, index, C, (T j).2.1, (T j).2.2.1, host)) (hd : decode cc pc = .ok (.putfield index, 3)) (kk : zAt p l e R s m args below meth c cells slots Q B D aC nL (pc + 3) lv st (zR M k j v)) : zAt p l e R s m args below meth c cells slots Q B D aC nL pc lv (.ref (B + v) :: .ref (B + k) :: st) M := by
  intro H locs ls hP hl hS
  refine va_putN (ref := C) (v := .ref (B + v)) (ty := ty0 j) fx.1 fx.2.1 (fun w hw => fx.2.2.2.2.1 w hw) hin ty0 hty hnm fx.2.2.2.1 fx.2.2.2.2.2.1.1 hP zcls_D hS k ((zcls_at hk).trans (by rw [zcel_o ht ht2])) hc j hj (va_Nw.use (w := .fieldLinkNest own index C (T j).2.1 (T j).2.2.1 host) rfl (fx.2.2.2.2.2.1.2.2.2.2.2.2.2.2.1 _ (List.mem_of_getElem? hw))) (fun x h => by rw [hT] at h; exact h) hfin (hty j hj) hn hfit (by rw [zfvs_len]; exact hj2) hd (fun H1 locs1 hP1 _ hS1 => ?_)
  rw [zfvs_sR hj2 hf, zcls_set (M := M) (M' := zR M k j v) hk _ (zcel_o ht ht2) (fun a ha => zcel_same rfl rfl (zR_o ha))] at hP1
  exact kk H1 locs1 ls hP1 hl hS1
theorem a_iald (fx : zFx p s m args c B D aC aS nL cc own) {k : Nat} {i : Int32} (hk : k < N0) (ht : tg k = 21) (hin : vp_in i (ln k)) (hd : decode cc pc = .ok (.iaload, 1)) (kk : zAt p l e R s m args below meth c cells slots Q B D aC nL (pc + 1) lv (.int (M.1 k i.toNatClampNeg) :: st) M) : zAt p l e R s m args below meth c cells slots Q B D aC nL pc lv (.int i :: .ref (B + k) :: st) M := fun H locs ls hP hl hS => va_iald fx.1 fx.2.1 fx.2.2.2.2.2.1.1 hP k 1 ((zcls_at hk).trans (by rw [zcel_i ht (by decide) (by decide)])) rfl hin hd (kk H locs ls hP hl hS)
theorem a_bald (fx : zFx p s m args c B D aC aS nL cc own) {k : Nat} {i : Int32} (hk : k < N0) (ht : tg k = 20) (hin : vp_in i (ln k)) (hd : decode cc pc = .ok (.baload, 1)) (kk : zAt p l e R s m args below meth c cells slots Q B D aC nL (pc + 1) lv (.int (M.1 k i.toNatClampNeg) :: st) M) : zAt p l e R s m args below meth c cells slots Q B D aC nL pc lv (.int i :: .ref (B + k) :: st) M := fun H locs ls hP hl hS => va_bald fx.1 fx.2.1 fx.2.2.2.2.2.1.1 hP k 0 ((zcls_at hk).trans (by rw [zcel_i ht (by decide) (by decide)])) rfl hin hd (kk H locs ls hP hl hS)
theorem a_zald (fx : zFx p s m args c B D aC aS nL cc own) {k : Nat} {i : Int32} (hk : k < N0) (ht : tg k = 22) (hin : vp_in i (ln k)) (hd : decode cc pc = .ok (.baload, 1)) (kk : zAt p l e R s m args below meth c cells slots Q B D aC nL (pc + 1) lv (.int (M.1 k i.toNatClampNeg) :: st) M) : zAt p l e R s m args below meth c cells slots Q B D aC nL pc lv (.int i :: .ref (B + k) :: st) M := fun H locs ls hP hl hS => va_zald fx.1 fx.2.1 fx.2.2.2.2.2.1.1 hP k 2 ((zcls_at hk).trans (by rw [zcel_i ht (by decide) (by decide)])) rfl hin hd (kk H locs ls hP hl hS)
theorem a_lald (fx : zFx p s m args c B D aC aS nL cc own) {k : Nat} {i : Int32} (hk : k < N0) (ht : tg k = 23) (hin : vp_in i (ln k)) (hd : decode cc pc = .ok (.laload, 1)) (kk : zAt p l e R s m args below meth c cells slots Q B D aC nL (pc + 1) lv (.long (M.2.1 k i.toNatClampNeg) :: st) M) : zAt p l e R s m args below meth c cells slots Q B D aC nL pc lv (.int i :: .ref (B + k) :: st) M := fun H locs ls hP hl hS => va_lald fx.1 fx.2.1 fx.2.2.2.2.2.1.1 hP k 3 ((zcls_at hk).trans (by rw [zcel_l ht])) rfl hin hd (kk H locs ls hP hl hS)
theorem a_aald (fx : zFx p s m args c B D aC aS nL cc own) {k : Nat} {i : Int32} (hk : k < N0) (ht : tg k = 24) (hin : vp_in i (ln k)) (hd : decode cc pc = .ok (.aaload, 1)) (kk : zAt p l e R s m args below meth c cells slots Q B D aC nL (pc + 1) lv (.ref (B + M.2.2 k i.toNatClampNeg) :: st) M) : zAt p l e R s m args below meth c cells slots Q B D aC nL pc lv (.int i :: .ref (B + k) :: st) M := by
  intro H locs ls hP hl hS
  refine va_aldq (f := fun j => some (B + M.2.2 k j)) fx.1 fx.2.1 fx.2.2.2.2.2.1.1 hP k 4 ((zcls_at hk).trans (by rw [zcel_r ht])) rfl hin hd ?_
  exact kk H locs ls hP hl hS
theorem a_iast (fx : zFx p s m args c B D aC aS nL cc own) {k : Nat} {i x : Int32} (hk : k < N0) (ht : tg k = 21) (hin : vp_in i (ln k)) (hd : decode cc pc = .ok (.iastore, 1)) (kk : zAt p l e R s m args below meth c cells slots Q B D aC nL (pc + 1) lv st (zI M k i.toNatClampNeg x)) : zAt p l e R s m args below meth c cells slots Q B D aC nL pc lv (.int x :: .int i :: .ref (B + k) :: st) M := by
  intro H locs ls hP hl hS
  refine va_iast fx.1 fx.2.1 fx.2.2.2.2.2.1.1 hP zcls_D hS k 1 ((zcls_at hk).trans (by rw [zcel_i ht (by decide) (by decide)])) rfl hin hd (fun H1 locs1 hP1 _ hS1 => ?_)
  rw [zcls_set (M := M) (M' := zI M k i.toNatClampNeg x) hk _ (by rw [zcel_i ht (by decide) (by decide), zI_s]) (fun a ha => zcel_same (zI_o ha) rfl rfl)] at hP1
  exact kk H1 locs1 ls hP1 hl hS1
theorem a_bast (fx : zFx p s m args c B D aC aS nL cc own) {k : Nat} {i x : Int32} (hk : k < N0) (ht : tg k = 20) (hin : vp_in i (ln k)) (hd : decode cc pc = .ok (.bastore, 1)) (kk : zAt p l e R s m args below meth c cells slots Q B D aC nL (pc + 1) lv st (zI M k i.toNatClampNeg (vp_nar .byte x))) : zAt p l e R s m args below meth c cells slots Q B D aC nL pc lv (.int x :: .int i :: .ref (B + k) :: st) M := by
  intro H locs ls hP hl hS
  refine va_bast fx.1 fx.2.1 fx.2.2.2.2.2.1.1 hP zcls_D hS k 0 ((zcls_at hk).trans (by rw [zcel_i ht (by decide) (by decide)])) rfl hin hd (fun H1 locs1 hP1 _ hS1 => ?_)
  rw [zcls_set (M := M) (M' := zI M k i.toNatClampNeg (vp_nar .byte x)) hk _ (by rw [zcel_i ht (by decide) (by decide), zI_s]) (fun a ha => zcel_same (zI_o ha) rfl rfl)] at hP1
  exact kk H1 locs1 ls hP1 hl hS1
theorem a_zast (fx : zFx p s m args c B D aC aS nL cc own) {k : Nat} {i x : Int32} (hk : k < N0) (ht : tg k = 22) (hin : vp_in i (ln k)) (hd : decode cc pc = .ok (.bastore, 1)) (kk : zAt p l e R s m args below meth c cells slots Q B D aC nL (pc + 1) lv st (zI M k i.toNatClampNeg (vp_nar .boolean x))) : zAt p l e R s m args below meth c cells slots Q B D aC nL pc lv (.int x :: .int i :: .ref (B + k) :: st) M := by
  intro H locs ls hP hl hS
  refine va_zast fx.1 fx.2.1 fx.2.2.2.2.2.1.1 hP zcls_D hS k 2 ((zcls_at hk).trans (by rw [zcel_i ht (by decide) (by decide)])) rfl hin hd (fun H1 locs1 hP1 _ hS1 => ?_)
  rw [zcls_set (M := M) (M' := zI M k i.toNatClampNeg (vp_nar .boolean x)) hk _ (by rw [zcel_i ht (by decide) (by decide), zI_s]) (fun a ha => zcel_same (zI_o ha) rfl rfl)] at hP1
  exact kk H1 locs1 ls hP1 hl hS1
theorem a_last (fx : zFx p s m args c B D aC aS nL cc own) {k : Nat} {i : Int32} {x : Int64} (hk : k < N0) (ht : tg k = 23) (hin : vp_in i (ln k)) (hd : decode cc pc = .ok (.lastore, 1)) (kk : zAt p l e R s m args below meth c cells slots Q B D aC nL (pc + 1) lv st (zL M k i.toNatClampNeg x)) : zAt p l e R s m args below meth c cells slots Q B D aC nL pc lv (.long x :: .int i :: .ref (B + k) :: st) M := by
  intro H locs ls hP hl hS
  refine va_last fx.1 fx.2.1 fx.2.2.2.2.2.1.1 hP zcls_D hS k 3 ((zcls_at hk).trans (by rw [zcel_l ht])) rfl hin hd (fun H1 locs1 hP1 _ hS1 => ?_)
  rw [zcls_set (M := M) (M' := zL M k i.toNatClampNeg x) hk _ (by rw [zcel_l ht, zL_s]) (fun a ha => zcel_same rfl (zL_o ha) rfl)] at hP1
  exact kk H1 locs1 ls hP1 hl hS1
theorem a_aast (fx : zFx p s m args c B D aC aS nL cc own) {k v : Nat} {i : Int32} (hk : k < N0) (ht : tg k = 24) (hv : v < N0) (hvt : tg v = 2) (hin : vp_in i (ln k)) (hd : decode cc pc = .ok (.aastore, 1)) (kk : zAt p l e R s m args below meth c cells slots Q B D aC nL (pc + 1) lv st (zR M k i.toNatClampNeg v)) : zAt p l e R s m args below meth c cells slots Q B D aC nL pc lv (.ref (B + v) :: .int i :: .ref (B + k) :: st) M := by
  intro H locs ls hP hl hS
  refine va_astq fx.1 fx.2.1 fx.2.2.2.2.2.1.1 hP zcls_D hS k 4 v 2 (r := (R_En, F_En, 9)) ((zcls_at hk).trans (by rw [zcel_r ht])) rfl ((zcls_at hv).trans (by rw [zcel_o hvt (by decide)])) rfl hin hd (fun H1 locs1 hP1 _ hS1 => ?_)
  have e : va_up (fun j => some (B + M.2.2 k j)) i.toNatClampNeg (some (B + v)) = fun j => some (B + (zR M k i.toNatClampNeg v).2.2 k j) := by
    funext j
    rw [zR_s]
    by_cases h : j = i.toNatClampNeg
    · simp [va_up, h]
    · simp [va_up, h]
  rw [e, zcls_set (M := M) (M' := zR M k i.toNatClampNeg v) hk _ (zcel_r ht) (fun a ha => zcel_same rfl rfl (zR_o ha))] at hP1
  exact kk H1 locs1 ls hP1 hl hS1
theorem a_alen {ty0 : FieldType} (fx : zFx p s m args c B D aC aS nL cc own) {k t : Nat} (t0 : Nat) (hk : k < N0) (ht : tg k = t) (h20 : ¬ t < 20) (h24 : t ≤ 24) (htt : (ztyl aC)[t0]? = some (aC t, ty0)) (hd : decode cc pc = .ok (.arraylength, 1)) (kk : zAt p l e R s m args below meth c cells slots Q B D aC nL (pc + 1) lv (.int (Int32.ofNat (ln k)) :: st) M) : zAt p l e R s m args below meth c cells slots Q B D aC nL pc lv (.ref (B + k) :: st) M := by
  intro H locs ls hP hl hS
  subst ht
  by_cases h1 : tg k < 23
  · exact va_alen fx.1 fx.2.1 fx.2.2.2.2.2.1.1 hP k t0 ((zcls_at hk).trans (by rw [zcel_i rfl h20 h1])) htt rfl hd (kk H locs ls hP hl hS)
  · by_cases h2 : tg k = 23
    · exact va_alen fx.1 fx.2.1 fx.2.2.2.2.2.1.1 hP k t0 ((zcls_at hk).trans (by rw [zcel_l h2])) (by rw [h2] at htt; exact htt) rfl hd (kk H locs ls hP hl hS)
    · have h3 : tg k = 24 := by omega
      exact va_alen fx.1 fx.2.1 fx.2.2.2.2.2.1.1 hP k t0 ((zcls_at hk).trans (by rw [zcel_r h3])) (by rw [h3] at htt; exact htt) rfl hd (kk H locs ls hP hl hS)
theorem a_iret (fx : zFx p s m args c B D aC aS nL cc own) (hlo : meth.locks = false) (hr : meth.sig.returnType = some .int) {post : Int32 → zM → Prop} {v : Int32} (h : post v M) (hd : decode cc pc = .ok (.ireturn, 1)) : zAt p l e R s m args below meth c cells slots (MQ below (zQi B D aC post) args s cells slots (zAb B)) B D aC nL pc lv [.int v] M := fun H locs ls hP hl hS => W.iret fx.1 fx.2.1 hr (fun t ht hW => ⟨v, M, rfl, h, by rw [ht]; exact hP, hS.F ht⟩) hS.2.2 hd
theorem a_lret (fx : zFx p s m args c B D aC aS nL cc own) (hlo : meth.locks = false) (hr : meth.sig.returnType = some .long) {post : Int64 → zM → Prop} {v : Int64} (h : post v M) (hd : decode cc pc = .ok (.lreturn, 1)) : zAt p l e R s m args below meth c cells slots (MQ below (zQl B D aC post) args s cells slots (zAb B)) B D aC nL pc lv [.long v] M := fun H locs ls hP hl hS => W.lret fx.1 fx.2.1 hr (fun t ht hW => ⟨v, M, rfl, h, by rw [ht]; exact hP, hS.F ht⟩) hS.2.2 hd
theorem a_vret (fx : zFx p s m args c B D aC aS nL cc own) (hlo : meth.locks = false) (hr : meth.sig.returnType = none) {post : zM → Prop} (h : post M) (hd : decode cc pc = .ok (.return_, 1)) : zAt p l e R s m args below meth c cells slots (MQ below (zQv B D aC post) args s cells slots (zAb B)) B D aC nL pc lv [] M := fun H locs ls hP hl hS => W.vret fx.1 fx.2.1 hr (fun t ht hW => ⟨M, rfl, h, by rw [ht]; exact hP, hS.F ht⟩) hS.2.2 hd
theorem a_zret (fx : zFx p s m args c B D aC aS nL cc own) (hlo : meth.locks = false) {ty : FieldType} (hr : meth.sig.returnType = some ty) {post : Int32 → zM → Prop} {v : Int32} (hn : narrow ty (.int v) = .int v) (h : post v M) (hd : decode cc pc = .ok (.ireturn, 1)) : zAt p l e R s m args below meth c cells slots (MQ below (zQi B D aC post) args s cells slots (zAb B)) B D aC nL pc lv [.int v] M := fun H locs ls hP hl hS => W.zret fx.1 fx.2.1 hr hn (fun t ht hW => ⟨v, M, rfl, h, by rw [ht]; exact hP, hS.F ht⟩) hS.2.2 hd
theorem a_aret (fx : zFx p s m args c B D aC aS nL cc own) (hlo : meth.locks = false) {cn : String} (hr : meth.sig.returnType = some (.object cn)) {post : Nat → zM → Prop} {v : Nat} (h : post v M) (hd : decode cc pc = .ok (.areturn, 1)) : zAt p l e R s m args below meth c cells slots (MQ below (zQr B D aC post) args s cells slots (zAb B)) B D aC nL pc lv [.ref (B + v)] M := fun H locs ls hP hl hS => W.aret fx.1 fx.2.1 hr (Or.inl ⟨cn, rfl⟩) (Or.inr ⟨_, rfl⟩) (fun t ht hW => ⟨v, M, rfl, h, by rw [ht]; exact hP, hS.F ht⟩) hS.2.2 hd
theorem a_tabI (fx : zFx p s m args c B D aC aS nL cc own) {dflt lo hi off : Int} {offs : Array Int} {n : Nat} {x : Int32} (tgt : Nat) (hd : decode cc pc = .ok (.tableswitch dflt lo hi offs, n)) (h1 : ¬ x.toInt < lo) (h2 : ¬ hi < x.toInt) (ho : offs[(x.toInt - lo).toNat]? = some off) (ht : (pc : Int) + off = (tgt : Int)) (k : zAt p l e R s m args below meth c cells slots Q B D aC nL tgt lv st M) : zAt p l e R s m args below meth c cells slots Q B D aC nL pc lv (.int x :: st) M := fun H locs ls hP hl hS => lv_tableIn fx.1 fx.2.1 hd h1 h2 ho ht (k H locs ls hP hl hS)
theorem a_tabO (fx : zFx p s m args c B D aC aS nL cc own) {dflt lo hi : Int} {offs : Array Int} {n : Nat} {x : Int32} (tgt : Nat) (hd : decode cc pc = .ok (.tableswitch dflt lo hi offs, n)) (h : x.toInt < lo ∨ hi < x.toInt) (ht : (pc : Int) + dflt = (tgt : Int)) (k : zAt p l e R s m args below meth c cells slots Q B D aC nL tgt lv st M) : zAt p l e R s m args below meth c cells slots Q B D aC nL pc lv (.int x :: st) M := fun H locs ls hP hl hS => lv_tableOut fx.1 fx.2.1 hd h ht (k H locs ls hP hl hS)
theorem a_gets (fx : zFx p s m args c B D aC aS nL cc own) {t index : Nat} (hZ : va_Z "MailChain$Row" "REMAINDERS" "[I" (.ref t) (zAb B) s s.heap) (hw : Cond.fieldLink own index "MailChain$Row" "REMAINDERS" "[I" ∈ tb) (hd : decode cc pc = .ok (.getstatic index, 3)) (k : zAt p l e R s m args below meth c cells slots Q B D aC nL (pc + 3) lv (.ref t :: st) M) : zAt p l e R s m args below meth c cells slots Q B D aC nL pc lv st M := fun H locs ls hP hl hS => va_gets fx.1 fx.2.1 hZ hS fx.2.2.2.1 (fx.2.2.2.2.1 _ hw) (fun x h => h) hd (k H locs ls hP hl hS)
theorem a_rem (fx : zFx p s m args c B D aC aS nL cc own) {t : Nat} {i : Int32} (hT : va_T .int t 16 (fun j => .int (remL.getD j 0)) (zAb B) s s.heap) (hin : vp_in i 16) (hd : decode cc pc = .ok (.iaload, 1)) (k : zAt p l e R s m args below meth c cells slots Q B D aC nL (pc + 1) lv (.int (remL.getD i.toNatClampNeg 0) :: st) M) : zAt p l e R s m args below meth c cells slots Q B D aC nL pc lv (.int i :: .ref t :: st) M := fun H locs ls hP hl hS => va_ti fx.1 fx.2.1 hT hS hin rfl hd (k H locs ls hP hl hS)
theorem a_ldcS (fx : zFx p s m args c B D aC aS nL cc own) (i : Nat) {index : Nat} (hi : i < 13) (ho : strOwn i = own) (hx : strIx i = index) {q : Nat} (hq : strNo i = q) (hd : decode cc pc = .ok (.ldc index, 2)) (k : zAt p l e R s m args below meth c cells slots Q B D aC nL (pc + 2) lv (.ref (aS q) :: st) M) : zAt p l e R s m args below meth c cells slots Q B D aC nL pc lv st M := fun H locs ls hP hl hS => va_ldcS fx.1 fx.2.1 fx.2.2.2.1 (by have h := fx.2.2.2.2.2.1.2.2.2.1 i hi; rw [ho, hx, hq] at h; exact h) hd (k H locs ls hP hl hS)
theorem a_comp (fx : zFx p s m args c B D aC aS nL cc own) {index : Nat} (hw : Cond.fieldLink own index "java/lang/String" "COMPACT_STRINGS" "Z" ∈ tb) (hd : decode cc pc = .ok (.getstatic index, 3)) (k : zAt p l e R s m args below meth c cells slots Q B D aC nL (pc + 3) lv (.int 1 :: st) M) : zAt p l e R s m args below meth c cells slots Q B D aC nL pc lv st M := fun H locs ls hP hl hS => va_gets fx.1 fx.2.1 fx.2.2.2.2.2.1.2.2.2.2.1 hS fx.2.2.2.1 (fx.2.2.2.2.1 _ hw) (fun x h => h) hd (k H locs ls hP hl hS)
theorem a_scod (fx : zFx p s m args c B D aC aS nL cc own) {index i : Nat} (hi : i < 9) (hw : Cond.fieldLink own index "java/lang/String" "coder" "B" ∈ tb) (hd : decode cc pc = .ok (.getfield index, 3)) (k : zAt p l e R s m args below meth c cells slots Q B D aC nL (pc + 3) lv (.int 0 :: st) M) : zAt p l e R s m args below meth c cells slots Q B D aC nL pc lv (.ref (aS i) :: st) M := fun H locs ls hP hl hS => vk_getf fx.1 fx.2.1 (fx.2.2.2.2.2.1.2.2.1.1 i hi).2.1 hS fx.2.2.2.1 (fx.2.2.2.2.1 _ hw) (fun x h => h) hd (k H locs ls hP hl hS)
theorem a_sval (fx : zFx p s m args c B D aC aS nL cc own) {index i : Nat} (hi : i < 9) (hw : Cond.fieldLink own index "java/lang/String" "value" "[B" ∈ tb) (hd : decode cc pc = .ok (.getfield index, 3)) (k : zAt p l e R s m args below meth c cells slots Q B D aC nL (pc + 3) lv (.ref (aS (100 + i)) :: st) M) : zAt p l e R s m args below meth c cells slots Q B D aC nL pc lv (.ref (aS i) :: st) M := fun H locs ls hP hl hS => vk_getf fx.1 fx.2.1 (fx.2.2.2.2.2.1.2.2.1.1 i hi).2.2.1 hS fx.2.2.2.1 (fx.2.2.2.2.1 _ hw) (fun x h => h) hd (k H locs ls hP hl hS)
theorem a_slen (fx : zFx p s m args c B D aC aS nL cc own) {i : Nat} (hi : i < 9) (hd : decode cc pc = .ok (.arraylength, 1)) (k : zAt p l e R s m args below meth c cells slots Q B D aC nL (pc + 1) lv (.int (Int32.ofNat (strLen.getD i 0)) :: st) M) : zAt p l e R s m args below meth c cells slots Q B D aC nL pc lv (.ref (aS (100 + i)) :: st) M := fun H locs ls hP hl hS => va_tlen fx.1 fx.2.1 (fx.2.2.2.2.2.1.2.2.1.1 i hi).2.2.2 hS rfl hd (k H locs ls hP hl hS)
theorem a_sbld (fx : zFx p s m args c B D aC aS nL cc own) {i : Nat} {x : Int32} (hi : i < 9) (hin : vp_in x (strLen.getD i 0)) (hd : decode cc pc = .ok (.baload, 1)) (k : zAt p l e R s m args below meth c cells slots Q B D aC nL (pc + 1) lv (.int ((strByt.getD i []).getD x.toNatClampNeg 0) :: st) M) : zAt p l e R s m args below meth c cells slots Q B D aC nL pc lv (.int x :: .ref (aS (100 + i)) :: st) M := fun H locs ls hP hl hS => va_tb fx.1 fx.2.1 (fx.2.2.2.2.2.1.2.2.1.1 i hi).2.2.2 hS hin rfl hd (k H locs ls hP hl hS)
theorem a_getq (fx : zFx p s m args c B D aC aS nL cc own) {index : Nat} {C n d : String} (hZ : va_Zq C n d (zAb B) s s.heap) (hw : Cond.fieldLink own index C n d ∈ tb) (hd : decode cc pc = .ok (.getstatic index, 3)) (k : ∀ v : Value, (v = .null ∨ ∃ t : Nat, v = .ref t) → zAt p l e R s m args below meth c cells slots Q B D aC nL (pc + 3) lv (v :: st) M) : zAt p l e R s m args below meth c cells slots Q B D aC nL pc lv st M := by
  intro H locs ls hP hl hS
  rcases hZ with h | ⟨t, h⟩
  · exact va_gets fx.1 fx.2.1 h hS fx.2.2.2.1 (fx.2.2.2.2.1 _ hw) (fun x h => h) hd (k _ (Or.inl rfl) H locs ls hP hl hS)
  · exact va_gets fx.1 fx.2.1 h hS fx.2.2.2.1 (fx.2.2.2.2.1 _ hw) (fun x h => h) hd (k _ (Or.inr ⟨t, rfl⟩) H locs ls hP hl hS)
end ROWS
end
section
/-! Calls over the memory; how a contract is begun. -/
section CALLS
variable {p : Program} {l : Launch} {e : Env} {R : Room} {s : State} {m : MethodId} {args : Array Value} {below : List Frame} {meth : Method} {c : Code} {cells slots mc ms : Nat} {Q : State → Prop} {B : Nat} {D : va_G} {aC : Nat → ClassId} {aS : Nat → Nat} {nL : Nat} {cc : ByteArray} {own : String} {pc : Nat} {lv lv2 : List (Nat × Value)} {st rest st0 : List Value} {M : zM} {av : Array Value}
/-- a call that has a run from every heap that holds the memory -/
def zRun (p : Program) (l : Launch) (e : Env) (R : Room) (s : State) (m : MethodId) (args : Array Value) (below : List Frame) (meth : Method) (c : Code) (cells slots mc ms : Nat) (B : Nat) (D : va_G) (aC : Nat → ClassId) (nL : Nat) (pc : Nat) (lv : List (Nat × Value)) (st0 rest : List Value) (M : zM) (Qa : State → Outcome → State → Prop) : Prop :=
  ∀ (H : Heap) (locs : List Loc) (ls : Array Slot), va_P D kcl (zcls B aC M) H → lv_has ls nL lv → va_S (zAb B) s.heap H locs → va_Run p l e R s m args below meth c H locs cells slots mc ms (F0 m pc ls st0) rest Qa (zAb B)
theorem a_calli {post : Int32 → zM → Prop} (hr : zRun p l e R s m args below meth c cells slots mc ms B D aC nL pc lv st0 rest M (zQi B D aC post av)) (k : ∀ (r : Int32) (M2 : zM), post r M2 → zAt p l e R s m args below meth c (cells + mc) (slots + ms) Q B D aC nL (pc + 3) lv (.int r :: rest) M2) : zAt p l e R s m args below meth c cells slots Q B D aC nL pc lv st0 M := by
  intro H locs ls hP hl hS T hT X
  obtain ⟨v, st₀, t, T', L, h0, X', hL, e1, e2, ⟨r, M2, hv, hp, hP1, hz, hk⟩, st⟩ := hr H locs ls hP hl hS T hT X
  cases hv
  rw [h0] at hz hk
  obtain ⟨t2, a1, b1⟩ := k r M2 hp T'.heap (locs ++ L) ls (by rw [e1]; exact hP1) hl ⟨Nat.le_trans hS.1 (by rw [e1]; exact hz), fun q h1 h2 => by rw [e1, hk q (Nat.lt_of_lt_of_le h1 hS.1) h2]; exact hS.2.1 q h1 h2, fun q hq => by
    rcases List.mem_append.mp hq with h | h
    · exact hS.2.2 q h
    · exact hL q h⟩ T' rfl X'
  exact ⟨t2, st t2 a1, b1⟩
theorem a_calll {post : Int64 → zM → Prop} (hr : zRun p l e R s m args below meth c cells slots mc ms B D aC nL pc lv st0 rest M (zQl B D aC post av)) (k : ∀ (r : Int64) (M2 : zM), post r M2 → zAt p l e R s m args below meth c (cells + mc) (slots + ms) Q B D aC nL (pc + 3) lv (.long r :: rest) M2) : zAt p l e R s m args below meth c cells slots Q B D aC nL pc lv st0 M := by
  intro H locs ls hP hl hS T hT X
  obtain ⟨v, st₀, t, T', L, h0, X', hL, e1, e2, ⟨r, M2, hv, hp, hP1, hz, hk⟩, st⟩ := hr H locs ls hP hl hS T hT X
  cases hv
  rw [h0] at hz hk
  obtain ⟨t2, a1, b1⟩ := k r M2 hp T'.heap (locs ++ L) ls (by rw [e1]; exact hP1) hl ⟨Nat.le_trans hS.1 (by rw [e1]; exact hz), fun q h1 h2 => by rw [e1, hk q (Nat.lt_of_lt_of_le h1 hS.1) h2]; exact hS.2.1 q h1 h2, fun q hq => by
    rcases List.mem_append.mp hq with h | h
    · exact hS.2.2 q h
    · exact hL q h⟩ T' rfl X'
  exact ⟨t2, st t2 a1, b1⟩
theorem a_callr {post : Nat → zM → Prop} (hr : zRun p l e R s m args below meth c cells slots mc ms B D aC nL pc lv st0 rest M (zQr B D aC post av)) (k : ∀ (r : Nat) (M2 : zM), post r M2 → zAt p l e R s m args below meth c (cells + mc) (slots + ms) Q B D aC nL (pc + 3) lv (.ref (B + r) :: rest) M2) : zAt p l e R s m args below meth c cells slots Q B D aC nL pc lv st0 M := by
  intro H locs ls hP hl hS T hT X
  obtain ⟨v, st₀, t, T', L, h0, X', hL, e1, e2, ⟨r, M2, hv, hp, hP1, hz, hk⟩, st⟩ := hr H locs ls hP hl hS T hT X
  cases hv
  rw [h0] at hz hk
  obtain ⟨t2, a1, b1⟩ := k r M2 hp T'.heap (locs ++ L) ls (by rw [e1]; exact hP1) hl ⟨Nat.le_trans hS.1 (by rw [e1]; exact hz), fun q h1 h2 => by rw [e1, hk q (Nat.lt_of_lt_of_le h1 hS.1) h2]; exact hS.2.1 q h1 h2, fun q hq => by
    rcases List.mem_append.mp hq with h | h
    · exact hS.2.2 q h
    · exact hL q h⟩ T' rfl X'
  exact ⟨t2, st t2 a1, b1⟩
theorem a_callv {post : zM → Prop} (hr : zRun p l e R s m args below meth c cells slots mc ms B D aC nL pc lv st0 rest M (zQv B D aC post av)) (k : ∀ (M2 : zM), post M2 → zAt p l e R s m args below meth c (cells + mc) (slots + ms) Q B D aC nL (pc + 3) lv (rest) M2) : zAt p l e R s m args below meth c cells slots Q B D aC nL pc lv st0 M := by
  intro H locs ls hP hl hS T hT X
  obtain ⟨v, st₀, t, T', L, h0, X', hL, e1, e2, ⟨M2, hv, hp, hP1, hz, hk⟩, st⟩ := hr H locs ls hP hl hS T hT X
  cases hv
  rw [h0] at hz hk
  obtain ⟨t2, a1, b1⟩ := k M2 hp T'.heap (locs ++ L) ls (by rw [e1]; exact hP1) hl ⟨Nat.le_trans hS.1 (by rw [e1]; exact hz), fun q h1 h2 => by rw [e1, hk q (Nat.lt_of_lt_of_le h1 hS.1) h2]; exact hS.2.1 q h1 h2, fun q hq => by
    rcases List.mem_append.mp hq with h | h
    · exact hS.2.2 q h
    · exact hL q h⟩ T' rfl X'
  exact ⟨t2, st t2 a1, b1⟩
theorem zWl_at (fx : zFx p s m args c B D aC aS nL cc own) {H : Heap} {locs : List Loc} {U : State} (hP : va_P D kcl (zcls B aC M) H) (hS : va_S (zAb B) s.heap H locs) (hU : U.heap = H) (hW : s.WarmedH U.vm) : zWl B D aC aS M U :=
  ⟨by rw [hU]; exact hP, by rw [hU]; exact Nat.le_trans fx.2.2.2.2.2.2.1 hS.1, va_K.moved hW.alike fx.2.2.2.2.2.1.1, fx.2.2.2.2.2.1.2.warm hW (fun a h1 h2 => by rw [hU]; exact hS.2.1 a h1 h2)⟩
/-- what the tables say of a method that is called on an object -/
def zCV (y : MethodName) (C : String) (b : ByteArray) (n : Nat) (r : Option FieldType) (np : Nat) : Prop := Cond.instanceMethod y ∈ tb ∧ Cond.selects C y y ∈ tb ∧ Cond.initialized C ∈ tb ∧ Cond.code y b n r ∈ tb ∧ (y.cls = C ∧ y.cls ≠ "java/lang/invoke/MethodHandle" ∧ y.cls ≠ "java/lang/invoke/VarHandle" ∧ (parseMethodDescriptor y.desc).map (fun d => d.parameters.length) = some np)
def zCS (y : MethodName) (b : ByteArray) (n : Nat) (r : Option FieldType) (np : Nat) : Prop := Cond.static y ∈ tb ∧ Cond.initialized y.cls ∈ tb ∧ Cond.code y b n r ∈ tb ∧ (y.cls ≠ "java/lang/invoke/MethodHandle" ∧ y.cls ≠ "java/lang/invoke/VarHandle" ∧ (parseMethodDescriptor y.desc).map (fun d => d.parameters.length) = some np)
theorem z_good {w : Cond} (h : w ∈ tb) : w ∈ tb ∧ ((w.onTables && w.keeps) = true ∨ ∃ ty, w = .arrayClass ty) := ⟨h, good_of_word (tb_good w h)⟩
theorem z_goodwo {y : MethodName} {b : ByteArray} {n : Nat} {r : Option FieldType} (h : Cond.code y b n r ∈ tb) : GoodIn tb (wo y b n r) := by
  intro w hw
  rcases List.mem_cons.mp hw with e | e
  · rw [e]; exact z_good h
  · exact z_good e
theorem a_runV (fx : zFx p s m args c B D aC aS nL cc own) {y : MethodName} {C : String} {b : ByteArray} {mx np : Nat} {ret : Option FieldType} {index k t N : Nat} {T : u_T} {rm : Room} {As : List Value} {Qc : Array Value → State → Outcome → State → Prop} (cv : zCV y C b mx ret np) (hl : Cond.methodLink own index y ∈ tb)
    (hM : Met l y (wo y b mx ret) rm (va_Pc (.ref (B + k) :: As) (zWl B D aC aS M)) Qc mc ms (zAb B)) (hk : k < N0) (ht : tg k = t) (ht2 : t < 20) (hc : kcl[t]? = some (C, T, N)) (hn : As.length = np) (hst : st0 = As.reverse ++ .ref (B + k) :: rest) (hw : (rest.map fun v => v.category).sum ≤ 8)
    (hrc : rm.cells = mc) (hrs : rm.slots = ms) (hR : rm.frames + 1 ≤ R.frames ∧ 8 + (mx + 11) + rm.locals ≤ R.locals) (hd : decode cc pc = .ok (.invokevirtual index, 3)) (hf : cells + mc ≤ R.cells ∧ slots + ms ≤ R.slots) : zRun p l e R s m args below meth c cells slots mc ms B D aC nL pc lv st0 rest M (Qc (Value.ref (B + k) :: As).toArray) := by
  intro H locs ls hP hlv hS
  subst hst
  obtain ⟨v1, v2, v3, v4, v5⟩ := cv
  refine va_runV (C := C) (bytes := b) (maxL := mx) (ret := ret) (Ts := tb) ⟨fx.1, fx.2.1, fx.2.2.1, fx.2.2.2.1, fx.2.2.2.2.1⟩ hM (cwV np fx.2.2.2.2.1 ?_ rfl hrc hrs v5 hR) ⟨fun a U g mk q => ⟨q.1, q.2.blind⟩, va_recv fx.2.2.2.2.2.1.1 hP hc ((zcls_at hk).trans (by rw [zcel_o ht ht2])), fun U hU hW => ⟨rfl, zWl_at fx hP hS hU hW⟩⟩ rfl hn hlv.1 rfl (lv_room hw) hd hf
  intro w hw
  rcases List.mem_append.mp hw with h | h
  · simp only [List.mem_cons, List.not_mem_nil, or_false] at h
    rcases h with h | h | h | h <;> (rw [h]; apply z_good; assumption)
  · exact z_goodwo v4 w h
theorem a_runVs (fx : zFx p s m args c B D aC aS nL cc own) {y : MethodName} {b : ByteArray} {mx np : Nat} {ret : Option FieldType} {index i : Nat} {rm : Room} {As : List Value} {Qc : Array Value → State → Outcome → State → Prop} (cv : zCV y "java/lang/String" b mx ret np) (hl : Cond.methodLink own index y ∈ tb)
    (hM : Met l y (wo y b mx ret) rm (va_Pc (.ref (aS i) :: As) (zWl B D aC aS M)) Qc mc ms (zAb B)) (hi : i < 9) (hn : As.length = np) (hst : st0 = As.reverse ++ .ref (aS i) :: rest) (hw : (rest.map fun v => v.category).sum ≤ 8)
    (hrc : rm.cells = mc) (hrs : rm.slots = ms) (hR : rm.frames + 1 ≤ R.frames ∧ 8 + (mx + 11) + rm.locals ≤ R.locals) (hd : decode cc pc = .ok (.invokevirtual index, 3)) (hf : cells + mc ≤ R.cells ∧ slots + ms ≤ R.slots) : zRun p l e R s m args below meth c cells slots mc ms B D aC nL pc lv st0 rest M (Qc (Value.ref (aS i) :: As).toArray) := by
  intro H locs ls hP hlv hS
  subst hst
  obtain ⟨v1, v2, v3, v4, v5⟩ := cv
  refine va_runV (C := "java/lang/String") (bytes := b) (maxL := mx) (ret := ret) (Ts := tb) ⟨fx.1, fx.2.1, fx.2.2.1, fx.2.2.2.1, fx.2.2.2.2.1⟩ hM (cwV np fx.2.2.2.2.1 ?_ rfl hrc hrs v5 hR) ⟨fun a U g mk q => ⟨q.1, q.2.blind⟩, vk_recv fx.2.2.2.2.2.1.2.2.1 hi hS, fun U hU hW => ⟨rfl, zWl_at fx hP hS hU hW⟩⟩ rfl hn hlv.1 rfl (lv_room hw) hd hf
  intro w hw
  rcases List.mem_append.mp hw with h | h
  · simp only [List.mem_cons, List.not_mem_nil, or_false] at h
    rcases h with h | h | h | h <;> (rw [h]; apply z_good; assumption)
  · exact z_goodwo v4 w h
theorem a_runS (fx : zFx p s m args c B D aC aS nL cc own) {y : MethodName} {b : ByteArray} {mx np : Nat} {ret : Option FieldType} {index : Nat} {rm : Room} {As : List Value} {Qc : Array Value → State → Outcome → State → Prop} (cv : zCS y b mx ret np) (hl : Cond.methodLink own index y ∈ tb)
    (hM : Met l y (wo y b mx ret) rm (va_Pc As (zWl B D aC aS M)) Qc mc ms (zAb B)) (hn : As.length = np) (hst : st0 = As.reverse ++ rest) (hw : (rest.map fun v => v.category).sum ≤ 8)
    (hrc : rm.cells = mc) (hrs : rm.slots = ms) (hR : rm.frames + 1 ≤ R.frames ∧ 8 + (mx + 11) + rm.locals ≤ R.locals) (hd : decode cc pc = .ok (.invokestatic index, 3)) (hf : cells + mc ≤ R.cells ∧ slots + ms ≤ R.slots) : zRun p l e R s m args below meth c cells slots mc ms B D aC nL pc lv st0 rest M (Qc As.toArray) := by
  intro H locs ls hP hlv hS
  subst hst
  obtain ⟨v1, v2, v3, v5⟩ := cv
  refine va_runS (bytes := b) (maxL := mx) (ret := ret) (Ts := tb) ⟨fx.1, fx.2.1, fx.2.2.1, fx.2.2.2.1, fx.2.2.2.2.1⟩ hM (va_cwS np fx.2.2.2.2.1 ?_ rfl hrc hrs v5 hR) ⟨fun a U g mk q => ⟨q.1, q.2.blind⟩, fun U hU hW => ⟨rfl, zWl_at fx hP hS hU hW⟩⟩ rfl hn hlv.1 rfl (lv_room hw) hd hf
  intro w hw
  rcases List.mem_append.mp hw with h | h
  · simp only [List.mem_cons, List.not_mem_nil, or_false] at h
    rcases h with h | h | h <;> (rw [h]; apply z_good; assumption)
  · exact z_goodwo v3 w h
theorem a_runSN (fx : zFx p s m args c B D aC aS nL cc own) {y : MethodName} {b : ByteArray} {mx np : Nat} {ret : Option FieldType} {index : Nat} {host : String} (q9 : Nat) {rm : Room} {As : List Value} {Qc : Array Value → State → Outcome → State → Prop} (cv : zCS y b mx ret np) (hl : nestM[q9]? = some (own, index, y, host))
    (hM : Met l y (wo y b mx ret) rm (va_Pc As (zWl B D aC aS M)) Qc mc ms (zAb B)) (hn : As.length = np) (hst : st0 = As.reverse ++ rest) (hw : (rest.map fun v => v.category).sum ≤ 8)
    (hrc : rm.cells = mc) (hrs : rm.slots = ms) (hR : rm.frames + 1 ≤ R.frames ∧ 8 + (mx + 11) + rm.locals ≤ R.locals) (hd : decode cc pc = .ok (.invokestatic index, 3)) (hf : cells + mc ≤ R.cells ∧ slots + ms ≤ R.slots) : zRun p l e R s m args below meth c cells slots mc ms B D aC nL pc lv st0 rest M (Qc As.toArray) := by
  intro H locs ls hP hlv hS
  subst hst
  obtain ⟨v1, v2, v3, v5⟩ := cv
  exact va_runSN (bytes := b) (maxL := mx) (ret := ret) (Ts := tb) ⟨fx.1, fx.2.1, fx.2.2.1, fx.2.2.2.1, fx.2.2.2.2.1⟩ hM ⟨va_cnB np fx.2.2.2.2.1 (z_goodwo v3) rfl hrc hrs (fx.2.2.2.2.2.1.2.2.2.2.2.2.2.2.2.1 _ (List.mem_of_getElem? hl)) (fx.2.2.2.2.1 _ v2) v5 hR, fx.2.2.2.2.1 _ v1, trivial⟩ ⟨fun a U g mk q => ⟨q.1, q.2.blind⟩, fun U hU hW => ⟨rfl, zWl_at fx hP hS hU hW⟩⟩ rfl hn hlv.1 rfl (lv_room hw) hd hf
/-- a contract is met, if the walk from its entry meets it -/
theorem z_met {y : MethodName} {b : ByteArray} {mx : Nat} {ret : Option FieldType} {rm : Room} {as : List Value} {lv0 : List (Nat × Value)} {Qc : Array Value → State → Outcome → State → Prop} (hy : plainName y.cls = true) (ho : y.cls = own) (hlen : (lg_sl as).length ≤ mx) (hlv : lv_args 0 as = lv0)
    (body : ∀ p e s m below meth c, zFx p s m as.toArray c B D aC aS mx b own → meth.sig.returnType = ret → meth.locks = false → zAt p l e rm s m as.toArray below meth c 0 0 (MQ below Qc as.toArray s mc ms (zAb B)) B D aC mx 0 lv0 [] M) : Met l y (wo y b mx ret) rm (va_Pc as (zWl B D aC aS M)) Qc mc ms (zAb B) := by
  refine Met.ofW (cc := b) (maxL := mx) (ret := ret) hy rfl ?_
  intro p e s m args below meth c s₁ BB hml hv
  obtain ⟨rfl, hP, hsz, hC⟩ := hv
  subst ho
  have hl := lv_entry as (n := mx) hlen
  rw [lg_entry_eq]
  rw [hlv] at hl
  exact body p e s m below meth c ⟨BB.exec, BB.bytes, hml, findClass_of_methodNamed BB.named, fun w hw => atoms_spec (ws := wo y b mx ret) BB.pre w (List.mem_cons_of_mem _ hw), hC, hsz, zcls_ns hP⟩ BB.returns BB.notSynchronized s.heap [] _ hP hl va_S.rf
theorem a_mmax (fx : zFx p s m args c B D aC aS nL cc own) {index : Nat} {x y : Int32} (h1 : Cond.methodLink own index Lib.Math.max.name ∈ tb) (h2 : Cond.static Lib.Math.max.name ∈ tb) (h3 : Cond.initialized "java/lang/Math" ∈ tb) (h4 : Cond.code Lib.Math.max.name Lib.Math.max.code 2 (some .int) ∈ tb) (hf : 1 ≤ R.frames) (hlo : (st.map fun v => v.category).sum + 13 ≤ R.locals) (hc : cells ≤ R.cells) (hs : slots ≤ R.slots) (hd : decode cc pc = .ok (.invokestatic index, 3)) (k : zAt p l e R s m args below meth c cells slots Q B D aC nL (pc + 3) lv (.int (if x < y then y else x) :: st) M) : zAt p l e R s m args below meth c cells slots Q B D aC nL pc lv (.int y :: .int x :: st) M := fun H locs ls hP hl hS =>
  va_mmax fx.1 fx.2.1 (fx.2.2.1.trans hl.1.symm) fx.2.2.2.1 (fx.2.2.2.2.1 _ h1) (fx.2.2.2.2.1 _ h2) (fx.2.2.2.2.1 _ h3) (fx.2.2.2.2.1 _ h4) hf hlo hc hs hd (k H locs ls hP hl hS)
theorem a_mmin (fx : zFx p s m args c B D aC aS nL cc own) {index : Nat} {x y : Int32} (h1 : Cond.methodLink own index Lib.Math.min.name ∈ tb) (h2 : Cond.static Lib.Math.min.name ∈ tb) (h3 : Cond.initialized "java/lang/Math" ∈ tb) (h4 : Cond.code Lib.Math.min.name Lib.Math.min.code 2 (some .int) ∈ tb) (hf : 1 ≤ R.frames) (hlo : (st.map fun v => v.category).sum + 13 ≤ R.locals) (hc : cells ≤ R.cells) (hs : slots ≤ R.slots) (hd : decode cc pc = .ok (.invokestatic index, 3)) (k : zAt p l e R s m args below meth c cells slots Q B D aC nL (pc + 3) lv (.int (if y < x then y else x) :: st) M) : zAt p l e R s m args below meth c cells slots Q B D aC nL pc lv (.int y :: .int x :: st) M := fun H locs ls hP hl hS =>
  va_mmin fx.1 fx.2.1 (fx.2.2.1.trans hl.1.symm) fx.2.2.2.1 (fx.2.2.2.2.1 _ h1) (fx.2.2.2.2.1 _ h2) (fx.2.2.2.2.1 _ h3) (fx.2.2.2.2.1 _ h4) hf hlo hc hs hd (k H locs ls hP hl hS)
theorem a_copy (fx : zFx p s m args c B D aC aS nL cc own) {index k1 k2 : Nat} {sp dp n : Int32} (h1 : Cond.methodLink own index arraycopyName ∈ tb) (h2 : Cond.native arraycopyName ∈ tb) (h3 : Cond.static arraycopyName ∈ tb) (h4 : Cond.initialized "java/lang/System" ∈ tb) (hk1 : k1 < N0) (ht1 : tg k1 = 20) (hk2 : k2 < N0) (ht2 : tg k2 = 20) (hsp : ¬ sp < 0) (hdp : ¬ dp < 0) (hn : ¬ n < 0) (hs1 : sp.toNatClampNeg + n.toNatClampNeg ≤ ln k1) (hs2 : dp.toNatClampNeg + n.toNatClampNeg ≤ ln k2) (hfit : ∀ i, i < n.toNatClampNeg → fits .byte (.int (M.1 k1 (sp.toNatClampNeg + i))) = true)
    (hf : 1 ≤ R.frames) (hlo : (st.map fun v => v.category).sum + (nativeFrameWords "java/lang/System" "arraycopy" 5 + 11) ≤ R.locals) (hd : decode cc pc = .ok (.invokestatic index, 3)) (k : zAt p l e R s m args below meth c cells slots Q B D aC nL (pc + 3) lv st (zA M k2 (va_cpy (M.1 k1) (M.1 k2) sp.toNatClampNeg dp.toNatClampNeg n.toNatClampNeg))) : zAt p l e R s m args below meth c cells slots Q B D aC nL pc lv (.int n :: .int dp :: .ref (B + k2) :: .int sp :: .ref (B + k1) :: st) M := by
  intro H locs ls hP hl hS
  refine va_copyi (ty := .byte) fx.1 fx.2.1 (fx.2.2.1.trans hl.1.symm) fx.2.2.2.1 (fx.2.2.2.2.1 _ h1) (fx.2.2.2.2.1 _ h2) (fx.2.2.2.2.1 _ h3) (fx.2.2.2.2.1 _ h4) fx.2.2.2.2.2.1.1 hP zcls_D hS k1 k2 0 0 ((zcls_at hk1).trans (by rw [zcel_i ht1 (by decide) (by decide)])) ((zcls_at hk2).trans (by rw [zcel_i ht2 (by decide) (by decide)])) rfl rfl rfl hsp hdp hn hs1 hs2 hfit hf hlo hd (fun H1 locs1 hP1 _ hS1 => ?_)
  rw [zcls_set (M := M) (M' := zA M k2 (va_cpy (M.1 k1) (M.1 k2) sp.toNatClampNeg dp.toNatClampNeg n.toNatClampNeg)) hk2 _ (by rw [zcel_i ht2 (by decide) (by decide), zA_s]) (fun a ha => zcel_same (zA_o ha) rfl rfl)] at hP1
  exact k H1 locs1 ls hP1 hl hS1
end CALLS
end
section
/-! What is thrown: contracts of methods that may throw, their calls, and what is caught. -/
/-- a contract of a method that returns or throws -/
def MetT (l : Launch) (y : MethodName) (ws : List Cond) (rm : Room) (Pc : Array Value → State → Prop) (Qc : Array Value → State → Outcome → State → Prop) (mc ms : Nat) (free : Addr → Prop) : Prop :=
  MetFree l y (headSpec ws rm) Pc (fun _ _ _ _ _ => True) (fun a st o t => Qc a st o t ∧ st.WarmedH t.vm ∧ ∃ L, st.sameButNew ({ t with vm := st.vm } : State) L mc ms ∧ ∀ q ∈ L, free q.base)
def MQT (below : List Frame) (Qc : Array Value → State → Outcome → State → Prop) (a : Array Value) (s : State) (mc ms : Nat) (free : Addr → Prop) : State → Prop := fun t =>
  ∃ o, t.status = .running ∧ Ended t below o ∧ Qc a s o t ∧ s.WarmedH t.vm ∧ ∃ L, s.sameButNew ({ t with vm := s.vm } : State) L mc ms ∧ ∀ q ∈ L, free q.base
/-- behind a method that may throw -/
def zQT (B : Nat) (D : va_G) (aC : Nat → ClassId) (post : Option Value → zM → Prop) (postT : Nat → zM → Prop) : Array Value → State → Outcome → State → Prop := fun _ st oc t =>
  ∃ M, va_P D kcl (zcls B aC M) t.heap ∧ va_F (zAb B) st t ∧ ((∃ v, oc = .returned v ∧ post v M) ∨ ∃ (x k : Nat) (cell : Cell), oc = .threw x ∧ postT k M ∧ t.heap[x]? = some cell ∧ cell.vm.isStatics = false ∧ st.vm.findClass (exN k) = some cell.cls)
section THR
variable {p : Program} {l : Launch} {e : Env} {R : Room} {s : State} {m : MethodId} {args : Array Value} {below : List Frame} {meth : Method} {c : Code} {T : State} {locs : List Loc} {cells slots : Nat}
theorem MetT.ofW {y : MethodName} {ws ws' : List Cond} {rm : Room} {Pc : Array Value → State → Prop} {Qc : Array Value → State → Outcome → State → Prop} {mc ms : Nat} {free : Addr → Prop} {cc : ByteArray} {maxL : Nat} {ret : Option FieldType}
    (hy : plainName y.cls = true) (hw : ws = Cond.code y cc maxL ret :: ws')
    (body : ∀ p e s m args below meth c s₁, BodyLoose p l y (headSpec ws rm) cc maxL ret e s m args below meth c s₁ → c.maxLocals = maxL → Pc args s →
      W p l e (headSpec ws rm).room s m args below meth c s.heap [] 0 0 (MQT below Qc args s mc ms free) (entryFrame m args maxL)) : MetT l y ws rm Pc Qc mc ms free := by
  refine MetFree.of_bodyS (code := cc) (maxLocals := maxL) (ret := ret) hy ?_ ?_
  · intro args s m h hn
    obtain ⟨meth, c, h1, h2, h3, h4, h5, h6, -, -⟩ := Cond.code_spec hn (atoms_spec (ws := ws) h _ (by rw [hw]; exact List.mem_cons_self))
    exact ⟨meth, c, h1, h2, h3, h4, h5, h6⟩
  · intro p e s m args below meth c s₁ BB hml hP _
    have hh0 : s₁.heap = s.heap := by rw [BB.state]; rfl
    obtain ⟨t, a1, o, b1, b2, b3⟩ := body p e s m args below meth c s₁ BB hml hP s₁ hh0 (Stand.of_body BB)
    exact ⟨t, o, a1, b1, b2, b3⟩
/-- a call of a method that may throw: it returns, or its exception lies over the caller's frame -/
theorem z_callT {y : MethodName} {ws : List Cond} {rm : Room} {Pc : Array Value → State → Prop} {Qc : Array Value → State → Outcome → State → Prop} {mc ms : Nat} {free : Addr → Prop} {bytes : ByteArray} {maxL W0 : Nat} {ret : Option FieldType}
    (X : Stand p l e R s m args below meth c T locs cells slots) (hM : MetT l y ws rm Pc Qc mc ms free) {g : JFrame} (hg : g.method = m) (hsize : g.locals.size = c.maxLocals) {ig : Instr} (hdg : decode c.code g.pc = .ok (ig, 3))
    (hW : 2 * g.monitorRoom + (g.stack.map fun v => v.category).sum ≤ W0) {mk : MethodId} (hn : T.methodNamed? y = some mk) {a : Array Value}
    (hframes : rm.frames + 1 ≤ R.frames) (hlocals : W0 + (maxL + 11) + rm.locals ≤ R.locals) (hrc : rm.cells = mc) (hrs : rm.slots = ms) (h4 : cells + mc ≤ R.cells) (h5 : slots + ms ≤ R.slots)
    (h1 : (headSpec ws rm).pre.before a T = true) (h2 : (Cond.code y bytes maxL ret).before a T = true) (h3 : (Cond.initialized y.cls).before a T = true) (hP : Pc a (T.calling g mk a)) :
    ∃ (o : Outcome) (T' t : State) (L : List Loc), Stand p l e R s m args below meth c T' (locs ++ L) (cells + mc) (slots + ms) ∧ (∀ q ∈ L, free q.base) ∧ T'.heap = t.heap ∧ T'.vm = t.vm ∧ Qc a (T.calling g mk a) o t ∧
      ((∃ v, o = .returned v ∧ Steps p.tables e below (doInvoke e (T.setTop g) [] mk a).1 (T'.setTop { g with pc := g.pc + 3, stack := v.toList ++ g.stack })) ∨
        ∃ x, o = .threw x ∧ Steps p.tables e below (doInvoke e (T.setTop g) [] mk a).1 ((T'.setTop g).pushFrame (.throwing x))) := by
  obtain ⟨methY, cY, hmY, hcY, -, hlY, -, -, -, -⟩ := Cond.code_spec hn h2
  obtain ⟨kY, hkY, -⟩ := className_of_methodNamed hn
  have hinitY : kY.init = .initialized := Cond.initialized_spec (findClass_of_methodNamed hn) hkY h3
  have h : _root_.Jvm.At T g.method c below := by rw [hg]; exact X.here
  have happ : (headSpec ws rm).appliesLoose y e.platform (T.calling g mk a) = true :=
    Spec.appliesLoose_calling (g := g) h hdg hn hkY hinitY
      (X.room_calling (g := g) (R' := (headSpec ws rm).room) hsize hmY hcY hframes (by rw [hlY]; show _ + rm.locals ≤ _; omega) (by show cells + rm.cells ≤ _; omega) (by show slots + rm.slots ≤ _; omega)) h1
  obtain ⟨mid, hmid⟩ := h.above
  have hfr : (T.setTop g).frames = (.java g :: mid) ++ below := by rw [State.frames_setTop' g h.top, hmid]; rfl
  obtain ⟨o, s₂, hsteps, -, hend, hq, hW₂, L, hsm, hL⟩ := Steps.callFree hM p X.admits X.cas X.clock (acts := []) hfr happ hP trivial
  rw [State.frames_setTop' g h.top, X.tail] at hend
  cases o with
  | returned v =>
    obtain ⟨T', X', e1, e2, e4⟩ := X.outOf hg hdg hend hW₂ hsm
    exact ⟨_, T', s₂, L, X', hL, by rw [e4]; simp, by rw [e4]; simp, hq, Or.inl ⟨v, rfl, by rw [← e4]; exact hsteps⟩⟩
  | threw x =>
    obtain ⟨T', X', e1, e2, e4⟩ := X.outOfThrown hg hend hW₂ hsm
    exact ⟨_, T', s₂, L, X', hL, by rw [e4]; simp [State.pushFrame], by rw [e4]; simp [State.pushFrame], hq, Or.inr ⟨x, rfl, by rw [← e4]; exact hsteps⟩⟩
theorem z_mono {Q Q' : State → Prop} {H : Heap} {g : JFrame} (h : ∀ t, Q t → Q' t) (w : W p l e R s m args below meth c H locs cells slots Q g) : W p l e R s m args below meth c H locs cells slots Q' g := by
  intro T hT X
  obtain ⟨t, a, b⟩ := w T hT X
  exact ⟨t, a, h t b⟩
theorem MQ.toT {Qc : Array Value → State → Outcome → State → Prop} {mc ms : Nat} {free : Addr → Prop} {t : State} (h : MQ below Qc args s mc ms free t) : MQT below Qc args s mc ms free t := by
  obtain ⟨o, h1, h2, h3, L, ⟨-, h4, h5⟩, h6⟩ := h
  exact ⟨o, h1, h2, h3, h4, L, h5, h6⟩
end THR
section THR2
variable {p : Program} {l : Launch} {e : Env} {R : Room} {s : State} {m : MethodId} {args : Array Value} {below : List Frame} {meth : Method} {c : Code} {cells slots mc ms : Nat} {Q : State → Prop} {B : Nat} {D : va_G} {aC : Nat → ClassId} {aS : Nat → Nat} {nL : Nat} {cc : ByteArray} {own : String} {pc : Nat} {lv lv2 : List (Nat × Value)} {st rest st0 : List Value} {M : zM} {av : Array Value} {post : Option Value → zM → Prop} {postT : Nat → zM → Prop}
theorem a_widen (h1 : cells ≤ mc) (h2 : slots ≤ ms) (k : zAt p l e R s m args below meth c mc ms Q B D aC nL pc lv st M) : zAt p l e R s m args below meth c cells slots Q B D aC nL pc lv st M := fun H locs ls hP hl hS => W.widen h1 h2 (k H locs ls hP hl hS)
theorem a_iretT (fx : zFx p s m args c B D aC aS nL cc own) (hlo : meth.locks = false) (hr : meth.sig.returnType = some .int) {v : Int32} (h : post (some (.int v)) M) (hd : decode cc pc = .ok (.ireturn, 1)) : zAt p l e R s m args below meth c cells slots (MQT below (zQT B D aC post postT) args s cells slots (zAb B)) B D aC nL pc lv [.int v] M := fun H locs ls hP hl hS => z_mono (fun _ => MQ.toT) (W.iret fx.1 fx.2.1 hr (fun t ht hW => ⟨M, by rw [ht]; exact hP, hS.F ht, Or.inl ⟨_, rfl, h⟩⟩) hS.2.2 hd)
theorem a_vretT (fx : zFx p s m args c B D aC aS nL cc own) (hlo : meth.locks = false) (hr : meth.sig.returnType = none) (h : post none M) (hd : decode cc pc = .ok (.return_, 1)) : zAt p l e R s m args below meth c cells slots (MQT below (zQT B D aC post postT) args s cells slots (zAb B)) B D aC nL pc lv [] M := fun H locs ls hP hl hS => z_mono (fun _ => MQ.toT) (W.vret fx.1 fx.2.1 hr (fun t ht hW => ⟨M, by rw [ht]; exact hP, hS.F ht, Or.inl ⟨_, rfl, h⟩⟩) hS.2.2 hd)
theorem z_isRef {C n d : String} {A : Nat → Prop} {a : Array Value} {U : State} (h : va_Zq C n d A U U.heap) : (Cond.isRef (.static C n d)).before a U = true := by
  rcases h with ⟨cf, kf, fi, f, ad, cell, h1, h2, h3, h4, h5, h6, h7, h8⟩ | ⟨t, cf, kf, fi, f, ad, cell, h1, h2, h3, h4, h5, h6, h7, h8⟩
  · simp [Cond.before, Cond.holds, Cond.value, Term.eval, State.fieldNamed?, h1, h2, h4, h5, h6, h7]
  · simp [Cond.before, Cond.holds, Cond.value, Term.eval, State.fieldNamed?, h1, h2, h4, h5, h6, h7]
theorem z_rebase {T : State} {locs : List Loc} (X : Stand p l e R s m args below meth c T locs cells slots) (h1 : cells ≤ R.cells) (h2 : slots ≤ R.slots) :
    Stand p l e { R with cells := R.cells - cells, slots := R.slots - slots } ({ s with heap := T.heap, slotsUsed := T.slotsUsed } : State) m args below meth c T [] 0 0 := by
  refine ⟨X.admits, X.cas, X.clock, X.frames, ?_, X.hears, X.method, X.code, X.here, X.tail, X.warmed, X.limits, X.bytes, ?_⟩
  · have hr := X.room
    have hc := X.cellsAbove (n := R.cells - cells) (by omega)
    have hs := X.slotsAbove (n := R.slots - slots) (by omega)
    have hb := X.book
    simp only [State.hasRoom, Bool.and_eq_true, decide_eq_true_eq] at hr ⊢
    obtain ⟨⟨⟨⟨r1, r2⟩, r3⟩, r4⟩, r5⟩ := hr
    exact ⟨⟨⟨⟨r1, r2⟩, hc⟩, hs⟩, hb⟩
  · obtain ⟨e1, -⟩ := X.same
    refine ⟨e1, Nat.le_refl _, Nat.le_refl _, ?_, ?_, fun a c hc => ⟨c, hc, rfl, rfl, fun _ _ => rfl⟩⟩
    · show T.slotsUsed = T.slotsUsed + ((T.heap.toList.drop T.heap.size).map (·.slots.size)).sum
      rw [List.drop_eq_nil_of_le (by simp)]
      rfl
    · show ((T.heap.toList.drop T.heap.size).map (·.slots.size)).sum ≤ 0
      rw [List.drop_eq_nil_of_le (by simp)]
      exact Nat.le_refl _
set_option maxHeartbeats 4000000 in
/-- new X(); athrow: the exception leaves the method -/
theorem a_throw (fx : zFx p s m args c B D aC aS nL cc own) (hfl : l.flags = pinnedFlags ++ [noTraceFlag]) (hlo : meth.locks = false) (hno : c.exceptionTable.isEmpty = true) (k : Nat) (hk1 : 1 ≤ k) (hk4 : k ≤ 4) {i1 i2 : Nat}
    (hcl : Cond.classLink own i1 (exN k) ∈ tb) (hins : Cond.instantiable (exN k) 6 ∈ tb) (hini : Cond.initialized (exN k) ∈ tb) (hfit : Bundle.fit (exN k) = true)
    (hat : ∀ w ∈ Bundle.ownAtoms0 own i2 (exN k) ["java/lang/RuntimeException", "java/lang/Exception"], w ∈ tb ∨ w = .castable (exN k) (exN k) ∨ w = .isRef (.static Bundle.tN "UNASSIGNED_STACK" Bundle.steD) ∨ w = .isRef (.static Bundle.tN "SUPPRESSED_SENTINEL" Bundle.listD) ∨ (∃ q ∈ chainL, w = .declares ⟨q, "<init>", "()V"⟩) ∨ w = .laysStatic Bundle.tN "UNASSIGNED_STACK" Bundle.steD ∨ w = .laysStatic Bundle.tN "SUPPRESSED_SENTINEL" Bundle.listD)
    (hRf : 5 < R.frames) (hRl : (st.map fun v => v.category).sum + 90 ≤ R.locals) (hRc : cells + 1 ≤ R.cells) (hRs : slots + 6 ≤ R.slots)
    (d1 : decode cc pc = .ok (.new i1, 3)) (d2 : decode cc (pc + 3) = .ok (.dup, 1)) (d3 : decode cc (pc + 4) = .ok (.invokespecial i2, 3)) (d4 : decode cc (pc + 7) = .ok (.athrow, 1)) (h : postT k M) :
    zAt p l e R s m args below meth c cells slots (MQT below (zQT B D aC post postT) args s (cells + 1) (slots + 6) (zAb B)) B D aC nL pc lv st M := by
  intro H locs ls hP hl hS T0 hT0 X0
  have X1 := z_rebase X0 (by omega) (by omega)
  obtain ⟨sv, hsv⟩ : ∃ sv : State, sv = ({ s with heap := T0.heap, slotsUsed := T0.slotsUsed } : State) := ⟨_, rfl⟩
  rw [← hsv] at X1
  have hsvh : sv.heap = H := by rw [hsv]; exact hT0
  have hsvm : sv.vm = s.vm := by rw [hsv]
  obtain ⟨R', hR'⟩ : ∃ R' : Room, R' = { R with cells := R.cells - cells, slots := R.slots - slots } := ⟨_, rfl⟩
  rw [← hR'] at X1
  have hRc' : 0 + 1 ≤ R'.cells := by rw [hR']; show 0 + 1 ≤ R.cells - cells; omega
  have hRs' : 0 + 6 ≤ R'.slots := by rw [hR']; show 0 + 6 ≤ R.slots - slots; omega
  have hRf' : 5 < R'.frames := by rw [hR']; exact hRf
  have hRl' : (st.map fun v => v.category).sum + 90 ≤ R'.locals := by rw [hR']; exact hRl
  have hWs : s.WarmedH sv.vm := by rw [hsvm]; exact State.WarmedH.refl s
  have hC1 : zCx B D aC aS sv := (zWl_at (U := sv) fx hP hS hsvh hWs).2.2
  obtain ⟨hx, hb, hml, hown, hts, hC, hsz, hns⟩ := fx
  have hts1 : ∀ w ∈ tb, w.before args sv = true := fun w hw => word_at hWs (good_of_word (tb_good w hw)) (hts w hw)
  have hown1 : sv.vm.findClass own = some m.cls := by rw [hsvm]; exact hown
  have w1 : W p l e R' sv m args below meth c H [] 0 0
      (fun U => U.status = .running ∧ Ended U below (.threw H.size) ∧ sv.WarmedH U.vm ∧ sv.sameButNew ({ U with vm := sv.vm } : State) [] 1 6 ∧ ∃ ce, U.heap[H.size]? = some ce ∧ ce.vm.isStatics = false ∧ sv.vm.findClass (exN k) = some ce.cls) (F0 m pc ls st) := by
    have q1 := hts1 _ hcl
    have q2 := hts1 _ hins
    have q3 := hts1 _ hini
    refine W.newc hx hb hown1 q1 q2 q3 rfl d1 hRc' hRs' (fun cC kC g1 g2 g3 g4 => ?_)
    refine lv_dup hx hb d2 rfl ?_
    intro T hT X
    have hce : T.heap[H.size]? = some (freshCell cC kC) := by rw [hT]; simp [freshCell]
    have hat1 : ∀ w ∈ Bundle.ownAtoms0 own i2 (exN k) ["java/lang/RuntimeException", "java/lang/Exception"], w.before args sv = true := fun w hw => by
        rcases hat w hw with q | q | q | q | ⟨n, hn, q⟩ | q | q
        · exact hts1 w q
        · rw [q]; exact va_Nw.use rfl (hC1.2.2.2.2.2.2.2.2.2.2.1 k hk1 hk4)
        · rw [q]; exact z_isRef hC1.2.2.2.2.2.1
        · rw [q]; exact z_isRef hC1.2.2.2.2.2.2.1
        · rw [q]; exact va_Nw.use rfl (hC1.2.2.2.2.2.2.2.2.2.2.2.2.1 n hn)
        · rw [q]; exact hC1.2.2.2.2.2.2.2.2.2.2.2.2.2.1.use
        · rw [q]; exact hC1.2.2.2.2.2.2.2.2.2.2.2.2.2.2.use
    have hRl2 : 2 * (F0 m (pc + 3 + 1) ls (.ref H.size :: .ref H.size :: st)).monitorRoom + ((Value.ref H.size :: st).map fun v => v.category).sum + (13 * ((["java/lang/RuntimeException", "java/lang/Exception"] : List String).length + 1) + 41) ≤ R'.locals := by
      show 2 * 0 + (1 + (List.map (fun v => v.category) st).sum) + (13 * (2 + 1) + 41) ≤ R'.locals
      omega
    have hnew : sv.heap.size ≤ H.size := by rw [hsvh]; exact Nat.le_refl _
    obtain ⟨U, s1, s2, s3, s4, s5, ce, c1, c2⟩ := X.ctorThrow0 hx (Launch.traces_off hfl X.admits) (own := own) (cls := exN k) (names := ["java/lang/RuntimeException", "java/lang/Exception"]) (ic := i2) hown1 hfit (by decide +kernel) hat1
      (fun x hx => by cases hx) g1 g2 hce hnew (g := F0 m (pc + 3 + 1) ls (.ref H.size :: .ref H.size :: st)) rfl (by rw [hml]; exact hl.1) rfl rfl rfl (by rw [hb]; exact d3) (by rw [hb]; exact d4) (fun x hx => by rw [Array.isEmpty_iff] at hno; rw [hno] at hx; cases hx) hRf' hRl2
    exact ⟨U, s1, s2, s3, s4, s5, ce, c1, by rw [c2.vm]; rfl, c2.cls⟩
  obtain ⟨U, a1, s2, s3, s4, s5, ce, c1, c2, c3⟩ := w1 T0 hT0 X1
  rw [hsvm] at s5 c3
  have hWU : s.WarmedH U.vm := State.WarmedH.trans hWs s4
  have hsame : s.sameButNew ({ U with vm := s.vm } : State) locs (cells + 1) (slots + 6) := by
    have e0 := X0.same.1
    have h1 : (T0.setVm s.vm).sameButNew ({ U with vm := s.vm } : State) [] 1 6 := by
      subst hsv
      obtain ⟨e1, e2, e3, e4, e5, e6⟩ := s5
      refine ⟨?_, e2, e3, e4, e5, e6⟩
      refine e1.trans ?_
      generalize ({ U with vm := s.vm } : State).frames = F
      have e7 : (T0.setVm s.vm).setFrames F = ({ s.setFrames F with heap := T0.heap, slotsUsed := T0.slotsUsed } : State) := by
        rw [e0]
        show ({ (s.setFrames (T0.setVm s.vm).frames).setFrames F with heap := T0.heap, slotsUsed := T0.slotsUsed } : State) = _
        rw [State.setFrames_setFrames]
      rw [e7]
      rfl
    have h2 := X0.same.trans h1
    rw [List.append_nil] at h2
    exact h2
  refine ⟨U, a1, .threw H.size, s2, s3, ?_, hWU, locs, hsame, hS.2.2⟩
  have hk : ∀ q : Nat, q < H.size → U.heap[q]? = H[q]? := by
    intro q hq
    obtain ⟨c', r1, r2, r3, r4⟩ := s5.2.2.2.2.2 q H[q] (by rw [hsvh]; exact Array.getElem?_eq_getElem hq)
    have e1 : c' = H[q] := by
      rw [r2]
      have e2 : c'.slots = H[q].slots := Array.ext_getElem? (fun i => r4 i (by simp))
      rw [e2]
    rw [Array.getElem?_eq_getElem hq, ← e1]
    exact r1
  refine ⟨M, hP.kept (fun j q hq => hk q.1 ((hP j q hq).lt)), ⟨?_, fun q h1 h2 => ?_⟩, Or.inr ⟨H.size, k, ce, rfl, h, c1, c2, c3⟩⟩
  · exact Nat.le_trans hS.1 (by have := s5.2.1; rw [hsvh] at this; exact this)
  · rw [hk q (Nat.lt_of_lt_of_le h1 hS.1)]
    exact hS.2.1 q h1 h2
/-- a call that may throw, from every heap that holds the memory -/
def zRunT (p : Program) (l : Launch) (e : Env) (R : Room) (s : State) (m : MethodId) (args : Array Value) (below : List Frame) (meth : Method) (c : Code) (cells slots mc ms : Nat) (B : Nat) (D : va_G) (aC : Nat → ClassId) (nL : Nat) (pc : Nat) (lv : List (Nat × Value)) (st0 rest : List Value) (M : zM) (post : Option Value → zM → Prop) (postT : Nat → zM → Prop) : Prop :=
  ∀ (H : Heap) (locs : List Loc) (ls : Array Slot), va_P D kcl (zcls B aC M) H → lv_has ls nL lv → va_S (zAb B) s.heap H locs → ∀ T : State, T.heap = H → Stand p l e R s m args below meth c T locs cells slots →
    ∃ (M2 : zM) (T2 : State) (L : List Loc), Stand p l e R s m args below meth c T2 (locs ++ L) (cells + mc) (slots + ms) ∧ va_P D kcl (zcls B aC M2) T2.heap ∧ va_S (zAb B) s.heap T2.heap (locs ++ L) ∧
      ((∃ v : Option Value, post v M2 ∧ ∀ tg, Steps p.tables e below (T2.setTop (F0 m (pc + 3) ls (v.toList ++ rest))) tg → Steps p.tables e below (T.setTop (F0 m pc ls st0)) tg) ∨
        ∃ (x k : Nat) (cell : Cell), postT k M2 ∧ T2.heap[x]? = some cell ∧ cell.vm.isStatics = false ∧ s.vm.findClass (exN k) = some cell.cls ∧ ∀ tg, Steps p.tables e below ((T2.setTop (F0 m pc ls rest)).pushFrame (.throwing x)) tg → Steps p.tables e below (T.setTop (F0 m pc ls st0)) tg)
theorem a_runVT (fx : zFx p s m args c B D aC aS nL cc own) {y : MethodName} {C : String} {b : ByteArray} {mx np : Nat} {ret : Option FieldType} {index k t N : Nat} {Tb : u_T} {rm : Room} {As : List Value} (cv : zCV y C b mx ret np) (hl : Cond.methodLink own index y ∈ tb)
    (hM : MetT l y (wo y b mx ret) rm (va_Pc (.ref (B + k) :: As) (zWl B D aC aS M)) (zQT B D aC post postT) mc ms (zAb B)) (hk : k < N0) (ht : tg k = t) (ht2 : t < 20) (hc : kcl[t]? = some (C, Tb, N)) (hn : As.length = np) (hst : st0 = As.reverse ++ .ref (B + k) :: rest) (hw : (rest.map fun v => v.category).sum ≤ 8)
    (hrc : rm.cells = mc) (hrs : rm.slots = ms) (hR : rm.frames + 1 ≤ R.frames ∧ 8 + (mx + 11) + rm.locals ≤ R.locals) (hd : decode cc pc = .ok (.invokevirtual index, 3)) (hf : cells + mc ≤ R.cells ∧ slots + ms ≤ R.slots) : zRunT p l e R s m args below meth c cells slots mc ms B D aC nL pc lv st0 rest M post postT := by
  intro H locs ls hP hlv hS T hT X
  subst hst
  obtain ⟨v1, v2, v3, v4, v5, v6, v7, v8⟩ := cv
  have hts := fx.2.2.2.2.1
  have hcode := hts _ v4
  obtain ⟨cellB, hcell, hobj, hcls⟩ := va_recv fx.2.2.2.2.2.1.1 hP hc ((zcls_at hk).trans (by rw [zcel_o ht ht2]))
  obtain ⟨mk, methM, hnamed, hmethM, hstM, habM⟩ := Cond.instanceMethod_spec (hts _ v1)
  obtain ⟨methM', cM, hmethM', -, -, -, -, -, -, hsigM⟩ := Cond.code_spec hnamed hcode
  cases hmethM.symm.trans hmethM'
  obtain ⟨c2, r2, m2, q1, q2, q3, q4, kP, hkP, hkPi⟩ := Cond.selects_spec (hts _ v2)
  cases hcls.symm.trans q1
  cases (State.methodFound?_of_named hnamed ⟨v6, v7⟩).symm.trans q2
  cases hnamed.symm.trans q3
  have hselP : selectMethod e.platform s.vm cellB.cls mk = .method mk := by rw [Launch.admits_selectMethod X.admits]; exact q4
  have hlen : As.length = methM.sig.parameters.length := by
    rw [hsigM] at v8
    exact hn.trans (Option.some.inj v8).symm
  obtain ⟨vm₁, X₁, hstep₁⟩ := X.invokevirtual fx.1 fx.2.2.2.1 (hts _ hl) hnamed hmethM hstM hkP hkPi ⟨v6, v7⟩ (a := B + k) (cell := cellB) (by rw [hT]; exact hcell)
    (fun z h => by rw [h] at hobj; cases hobj) hselP hmethM habM hkP hkPi (g := F0 m pc ls (As.reverse ++ .ref (B + k) :: rest)) rfl (argsL := As) (rest := rest) hlen rfl (by rw [fx.2.1]; exact hd)
  have hW1 : s.WarmedH (T.setVm vm₁).vm := X₁.warmed
  have hWl : zWl B D aC aS M (T.setVm vm₁) := zWl_at fx hP hS hT hW1
  obtain ⟨o, T2, t2, L, X2, hL, e1, e2, ⟨M2, hP2, hF2, hor⟩, hst⟩ := z_callT (bytes := b) (maxL := mx) (ret := ret) (W0 := 8) X₁ hM (g := F0 m pc ls rest) rfl (by show ls.size = _; rw [fx.2.2.1]; exact hlv.1) (by rw [fx.2.1]; exact hd) (lv_room hw) (X₁.named hnamed) (a := (Value.ref (B + k) :: As).toArray)
    hR.1 hR.2 hrc hrs hf.1 hf.2 (atoms_intro fun w hw => by
      rcases List.mem_cons.mp hw with h | h
      · rw [h]; exact word_at hW1 (z_good v4).2 hcode
      · exact word_at hW1 (z_good h).2 (hts w h)) (word_at hW1 (z_good v4).2 hcode) (by rw [v5]; exact word_at hW1 (z_good v3).2 (hts _ v3)) ⟨rfl, hWl.blind⟩
  have hF3 : H.size ≤ t2.heap.size ∧ ∀ q : Nat, q < H.size → ¬ zAb B q → t2.heap[q]? = H[q]? := by
    obtain ⟨g1, g2⟩ := hF2
    have e3 : ((T.setVm vm₁).calling (F0 m pc ls rest) mk (Value.ref (B + k) :: As).toArray).heap = H := hT
    rw [e3] at g1 g2
    exact ⟨g1, g2⟩
  have hS2 : va_S (zAb B) s.heap T2.heap (locs ++ L) := ⟨Nat.le_trans hS.1 (by rw [e1]; exact hF3.1), fun q h1 h2 => by rw [e1, hF3.2 q (Nat.lt_of_lt_of_le h1 hS.1) h2]; exact hS.2.1 q h1 h2, fun q hq => by
    rcases List.mem_append.mp hq with h | h
    · exact hS.2.2 q h
    · exact hL q h⟩
  refine ⟨M2, T2, L, X2, by rw [e1]; exact hP2, hS2, ?_⟩
  rcases hor with ⟨v, ho, hpo⟩ | ⟨x, kx, cell, ho, hpo, hx1, hx2, hx3⟩
  · rcases hst with ⟨v', ho', hs'⟩ | ⟨x', ho', -⟩
    · rw [ho] at ho'
      cases ho'
      exact Or.inl ⟨v, hpo, fun tg htg => hstep₁ _ fun acts => by rw [doInvoke_state]; exact hs'.trans htg⟩
    · rw [ho] at ho'
      cases ho'
  · rcases hst with ⟨v', ho', -⟩ | ⟨x', ho', hs'⟩
    · rw [ho] at ho'
      cases ho'
    · rw [ho] at ho'
      cases ho'
      have e4 : ((T.setVm vm₁).calling (F0 m pc ls rest) mk (Value.ref (B + k) :: As).toArray).vm = vm₁ := rfl
      rw [e4] at hx3
      have hal : s.vm.Alike vm₁ := hW1.alike
      rw [hal.findClass] at hx3
      exact Or.inr ⟨x, kx, cell, hpo, by rw [e1]; exact hx1, hx2, hx3, fun tg htg => hstep₁ _ fun acts => by rw [doInvoke_state]; exact hs'.trans htg⟩
/-- a call that may throw, in a method that catches nothing -/
theorem a_callTp {post2 : Option Value → zM → Prop} {postT2 : Nat → zM → Prop} (hlo : meth.locks = false) (hno : c.exceptionTable.isEmpty = true) (hr : zRunT p l e R s m args below meth c cells slots mc ms B D aC nL pc lv st0 rest M post postT)
    (k : ∀ (v : Option Value) (M2 : zM), post v M2 → zAt p l e R s m args below meth c (cells + mc) (slots + ms) (MQT below (zQT B D aC post2 postT2) args s (cells + mc) (slots + ms) (zAb B)) B D aC nL (pc + 3) lv (v.toList ++ rest) M2) (kt : ∀ (j : Nat) (M2 : zM), postT j M2 → postT2 j M2) :
    zAt p l e R s m args below meth c cells slots (MQT below (zQT B D aC post2 postT2) args s (cells + mc) (slots + ms) (zAb B)) B D aC nL pc lv st0 M := by
  intro H locs ls hP hl hS T hT X
  obtain ⟨M2, T2, L, X2, hP2, hS2, hor⟩ := hr H locs ls hP hl hS T hT X
  rcases hor with ⟨v, hpo, hst⟩ | ⟨x, j, cell, hpo, hx1, hx2, hx3, hst⟩
  · obtain ⟨t, a1, b1⟩ := k v M2 hpo T2.heap _ ls hP2 hl hS2 T2 rfl X2
    exact ⟨t, hst t a1, b1⟩
  · obtain ⟨w1, w2, w3, w4, w5⟩ := X2.leaveThrown x (g := F0 m pc ls rest) rfl rfl rfl (fun x hx => by rw [Array.isEmpty_iff] at hno; rw [hno] at hx; cases hx)
    exact ⟨_, hst _ w1, .threw x, w2, w3, ⟨M2, hP2, hS2.F rfl, Or.inr ⟨x, j, cell, rfl, kt j M2 hpo, hx1, hx2, hx3⟩⟩, w4, _, w5, hS2.2.2⟩
/-- a contract of a method that may throw is met, if the walk from its entry meets it -/
theorem z_metT {y : MethodName} {b : ByteArray} {mx : Nat} {ret : Option FieldType} {rm : Room} {as : List Value} {lv0 : List (Nat × Value)} {Qc : Array Value → State → Outcome → State → Prop} (hy : plainName y.cls = true) (ho : y.cls = own) (hlen : (lg_sl as).length ≤ mx) (hlv : lv_args 0 as = lv0)
    (body : ∀ p e s m below meth c, zFx p s m as.toArray c B D aC aS mx b own → meth.sig.returnType = ret → meth.locks = false → c.exceptionTable.isEmpty = true → zAt p l e rm s m as.toArray below meth c 0 0 (MQT below Qc as.toArray s mc ms (zAb B)) B D aC mx 0 lv0 [] M) : MetT l y (wo y b mx ret) rm (va_Pc as (zWl B D aC aS M)) Qc mc ms (zAb B) := by
  refine MetT.ofW (cc := b) (maxL := mx) (ret := ret) hy rfl ?_
  intro p e s m args below meth c s₁ BB hml hv
  obtain ⟨rfl, hP, hsz, hC⟩ := hv
  subst ho
  have hl := lv_entry as (n := mx) hlen
  rw [lg_entry_eq]
  rw [hlv] at hl
  have hts := atoms_spec (ws := wo y b mx ret) BB.pre
  exact body p e s m below meth c ⟨BB.exec, BB.bytes, hml, findClass_of_methodNamed BB.named, fun w hw => hts w (List.mem_cons_of_mem _ hw), hC, hsz, zcls_ns hP⟩ BB.returns BB.notSynchronized (BB.noHandlers (hts _ List.mem_cons_self)) s.heap [] _ hP hl va_S.rf
end THR2
section THR3
variable {p : Program} {l : Launch} {e : Env} {R : Room} {s : State} {m : MethodId} {args : Array Value} {below : List Frame} {meth : Method} {c : Code} {cells slots mc ms : Nat} {Q : State → Prop} {B : Nat} {D : va_G} {aC : Nat → ClassId} {aS : Nat → Nat} {nL : Nat} {cc : ByteArray} {own : String} {pc : Nat} {lv lv2 : List (Nat × Value)} {st rest st0 : List Value} {M : zM} {av : Array Value} {post : Option Value → zM → Prop} {postT : Nat → zM → Prop}
/-- one row of a handler table, its class resolved then and there -/
theorem z_go1 {u : State} {f : JFrame} {a : Addr} {x : ExceptionTableEntry} {t : List ExceptionTableEntry} {cx : ClassId} {vm' : Vm} {cell : Cell} {Qh : Handler → Pre} {E : CtlPost} {d : Bool} {acts : List Action} (hx : covers x f.pc = true) (h0 : x.catchType ≠ 0)
    (hg : (resolveClass f.method.cls x.catchType).Gives e.toSetting u.vm (.ok cx) vm') (hsz : vm'.classes.size ≤ u.vm.classes.size) (hcell : u.heap[a]? = some cell) (hobj : ∀ k, cell.vm ≠ .statics k) (hk : ∃ k, vm'.classes[cell.cls]? = some k) (hc : ∃ k, vm'.classes[cx]? = some k) :
    wp (findHandler.go f a (x :: t)) Qh E e d acts u ↔ if vm'.assignable cell.cls cx = true then Qh (.found x.handlerPc) d acts (u.setVm vm') else wp (findHandler.go f a t) Qh E e d acts (u.setVm vm') := by
  obtain ⟨ha, ht⟩ := hg.op (op := VmOp.resolveClass f.method.cls x.catchType) rfl
  simp only [covers] at hx
  have hsz2 : ((VmOp.resolveClass f.method.cls x.catchType).tables e u.vm).classes.size ≤ u.vm.classes.size := by rw [ht]; exact hsz
  cases hfit : vm'.assignable cell.cls cx <;>
    simp [findHandler.go, hx, h0, _root_.Jvm.W.vmOp_same _ hsz2, ha, ht, hcell, hobj, hk, hc, hfit, VmOp.dirties, VmOp.acts]
def pickH (kx : Nat) : List (Nat × Nat) → Option Nat
  | [] => none
  | h :: r => if h.2 = kx then some h.1 else if (kx, h.2) ∈ neL then pickH kx r else none
def okH (own : String) (pc : Nat) : List ExceptionTableEntry → List (Nat × Nat) → Prop
  | [], [] => True
  | x :: t, h :: r => covers x pc = true ∧ x.catchType ≠ 0 ∧ x.handlerPc = h.1 ∧ Cond.classLink own x.catchType (exN h.2) ∈ tb ∧ okH own pc t r
  | _, _ => False
theorem z_find (fx : zFx p s m args c B D aC aS nL cc own) (hpl : e.platform.magicAccessors = ({} : Platform).magicAccessors) {f : JFrame} (hf : f.method = m) {a : Addr} {kx : Nat} {cell : Cell} (hobj : cell.vm.isStatics = false) (hcls : s.vm.findClass (exN kx) = some cell.cls) : ∀ (tbl : List ExceptionTableEntry) (hs : List (Nat × Nat)) (hpc : Nat), okH own f.pc tbl hs → pickH kx hs = some hpc → ∀ u : State, s.WarmedH u.vm → u.heap[a]? = some cell →
    ∃ vm', s.WarmedH vm' ∧ ∀ (Qh : Handler → Pre) (E : CtlPost) (d : Bool) (acts : List Action), wp (findHandler.go f a tbl) Qh E e d acts u ↔ Qh (.found hpc) d acts (u.setVm vm') := by
  intro tbl
  induction tbl with
  | nil =>
    intro hs hpc hok hp
    cases hs with
    | nil => cases hp
    | cons h r => exact hok.elim
  | cons x t ih =>
    intro hs hpc hok hp u hW hcell
    cases hs with
    | nil => exact hok.elim
    | cons h r =>
      obtain ⟨o1, o2, o3, o4, o5⟩ := hok
      obtain ⟨cx, hfx, hcl⟩ := Cond.classLink_spec fx.2.2.2.1 (fx.2.2.2.2.1 _ o4) e.platform hpl
      obtain ⟨g1, g2, g3⟩ := State.classEntry (e := e) hW hcl
      rw [← hf] at g1 g2
      generalize u.vm.noted f.method.cls x.catchType (.cls cx) = vm1 at g1 g2
      have hsz : vm1.classes.size ≤ u.vm.classes.size := by
        have h1 := g2.alike
        have h2 := hW.alike
        exact Nat.le_trans (Vm.Alike.size_le h1) (Vm.Alike.size_le h2.symm)
      have hk : ∃ k, vm1.classes[cell.cls]? = some k := by
        obtain ⟨k, hk⟩ := Vm.classAt_of_findClass hcls
        obtain ⟨k', hk', -⟩ := g2.alike.2.2 _ _ hk
        exact ⟨k', hk'⟩
      have hc2 : ∃ k, vm1.classes[cx]? = some k := by
        obtain ⟨k, hk⟩ := Vm.classAt_of_findClass hfx
        obtain ⟨k', hk', -⟩ := g2.alike.2.2 _ _ hk
        exact ⟨k', hk'⟩
      have hob : ∀ k, cell.vm ≠ .statics k := fun k h => by rw [h] at hobj; cases hobj
      by_cases he : h.2 = kx
      · rw [pickH, if_pos he] at hp
        cases hp
        rw [he] at hfx
        have e1 : cx = cell.cls := Option.some.inj (hfx.symm.trans hcls)
        refine ⟨vm1, g2, fun Qh E d acts => ?_⟩
        rw [z_go1 o1 o2 g1 hsz hcell hob hk hc2, e1, if_pos (va_asg _ _), o3]
      · rw [pickH, if_neg he] at hp
        by_cases hn : (kx, h.2) ∈ neL
        · rw [if_pos hn] at hp
          obtain ⟨c1, c2, q1, q2, q3⟩ := fx.2.2.2.2.2.1.2.2.2.2.2.2.2.2.2.2.2.1 _ hn
          have e1 : c1 = cell.cls := Option.some.inj (q1.symm.trans hcls)
          have e2 : c2 = cx := Option.some.inj (q2.symm.trans hfx)
          subst e1
          subst e2
          obtain ⟨vm2, hW2, h2⟩ := ih r hpc o5 hp (u.setVm vm1) g2 hcell
          refine ⟨vm2, hW2, fun Qh E d acts => ?_⟩
          rw [z_go1 o1 o2 g1 hsz hcell hob hk hc2, if_neg (by rw [g2.alike.assignable, q3]; decide)]
          exact h2 Qh E d acts
        · rw [if_neg hn] at hp
          cases hp
/-- a call that may throw, in a method that catches what comes -/
theorem a_callTc (fx : zFx p s m args c B D aC aS nL cc own) (hr : zRunT p l e R s m args below meth c cells slots mc ms B D aC nL pc lv st0 rest M post postT) {hs : List (Nat × Nat)} (hok : okH own pc c.exceptionTable.toList hs)
    (k : ∀ (v : Option Value) (M2 : zM), post v M2 → zAt p l e R s m args below meth c (cells + mc) (slots + ms) Q B D aC nL (pc + 3) lv (v.toList ++ rest) M2)
    (kt : ∀ (j : Nat) (M2 : zM), postT j M2 → ∃ hpc, pickH j hs = some hpc ∧ ∀ x : Nat, zAt p l e R s m args below meth c (cells + mc) (slots + ms) Q B D aC nL hpc lv [.ref x] M2) :
    zAt p l e R s m args below meth c cells slots Q B D aC nL pc lv st0 M := by
  intro H locs ls hP hl hS T hT X
  obtain ⟨M2, T2, L, X2, hP2, hS2, hor⟩ := hr H locs ls hP hl hS T hT X
  rcases hor with ⟨v, hpo, hst⟩ | ⟨x, j, cell, hpo, hx1, hx2, hx3, hst⟩
  · obtain ⟨t, a1, b1⟩ := k v M2 hpo T2.heap _ ls hP2 hl hS2 T2 rfl X2
    exact ⟨t, hst t a1, b1⟩
  · obtain ⟨hpc, hp, kk⟩ := kt j M2 hpo
    have hpl : e.platform.magicAccessors = ({} : Platform).magicAccessors := by rw [X.admits.platform]
    have hu1 : (((T2.setTop (F0 m pc ls rest)).pushFrame (.throwing x))).vm = T2.vm := Stand.throwing_vm _ _ _
    have hu2 : (((T2.setTop (F0 m pc ls rest)).pushFrame (.throwing x))).heap = T2.heap := Stand.throwing_heap _ _ _
    obtain ⟨vm2, hW2, hfind⟩ := z_find (e := e) fx hpl (f := F0 m pc ls rest) rfl (a := x) hx2 hx3 c.exceptionTable.toList hs hpc hok hp ((T2.setTop (F0 m pc ls rest)).pushFrame (.throwing x)) (by rw [hu1]; exact X2.warmed) (by rw [hu2]; exact hx1)
    have X3 := X2.noted hW2
    obtain ⟨t, a1, b1⟩ := kk x T2.heap _ ls hP2 hl hS2 (T2.setVm vm2) rfl X3
    refine ⟨t, hst t ?_, b1⟩
    have hat : _root_.Jvm.At T2 (F0 m pc ls rest).method c below := X2.here
    obtain ⟨hgo, hw⟩ := hat.throwing x
    refine Steps.head hgo hw ?_
    have hmeth : ((T2.setTop (F0 m pc ls rest)).pushFrame (.throwing x)).vm.method? (F0 m pc ls rest).method = some meth := by rw [hu1]; exact X2.method'
    have hIs : (stepThrowing e ((T2.setTop (F0 m pc ls rest)).pushFrame (.throwing x)) x (.java (F0 m pc ls rest) :: T2.frames.tail)).Is ((((T2.setTop (F0 m pc ls rest)).pushFrame (.throwing x)).setVm vm2).setFrames (.java { (F0 m pc ls rest) with pc := hpc, stack := [.ref x] } :: T2.frames.tail)) [] := by
      simp only [stepThrowing, searchFrame, vmDo]
      generalize hr2 : Sem.go _ e false [] ((T2.setTop (F0 m pc ls rest)).pushFrame (.throwing x)) = res
      obtain ⟨as, rfl, ha⟩ := Sem.eq_ok_of hr2 (a := Handler.found hpc) (s' := ((T2.setTop (F0 m pc ls rest)).pushFrame (.throwing x)).setVm vm2) (acts' := []) (by
        simp [_root_.Jvm.W.findHandler_eq hmeth X2.code, hfind])
      exact ⟨rfl, ha⟩
    rw [stepThread_throwing (frames_entered hat.top _), hIs.1]
    obtain ⟨g₀, hg⟩ := Option.isSome_iff_exists.mp hat.top
    obtain ⟨r, hr3⟩ := State.topJava?_eq_some.mp hg
    have e1 : T2.frames.tail = r := by rw [hr3]; rfl
    have e2 : (T2.setVm vm2).setTop (F0 m hpc ls [.ref x]) = (T2.setVm vm2).setFrames (.java (F0 m hpc ls [.ref x]) :: r) := State.setTop_of_frames _ (show (T2.setVm vm2).frames = _ from hr3)
    rw [e2] at a1
    rw [e1]
    have e3 : (((T2.setTop (F0 m pc ls rest)).pushFrame (.throwing x)).setVm vm2).setFrames (.java (F0 m hpc ls [.ref x]) :: r) = (T2.setVm vm2).setFrames (.java (F0 m hpc ls [.ref x]) :: r) := by
      rw [State.pushFrame, State.setTop_of_frames _ hr3]
      show (((T2.setVm vm2).setFrames _).setFrames _).setFrames _ = _
      rw [State.setFrames_setFrames, State.setFrames_setFrames]
    show Steps p.tables e below ((((T2.setTop (F0 m pc ls rest)).pushFrame (.throwing x)).setVm vm2).setFrames (.java (F0 m hpc ls [.ref x]) :: r)) t
    rw [e3]
    exact a1
abbrev woW (y : MethodName) (b : ByteArray) (n : Nat) (r : Option FieldType) (hh : List (Nat × Nat × Nat × Nat)) : List Cond := Cond.codeWith y b n r hh :: tb
/-- a contract of a method with handlers is met, if the walk from its entry meets it -/
theorem z_metW {y : MethodName} {b : ByteArray} {mx : Nat} {ret : Option FieldType} {hh : List (Nat × Nat × Nat × Nat)} {rm : Room} {as : List Value} {lv0 : List (Nat × Value)} {Qc : Array Value → State → Outcome → State → Prop} (hy : plainName y.cls = true) (ho : y.cls = own) (hlen : (lg_sl as).length ≤ mx) (hlv : lv_args 0 as = lv0)
    (body : ∀ p e s m below meth c, zFx p s m as.toArray c B D aC aS mx b own → meth.sig.returnType = ret → meth.locks = false → c.exceptionTable.toList.map (fun h => (h.startPc, h.endPc, h.handlerPc, h.catchType)) = hh → zAt p l e rm s m as.toArray below meth c 0 0 (MQ below Qc as.toArray s mc ms (zAb B)) B D aC mx 0 lv0 [] M) : Met l y (woW y b mx ret hh) rm (va_Pc as (zWl B D aC aS M)) Qc mc ms (zAb B) := by
  refine va_MetW (cc := b) (maxL := mx) (ret := ret) (hh := hh) hy rfl ?_
  intro p e s m args below meth c s₁ BB hml hv
  obtain ⟨rfl, hP, hsz, hC⟩ := hv
  subst ho
  have hl := lv_entry as (n := mx) hlen
  rw [lg_entry_eq]
  rw [hlv] at hl
  have hts := atoms_spec (ws := woW y b mx ret hh) BB.pre
  obtain ⟨m9, meth9, c9, k1, k2, k3, k4, k5, k6, k7, k8, -⟩ := Cond.codeWith_spec (hts _ List.mem_cons_self)
  cases BB.named.symm.trans k1
  cases BB.method.symm.trans k2
  cases (Stand.of_body BB).code.symm.trans k3
  exact body p e s m below meth c ⟨BB.exec, BB.bytes, hml, findClass_of_methodNamed BB.named, fun w hw => hts w (List.mem_cons_of_mem _ hw), hC, hsz, zcls_ns hP⟩ BB.returns BB.notSynchronized k6 s.heap [] _ hP hl va_S.rf
def zCW (y : MethodName) (b : ByteArray) (n : Nat) (r : Option FieldType) (hh : List (Nat × Nat × Nat × Nat)) (np : Nat) : Prop := Cond.static y ∈ tb ∧ Cond.initialized y.cls ∈ tb ∧ Cond.codeWith y b n r hh ∈ tb ∧ (y.cls ≠ "java/lang/invoke/MethodHandle" ∧ y.cls ≠ "java/lang/invoke/VarHandle" ∧ (parseMethodDescriptor y.desc).map (fun d => d.parameters.length) = some np)
theorem a_runSW (fx : zFx p s m args c B D aC aS nL cc own) {y : MethodName} {b : ByteArray} {mx np : Nat} {ret : Option FieldType} {hh : List (Nat × Nat × Nat × Nat)} {index : Nat} {rm : Room} {As : List Value} {Qc : Array Value → State → Outcome → State → Prop} (cv : zCW y b mx ret hh np) (hl : Cond.methodLink own index y ∈ tb)
    (hM : Met l y (woW y b mx ret hh) rm (va_Pc As (zWl B D aC aS M)) Qc mc ms (zAb B)) (hn : As.length = np) (hst : st0 = As.reverse ++ rest) (hw : (rest.map fun v => v.category).sum ≤ 8)
    (hrc : rm.cells = mc) (hrs : rm.slots = ms) (hR : rm.frames + 1 ≤ R.frames ∧ 8 + (mx + 11) + rm.locals ≤ R.locals) (hd : decode cc pc = .ok (.invokestatic index, 3)) (hf : cells + mc ≤ R.cells ∧ slots + ms ≤ R.slots) : zRun p l e R s m args below meth c cells slots mc ms B D aC nL pc lv st0 rest M (Qc As.toArray) := by
  intro H locs ls hP hlv hS T hT X
  subst hst
  obtain ⟨v1, v2, v3, v6, v7, v8⟩ := cv
  have hts := fx.2.2.2.2.1
  obtain ⟨mk, methM, cM, hnamed, hmethM, -, -, -, -, -, -, hsigM⟩ := Cond.codeWith_spec (hts _ v3)
  have hstatic : methM.isStatic = true := Cond.static_spec hnamed hmethM (hts _ v1)
  obtain ⟨kP, hkP, -⟩ := className_of_methodNamed hnamed
  have hinitP : kP.init = .initialized := Cond.initialized_spec (findClass_of_methodNamed hnamed) hkP (hts _ v2)
  have hlen : As.length = methM.sig.parameters.length := by
    rw [hsigM] at v8
    exact hn.trans (Option.some.inj v8).symm
  have hK : Back l R p e below s args y 3 8 (PreOf R mc ms (va_Pc As (zWl B D aC aS M))) (PostOf Qc mc ms (zAb B)) := va_backW (hh := hh) (bytes := b) (maxL := mx) (ret := ret) hM (fun a U g mk q => ⟨q.1, q.2.blind⟩) hrc hrs hR.1 hR.2 (fun w hw a' U hW => by
      rcases List.mem_cons.mp hw with h | h
      · rw [h]; exact word_at hW (z_good v3).2 (hts _ v3)
      · exact word_at hW (z_good h).2 (hts w h)) List.mem_cons_self (fun a' U hW => word_at hW (z_good v2).2 (hts _ v2))
  obtain ⟨vm₁, X₁, hstep₁⟩ := X.invokestatic fx.1 fx.2.2.2.1 (hts _ hl) hnamed hmethM hstatic hkP hinitP ⟨v6, v7⟩ (g := F0 m pc ls (As.reverse ++ rest)) rfl (argsL := As) (rest := rest) hlen rfl (by rw [fx.2.1]; exact hd)
  obtain ⟨v, ⟨U', l2, c2, s2⟩, X', ⟨g', mk', t, L, e1, e2, hq, h1, hL, h2, h3⟩, hsteps⟩ := hK m meth c ⟨T.setVm vm₁, locs, cells, slots⟩ (F0 m pc ls rest) (.invokestatic index) mk As.toArray X₁ rfl (by show ls.size = _; rw [fx.2.2.1]; exact hlv.1) (by rw [fx.2.1]; exact hd) (lv_room hw) (X₁.named hnamed) ⟨hf.1, hf.2, rfl, zWl_at fx hP hS hT X₁.warmed⟩
  dsimp only [Pt.U, Pt.locs, Pt.cells, Pt.slots] at X' e1 e2 h1 h2 h3 hsteps
  subst h1; subst h2; subst h3
  exact ⟨v, (T.setVm vm₁).calling g' mk' As.toArray, t, U', L, hT, X', hL, e1, e2, hq, fun target h => hstep₁ _ fun acts => by rw [doInvoke_state]; exact hsteps.trans h⟩
def okHH (own : String) (pc : Nat) : List (Nat × Nat × Nat × Nat) → List (Nat × Nat) → Prop
  | [], [] => True
  | x :: t, h :: r => (decide (x.1 ≤ pc) && decide (pc < x.2.1)) = true ∧ x.2.2.2 ≠ 0 ∧ x.2.2.1 = h.1 ∧ Cond.classLink own x.2.2.2 (exN h.2) ∈ tb ∧ okHH own pc t r
  | _, _ => False
theorem okH_of {own : String} {pc : Nat} : ∀ (tbl : List ExceptionTableEntry) (hh : List (Nat × Nat × Nat × Nat)) (hs : List (Nat × Nat)), tbl.map (fun h => (h.startPc, h.endPc, h.handlerPc, h.catchType)) = hh → okHH own pc hh hs → okH own pc tbl hs := by
  intro tbl
  induction tbl with
  | nil =>
    intro hh hs h1 h2
    subst h1
    cases hs with
    | nil => trivial
    | cons a b => exact h2.elim
  | cons x t ih =>
    intro hh hs h1 h2
    subst h1
    cases hs with
    | nil => exact h2.elim
    | cons a b =>
      obtain ⟨q1, q2, q3, q4, q5⟩ := h2
      exact ⟨q1, q2, q3, q4, ih _ b rfl q5⟩
end THR3
end
section
theorem tbc_1 (i : Nat) {w : Cond} (h : tables_1_1[i]? = some w) (hg : goodWord w = true) : w ∈ tb := tb_in (List.mem_append_right _ (List.mem_append_left _ (List.mem_of_getElem? h))) hg
theorem tbc_2 (i : Nat) {w : Cond} (h : tables_1_2[i]? = some w) (hg : goodWord w = true) : w ∈ tb := tb_in (List.mem_append_right _ (List.mem_append_right _ (List.mem_append_left _ (List.mem_of_getElem? h)))) hg
theorem tbc_3 (i : Nat) {w : Cond} (h : tables_1_3[i]? = some w) (hg : goodWord w = true) : w ∈ tb := tb_in (List.mem_append_right _ (List.mem_append_right _ (List.mem_append_right _ (List.mem_append_left _ (List.mem_of_getElem? h))))) hg
theorem tbc_4 (i : Nat) {w : Cond} (h : tables_1_4[i]? = some w) (hg : goodWord w = true) : w ∈ tb := tb_in (List.mem_append_right _ (List.mem_append_right _ (List.mem_append_right _ (List.mem_append_right _ (List.mem_append_left _ (List.mem_of_getElem? h)))))) hg
theorem tbc_5 (i : Nat) {w : Cond} (h : tables_1_5[i]? = some w) (hg : goodWord w = true) : w ∈ tb := tb_in (List.mem_append_right _ (List.mem_append_right _ (List.mem_append_right _ (List.mem_append_right _ (List.mem_append_right _ (List.mem_append_left _ (List.mem_of_getElem? h))))))) hg
theorem tbc_6 (i : Nat) {w : Cond} (h : tables_1_6[i]? = some w) (hg : goodWord w = true) : w ∈ tb := tb_in (List.mem_append_right _ (List.mem_append_right _ (List.mem_append_right _ (List.mem_append_right _ (List.mem_append_right _ (List.mem_append_right _ (List.mem_append_left _ (List.mem_of_getElem? h)))))))) hg
theorem tbc_7 (i : Nat) {w : Cond} (h : tables_1_7[i]? = some w) (hg : goodWord w = true) : w ∈ tb := tb_in (List.mem_append_right _ (List.mem_append_right _ (List.mem_append_right _ (List.mem_append_right _ (List.mem_append_right _ (List.mem_append_right _ (List.mem_append_right _ (List.mem_append_left _ (List.mem_of_getElem? h))))))))) hg
theorem tbc_8 (i : Nat) {w : Cond} (h : tables_1_8[i]? = some w) (hg : goodWord w = true) : w ∈ tb := tb_in (List.mem_append_right _ (List.mem_append_right _ (List.mem_append_right _ (List.mem_append_right _ (List.mem_append_right _ (List.mem_append_right _ (List.mem_append_right _ (List.mem_append_right _ (List.mem_of_getElem? h))))))))) hg
theorem uq_0 : ∀ {k : Nat}, k < N0 → tg k = 0 → k = 0 := by
  intro k h1 h2
  exact (by decide +kernel : ∀ k, k < N0 → tg k = 0 → k = 0) k h1 h2
theorem uq_4 : ∀ {k : Nat}, k < N0 → tg k = 4 → k = 386 := by
  intro k h1 h2
  exact (by decide +kernel : ∀ k, k < N0 → tg k = 4 → k = 386) k h1 h2
theorem uq_6 : ∀ {k : Nat}, k < N0 → tg k = 6 → k = 392 := by
  intro k h1 h2
  exact (by decide +kernel : ∀ k, k < N0 → tg k = 6 → k = 392) k h1 h2
theorem uq_7 : ∀ {k : Nat}, k < N0 → tg k = 7 → k = 398 := by
  intro k h1 h2
  exact (by decide +kernel : ∀ k, k < N0 → tg k = 7 → k = 398) k h1 h2
theorem uq_8 : ∀ {k : Nat}, k < N0 → tg k = 8 → k = 402 := by
  intro k h1 h2
  exact (by decide +kernel : ∀ k, k < N0 → tg k = 8 → k = 402) k h1 h2
theorem uq_9 : ∀ {k : Nat}, k < N0 → tg k = 9 → k = 413 := by
  intro k h1 h2
  exact (by decide +kernel : ∀ k, k < N0 → tg k = 9 → k = 413) k h1 h2
theorem lo_0_0 : ∀ {k : Nat}, k < N0 → tg k = 0 → k + 1 < N0 ∧ tg (k + 1) = 1 := by
  intro k h1 h2
  have e := uq_0 h1 h2
  subst e
  exact ⟨by decide +kernel, by decide +kernel⟩
theorem lo_0_1 : ∀ {k : Nat}, k < N0 → tg k = 0 → k + 3 < N0 ∧ tg (k + 3) = 3 := by
  intro k h1 h2
  have e := uq_0 h1 h2
  subst e
  exact ⟨by decide +kernel, by decide +kernel⟩
theorem lo_0_4 : ∀ {k : Nat}, k < N0 → tg k = 0 → k + 384 < N0 ∧ tg (k + 384) = 1 := by
  intro k h1 h2
  have e := uq_0 h1 h2
  subst e
  exact ⟨by decide +kernel, by decide +kernel⟩
theorem lo_0_7 : ∀ {k : Nat}, k < N0 → tg k = 0 → k + 392 < N0 ∧ tg (k + 392) = 6 := by
  intro k h1 h2
  have e := uq_0 h1 h2
  subst e
  exact ⟨by decide +kernel, by decide +kernel⟩
theorem lo_0_8 : ∀ {k : Nat}, k < N0 → tg k = 0 → k + 398 < N0 ∧ tg (k + 398) = 7 := by
  intro k h1 h2
  have e := uq_0 h1 h2
  subst e
  exact ⟨by decide +kernel, by decide +kernel⟩
theorem lo_0_9 : ∀ {k : Nat}, k < N0 → tg k = 0 → k + 402 < N0 ∧ tg (k + 402) = 8 := by
  intro k h1 h2
  have e := uq_0 h1 h2
  subst e
  exact ⟨by decide +kernel, by decide +kernel⟩
theorem lo_0_10 : ∀ {k : Nat}, k < N0 → tg k = 0 → k + 405 < N0 ∧ tg (k + 405) = 1 := by
  intro k h1 h2
  have e := uq_0 h1 h2
  subst e
  exact ⟨by decide +kernel, by decide +kernel⟩
theorem lo_0_11 : ∀ {k : Nat}, k < N0 → tg k = 0 → k + 407 < N0 ∧ tg (k + 407) = 1 := by
  intro k h1 h2
  have e := uq_0 h1 h2
  subst e
  exact ⟨by decide +kernel, by decide +kernel⟩
theorem lo_0_12 : ∀ {k : Nat}, k < N0 → tg k = 0 → k + 409 < N0 ∧ tg (k + 409) = 1 := by
  intro k h1 h2
  have e := uq_0 h1 h2
  subst e
  exact ⟨by decide +kernel, by decide +kernel⟩
theorem lo_0_13 : ∀ {k : Nat}, k < N0 → tg k = 0 → k + 411 < N0 ∧ tg (k + 411) = 1 := by
  intro k h1 h2
  have e := uq_0 h1 h2
  subst e
  exact ⟨by decide +kernel, by decide +kernel⟩
theorem lo_1_0 : ∀ {k : Nat}, k < N0 → tg k = 1 → k + 1 < N0 ∧ tg (k + 1) = 20 := by
  intro k h1 h2
  exact (by decide +kernel : ∀ k, k < N0 → tg k = 1 → k + 1 < N0 ∧ tg (k + 1) = 20) k h1 h2
theorem lo_2_0 : ∀ {k : Nat}, k < N0 → tg k = 2 → k + 1 < N0 ∧ tg (k + 1) = 1 := by
  intro k h1 h2
  exact (by decide +kernel : ∀ k, k < N0 → tg k = 2 → k + 1 < N0 ∧ tg (k + 1) = 1) k h1 h2
theorem lo_3_0 : ∀ {k : Nat}, k < N0 → tg k = 3 → k + 1 < N0 ∧ tg (k + 1) = 24 := by
  intro k h1 h2
  exact (by decide +kernel : ∀ k, k < N0 → tg k = 3 → k + 1 < N0 ∧ tg (k + 1) = 24) k h1 h2
theorem lo_3_1 : ∀ {k : Nat}, k < N0 → tg k = 3 → k + 125 < N0 ∧ tg (k + 125) = 1 := by
  intro k h1 h2
  exact (by decide +kernel : ∀ k, k < N0 → tg k = 3 → k + 125 < N0 ∧ tg (k + 125) = 1) k h1 h2
theorem lo_4_0 : ∀ {k : Nat}, k < N0 → tg k = 4 → k + 1 < N0 ∧ tg (k + 1) = 1 := by
  intro k h1 h2
  have e := uq_4 h1 h2
  subst e
  exact ⟨by decide +kernel, by decide +kernel⟩
theorem lo_4_1 : ∀ {k : Nat}, k < N0 → tg k = 4 → k + 3 < N0 ∧ tg (k + 3) = 1 := by
  intro k h1 h2
  have e := uq_4 h1 h2
  subst e
  exact ⟨by decide +kernel, by decide +kernel⟩
theorem lo_4_4 : ∀ {k : Nat}, k < N0 → tg k = 4 → k + 5 < N0 ∧ tg (k + 5) = 21 := by
  intro k h1 h2
  have e := uq_4 h1 h2
  subst e
  exact ⟨by decide +kernel, by decide +kernel⟩
theorem lo_6_0 : ∀ {k : Nat}, k < N0 → tg k = 6 → k + 1 < N0 ∧ tg (k + 1) = 1 := by
  intro k h1 h2
  have e := uq_6 h1 h2
  subst e
  exact ⟨by decide +kernel, by decide +kernel⟩
theorem lo_6_1 : ∀ {k : Nat}, k < N0 → tg k = 6 → k + 3 < N0 ∧ tg (k + 3) = 21 := by
  intro k h1 h2
  have e := uq_6 h1 h2
  subst e
  exact ⟨by decide +kernel, by decide +kernel⟩
theorem lo_6_2 : ∀ {k : Nat}, k < N0 → tg k = 6 → k + 4 < N0 ∧ tg (k + 4) = 21 := by
  intro k h1 h2
  have e := uq_6 h1 h2
  subst e
  exact ⟨by decide +kernel, by decide +kernel⟩
theorem lo_6_3 : ∀ {k : Nat}, k < N0 → tg k = 6 → k + 5 < N0 ∧ tg (k + 5) = 5 := by
  intro k h1 h2
  have e := uq_6 h1 h2
  subst e
  exact ⟨by decide +kernel, by decide +kernel⟩
theorem lo_7_0 : ∀ {k : Nat}, k < N0 → tg k = 7 → k + 1 < N0 ∧ tg (k + 1) = 21 := by
  intro k h1 h2
  have e := uq_7 h1 h2
  subst e
  exact ⟨by decide +kernel, by decide +kernel⟩
theorem lo_7_1 : ∀ {k : Nat}, k < N0 → tg k = 7 → k + 2 < N0 ∧ tg (k + 2) = 21 := by
  intro k h1 h2
  have e := uq_7 h1 h2
  subst e
  exact ⟨by decide +kernel, by decide +kernel⟩
theorem lo_7_2 : ∀ {k : Nat}, k < N0 → tg k = 7 → k + 3 < N0 ∧ tg (k + 3) = 21 := by
  intro k h1 h2
  have e := uq_7 h1 h2
  subst e
  exact ⟨by decide +kernel, by decide +kernel⟩
theorem lo_8_0 : ∀ {k : Nat}, k < N0 → tg k = 8 → k + 1 < N0 ∧ tg (k + 1) = 21 := by
  intro k h1 h2
  have e := uq_8 h1 h2
  subst e
  exact ⟨by decide +kernel, by decide +kernel⟩
theorem lo_8_1 : ∀ {k : Nat}, k < N0 → tg k = 8 → k + 2 < N0 ∧ tg (k + 2) = 21 := by
  intro k h1 h2
  have e := uq_8 h1 h2
  subst e
  exact ⟨by decide +kernel, by decide +kernel⟩
theorem lo_9_0 : ∀ {k : Nat}, k < N0 → tg k = 9 → k + 1 < N0 ∧ tg (k + 1) = 20 := by
  intro k h1 h2
  have e := uq_9 h1 h2
  subst e
  exact ⟨by decide +kernel, by decide +kernel⟩
theorem lo_9_1 : ∀ {k : Nat}, k < N0 → tg k = 9 → k + 2 < N0 ∧ tg (k + 2) = 20 := by
  intro k h1 h2
  have e := uq_9 h1 h2
  subst e
  exact ⟨by decide +kernel, by decide +kernel⟩
theorem lo_9_2 : ∀ {k : Nat}, k < N0 → tg k = 9 → k + 3 < N0 ∧ tg (k + 3) = 20 := by
  intro k h1 h2
  have e := uq_9 h1 h2
  subst e
  exact ⟨by decide +kernel, by decide +kernel⟩
theorem lo_9_3 : ∀ {k : Nat}, k < N0 → tg k = 9 → k + 4 < N0 ∧ tg (k + 4) = 20 := by
  intro k h1 h2
  have e := uq_9 h1 h2
  subst e
  exact ⟨by decide +kernel, by decide +kernel⟩
theorem lo_9_4 : ∀ {k : Nat}, k < N0 → tg k = 9 → k + 5 < N0 ∧ tg (k + 5) = 20 := by
  intro k h1 h2
  have e := uq_9 h1 h2
  subst e
  exact ⟨by decide +kernel, by decide +kernel⟩
theorem lo_9_5 : ∀ {k : Nat}, k < N0 → tg k = 9 → k + 6 < N0 ∧ tg (k + 6) = 20 := by
  intro k h1 h2
  have e := uq_9 h1 h2
  subst e
  exact ⟨by decide +kernel, by decide +kernel⟩
theorem lo_9_8 : ∀ {k : Nat}, k < N0 → tg k = 9 → k + 7 < N0 ∧ tg (k + 7) = 20 := by
  intro k h1 h2
  have e := uq_9 h1 h2
  subst e
  exact ⟨by decide +kernel, by decide +kernel⟩
theorem lo_9_9 : ∀ {k : Nat}, k < N0 → tg k = 9 → k + 8 < N0 ∧ tg (k + 8) = 21 := by
  intro k h1 h2
  have e := uq_9 h1 h2
  subst e
  exact ⟨by decide +kernel, by decide +kernel⟩
theorem lo_9_10 : ∀ {k : Nat}, k < N0 → tg k = 9 → k + 9 < N0 ∧ tg (k + 9) = 20 := by
  intro k h1 h2
  have e := uq_9 h1 h2
  subst e
  exact ⟨by decide +kernel, by decide +kernel⟩
theorem lo_9_11 : ∀ {k : Nat}, k < N0 → tg k = 9 → k + 10 < N0 ∧ tg (k + 10) = 21 := by
  intro k h1 h2
  have e := uq_9 h1 h2
  subst e
  exact ⟨by decide +kernel, by decide +kernel⟩
theorem lo_9_12 : ∀ {k : Nat}, k < N0 → tg k = 9 → k + 11 < N0 ∧ tg (k + 11) = 21 := by
  intro k h1 h2
  have e := uq_9 h1 h2
  subst e
  exact ⟨by decide +kernel, by decide +kernel⟩
theorem lo_9_13 : ∀ {k : Nat}, k < N0 → tg k = 9 → k + 12 < N0 ∧ tg (k + 12) = 21 := by
  intro k h1 h2
  have e := uq_9 h1 h2
  subst e
  exact ⟨by decide +kernel, by decide +kernel⟩
theorem lo_9_14 : ∀ {k : Nat}, k < N0 → tg k = 9 → k + 13 < N0 ∧ tg (k + 13) = 21 := by
  intro k h1 h2
  have e := uq_9 h1 h2
  subst e
  exact ⟨by decide +kernel, by decide +kernel⟩
theorem lo_9_15 : ∀ {k : Nat}, k < N0 → tg k = 9 → k + 14 < N0 ∧ tg (k + 14) = 21 := by
  intro k h1 h2
  have e := uq_9 h1 h2
  subst e
  exact ⟨by decide +kernel, by decide +kernel⟩
theorem lo_9_16 : ∀ {k : Nat}, k < N0 → tg k = 9 → k + 15 < N0 ∧ tg (k + 15) = 21 := by
  intro k h1 h2
  have e := uq_9 h1 h2
  subst e
  exact ⟨by decide +kernel, by decide +kernel⟩
theorem lo_9_17 : ∀ {k : Nat}, k < N0 → tg k = 9 → k + 16 < N0 ∧ tg (k + 16) = 21 := by
  intro k h1 h2
  have e := uq_9 h1 h2
  subst e
  exact ⟨by decide +kernel, by decide +kernel⟩
theorem lo_9_18 : ∀ {k : Nat}, k < N0 → tg k = 9 → k + 17 < N0 ∧ tg (k + 17) = 21 := by
  intro k h1 h2
  have e := uq_9 h1 h2
  subst e
  exact ⟨by decide +kernel, by decide +kernel⟩
theorem lo_9_19 : ∀ {k : Nat}, k < N0 → tg k = 9 → k + 18 < N0 ∧ tg (k + 18) = 21 := by
  intro k h1 h2
  have e := uq_9 h1 h2
  subst e
  exact ⟨by decide +kernel, by decide +kernel⟩
theorem lo_9_20 : ∀ {k : Nat}, k < N0 → tg k = 9 → k + 19 < N0 ∧ tg (k + 19) = 21 := by
  intro k h1 h2
  have e := uq_9 h1 h2
  subst e
  exact ⟨by decide +kernel, by decide +kernel⟩
theorem lo_9_21 : ∀ {k : Nat}, k < N0 → tg k = 9 → k + 20 < N0 ∧ tg (k + 20) = 20 := by
  intro k h1 h2
  have e := uq_9 h1 h2
  subst e
  exact ⟨by decide +kernel, by decide +kernel⟩
theorem lo_9_23 : ∀ {k : Nat}, k < N0 → tg k = 9 → k + 21 < N0 ∧ tg (k + 21) = 20 := by
  intro k h1 h2
  have e := uq_9 h1 h2
  subst e
  exact ⟨by decide +kernel, by decide +kernel⟩
theorem lo_9_26 : ∀ {k : Nat}, k < N0 → tg k = 9 → k + 22 < N0 ∧ tg (k + 22) = 20 := by
  intro k h1 h2
  have e := uq_9 h1 h2
  subst e
  exact ⟨by decide +kernel, by decide +kernel⟩
theorem lo_9_28 : ∀ {k : Nat}, k < N0 → tg k = 9 → k + 23 < N0 ∧ tg (k + 23) = 20 := by
  intro k h1 h2
  have e := uq_9 h1 h2
  subst e
  exact ⟨by decide +kernel, by decide +kernel⟩
theorem lo_9_30 : ∀ {k : Nat}, k < N0 → tg k = 9 → k + 24 < N0 ∧ tg (k + 24) = 20 := by
  intro k h1 h2
  have e := uq_9 h1 h2
  subst e
  exact ⟨by decide +kernel, by decide +kernel⟩
theorem lo_9_34 : ∀ {k : Nat}, k < N0 → tg k = 9 → k + 25 < N0 ∧ tg (k + 25) = 20 := by
  intro k h1 h2
  have e := uq_9 h1 h2
  subst e
  exact ⟨by decide +kernel, by decide +kernel⟩
theorem lo_9_36 : ∀ {k : Nat}, k < N0 → tg k = 9 → k + 26 < N0 ∧ tg (k + 26) = 20 := by
  intro k h1 h2
  have e := uq_9 h1 h2
  subst e
  exact ⟨by decide +kernel, by decide +kernel⟩
theorem lo_9_40 : ∀ {k : Nat}, k < N0 → tg k = 9 → k + 27 < N0 ∧ tg (k + 27) = 22 := by
  intro k h1 h2
  have e := uq_9 h1 h2
  subst e
  exact ⟨by decide +kernel, by decide +kernel⟩
theorem lo_9_41 : ∀ {k : Nat}, k < N0 → tg k = 9 → k + 28 < N0 ∧ tg (k + 28) = 21 := by
  intro k h1 h2
  have e := uq_9 h1 h2
  subst e
  exact ⟨by decide +kernel, by decide +kernel⟩
theorem lo_9_42 : ∀ {k : Nat}, k < N0 → tg k = 9 → k + 29 < N0 ∧ tg (k + 29) = 21 := by
  intro k h1 h2
  have e := uq_9 h1 h2
  subst e
  exact ⟨by decide +kernel, by decide +kernel⟩
theorem lo_9_44 : ∀ {k : Nat}, k < N0 → tg k = 9 → k + 30 < N0 ∧ tg (k + 30) = 20 := by
  intro k h1 h2
  have e := uq_9 h1 h2
  subst e
  exact ⟨by decide +kernel, by decide +kernel⟩
theorem lo_9_46 : ∀ {k : Nat}, k < N0 → tg k = 9 → k + 31 < N0 ∧ tg (k + 31) = 20 := by
  intro k h1 h2
  have e := uq_9 h1 h2
  subst e
  exact ⟨by decide +kernel, by decide +kernel⟩
theorem lo_9_48 : ∀ {k : Nat}, k < N0 → tg k = 9 → k + 32 < N0 ∧ tg (k + 32) = 20 := by
  intro k h1 h2
  have e := uq_9 h1 h2
  subst e
  exact ⟨by decide +kernel, by decide +kernel⟩
theorem lo_9_49 : ∀ {k : Nat}, k < N0 → tg k = 9 → k + 33 < N0 ∧ tg (k + 33) = 21 := by
  intro k h1 h2
  have e := uq_9 h1 h2
  subst e
  exact ⟨by decide +kernel, by decide +kernel⟩
theorem lo_9_50 : ∀ {k : Nat}, k < N0 → tg k = 9 → k + 34 < N0 ∧ tg (k + 34) = 21 := by
  intro k h1 h2
  have e := uq_9 h1 h2
  subst e
  exact ⟨by decide +kernel, by decide +kernel⟩
theorem lo_9_51 : ∀ {k : Nat}, k < N0 → tg k = 9 → k + 35 < N0 ∧ tg (k + 35) = 21 := by
  intro k h1 h2
  have e := uq_9 h1 h2
  subst e
  exact ⟨by decide +kernel, by decide +kernel⟩
theorem lo_9_52 : ∀ {k : Nat}, k < N0 → tg k = 9 → k + 36 < N0 ∧ tg (k + 36) = 21 := by
  intro k h1 h2
  have e := uq_9 h1 h2
  subst e
  exact ⟨by decide +kernel, by decide +kernel⟩
theorem lo_9_60 : ∀ {k : Nat}, k < N0 → tg k = 9 → k + 37 < N0 ∧ tg (k + 37) = 20 := by
  intro k h1 h2
  have e := uq_9 h1 h2
  subst e
  exact ⟨by decide +kernel, by decide +kernel⟩
theorem w_1 : Cond.initialized "MailChain" ∈ tb := tbc_1 1 rfl rfl
theorem w_2 : Cond.initialized "MailChain$Row" ∈ tb := tbc_1 2 rfl rfl
theorem w_3 : Cond.initialized "MailChain$Tree" ∈ tb := tbc_1 3 rfl rfl
theorem w_4 : Cond.initialized "MailChain$Entry" ∈ tb := tbc_1 4 rfl rfl
theorem w_5 : Cond.initialized "MailChain$Mail" ∈ tb := tbc_1 5 rfl rfl
theorem w_6 : Cond.initialized "MailChain$Box" ∈ tb := tbc_1 6 rfl rfl
theorem w_7 : Cond.initialized "java/util/Arrays" ∈ tb := tbc_1 7 rfl rfl
theorem w_8 : Cond.initialized "MailChain$PartLine" ∈ tb := tbc_1 8 rfl rfl
theorem w_9 : Cond.initialized "MailChain$Squeezer" ∈ tb := tbc_1 9 rfl rfl
theorem w_10 : Cond.initialized "MailChain$Expander" ∈ tb := tbc_1 10 rfl rfl
theorem w_11 : Cond.initialized "MailChainModel" ∈ tb := tbc_1 11 rfl rfl
theorem w_17 : Cond.initialized "java/lang/System" ∈ tb := tbc_1 17 rfl rfl
theorem w_20 : Cond.initialized "MailChain$Archive" ∈ tb := tbc_1 20 rfl rfl
theorem w_21 : Cond.initialized "java/lang/String" ∈ tb := tbc_1 21 rfl rfl
theorem w_22 : Cond.initialized "java/lang/StringLatin1" ∈ tb := tbc_1 22 rfl rfl
theorem w_23 : Cond.initialized "jdk/internal/util/Preconditions" ∈ tb := tbc_1 23 rfl rfl
theorem w_28 : Cond.initialized "java/lang/Math" ∈ tb := tbc_1 28 rfl rfl
theorem w_31 : Cond.initialized "MailChain$Spelling" ∈ tb := tbc_1 31 rfl rfl
theorem w_46 : Cond.fieldLink "MailChain$Row" 9 "MailChain$Row" "bytes" "[B" ∈ tb := tbc_1 46 rfl rfl
theorem w_47 : Cond.fieldLink "MailChain$Row" 15 "MailChain$Row" "size" "I" ∈ tb := tbc_1 47 rfl rfl
theorem w_78 : Cond.fieldLink "MailChain$Entry" 14 "MailChain$Entry" "path" "LMailChain$Row;" ∈ tb := tbc_1 78 rfl rfl
theorem w_82 : Cond.fieldLink "MailChain$Entry" 20 "MailChain$Entry" "kind" "I" ∈ tb := tbc_1 82 rfl rfl
theorem w_86 : Cond.fieldLink "MailChain$Entry" 24 "MailChain$Entry" "mode" "I" ∈ tb := tbc_1 86 rfl rfl
theorem w_90 : Cond.fieldLink "MailChain$Entry" 27 "MailChain$Entry" "owner" "I" ∈ tb := tbc_1 90 rfl rfl
theorem w_94 : Cond.fieldLink "MailChain$Entry" 30 "MailChain$Entry" "group" "I" ∈ tb := tbc_1 94 rfl rfl
theorem w_98 : Cond.fieldLink "MailChain$Entry" 33 "MailChain$Entry" "time" "I" ∈ tb := tbc_1 98 rfl rfl
theorem w_102 : Cond.fieldLink "MailChain$Entry" 36 "MailChain$Entry" "start" "I" ∈ tb := tbc_1 102 rfl rfl
theorem w_105 : Cond.fieldLink "MailChain$Entry" 39 "MailChain$Entry" "size" "I" ∈ tb := tbc_1 105 rfl rfl
theorem w_108 : Cond.fieldLink "MailChain$Entry" 42 "MailChain$Entry" "family" "I" ∈ tb := tbc_1 108 rfl rfl
theorem w_131 : Cond.fieldLink "MailChain$Tree" 11 "MailChain$Tree" "entries" "[LMailChain$Entry;" ∈ tb := tbc_1 131 rfl rfl
theorem w_133 : Cond.fieldLink "MailChain$Tree" 23 "MailChain$Tree" "bodies" "LMailChain$Row;" ∈ tb := tbc_1 133 rfl rfl
theorem w_135 : Cond.fieldLink "MailChain$Tree" 27 "MailChain$Tree" "count" "I" ∈ tb := tbc_1 135 rfl rfl
theorem w_138 : Cond.fieldLink "MailChain$Tree" 31 "MailChain$Tree" "contents" "I" ∈ tb := tbc_1 138 rfl rfl
theorem w_157 : Cond.fieldLink "MailChain$Mail" 14 "MailChain$Mail" "squeezed" "LMailChain$Row;" ∈ tb := tbc_1 157 rfl rfl
theorem w_159 : Cond.fieldLink "MailChain$Mail" 21 "MailChain$Mail" "text" "LMailChain$Row;" ∈ tb := tbc_1 159 rfl rfl
theorem w_161 : Cond.fieldLink "MailChain$Mail" 24 "MailChain$Mail" "count" "I" ∈ tb := tbc_1 161 rfl rfl
theorem w_163 : Cond.fieldLink "MailChain$Mail" 28 "MailChain$Mail" "length" "I" ∈ tb := tbc_1 163 rfl rfl
theorem w_164 : Cond.fieldLink "MailChain$Mail" 31 "MailChain$Mail" "sums" "[I" ∈ tb := tbc_1 164 rfl rfl
theorem w_184 : Cond.constant "MailChain$Box" 11 48000 ∈ tb := tbc_1 184 rfl rfl
theorem w_186 : Cond.methodLink "MailChain$Box" 28 y_JArrays_fill ∈ tb := tbc_1 186 rfl rfl
theorem w_187 : Cond.static y_JArrays_fill ∈ tb := tbc_1 187 rfl rfl
theorem w_188 : Cond.code y_JArrays_fill b_JArrays_fill 4 none ∈ tb := tbc_1 188 rfl rfl
theorem w_195 : Cond.fieldLink "MailChain$PartLine" 23 "MailChain$PartLine" "k" "I" ∈ tb := tbc_1 195 rfl rfl
theorem w_196 : Cond.fieldLink "MailChain$Box" 59 "MailChain$PartLine" "k" "I" ∈ tb := tbc_1 196 rfl rfl
theorem w_197 : Cond.fieldLink "MailChain$PartLine" 28 "MailChain$PartLine" "n" "I" ∈ tb := tbc_1 197 rfl rfl
theorem w_198 : Cond.fieldLink "MailChain$Box" 58 "MailChain$PartLine" "n" "I" ∈ tb := tbc_1 198 rfl rfl
theorem w_199 : Cond.fieldLink "MailChain$PartLine" 35 "MailChain$PartLine" "size" "I" ∈ tb := tbc_1 199 rfl rfl
theorem w_200 : Cond.fieldLink "MailChain$Box" 68 "MailChain$PartLine" "size" "I" ∈ tb := tbc_1 200 rfl rfl
theorem w_201 : Cond.fieldLink "MailChain$PartLine" 42 "MailChain$PartLine" "sum" "J" ∈ tb := tbc_1 201 rfl rfl
theorem w_202 : Cond.fieldLink "MailChain$Box" 75 "MailChain$PartLine" "sum" "J" ∈ tb := tbc_1 202 rfl rfl
theorem w_203 : Cond.fieldLink "MailChain$PartLine" 9 "MailChain$PartLine" "end" "I" ∈ tb := tbc_1 203 rfl rfl
theorem w_204 : Cond.fieldLink "MailChain$Box" 65 "MailChain$PartLine" "end" "I" ∈ tb := tbc_1 204 rfl rfl
theorem w_216 : Cond.fieldLink "MailChain$Box" 15 "MailChain$Box" "pieces" "LMailChain$Row;" ∈ tb := tbc_1 216 rfl rfl
theorem w_217 : Cond.fieldLink "MailChain$Box" 21 "MailChain$Box" "starts" "[I" ∈ tb := tbc_1 217 rfl rfl
theorem w_218 : Cond.fieldLink "MailChain$Box" 25 "MailChain$Box" "sizes" "[I" ∈ tb := tbc_1 218 rfl rfl
theorem w_219 : Cond.fieldLink "MailChain$Box" 37 "MailChain$Box" "line" "LMailChain$PartLine;" ∈ tb := tbc_1 219 rfl rfl
theorem w_220 : Cond.fieldLink "MailChain$Box" 41 "MailChain$Box" "n" "I" ∈ tb := tbc_1 220 rfl rfl
theorem w_221 : Cond.fieldLink "MailChain$Box" 45 "MailChain$Box" "bytes" "I" ∈ tb := tbc_1 221 rfl rfl
theorem w_222 : Cond.fieldLink "MailChain$Box" 48 "MailChain$Box" "count" "I" ∈ tb := tbc_1 222 rfl rfl
theorem w_223 : Cond.fieldLink "MailChain" 213 "MailChain$Box" "count" "I" ∈ tb := tbc_1 223 rfl rfl
theorem w_245 : Cond.fieldLink "MailChain$Squeezer" 9 "MailChain$Squeezer" "firstChild" "[I" ∈ tb := tbc_2 5 rfl rfl
theorem w_246 : Cond.fieldLink "MailChain$Squeezer" 15 "MailChain$Squeezer" "nextChild" "[I" ∈ tb := tbc_2 6 rfl rfl
theorem w_247 : Cond.fieldLink "MailChain$Squeezer" 18 "MailChain$Squeezer" "lastByte" "[I" ∈ tb := tbc_2 7 rfl rfl
theorem w_248 : Cond.fieldLink "MailChain$Squeezer" 59 "MailChain$Squeezer" "greatest" "I" ∈ tb := tbc_2 8 rfl rfl
theorem w_249 : Cond.fieldLink "MailChain$Squeezer" 71 "MailChain$Squeezer" "next" "I" ∈ tb := tbc_2 9 rfl rfl
theorem w_250 : Cond.fieldLink "MailChain$Squeezer" 62 "MailChain$Squeezer" "width" "I" ∈ tb := tbc_2 10 rfl rfl
theorem w_251 : Cond.fieldLink "MailChain$Squeezer" 65 "MailChain$Squeezer" "codesOfWidth" "I" ∈ tb := tbc_2 11 rfl rfl
theorem w_252 : Cond.fieldLink "MailChain$Squeezer" 56 "MailChain$Squeezer" "bits" "I" ∈ tb := tbc_2 12 rfl rfl
theorem w_253 : Cond.fieldLink "MailChain$Squeezer" 53 "MailChain$Squeezer" "bitCount" "I" ∈ tb := tbc_2 13 rfl rfl
theorem w_279 : Cond.fieldLink "MailChain$Expander" 9 "MailChain$Expander" "starts" "[I" ∈ tb := tbc_2 39 rfl rfl
theorem w_280 : Cond.fieldLink "MailChain$Expander" 15 "MailChain$Expander" "sizes" "[I" ∈ tb := tbc_2 40 rfl rfl
theorem w_281 : Cond.fieldLink "MailChain$Expander" 27 "MailChain$Expander" "greatest" "I" ∈ tb := tbc_2 41 rfl rfl
theorem w_282 : Cond.fieldLink "MailChain$Expander" 38 "MailChain$Expander" "next" "I" ∈ tb := tbc_2 42 rfl rfl
theorem w_283 : Cond.fieldLink "MailChain$Expander" 52 "MailChain$Expander" "width" "I" ∈ tb := tbc_2 43 rfl rfl
theorem w_284 : Cond.fieldLink "MailChain$Expander" 55 "MailChain$Expander" "codesOfWidth" "I" ∈ tb := tbc_2 44 rfl rfl
theorem w_285 : Cond.fieldLink "MailChain$Expander" 58 "MailChain$Expander" "groupStart" "I" ∈ tb := tbc_2 45 rfl rfl
theorem w_304 : Cond.fieldLink "MailChain" 14 "MailChain" "tape" "LMailChain$Row;" ∈ tb := tbc_2 64 rfl rfl
theorem w_305 : Cond.fieldLink "MailChain" 21 "MailChain" "mine" "LMailChain$Tree;" ∈ tb := tbc_2 65 rfl rfl
theorem w_306 : Cond.fieldLink "MailChain" 25 "MailChain" "yours" "LMailChain$Tree;" ∈ tb := tbc_2 66 rfl rfl
theorem w_307 : Cond.fieldLink "MailChain" 28 "MailChain" "draftOfYours" "LMailChain$Tree;" ∈ tb := tbc_2 67 rfl rfl
theorem w_308 : Cond.fieldLink "MailChain" 31 "MailChain" "archive" "LMailChain$Row;" ∈ tb := tbc_2 68 rfl rfl
theorem w_309 : Cond.fieldLink "MailChain" 34 "MailChain" "archiveIsFresh" "Z" ∈ tb := tbc_2 69 rfl rfl
theorem w_311 : Cond.fieldLink "MailChain" 48 "MailChain" "box" "LMailChain$Box;" ∈ tb := tbc_2 71 rfl rfl
theorem w_312 : Cond.fieldLink "MailChain" 55 "MailChain" "squeezer" "LMailChain$Squeezer;" ∈ tb := tbc_2 72 rfl rfl
theorem w_313 : Cond.fieldLink "MailChain" 62 "MailChain" "expander" "LMailChain$Expander;" ∈ tb := tbc_2 73 rfl rfl
theorem w_314 : Cond.fieldLink "MailChain" 66 "MailChain" "plain" "LMailChain$Row;" ∈ tb := tbc_2 74 rfl rfl
theorem w_315 : Cond.fieldLink "MailChain" 70 "MailChain" "squeezed" "LMailChain$Row;" ∈ tb := tbc_2 75 rfl rfl
theorem w_316 : Cond.fieldLink "MailChain" 74 "MailChain" "text" "LMailChain$Row;" ∈ tb := tbc_2 76 rfl rfl
theorem w_317 : Cond.fieldLink "MailChain" 78 "MailChain" "proof" "LMailChain$Row;" ∈ tb := tbc_2 77 rfl rfl
theorem w_351 : Cond.methodLink "MailChain" 156 y_Tr_wipe ∈ tb := tbc_2 111 rfl rfl
theorem w_352 : Cond.instanceMethod y_Tr_wipe ∈ tb := tbc_2 112 rfl rfl
theorem w_353 : Cond.selects "MailChain$Tree" y_Tr_wipe y_Tr_wipe ∈ tb := tbc_2 113 rfl rfl
theorem w_354 : Cond.code y_Tr_wipe b_Tr_wipe 1 none ∈ tb := tbc_2 114 rfl rfl
theorem w_355 : Cond.methodLink "MailChain$Tree" 34 y_Ro_wipe ∈ tb := tbc_2 115 rfl rfl
theorem w_356 : Cond.instanceMethod y_Ro_wipe ∈ tb := tbc_2 116 rfl rfl
theorem w_357 : Cond.selects "MailChain$Row" y_Ro_wipe y_Ro_wipe ∈ tb := tbc_2 117 rfl rfl
theorem w_358 : Cond.code y_Ro_wipe b_Ro_wipe 1 none ∈ tb := tbc_2 118 rfl rfl
theorem w_363 : Cond.methodLink "MailChain" 193 y_Ro_sum ∈ tb := tbc_2 123 rfl rfl
theorem w_364 : Cond.instanceMethod y_Ro_sum ∈ tb := tbc_2 124 rfl rfl
theorem w_365 : Cond.selects "MailChain$Row" y_Ro_sum y_Ro_sum ∈ tb := tbc_2 125 rfl rfl
theorem w_366 : Cond.code y_Ro_sum b_Ro_sum 5 (some FieldType.int) ∈ tb := tbc_2 126 rfl rfl
theorem w_367 : Cond.methodLink "MailChain$Row" 55 y_Ro_at ∈ tb := tbc_2 127 rfl rfl
theorem w_368 : Cond.instanceMethod y_Ro_at ∈ tb := tbc_2 128 rfl rfl
theorem w_369 : Cond.selects "MailChain$Row" y_Ro_at y_Ro_at ∈ tb := tbc_2 129 rfl rfl
theorem w_370 : Cond.code y_Ro_at b_Ro_at 2 (some FieldType.int) ∈ tb := tbc_2 130 rfl rfl
theorem w_371 : Cond.methodLink "MailChain$Row" 63 y_Ro_divide ∈ tb := tbc_2 131 rfl rfl
theorem w_372 : Cond.static y_Ro_divide ∈ tb := tbc_2 132 rfl rfl
theorem w_373 : Cond.code y_Ro_divide b_Ro_divide 3 (some FieldType.int) ∈ tb := tbc_2 133 rfl rfl
theorem w_374 : Cond.fieldLink "MailChain$Row" 67 "MailChain$Row" "REMAINDERS" "[I" ∈ tb := tbc_2 134 rfl rfl
theorem w_376 : Cond.methodLink "MailChain" 144 y_Ro_wipe ∈ tb := tbc_2 136 rfl rfl
theorem w_381 : Cond.methodLink "MailChain" 197 y_Bo_take ∈ tb := tbc_2 141 rfl rfl
theorem w_382 : Cond.instanceMethod y_Bo_take ∈ tb := tbc_2 142 rfl rfl
theorem w_383 : Cond.selects "MailChain$Box" y_Bo_take y_Bo_take ∈ tb := tbc_2 143 rfl rfl
theorem w_384 : Cond.code y_Bo_take b_Bo_take 2 (some FieldType.int) ∈ tb := tbc_2 144 rfl rfl
theorem w_385 : Cond.methodLink "MailChain$Box" 54 y_Pl_read ∈ tb := tbc_2 145 rfl rfl
theorem w_386 : Cond.instanceMethod y_Pl_read ∈ tb := tbc_2 146 rfl rfl
theorem w_387 : Cond.selects "MailChain$PartLine" y_Pl_read y_Pl_read ∈ tb := tbc_2 147 rfl rfl
theorem w_388 : Cond.code y_Pl_read b_Pl_read 3 (some FieldType.boolean) ∈ tb := tbc_2 148 rfl rfl
theorem w_390 : Cond.constantLong "MailChain$PartLine" 17 999 ∈ tb := tbc_2 150 rfl rfl
theorem w_391 : Cond.methodLink "MailChain$PartLine" 19 y_Pl_number ∈ tb := tbc_2 151 rfl rfl
theorem w_393 : Cond.instanceMethod y_Pl_number ∈ tb := tbc_2 153 rfl rfl
theorem w_394 : Cond.code y_Pl_number b_Pl_number 9 (some FieldType.long) ∈ tb := tbc_2 154 rfl rfl
theorem w_395 : Cond.methodLink "MailChain$PartLine" 54 y_Ro_hasText ∈ tb := tbc_2 155 rfl rfl
theorem w_396 : Cond.instanceMethod y_Ro_hasText ∈ tb := tbc_2 156 rfl rfl
theorem w_397 : Cond.selects "MailChain$Row" y_Ro_hasText y_Ro_hasText ∈ tb := tbc_2 157 rfl rfl
theorem w_398 : Cond.code y_Ro_hasText b_Ro_hasText 4 (some FieldType.boolean) ∈ tb := tbc_2 158 rfl rfl
theorem w_399 : Cond.methodLink "MailChain$Row" 40 y_JString_length ∈ tb := tbc_2 159 rfl rfl
theorem w_400 : Cond.instanceMethod y_JString_length ∈ tb := tbc_2 160 rfl rfl
theorem w_401 : Cond.selects "java/lang/String" y_JString_length y_JString_length ∈ tb := tbc_2 161 rfl rfl
theorem w_402 : Cond.code y_JString_length b_JString_length 1 (some FieldType.int) ∈ tb := tbc_2 162 rfl rfl
theorem w_403 : Cond.methodLink "java/lang/String" 335 y_JString_coder ∈ tb := tbc_2 163 rfl rfl
theorem w_404 : Cond.instanceMethod y_JString_coder ∈ tb := tbc_2 164 rfl rfl
theorem w_405 : Cond.selects "java/lang/String" y_JString_coder y_JString_coder ∈ tb := tbc_2 165 rfl rfl
theorem w_406 : Cond.code y_JString_coder b_JString_coder 1 (some FieldType.byte) ∈ tb := tbc_2 166 rfl rfl
theorem w_407 : Cond.fieldLink "java/lang/String" 38 "java/lang/String" "COMPACT_STRINGS" "Z" ∈ tb := tbc_2 167 rfl rfl
theorem w_409 : Cond.methodLink "MailChain$Row" 45 y_JString_charAt ∈ tb := tbc_2 169 rfl rfl
theorem w_410 : Cond.instanceMethod y_JString_charAt ∈ tb := tbc_2 170 rfl rfl
theorem w_411 : Cond.selects "java/lang/String" y_JString_charAt y_JString_charAt ∈ tb := tbc_2 171 rfl rfl
theorem w_412 : Cond.code y_JString_charAt b_JString_charAt 2 (some FieldType.char) ∈ tb := tbc_2 172 rfl rfl
theorem w_413 : Cond.methodLink "java/lang/String" 492 y_JString_isLatin1 ∈ tb := tbc_2 173 rfl rfl
theorem w_414 : Cond.instanceMethod y_JString_isLatin1 ∈ tb := tbc_2 174 rfl rfl
theorem w_415 : Cond.selects "java/lang/String" y_JString_isLatin1 y_JString_isLatin1 ∈ tb := tbc_2 175 rfl rfl
theorem w_416 : Cond.code y_JString_isLatin1 b_JString_isLatin1 1 (some FieldType.boolean) ∈ tb := tbc_2 176 rfl rfl
theorem w_417 : Cond.methodLink "java/lang/String" 495 y_JStringLatin1_charAt ∈ tb := tbc_2 177 rfl rfl
theorem w_418 : Cond.static y_JStringLatin1_charAt ∈ tb := tbc_2 178 rfl rfl
theorem w_419 : Cond.code y_JStringLatin1_charAt b_JStringLatin1_charAt 2 (some FieldType.char) ∈ tb := tbc_2 179 rfl rfl
theorem w_420 : Cond.methodLink "java/lang/StringLatin1" 9 y_JString_checkIndex ∈ tb := tbc_2 180 rfl rfl
theorem w_421 : Cond.static y_JString_checkIndex ∈ tb := tbc_2 181 rfl rfl
theorem w_422 : Cond.code y_JString_checkIndex b_JString_checkIndex 2 none ∈ tb := tbc_2 182 rfl rfl
theorem w_423 : Cond.fieldLink "java/lang/String" 1053 "jdk/internal/util/Preconditions" "SIOOBE_FORMATTER" "Ljava/util/function/BiFunction;" ∈ tb := tbc_2 183 rfl rfl
theorem w_425 : Cond.methodLink "java/lang/String" 1059 y_JPreconditions_checkIndex ∈ tb := tbc_2 185 rfl rfl
theorem w_426 : Cond.static y_JPreconditions_checkIndex ∈ tb := tbc_2 186 rfl rfl
theorem w_427 : Cond.code y_JPreconditions_checkIndex b_JPreconditions_checkIndex 3 (some FieldType.int) ∈ tb := tbc_2 187 rfl rfl
theorem w_447 : Cond.constantLong "MailChain$PartLine" 52 (-1) ∈ tb := tbc_2 207 rfl rfl
theorem w_448 : Cond.methodLink "MailChain$PartLine" 58 y_JString_length ∈ tb := tbc_2 208 rfl rfl
theorem w_449 : Cond.methodLink "MailChain$PartLine" 46 y_Ro_at ∈ tb := tbc_2 209 rfl rfl
theorem w_450 : Cond.methodLink "MailChain$PartLine" 64 y_Pl_isDigit ∈ tb := tbc_2 210 rfl rfl
theorem w_451 : Cond.static y_Pl_isDigit ∈ tb := tbc_2 211 rfl rfl
theorem w_452 : Cond.code y_Pl_isDigit b_Pl_isDigit 1 (some FieldType.boolean) ∈ tb := tbc_2 212 rfl rfl
theorem w_453 : Cond.constantLong "MailChain$PartLine" 68 10 ∈ tb := tbc_2 213 rfl rfl
theorem w_454 : Cond.constantLong "MailChain$PartLine" 70 48 ∈ tb := tbc_2 214 rfl rfl
theorem w_457 : Cond.constantLong "MailChain$PartLine" 33 48000 ∈ tb := tbc_2 217 rfl rfl
theorem w_459 : Cond.constantLong "MailChain$PartLine" 40 4294967295 ∈ tb := tbc_2 219 rfl rfl
theorem w_460 : Cond.methodLink "MailChain$Box" 69 y_Ro_sum ∈ tb := tbc_2 220 rfl rfl
theorem w_461 : Cond.constantLong "MailChain$Box" 73 4294967295 ∈ tb := tbc_2 221 rfl rfl
theorem w_462 : Cond.methodLink "MailChain$Box" 78 y_Bo_keep ∈ tb := tbc_2 222 rfl rfl
theorem w_463 : Cond.instanceMethod y_Bo_keep ∈ tb := tbc_2 223 rfl rfl
theorem w_464 : Cond.selects "MailChain$Box" y_Bo_keep y_Bo_keep ∈ tb := tbc_2 224 rfl rfl
theorem w_465 : Cond.code y_Bo_keep b_Bo_keep 5 none ∈ tb := tbc_2 225 rfl rfl
theorem w_466 : Cond.methodLink "MailChain$Box" 82 y_Ro_putRange ∈ tb := tbc_2 226 rfl rfl
theorem w_467 : Cond.instanceMethod y_Ro_putRange ∈ tb := tbc_2 227 rfl rfl
theorem w_468 : Cond.selects "MailChain$Row" y_Ro_putRange y_Ro_putRange ∈ tb := tbc_2 228 rfl rfl
theorem w_469 : Cond.code y_Ro_putRange b_Ro_putRange 5 none ∈ tb := tbc_2 229 rfl rfl
theorem w_470 : Cond.methodLink "MailChain$Row" 23 y_Ro_room ∈ tb := tbc_2 230 rfl rfl
theorem w_471 : Cond.instanceMethod y_Ro_room ∈ tb := tbc_2 231 rfl rfl
theorem w_472 : Cond.selects "MailChain$Row" y_Ro_room y_Ro_room ∈ tb := tbc_2 232 rfl rfl
theorem w_473 : Cond.code y_Ro_room b_Ro_room 1 (some FieldType.int) ∈ tb := tbc_2 233 rfl rfl
theorem w_474 : Cond.methodLink "MailChain$Row" 27 arraycopyName ∈ tb := tbc_2 234 rfl rfl
theorem w_475 : Cond.static arraycopyName ∈ tb := tbc_2 235 rfl rfl
theorem w_476 : Cond.native arraycopyName ∈ tb := tbc_2 236 rfl rfl
theorem w_481 : Cond.methodLink "MailChain" 205 y_Bo_wipe ∈ tb := tbc_3 1 rfl rfl
theorem w_482 : Cond.instanceMethod y_Bo_wipe ∈ tb := tbc_3 2 rfl rfl
theorem w_483 : Cond.selects "MailChain$Box" y_Bo_wipe y_Bo_wipe ∈ tb := tbc_3 3 rfl rfl
theorem w_484 : Cond.code y_Bo_wipe b_Bo_wipe 1 none ∈ tb := tbc_3 4 rfl rfl
theorem w_485 : Cond.methodLink "MailChain$Box" 51 y_Ro_wipe ∈ tb := tbc_3 5 rfl rfl
theorem w_490 : Cond.methodLink "MailChain" 214 y_Bo_isWhole ∈ tb := tbc_3 10 rfl rfl
theorem w_491 : Cond.instanceMethod y_Bo_isWhole ∈ tb := tbc_3 11 rfl rfl
theorem w_492 : Cond.selects "MailChain$Box" y_Bo_isWhole y_Bo_isWhole ∈ tb := tbc_3 12 rfl rfl
theorem w_493 : Cond.code y_Bo_isWhole b_Bo_isWhole 1 (some FieldType.boolean) ∈ tb := tbc_3 13 rfl rfl
theorem w_494 : Cond.methodLink "MailChain" 218 y_Bo_join ∈ tb := tbc_3 14 rfl rfl
theorem w_495 : Cond.instanceMethod y_Bo_join ∈ tb := tbc_3 15 rfl rfl
theorem w_496 : Cond.selects "MailChain$Box" y_Bo_join y_Bo_join ∈ tb := tbc_3 16 rfl rfl
theorem w_497 : Cond.code y_Bo_join b_Bo_join 3 (some FieldType.boolean) ∈ tb := tbc_3 17 rfl rfl
theorem w_498 : Cond.methodLink "MailChain" 222 y_Sp_read ∈ tb := tbc_3 18 rfl rfl
theorem w_499 : Cond.static y_Sp_read ∈ tb := tbc_3 19 rfl rfl
theorem w_500 : Cond.code y_Sp_read b_Sp_read 4 none ∈ tb := tbc_3 20 rfl rfl
theorem w_501 : Cond.methodLink "MailChain$Spelling" 9 y_Ro_wipe ∈ tb := tbc_3 21 rfl rfl
theorem w_503 : Cond.methodLink "MailChain$Spelling" 52 y_JString_length ∈ tb := tbc_3 23 rfl rfl
theorem w_504 : Cond.methodLink "MailChain$Spelling" 46 y_Ro_at ∈ tb := tbc_3 24 rfl rfl
theorem w_505 : Cond.methodLink "MailChain$Spelling" 58 y_Sp_sixOf ∈ tb := tbc_3 25 rfl rfl
theorem w_506 : Cond.static y_Sp_sixOf ∈ tb := tbc_3 26 rfl rfl
theorem w_507 : Cond.code y_Sp_sixOf b_Sp_sixOf 1 (some FieldType.int) ∈ tb := tbc_3 27 rfl rfl
theorem w_508 : Cond.methodLink "MailChain$Spelling" 61 y_Sp_readLine ∈ tb := tbc_3 28 rfl rfl
theorem w_509 : Cond.static y_Sp_readLine ∈ tb := tbc_3 29 rfl rfl
theorem w_510 : Cond.code y_Sp_readLine b_Sp_readLine 7 none ∈ tb := tbc_3 30 rfl rfl
theorem w_511 : Cond.methodLink "MailChain$Spelling" 42 y_Ro_put ∈ tb := tbc_3 31 rfl rfl
theorem w_512 : Cond.instanceMethod y_Ro_put ∈ tb := tbc_3 32 rfl rfl
theorem w_513 : Cond.selects "MailChain$Row" y_Ro_put y_Ro_put ∈ tb := tbc_3 33 rfl rfl
theorem w_514 : Cond.code y_Ro_put b_Ro_put 2 none ∈ tb := tbc_3 34 rfl rfl
theorem w_515 : Cond.methodLink "MailChain" 167 y_Sp_write ∈ tb := tbc_3 35 rfl rfl
theorem w_516 : Cond.static y_Sp_write ∈ tb := tbc_3 36 rfl rfl
theorem w_517 : Cond.code y_Sp_write b_Sp_write 3 none ∈ tb := tbc_3 37 rfl rfl
theorem w_518 : Cond.methodLink "MailChain$Spelling" 18 y_Ro_putText ∈ tb := tbc_3 38 rfl rfl
theorem w_519 : Cond.instanceMethod y_Ro_putText ∈ tb := tbc_3 39 rfl rfl
theorem w_520 : Cond.selects "MailChain$Row" y_Ro_putText y_Ro_putText ∈ tb := tbc_3 40 rfl rfl
theorem w_521 : Cond.code y_Ro_putText b_Ro_putText 3 none ∈ tb := tbc_3 41 rfl rfl
theorem w_522 : Cond.methodLink "MailChain$Row" 49 y_Ro_put ∈ tb := tbc_3 42 rfl rfl
theorem w_523 : Cond.methodLink "MailChain$Spelling" 26 Lib.Math.min.name ∈ tb := tbc_3 43 rfl rfl
theorem w_524 : Cond.static Lib.Math.min.name ∈ tb := tbc_3 44 rfl rfl
theorem w_525 : Cond.code Lib.Math.min.name Lib.Math.min.code 2 (some .int) ∈ tb := tbc_3 45 rfl rfl
theorem w_526 : Cond.methodLink "MailChain$Spelling" 32 y_Sp_writeLine ∈ tb := tbc_3 46 rfl rfl
theorem w_527 : Cond.static y_Sp_writeLine ∈ tb := tbc_3 47 rfl rfl
theorem w_528 : Cond.code y_Sp_writeLine b_Sp_writeLine 7 none ∈ tb := tbc_3 48 rfl rfl
theorem w_529 : Cond.methodLink "MailChain$Spelling" 38 y_Sp_letter ∈ tb := tbc_3 49 rfl rfl
theorem w_530 : Cond.static y_Sp_letter ∈ tb := tbc_3 50 rfl rfl
theorem w_531 : Cond.code y_Sp_letter b_Sp_letter 1 (some FieldType.int) ∈ tb := tbc_3 51 rfl rfl
theorem w_532 : Cond.methodLink "MailChain$Spelling" 49 Lib.Math.max.name ∈ tb := tbc_3 52 rfl rfl
theorem w_533 : Cond.static Lib.Math.max.name ∈ tb := tbc_3 53 rfl rfl
theorem w_534 : Cond.code Lib.Math.max.name Lib.Math.max.code 2 (some .int) ∈ tb := tbc_3 54 rfl rfl
theorem w_536 : Cond.methodLink "MailChain" 225 y_Ro_same ∈ tb := tbc_3 56 rfl rfl
theorem w_537 : Cond.instanceMethod y_Ro_same ∈ tb := tbc_3 57 rfl rfl
theorem w_538 : Cond.selects "MailChain$Row" y_Ro_same y_Ro_same ∈ tb := tbc_3 58 rfl rfl
theorem w_539 : Cond.code y_Ro_same b_Ro_same 2 (some FieldType.boolean) ∈ tb := tbc_3 59 rfl rfl
theorem w_540 : Cond.methodLink "MailChain$Row" 59 y_Ro_order ∈ tb := tbc_3 60 rfl rfl
theorem w_541 : Cond.instanceMethod y_Ro_order ∈ tb := tbc_3 61 rfl rfl
theorem w_542 : Cond.selects "MailChain$Row" y_Ro_order y_Ro_order ∈ tb := tbc_3 62 rfl rfl
theorem w_543 : Cond.code y_Ro_order b_Ro_order 5 (some FieldType.int) ∈ tb := tbc_3 63 rfl rfl
theorem w_544 : Cond.methodLink "MailChain" 228 y_Ex_expand ∈ tb := tbc_3 64 rfl rfl
theorem w_545 : Cond.instanceMethod y_Ex_expand ∈ tb := tbc_3 65 rfl rfl
theorem w_546 : Cond.selects "MailChain$Expander" y_Ex_expand y_Ex_expand ∈ tb := tbc_3 66 rfl rfl
theorem w_547 : Cond.code y_Ex_expand b_Ex_expand 7 (some FieldType.boolean) ∈ tb := tbc_3 67 rfl rfl
theorem w_548 : Cond.methodLink "MailChain$Expander" 18 y_Ro_wipe ∈ tb := tbc_3 68 rfl rfl
theorem w_549 : Cond.methodLink "MailChain$Expander" 23 y_Ro_at ∈ tb := tbc_3 69 rfl rfl
theorem w_551 : Cond.static y_Mc_isWidth ∈ tb := tbc_3 71 rfl rfl
theorem w_552 : Cond.code y_Mc_isWidth b_Mc_isWidth 1 (some FieldType.boolean) ∈ tb := tbc_3 72 rfl rfl
theorem w_553 : Cond.methodLink "MailChain$Expander" 35 y_Ex_begin ∈ tb := tbc_3 73 rfl rfl
theorem w_555 : Cond.instanceMethod y_Ex_begin ∈ tb := tbc_3 75 rfl rfl
theorem w_556 : Cond.code y_Ex_begin b_Ex_begin 1 none ∈ tb := tbc_3 76 rfl rfl
theorem w_557 : Cond.methodLink "MailChain$Expander" 41 y_Ex_readCode ∈ tb := tbc_3 77 rfl rfl
theorem w_559 : Cond.instanceMethod y_Ex_readCode ∈ tb := tbc_3 79 rfl rfl
theorem w_560 : Cond.code y_Ex_readCode b_Ex_readCode 5 (some FieldType.int) ∈ tb := tbc_3 80 rfl rfl
theorem w_561 : Cond.methodLink "MailChain$Expander" 61 y_Ex_changeWidth ∈ tb := tbc_3 81 rfl rfl
theorem w_563 : Cond.instanceMethod y_Ex_changeWidth ∈ tb := tbc_3 83 rfl rfl
theorem w_564 : Cond.code y_Ex_changeWidth b_Ex_changeWidth 2 none ∈ tb := tbc_3 84 rfl rfl
theorem w_565 : Cond.methodLink "MailChain$Expander" 68 Lib.Math.max.name ∈ tb := tbc_3 85 rfl rfl
theorem w_566 : Cond.methodLink "MailChain$Expander" 45 y_Ex_tell ∈ tb := tbc_3 86 rfl rfl
theorem w_568 : Cond.instanceMethod y_Ex_tell ∈ tb := tbc_3 88 rfl rfl
theorem w_569 : Cond.code y_Ex_tell b_Ex_tell 6 (some FieldType.boolean) ∈ tb := tbc_3 89 rfl rfl
theorem w_570 : Cond.methodLink "MailChain$Expander" 74 y_Ro_room ∈ tb := tbc_3 90 rfl rfl
theorem w_571 : Cond.methodLink "MailChain$Expander" 78 y_Ro_put ∈ tb := tbc_3 91 rfl rfl
theorem w_572 : Cond.methodLink "MailChain$Expander" 49 y_Ex_restart ∈ tb := tbc_3 92 rfl rfl
theorem w_574 : Cond.instanceMethod y_Ex_restart ∈ tb := tbc_3 94 rfl rfl
theorem w_575 : Cond.code y_Ex_restart b_Ex_restart 1 none ∈ tb := tbc_3 95 rfl rfl
theorem w_576 : Cond.methodLink "MailChain" 188 y_Ro_at ∈ tb := tbc_3 96 rfl rfl
theorem w_577 : Cond.methodLink "MailChain" 163 y_Sq_squeeze ∈ tb := tbc_3 97 rfl rfl
theorem w_578 : Cond.instanceMethod y_Sq_squeeze ∈ tb := tbc_3 98 rfl rfl
theorem w_579 : Cond.selects "MailChain$Squeezer" y_Sq_squeeze y_Sq_squeeze ∈ tb := tbc_3 99 rfl rfl
theorem w_580 : Cond.code y_Sq_squeeze b_Sq_squeeze 8 none ∈ tb := tbc_3 100 rfl rfl
theorem w_581 : Cond.methodLink "MailChain$Squeezer" 21 y_Ro_wipe ∈ tb := tbc_3 101 rfl rfl
theorem w_582 : Cond.methodLink "MailChain$Squeezer" 26 y_Ro_put ∈ tb := tbc_3 102 rfl rfl
theorem w_583 : Cond.methodLink "MailChain$Squeezer" 30 y_Sq_begin ∈ tb := tbc_3 103 rfl rfl
theorem w_585 : Cond.instanceMethod y_Sq_begin ∈ tb := tbc_3 105 rfl rfl
theorem w_586 : Cond.code y_Sq_begin b_Sq_begin 2 none ∈ tb := tbc_3 106 rfl rfl
theorem w_587 : Cond.methodLink "MailChain$Squeezer" 68 y_Sq_forget ∈ tb := tbc_3 107 rfl rfl
theorem w_589 : Cond.instanceMethod y_Sq_forget ∈ tb := tbc_3 109 rfl rfl
theorem w_590 : Cond.code y_Sq_forget b_Sq_forget 1 none ∈ tb := tbc_3 110 rfl rfl
theorem w_591 : Cond.methodLink "MailChain$Squeezer" 74 y_JArrays_fillx ∈ tb := tbc_3 111 rfl rfl
theorem w_592 : Cond.static y_JArrays_fillx ∈ tb := tbc_3 112 rfl rfl
theorem w_593 : Cond.code y_JArrays_fillx b_JArrays_fillx 5 none ∈ tb := tbc_3 113 rfl rfl
theorem w_594 : Cond.methodLink "java/util/Arrays" 13 y_JArrays_rangeCheck ∈ tb := tbc_3 114 rfl rfl
theorem w_595 : Cond.static y_JArrays_rangeCheck ∈ tb := tbc_3 115 rfl rfl
theorem w_596 : Cond.code y_JArrays_rangeCheck b_JArrays_rangeCheck 3 none ∈ tb := tbc_3 116 rfl rfl
theorem w_865 : Cond.fieldLink "java/lang/String" 9 "java/lang/String" "value" "[B" ∈ tb := tbc_4 145 rfl rfl
theorem w_866 : Cond.fieldLink "java/lang/String" 15 "java/lang/String" "coder" "B" ∈ tb := tbc_4 146 rfl rfl
theorem w_898 : Cond.methodLink "MailChain$Squeezer" 33 y_Ro_at ∈ tb := tbc_4 178 rfl rfl
theorem w_899 : Cond.methodLink "MailChain$Squeezer" 41 y_Sq_childOf ∈ tb := tbc_4 179 rfl rfl
theorem w_901 : Cond.instanceMethod y_Sq_childOf ∈ tb := tbc_4 181 rfl rfl
theorem w_902 : Cond.code y_Sq_childOf b_Sq_childOf 5 (some FieldType.int) ∈ tb := tbc_4 182 rfl rfl
theorem w_903 : Cond.methodLink "MailChain$Squeezer" 45 y_Sq_putCode ∈ tb := tbc_4 183 rfl rfl
theorem w_905 : Cond.instanceMethod y_Sq_putCode ∈ tb := tbc_4 185 rfl rfl
theorem w_906 : Cond.code y_Sq_putCode b_Sq_putCode 3 none ∈ tb := tbc_4 186 rfl rfl
theorem w_907 : Cond.methodLink "MailChain$Squeezer" 80 y_Sq_changeWidth ∈ tb := tbc_4 187 rfl rfl
theorem w_909 : Cond.instanceMethod y_Sq_changeWidth ∈ tb := tbc_4 189 rfl rfl
theorem w_910 : Cond.code y_Sq_changeWidth b_Sq_changeWidth 5 none ∈ tb := tbc_4 190 rfl rfl
theorem w_911 : Cond.methodLink "MailChain$Squeezer" 83 y_Sq_putBits ∈ tb := tbc_4 191 rfl rfl
theorem w_913 : Cond.instanceMethod y_Sq_putBits ∈ tb := tbc_4 193 rfl rfl
theorem w_914 : Cond.code y_Sq_putBits b_Sq_putBits 3 none ∈ tb := tbc_4 194 rfl rfl
theorem w_915 : Cond.methodLink "MailChain$Squeezer" 49 y_Sq_learn ∈ tb := tbc_4 195 rfl rfl
theorem w_917 : Cond.instanceMethod y_Sq_learn ∈ tb := tbc_4 197 rfl rfl
theorem w_918 : Cond.code y_Sq_learn b_Sq_learn 4 none ∈ tb := tbc_4 198 rfl rfl
theorem w_919 : Cond.methodLink "MailChain" 232 y_Ar_read ∈ tb := tbc_4 199 rfl rfl
theorem w_920 : Cond.static y_Ar_read ∈ tb := tbc_4 200 rfl rfl
theorem w_921 : Cond.code y_Ar_read b_Ar_read 4 (some FieldType.boolean) ∈ tb := tbc_4 201 rfl rfl
theorem w_922 : Cond.methodLink "MailChain$Archive" 97 y_Tr_wipe ∈ tb := tbc_4 202 rfl rfl
theorem w_924 : Cond.methodLink "MailChain$Archive" 98 y_Ro_hasText ∈ tb := tbc_4 204 rfl rfl
theorem w_925 : Cond.methodLink "MailChain$Archive" 102 y_Ar_readEntry ∈ tb := tbc_4 205 rfl rfl
theorem w_926 : Cond.static y_Ar_readEntry ∈ tb := tbc_4 206 rfl rfl
theorem w_927 : Cond.code y_Ar_readEntry b_Ar_readEntry 11 (some FieldType.int) ∈ tb := tbc_4 207 rfl rfl
theorem w_928 : Cond.methodLink "MailChain$Archive" 106 y_Ar_octal ∈ tb := tbc_4 208 rfl rfl
theorem w_929 : Cond.static y_Ar_octal ∈ tb := tbc_4 209 rfl rfl
theorem w_930 : Cond.code y_Ar_octal b_Ar_octal 7 (some FieldType.int) ∈ tb := tbc_4 210 rfl rfl
theorem w_931 : Cond.methodLink "MailChain$Archive" 130 y_Ro_at ∈ tb := tbc_4 211 rfl rfl
theorem w_932 : Cond.constantLong "MailChain$Archive" 133 8 ∈ tb := tbc_4 212 rfl rfl
theorem w_933 : Cond.constantLong "MailChain$Archive" 135 2147483647 ∈ tb := tbc_4 213 rfl rfl
theorem w_934 : Cond.methodLink "MailChain$Archive" 110 y_Tr_draft ∈ tb := tbc_4 214 rfl rfl
theorem w_935 : Cond.instanceMethod y_Tr_draft ∈ tb := tbc_4 215 rfl rfl
theorem w_936 : Cond.selects "MailChain$Tree" y_Tr_draft y_Tr_draft ∈ tb := tbc_4 216 rfl rfl
theorem w_937 : Cond.code y_Tr_draft b_Tr_draft 1 (some (FieldType.object "MailChain$Entry")) ∈ tb := tbc_4 217 rfl rfl
theorem w_938 : Cond.methodLink "MailChain$Archive" 114 y_Ro_copy ∈ tb := tbc_4 218 rfl rfl
theorem w_939 : Cond.instanceMethod y_Ro_copy ∈ tb := tbc_4 219 rfl rfl
theorem w_940 : Cond.selects "MailChain$Row" y_Ro_copy y_Ro_copy ∈ tb := tbc_4 220 rfl rfl
theorem w_941 : Cond.code y_Ro_copy b_Ro_copy 4 none ∈ tb := tbc_4 221 rfl rfl
theorem w_942 : Cond.methodLink "MailChain$Row" 33 y_Ro_wipe ∈ tb := tbc_4 222 rfl rfl
theorem w_943 : Cond.methodLink "MailChain$Row" 36 y_Ro_putRange ∈ tb := tbc_4 223 rfl rfl
theorem w_944 : Cond.methodLink "MailChain$Archive" 117 y_Ar_readFields ∈ tb := tbc_4 224 rfl rfl
theorem w_945 : Cond.static y_Ar_readFields ∈ tb := tbc_4 225 rfl rfl
theorem w_946 : Cond.code y_Ar_readFields b_Ar_readFields 4 none ∈ tb := tbc_4 226 rfl rfl
theorem w_947 : Cond.methodLink "MailChain$Archive" 127 y_Ar_kindOf ∈ tb := tbc_4 227 rfl rfl
theorem w_948 : Cond.static y_Ar_kindOf ∈ tb := tbc_4 228 rfl rfl
theorem w_949 : Cond.code y_Ar_kindOf b_Ar_kindOf 2 (some FieldType.int) ∈ tb := tbc_4 229 rfl rfl
theorem w_950 : Cond.methodLink "MailChain$Archive" 80 y_Ar_kindDigits ∈ tb := tbc_4 230 rfl rfl
theorem w_951 : Cond.static y_Ar_kindDigits ∈ tb := tbc_4 231 rfl rfl
theorem w_952 : Cond.code y_Ar_kindDigits b_Ar_kindDigits 1 (some FieldType.int) ∈ tb := tbc_4 232 rfl rfl
theorem w_953 : Cond.methodLink "MailChain$Archive" 121 y_Tr_enter ∈ tb := tbc_4 233 rfl rfl
theorem w_954 : Cond.instanceMethod y_Tr_enter ∈ tb := tbc_4 234 rfl rfl
theorem w_955 : Cond.selects "MailChain$Tree" y_Tr_enter y_Tr_enter ∈ tb := tbc_4 235 rfl rfl
theorem w_956 : Cond.code y_Tr_enter b_Tr_enter 6 (some FieldType.int) ∈ tb := tbc_4 236 rfl rfl
theorem w_957 : Cond.methodLink "MailChain$Tree" 37 y_Tr_draft ∈ tb := tbc_4 237 rfl rfl
theorem w_958 : Cond.methodLink "MailChain$Tree" 41 y_En_hasSoundFields ∈ tb := tbc_4 238 rfl rfl
theorem w_959 : Cond.instanceMethod y_En_hasSoundFields ∈ tb := tbc_4 239 rfl rfl
theorem w_960 : Cond.selects "MailChain$Entry" y_En_hasSoundFields y_En_hasSoundFields ∈ tb := tbc_5 0 rfl rfl
theorem w_961 : Cond.code y_En_hasSoundFields b_En_hasSoundFields 1 (some FieldType.boolean) ∈ tb := tbc_5 1 rfl rfl
theorem w_962 : Cond.methodLink "MailChain$Tree" 48 y_Tr_isBody ∈ tb := tbc_5 2 rfl rfl
theorem w_963 : Cond.static y_Tr_isBody ∈ tb := tbc_5 3 rfl rfl
theorem w_964 : Cond.code y_Tr_isBody b_Tr_isBody 4 (some FieldType.boolean) ∈ tb := tbc_5 4 rfl rfl
theorem w_965 : Cond.methodLink "MailChain$Tree" 78 y_Tr_isTarget ∈ tb := tbc_5 5 rfl rfl
theorem w_966 : Cond.static y_Tr_isTarget ∈ tb := tbc_5 6 rfl rfl
theorem w_967 : Cond.code y_Tr_isTarget b_Tr_isTarget 4 (some FieldType.boolean) ∈ tb := tbc_5 7 rfl rfl
theorem w_968 : Cond.methodLink "MailChain$Tree" 82 y_Ro_at ∈ tb := tbc_5 8 rfl rfl
theorem w_969 : Cond.methodLink "MailChain$Tree" 62 y_Tr_insertDraft ∈ tb := tbc_5 9 rfl rfl
theorem w_971 : Cond.instanceMethod y_Tr_insertDraft ∈ tb := tbc_5 11 rfl rfl
theorem w_972 : Cond.code y_Tr_insertDraft b_Tr_insertDraft 5 (some FieldType.int) ∈ tb := tbc_5 12 rfl rfl
theorem w_973 : Cond.methodLink "MailChain$Tree" 86 y_En_hasSoundPath ∈ tb := tbc_5 13 rfl rfl
theorem w_974 : Cond.instanceMethod y_En_hasSoundPath ∈ tb := tbc_5 14 rfl rfl
theorem w_975 : Cond.selects "MailChain$Entry" y_En_hasSoundPath y_En_hasSoundPath ∈ tb := tbc_5 15 rfl rfl
theorem w_976 : Cond.code y_En_hasSoundPath b_En_hasSoundPath 4 (some FieldType.boolean) ∈ tb := tbc_5 16 rfl rfl
theorem w_977 : Cond.methodLink "MailChain$Entry" 46 y_Ro_at ∈ tb := tbc_5 17 rfl rfl
theorem w_978 : Cond.methodLink "MailChain$Entry" 50 y_En_isName ∈ tb := tbc_5 18 rfl rfl
theorem w_980 : Cond.instanceMethod y_En_isName ∈ tb := tbc_5 20 rfl rfl
theorem w_981 : Cond.code y_En_isName b_En_isName 4 (some FieldType.boolean) ∈ tb := tbc_5 21 rfl rfl
theorem w_982 : Cond.methodLink "MailChain$Tree" 89 y_Tr_hasParentOf ∈ tb := tbc_5 22 rfl rfl
theorem w_984 : Cond.instanceMethod y_Tr_hasParentOf ∈ tb := tbc_5 24 rfl rfl
theorem w_985 : Cond.code y_Tr_hasParentOf b_Tr_hasParentOf 4 (some FieldType.boolean) ∈ tb := tbc_5 25 rfl rfl
theorem w_986 : Cond.methodLink "MailChain$Tree" 104 y_En_parentSize ∈ tb := tbc_5 26 rfl rfl
theorem w_987 : Cond.instanceMethod y_En_parentSize ∈ tb := tbc_5 27 rfl rfl
theorem w_988 : Cond.selects "MailChain$Entry" y_En_parentSize y_En_parentSize ∈ tb := tbc_5 28 rfl rfl
theorem w_989 : Cond.code y_En_parentSize b_En_parentSize 3 (some FieldType.int) ∈ tb := tbc_5 29 rfl rfl
theorem w_990 : Cond.methodLink "MailChain$Tree" 96 y_Tr_placeOf ∈ tb := tbc_5 30 rfl rfl
theorem w_992 : Cond.instanceMethod y_Tr_placeOf ∈ tb := tbc_5 32 rfl rfl
theorem w_993 : Cond.code y_Tr_placeOf b_Tr_placeOf 4 (some FieldType.int) ∈ tb := tbc_5 33 rfl rfl
theorem w_994 : Cond.methodLink "MailChain$Tree" 107 y_Ro_order ∈ tb := tbc_5 34 rfl rfl
theorem w_995 : Cond.methodLink "MailChain$Tree" 70 y_Tr_has ∈ tb := tbc_5 35 rfl rfl
theorem w_996 : Cond.instanceMethod y_Tr_has ∈ tb := tbc_5 36 rfl rfl
theorem w_997 : Cond.selects "MailChain$Tree" y_Tr_has y_Tr_has ∈ tb := tbc_5 37 rfl rfl
theorem w_998 : Cond.code y_Tr_has b_Tr_has 2 (some FieldType.boolean) ∈ tb := tbc_5 38 rfl rfl
theorem w_999 : Cond.methodLink "MailChain$Tree" 100 y_Ro_same ∈ tb := tbc_5 39 rfl rfl
theorem w_1000 : Cond.methodLink "MailChain$Tree" 66 y_Ro_putRange ∈ tb := tbc_5 40 rfl rfl
theorem w_1001 : Cond.methodLink "MailChain$Archive" 124 y_Tr_enterLink ∈ tb := tbc_5 41 rfl rfl
theorem w_1002 : Cond.instanceMethod y_Tr_enterLink ∈ tb := tbc_5 42 rfl rfl
theorem w_1003 : Cond.selects "MailChain$Tree" y_Tr_enterLink y_Tr_enterLink ∈ tb := tbc_5 43 rfl rfl
theorem w_1004 : Cond.code y_Tr_enterLink b_Tr_enterLink 2 (some FieldType.int) ∈ tb := tbc_5 44 rfl rfl
theorem w_1005 : Cond.methodLink "MailChain$Tree" 74 y_En_becomeLinkOf ∈ tb := tbc_5 45 rfl rfl
theorem w_1006 : Cond.instanceMethod y_En_becomeLinkOf ∈ tb := tbc_5 46 rfl rfl
theorem w_1007 : Cond.selects "MailChain$Entry" y_En_becomeLinkOf y_En_becomeLinkOf ∈ tb := tbc_5 47 rfl rfl
theorem w_1008 : Cond.code y_En_becomeLinkOf b_En_becomeLinkOf 2 none ∈ tb := tbc_5 48 rfl rfl
theorem w_1009 : Cond.methodLink "MailChain" 178 y_Ar_write ∈ tb := tbc_5 49 rfl rfl
theorem w_1010 : Cond.static y_Ar_write ∈ tb := tbc_5 50 rfl rfl
theorem w_1011 : Cond.code y_Ar_write b_Ar_write 4 none ∈ tb := tbc_5 51 rfl rfl
theorem w_1012 : Cond.methodLink "MailChain$Archive" 9 y_Ro_wipe ∈ tb := tbc_5 52 rfl rfl
theorem w_1013 : Cond.methodLink "MailChain$Archive" 14 y_Tr_hasArchive ∈ tb := tbc_5 53 rfl rfl
theorem w_1014 : Cond.instanceMethod y_Tr_hasArchive ∈ tb := tbc_5 54 rfl rfl
theorem w_1015 : Cond.selects "MailChain$Tree" y_Tr_hasArchive y_Tr_hasArchive ∈ tb := tbc_5 55 rfl rfl
theorem w_1016 : Cond.code y_Tr_hasArchive b_Tr_hasArchive 3 (some FieldType.boolean) ∈ tb := tbc_5 56 rfl rfl
theorem w_1017 : Cond.constant "MailChain$Tree" 113 262143 ∈ tb := tbc_5 57 rfl rfl
theorem w_1018 : Cond.methodLink "MailChain$Archive" 28 y_Tr_firstLinkOf ∈ tb := tbc_5 58 rfl rfl
theorem w_1019 : Cond.instanceMethod y_Tr_firstLinkOf ∈ tb := tbc_5 59 rfl rfl
theorem w_1020 : Cond.selects "MailChain$Tree" y_Tr_firstLinkOf y_Tr_firstLinkOf ∈ tb := tbc_5 60 rfl rfl
theorem w_1021 : Cond.code y_Tr_firstLinkOf b_Tr_firstLinkOf 3 (some FieldType.int) ∈ tb := tbc_5 61 rfl rfl
theorem w_1022 : Cond.methodLink "MailChain$Archive" 32 y_Tr_linksOf ∈ tb := tbc_5 62 rfl rfl
theorem w_1023 : Cond.instanceMethod y_Tr_linksOf ∈ tb := tbc_5 63 rfl rfl
theorem w_1024 : Cond.selects "MailChain$Tree" y_Tr_linksOf y_Tr_linksOf ∈ tb := tbc_5 64 rfl rfl
theorem w_1025 : Cond.code y_Tr_linksOf b_Tr_linksOf 4 (some FieldType.int) ∈ tb := tbc_5 65 rfl rfl
theorem w_1026 : Cond.methodLink "MailChain$Archive" 35 y_Ar_writeHeader ∈ tb := tbc_5 66 rfl rfl
theorem w_1027 : Cond.static y_Ar_writeHeader ∈ tb := tbc_5 67 rfl rfl
theorem w_1028 : Cond.code y_Ar_writeHeader b_Ar_writeHeader 4 none ∈ tb := tbc_5 68 rfl rfl
theorem w_1030 : Cond.methodLink "MailChain$Archive" 67 y_Ro_putText ∈ tb := tbc_5 70 rfl rfl
theorem w_1031 : Cond.methodLink "MailChain$Archive" 73 y_Ro_putOctal ∈ tb := tbc_5 71 rfl rfl
theorem w_1032 : Cond.instanceMethod y_Ro_putOctal ∈ tb := tbc_5 72 rfl rfl
theorem w_1033 : Cond.selects "MailChain$Row" y_Ro_putOctal y_Ro_putOctal ∈ tb := tbc_5 73 rfl rfl
theorem w_1034 : Cond.code y_Ro_putOctal b_Ro_putOctal 4 none ∈ tb := tbc_5 74 rfl rfl
theorem w_1036 : Cond.methodLink "MailChain$Archive" 50 y_Ro_putRange ∈ tb := tbc_5 76 rfl rfl
theorem w_1037 : Cond.methodLink "MailChain$Archive" 54 y_Ro_put ∈ tb := tbc_5 77 rfl rfl
theorem w_1038 : Cond.methodLink "MailChain" 235 y_Mc_swapYours ∈ tb := tbc_5 78 rfl rfl
theorem w_1040 : Cond.instanceMethod y_Mc_swapYours ∈ tb := tbc_5 80 rfl rfl
theorem w_1041 : Cond.code y_Mc_swapYours b_Mc_swapYours 2 none ∈ tb := tbc_5 81 rfl rfl
theorem w_1158 : Cond.methodLink "MailChain$Mail" 38 y_Ro_copy ∈ tb := tbc_5 198 rfl rfl
theorem w_1159 : Cond.methodLink "MailChain$Mail" 42 y_Ma_pieceEnd ∈ tb := tbc_5 199 rfl rfl
theorem w_1161 : Cond.instanceMethod y_Ma_pieceEnd ∈ tb := tbc_5 201 rfl rfl
theorem w_1162 : Cond.code y_Ma_pieceEnd b_Ma_pieceEnd 2 (some FieldType.int) ∈ tb := tbc_5 202 rfl rfl
theorem w_1163 : Cond.methodLink "MailChain$Mail" 83 Lib.Math.min.name ∈ tb := tbc_5 203 rfl rfl
theorem w_1164 : Cond.methodLink "MailChain$Mail" 46 y_Ro_sum ∈ tb := tbc_5 204 rfl rfl
theorem w_1173 : Cond.instanceMethod y_Ma_has ∈ tb := tbc_5 213 rfl rfl
theorem w_1174 : Cond.selects "MailChain$Mail" y_Ma_has y_Ma_has ∈ tb := tbc_5 214 rfl rfl
theorem w_1175 : Cond.code y_Ma_has b_Ma_has 2 (some FieldType.boolean) ∈ tb := tbc_5 215 rfl rfl
theorem w_1180 : Cond.methodLink "MailChain$Mail" 50 y_Ro_wipe ∈ tb := tbc_5 220 rfl rfl
theorem w_1181 : Cond.methodLink "MailChain$Mail" 53 y_Ma_has ∈ tb := tbc_5 221 rfl rfl
theorem w_1183 : Cond.methodLink "MailChain$Mail" 61 y_Ro_putText ∈ tb := tbc_5 223 rfl rfl
theorem w_1184 : Cond.methodLink "MailChain$Mail" 65 y_Ro_putDecimal ∈ tb := tbc_5 224 rfl rfl
theorem w_1185 : Cond.instanceMethod y_Ro_putDecimal ∈ tb := tbc_5 225 rfl rfl
theorem w_1186 : Cond.selects "MailChain$Row" y_Ro_putDecimal y_Ro_putDecimal ∈ tb := tbc_5 226 rfl rfl
theorem w_1187 : Cond.code y_Ro_putDecimal b_Ro_putDecimal 6 none ∈ tb := tbc_5 227 rfl rfl
theorem w_1188 : Cond.constantLong "MailChain$Row" 53 10 ∈ tb := tbc_5 228 rfl rfl
theorem w_1192 : Cond.constantLong "MailChain$Mail" 75 4294967295 ∈ tb := tbc_5 232 rfl rfl
theorem w_1193 : Cond.methodLink "MailChain$Mail" 77 y_Ro_put ∈ tb := tbc_5 233 rfl rfl
theorem w_1194 : Cond.methodLink "MailChain$Mail" 80 y_Ro_putRange ∈ tb := tbc_5 234 rfl rfl
theorem w_1196 : Cond.instanceMethod y_Ro_has ∈ tb := tbc_5 236 rfl rfl
theorem w_1197 : Cond.selects "MailChain$Row" y_Ro_has y_Ro_has ∈ tb := tbc_5 237 rfl rfl
theorem w_1198 : Cond.code y_Ro_has b_Ro_has 2 (some FieldType.boolean) ∈ tb := tbc_5 238 rfl rfl
theorem w_1217 : Cond.methodLink "MailChain$Row" 19 y_Ro_has ∈ tb := tbc_6 17 rfl rfl
theorem w_1241 : Cond.methodLink "MailChain$Tree" 123 y_Tr_firstLinkOf ∈ tb := tbc_6 41 rfl rfl
theorem w_1242 : Cond.methodLink "MailChain$Tree" 126 y_Tr_linksOf ∈ tb := tbc_6 42 rfl rfl
theorem w_1265 : Cond.constant "MailChainModel" 78 40000 ∈ tb := tbc_6 65 rfl rfl
theorem w_1269 : Cond.fieldLink "MailChainModel" 7 "MailChainModel" "trailerName" "[B" ∈ tb := tbc_6 69 rfl rfl
theorem w_1270 : Cond.fieldLink "MailChainModel" 13 "MailChainModel" "beginLine" "[B" ∈ tb := tbc_6 70 rfl rfl
theorem w_1271 : Cond.fieldLink "MailChainModel" 16 "MailChainModel" "partWord" "[B" ∈ tb := tbc_6 71 rfl rfl
theorem w_1272 : Cond.fieldLink "MailChainModel" 19 "MailChainModel" "ofWord" "[B" ∈ tb := tbc_6 72 rfl rfl
theorem w_1273 : Cond.fieldLink "MailChainModel" 22 "MailChainModel" "sizeWord" "[B" ∈ tb := tbc_6 73 rfl rfl
theorem w_1274 : Cond.fieldLink "MailChainModel" 25 "MailChainModel" "sumWord" "[B" ∈ tb := tbc_6 74 rfl rfl
theorem w_1275 : Cond.fieldLink "MailChainModel" 128 "MailChainModel" "thrown" "I" ∈ tb := tbc_6 75 rfl rfl
theorem w_1276 : Cond.fieldLink "MailChainModel" 132 "MailChainModel" "taped" "I" ∈ tb := tbc_6 76 rfl rfl
theorem w_1277 : Cond.fieldLink "MailChainModel" 28 "MailChainModel" "tape" "[B" ∈ tb := tbc_6 77 rfl rfl
theorem w_1278 : Cond.fieldLink "MailChainModel" 31 "MailChainModel" "count" "[I" ∈ tb := tbc_6 78 rfl rfl
theorem w_1279 : Cond.fieldLink "MailChainModel" 35 "MailChainModel" "paths" "[B" ∈ tb := tbc_6 79 rfl rfl
theorem w_1280 : Cond.fieldLink "MailChainModel" 38 "MailChainModel" "pathSize" "[I" ∈ tb := tbc_6 80 rfl rfl
theorem w_1281 : Cond.fieldLink "MailChainModel" 41 "MailChainModel" "kind" "[I" ∈ tb := tbc_6 81 rfl rfl
theorem w_1282 : Cond.fieldLink "MailChainModel" 44 "MailChainModel" "mode" "[I" ∈ tb := tbc_6 82 rfl rfl
theorem w_1283 : Cond.fieldLink "MailChainModel" 47 "MailChainModel" "owner" "[I" ∈ tb := tbc_6 83 rfl rfl
theorem w_1284 : Cond.fieldLink "MailChainModel" 50 "MailChainModel" "group" "[I" ∈ tb := tbc_6 84 rfl rfl
theorem w_1285 : Cond.fieldLink "MailChainModel" 53 "MailChainModel" "time" "[I" ∈ tb := tbc_6 85 rfl rfl
theorem w_1286 : Cond.fieldLink "MailChainModel" 56 "MailChainModel" "from" "[I" ∈ tb := tbc_6 86 rfl rfl
theorem w_1287 : Cond.fieldLink "MailChainModel" 59 "MailChainModel" "size" "[I" ∈ tb := tbc_6 87 rfl rfl
theorem w_1288 : Cond.fieldLink "MailChainModel" 62 "MailChainModel" "linked" "[I" ∈ tb := tbc_6 88 rfl rfl
theorem w_1289 : Cond.fieldLink "MailChainModel" 65 "MailChainModel" "used" "[I" ∈ tb := tbc_6 89 rfl rfl
theorem w_1290 : Cond.fieldLink "MailChainModel" 69 "MailChainModel" "contents" "[B" ∈ tb := tbc_6 90 rfl rfl
theorem w_1291 : Cond.fieldLink "MailChainModel" 182 "MailChainModel" "groups" "I" ∈ tb := tbc_6 91 rfl rfl
theorem w_1292 : Cond.fieldLink "MailChainModel" 72 "MailChainModel" "path" "[B" ∈ tb := tbc_6 92 rfl rfl
theorem w_1293 : Cond.fieldLink "MailChainModel" 135 "MailChainModel" "pathBytes" "I" ∈ tb := tbc_6 93 rfl rfl
theorem w_1294 : Cond.fieldLink "MailChainModel" 195 "MailChainModel" "archived" "I" ∈ tb := tbc_6 94 rfl rfl
theorem w_1295 : Cond.fieldLink "MailChainModel" 75 "MailChainModel" "archive" "[B" ∈ tb := tbc_6 95 rfl rfl
theorem w_1296 : Cond.fieldLink "MailChainModel" 232 "MailChainModel" "compressed" "I" ∈ tb := tbc_6 96 rfl rfl
theorem w_1297 : Cond.fieldLink "MailChainModel" 79 "MailChainModel" "compress" "[B" ∈ tb := tbc_6 97 rfl rfl
theorem w_1298 : Cond.fieldLink "MailChainModel" 274 "MailChainModel" "spelled" "I" ∈ tb := tbc_6 98 rfl rfl
theorem w_1299 : Cond.fieldLink "MailChainModel" 83 "MailChainModel" "spell" "[B" ∈ tb := tbc_6 99 rfl rfl
theorem w_1300 : Cond.fieldLink "MailChainModel" 305 "MailChainModel" "parts" "I" ∈ tb := tbc_6 100 rfl rfl
theorem w_1301 : Cond.fieldLink "MailChainModel" 308 "MailChainModel" "pieceSize" "I" ∈ tb := tbc_6 101 rfl rfl
theorem w_1302 : Cond.fieldLink "MailChainModel" 311 "MailChainModel" "packedSize" "I" ∈ tb := tbc_6 102 rfl rfl
theorem w_1303 : Cond.fieldLink "MailChainModel" 86 "MailChainModel" "packed" "[B" ∈ tb := tbc_6 103 rfl rfl
theorem w_1304 : Cond.fieldLink "MailChainModel" 314 "MailChainModel" "textSize" "I" ∈ tb := tbc_6 104 rfl rfl
theorem w_1305 : Cond.fieldLink "MailChainModel" 89 "MailChainModel" "text" "[B" ∈ tb := tbc_6 105 rfl rfl
theorem w_1306 : Cond.fieldLink "MailChainModel" 360 "MailChainModel" "boxOf" "I" ∈ tb := tbc_6 106 rfl rfl
theorem w_1307 : Cond.fieldLink "MailChainModel" 357 "MailChainModel" "boxParts" "I" ∈ tb := tbc_6 107 rfl rfl
theorem w_1308 : Cond.fieldLink "MailChainModel" 367 "MailChainModel" "boxBytes" "J" ∈ tb := tbc_6 108 rfl rfl
theorem w_1309 : Cond.fieldLink "MailChainModel" 92 "MailChainModel" "has" "[Z" ∈ tb := tbc_6 109 rfl rfl
theorem w_1310 : Cond.fieldLink "MailChainModel" 96 "MailChainModel" "boxSize" "[I" ∈ tb := tbc_6 110 rfl rfl
theorem w_1311 : Cond.fieldLink "MailChainModel" 99 "MailChainModel" "boxFrom" "[I" ∈ tb := tbc_6 111 rfl rfl
theorem w_1312 : Cond.fieldLink "MailChainModel" 371 "MailChainModel" "boxUsed" "I" ∈ tb := tbc_6 112 rfl rfl
theorem w_1313 : Cond.fieldLink "MailChainModel" 103 "MailChainModel" "box" "[B" ∈ tb := tbc_6 113 rfl rfl
theorem w_1314 : Cond.fieldLink "MailChainModel" 259 "MailChainModel" "readSize" "I" ∈ tb := tbc_6 114 rfl rfl
theorem w_1315 : Cond.fieldLink "MailChainModel" 106 "MailChainModel" "read" "[B" ∈ tb := tbc_6 115 rfl rfl
theorem w_1316 : Cond.fieldLink "MailChainModel" 262 "MailChainModel" "backSize" "I" ∈ tb := tbc_6 116 rfl rfl
theorem w_1317 : Cond.fieldLink "MailChainModel" 109 "MailChainModel" "back" "[B" ∈ tb := tbc_6 117 rfl rfl
theorem w_1318 : Cond.fieldLink "MailChainModel" 113 "MailChainModel" "child" "[I" ∈ tb := tbc_6 118 rfl rfl
theorem w_1319 : Cond.fieldLink "MailChainModel" 116 "MailChainModel" "beside" "[I" ∈ tb := tbc_6 119 rfl rfl
theorem w_1320 : Cond.fieldLink "MailChainModel" 119 "MailChainModel" "last" "[I" ∈ tb := tbc_6 120 rfl rfl
theorem w_1321 : Cond.fieldLink "MailChainModel" 122 "MailChainModel" "before" "[I" ∈ tb := tbc_6 121 rfl rfl
theorem w_1322 : Cond.fieldLink "MailChainModel" 222 "MailChainModel" "next" "I" ∈ tb := tbc_6 122 rfl rfl
theorem w_1323 : Cond.fieldLink "MailChainModel" 238 "MailChainModel" "width" "I" ∈ tb := tbc_6 123 rfl rfl
theorem w_1324 : Cond.fieldLink "MailChainModel" 235 "MailChainModel" "codes" "I" ∈ tb := tbc_6 124 rfl rfl
theorem w_1325 : Cond.fieldLink "MailChainModel" 226 "MailChainModel" "bits" "I" ∈ tb := tbc_6 125 rfl rfl
theorem w_1326 : Cond.fieldLink "MailChainModel" 229 "MailChainModel" "bitCount" "I" ∈ tb := tbc_6 126 rfl rfl
theorem w_1327 : Cond.fieldLink "MailChainModel" 256 "MailChainModel" "bitAt" "I" ∈ tb := tbc_6 127 rfl rfl
theorem w_1328 : Cond.fieldLink "MailChainModel" 322 "MailChainModel" "partSize" "I" ∈ tb := tbc_6 128 rfl rfl
theorem w_1329 : Cond.fieldLink "MailChainModel" 125 "MailChainModel" "one" "[B" ∈ tb := tbc_6 129 rfl rfl
theorem w_1330 : Cond.fieldLink "MailChainModel" 338 "MailChainModel" "head" "I" ∈ tb := tbc_6 130 rfl rfl
theorem w_1473 : Cond.methodLink "MailChainModel" 185 y_Mo_added ∈ tb := tbc_7 33 rfl rfl
theorem w_1475 : Cond.instanceMethod y_Mo_added ∈ tb := tbc_7 35 rfl rfl
theorem w_1476 : Cond.code y_Mo_added b_Mo_added 11 (some FieldType.int) ∈ tb := tbc_7 36 rfl rfl
theorem w_1477 : Cond.methodLink "MailChainModel" 156 y_Mo_isNumber ∈ tb := tbc_7 37 rfl rfl
theorem w_1478 : Cond.static y_Mo_isNumber ∈ tb := tbc_7 38 rfl rfl
theorem w_1479 : Cond.code y_Mo_isNumber b_Mo_isNumber 1 (some FieldType.boolean) ∈ tb := tbc_7 39 rfl rfl
theorem w_1480 : Cond.methodLink "MailChainModel" 160 y_Mo_look ∈ tb := tbc_7 40 rfl rfl
theorem w_1482 : Cond.instanceMethod y_Mo_look ∈ tb := tbc_7 42 rfl rfl
theorem w_1483 : Cond.code y_Mo_look b_Mo_look 5 none ∈ tb := tbc_7 43 rfl rfl
theorem w_1484 : Cond.methodLink "MailChainModel" 164 y_Mo_mayBe ∈ tb := tbc_7 44 rfl rfl
theorem w_1486 : Cond.instanceMethod y_Mo_mayBe ∈ tb := tbc_7 46 rfl rfl
theorem w_1487 : Cond.code y_Mo_mayBe b_Mo_mayBe 4 (some FieldType.boolean) ∈ tb := tbc_7 47 rfl rfl
theorem w_1488 : Cond.methodLink "MailChainModel" 152 y_Mo_isTarget ∈ tb := tbc_7 48 rfl rfl
theorem w_1489 : Cond.static y_Mo_isTarget ∈ tb := tbc_7 49 rfl rfl
theorem w_1490 : Cond.code y_Mo_isTarget b_Mo_isTarget 5 (some FieldType.boolean) ∈ tb := tbc_7 50 rfl rfl
theorem w_1491 : Cond.methodLink "MailChainModel" 168 y_Mo_isPath ∈ tb := tbc_7 51 rfl rfl
theorem w_1493 : Cond.instanceMethod y_Mo_isPath ∈ tb := tbc_7 53 rfl rfl
theorem w_1494 : Cond.code y_Mo_isPath b_Mo_isPath 7 (some FieldType.boolean) ∈ tb := tbc_7 54 rfl rfl
theorem w_1495 : Cond.methodLink "MailChainModel" 172 y_Mo_hasParent ∈ tb := tbc_7 55 rfl rfl
theorem w_1497 : Cond.instanceMethod y_Mo_hasParent ∈ tb := tbc_7 57 rfl rfl
theorem w_1498 : Cond.code y_Mo_hasParent b_Mo_hasParent 4 (some FieldType.boolean) ∈ tb := tbc_7 58 rfl rfl
theorem w_1499 : Cond.methodLink "MailChainModel" 145 y_Mo_find ∈ tb := tbc_7 59 rfl rfl
theorem w_1501 : Cond.instanceMethod y_Mo_find ∈ tb := tbc_7 61 rfl rfl
theorem w_1502 : Cond.code y_Mo_find b_Mo_find 5 (some FieldType.int) ∈ tb := tbc_7 62 rfl rfl
theorem w_1503 : Cond.methodLink "MailChainModel" 138 y_Mo_at ∈ tb := tbc_7 63 rfl rfl
theorem w_1504 : Cond.static y_Mo_at ∈ tb := tbc_7 64 rfl rfl
theorem w_1505 : Cond.code y_Mo_at b_Mo_at 2 (some FieldType.int) ∈ tb := tbc_7 65 rfl rfl
theorem w_1506 : Cond.methodLink "MailChainModel" 142 y_Mo_compare ∈ tb := tbc_7 66 rfl rfl
theorem w_1508 : Cond.instanceMethod y_Mo_compare ∈ tb := tbc_7 68 rfl rfl
theorem w_1509 : Cond.code y_Mo_compare b_Mo_compare 6 (some FieldType.int) ∈ tb := tbc_7 69 rfl rfl
theorem w_1510 : Cond.methodLink "MailChainModel" 175 y_Mo_bytesOf ∈ tb := tbc_7 70 rfl rfl
theorem w_1512 : Cond.instanceMethod y_Mo_bytesOf ∈ tb := tbc_7 72 rfl rfl
theorem w_1513 : Cond.code y_Mo_bytesOf b_Mo_bytesOf 4 (some FieldType.int) ∈ tb := tbc_7 73 rfl rfl
theorem w_1514 : Cond.methodLink "MailChainModel" 179 y_Mo_enter ∈ tb := tbc_7 74 rfl rfl
theorem w_1516 : Cond.instanceMethod y_Mo_enter ∈ tb := tbc_7 76 rfl rfl
theorem w_1517 : Cond.code y_Mo_enter b_Mo_enter 5 (some FieldType.int) ∈ tb := tbc_7 77 rfl rfl
theorem w_1518 : Cond.methodLink "MailChainModel" 148 y_Mo_copyEntry ∈ tb := tbc_7 78 rfl rfl
theorem w_1520 : Cond.instanceMethod y_Mo_copyEntry ∈ tb := tbc_7 80 rfl rfl
theorem w_1521 : Cond.code y_Mo_copyEntry b_Mo_copyEntry 4 none ∈ tb := tbc_7 81 rfl rfl
theorem w_1526 : Cond.methodLink "MailChainModel" 192 y_Mo_linkedNow ∈ tb := tbc_7 86 rfl rfl
theorem w_1528 : Cond.instanceMethod y_Mo_linkedNow ∈ tb := tbc_7 88 rfl rfl
theorem w_1529 : Cond.code y_Mo_linkedNow b_Mo_linkedNow 7 (some FieldType.int) ∈ tb := tbc_7 89 rfl rfl
theorem w_1530 : Cond.methodLink "MailChainModel" 189 y_Mo_copyAttributes ∈ tb := tbc_7 90 rfl rfl
theorem w_1532 : Cond.instanceMethod y_Mo_copyAttributes ∈ tb := tbc_7 92 rfl rfl
theorem w_1533 : Cond.code y_Mo_copyAttributes b_Mo_copyAttributes 3 none ∈ tb := tbc_7 93 rfl rfl
theorem w_1542 : Cond.methodLink "MailChainModel" 288 y_Mo_sumOf ∈ tb := tbc_7 102 rfl rfl
theorem w_1543 : Cond.static y_Mo_sumOf ∈ tb := tbc_7 103 rfl rfl
theorem w_1544 : Cond.code y_Mo_sumOf b_Mo_sumOf 5 (some FieldType.int) ∈ tb := tbc_7 104 rfl rfl
theorem w_1545 : Cond.methodLink "MailChainModel" 285 y_Mo_step ∈ tb := tbc_7 105 rfl rfl
theorem w_1546 : Cond.static y_Mo_step ∈ tb := tbc_7 106 rfl rfl
theorem w_1547 : Cond.code y_Mo_step b_Mo_step 4 (some FieldType.int) ∈ tb := tbc_7 107 rfl rfl
theorem w_1548 : Cond.constant "MailChainModel" 284 79764919 ∈ tb := tbc_7 108 rfl rfl
theorem w_1553 : Cond.methodLink "MailChainModel" 292 y_Mo_isLarge ∈ tb := tbc_7 113 rfl rfl
theorem w_1555 : Cond.instanceMethod y_Mo_isLarge ∈ tb := tbc_7 115 rfl rfl
theorem w_1556 : Cond.code y_Mo_isLarge b_Mo_isLarge 4 (some FieldType.boolean) ∈ tb := tbc_7 116 rfl rfl
theorem w_1557 : Cond.constant "MailChainModel" 221 262143 ∈ tb := tbc_7 117 rfl rfl
theorem w_1558 : Cond.methodLink "MailChainModel" 295 y_Mo_archiveOf ∈ tb := tbc_7 118 rfl rfl
theorem w_1560 : Cond.instanceMethod y_Mo_archiveOf ∈ tb := tbc_7 120 rfl rfl
theorem w_1561 : Cond.code y_Mo_archiveOf b_Mo_archiveOf 6 none ∈ tb := tbc_7 121 rfl rfl
theorem w_1562 : Cond.constant "MailChainModel" 209 32768 ∈ tb := tbc_7 122 rfl rfl
theorem w_1563 : Cond.constant "MailChainModel" 210 40960 ∈ tb := tbc_7 123 rfl rfl
theorem w_1564 : Cond.methodLink "MailChainModel" 206 y_Mo_firstOf ∈ tb := tbc_7 124 rfl rfl
theorem w_1566 : Cond.instanceMethod y_Mo_firstOf ∈ tb := tbc_7 126 rfl rfl
theorem w_1567 : Cond.code y_Mo_firstOf b_Mo_firstOf 7 (some FieldType.int) ∈ tb := tbc_7 127 rfl rfl
theorem w_1568 : Cond.methodLink "MailChainModel" 211 y_Mo_linksOf ∈ tb := tbc_7 128 rfl rfl
theorem w_1570 : Cond.instanceMethod y_Mo_linksOf ∈ tb := tbc_7 130 rfl rfl
theorem w_1571 : Cond.code y_Mo_linksOf b_Mo_linksOf 6 (some FieldType.int) ∈ tb := tbc_7 131 rfl rfl
theorem w_1572 : Cond.methodLink "MailChainModel" 214 y_Mo_header ∈ tb := tbc_7 132 rfl rfl
theorem w_1574 : Cond.instanceMethod y_Mo_header ∈ tb := tbc_7 134 rfl rfl
theorem w_1575 : Cond.code y_Mo_header b_Mo_header 9 none ∈ tb := tbc_7 135 rfl rfl
theorem w_1576 : Cond.constantLong "MailChainModel" 200 29127 ∈ tb := tbc_7 136 rfl rfl
theorem w_1577 : Cond.methodLink "MailChainModel" 202 y_Mo_octal ∈ tb := tbc_7 137 rfl rfl
theorem w_1579 : Cond.instanceMethod y_Mo_octal ∈ tb := tbc_7 139 rfl rfl
theorem w_1580 : Cond.code y_Mo_octal b_Mo_octal 5 none ∈ tb := tbc_7 140 rfl rfl
theorem w_1581 : Cond.constantLong "MailChainModel" 198 7 ∈ tb := tbc_7 141 rfl rfl
theorem w_1582 : Cond.methodLink "MailChainModel" 218 y_Mo_zero ∈ tb := tbc_7 142 rfl rfl
theorem w_1584 : Cond.instanceMethod y_Mo_zero ∈ tb := tbc_7 144 rfl rfl
theorem w_1585 : Cond.code y_Mo_zero b_Mo_zero 1 none ∈ tb := tbc_7 145 rfl rfl
theorem w_1586 : Cond.methodLink "MailChainModel" 298 y_Mo_compressRow ∈ tb := tbc_7 146 rfl rfl
theorem w_1588 : Cond.instanceMethod y_Mo_compressRow ∈ tb := tbc_7 148 rfl rfl
theorem w_1589 : Cond.code y_Mo_compressRow b_Mo_compressRow 7 none ∈ tb := tbc_7 149 rfl rfl
theorem w_1590 : Cond.methodLink "MailChainModel" 247 y_Mo_clearTable ∈ tb := tbc_7 150 rfl rfl
theorem w_1592 : Cond.instanceMethod y_Mo_clearTable ∈ tb := tbc_7 152 rfl rfl
theorem w_1593 : Cond.code y_Mo_clearTable b_Mo_clearTable 2 none ∈ tb := tbc_7 153 rfl rfl
theorem w_1594 : Cond.constant "MailChainModel" 225 65536 ∈ tb := tbc_7 154 rfl rfl
theorem w_1595 : Cond.methodLink "MailChainModel" 250 y_Mo_goOn ∈ tb := tbc_7 155 rfl rfl
theorem w_1597 : Cond.instanceMethod y_Mo_goOn ∈ tb := tbc_7 157 rfl rfl
theorem w_1598 : Cond.code y_Mo_goOn b_Mo_goOn 4 (some FieldType.int) ∈ tb := tbc_7 158 rfl rfl
theorem w_1599 : Cond.methodLink "MailChainModel" 253 y_Mo_putCode ∈ tb := tbc_7 159 rfl rfl
theorem w_1601 : Cond.instanceMethod y_Mo_putCode ∈ tb := tbc_7 161 rfl rfl
theorem w_1602 : Cond.code y_Mo_putCode b_Mo_putCode 3 none ∈ tb := tbc_7 162 rfl rfl
theorem w_1603 : Cond.methodLink "MailChainModel" 244 y_Mo_fill ∈ tb := tbc_7 163 rfl rfl
theorem w_1605 : Cond.instanceMethod y_Mo_fill ∈ tb := tbc_7 165 rfl rfl
theorem w_1606 : Cond.code y_Mo_fill b_Mo_fill 1 none ∈ tb := tbc_7 166 rfl rfl
theorem w_1607 : Cond.methodLink "MailChainModel" 241 y_Mo_putBits ∈ tb := tbc_7 167 rfl rfl
theorem w_1609 : Cond.instanceMethod y_Mo_putBits ∈ tb := tbc_7 169 rfl rfl
theorem w_1610 : Cond.code y_Mo_putBits b_Mo_putBits 4 none ∈ tb := tbc_7 170 rfl rfl
theorem w_1611 : Cond.methodLink "MailChainModel" 301 y_Mo_spellRow ∈ tb := tbc_7 171 rfl rfl
theorem w_1613 : Cond.instanceMethod y_Mo_spellRow ∈ tb := tbc_7 173 rfl rfl
theorem w_1614 : Cond.code y_Mo_spellRow b_Mo_spellRow 9 none ∈ tb := tbc_7 174 rfl rfl
theorem w_1615 : Cond.methodLink "MailChainModel" 277 y_Mo_lay ∈ tb := tbc_7 175 rfl rfl
theorem w_1617 : Cond.instanceMethod y_Mo_lay ∈ tb := tbc_7 177 rfl rfl
theorem w_1618 : Cond.code y_Mo_lay b_Mo_lay 2 none ∈ tb := tbc_7 178 rfl rfl
theorem w_1619 : Cond.methodLink "MailChainModel" 281 y_Mo_six ∈ tb := tbc_7 179 rfl rfl
theorem w_1621 : Cond.instanceMethod y_Mo_six ∈ tb := tbc_7 181 rfl rfl
theorem w_1622 : Cond.code y_Mo_six b_Mo_six 2 none ∈ tb := tbc_7 182 rfl rfl
theorem w_1627 : Cond.methodLink "MailChainModel" 335 y_Mo_writePart ∈ tb := tbc_7 187 rfl rfl
theorem w_1629 : Cond.instanceMethod y_Mo_writePart ∈ tb := tbc_7 189 rfl rfl
theorem w_1630 : Cond.code y_Mo_writePart b_Mo_writePart 5 none ∈ tb := tbc_7 190 rfl rfl
theorem w_1631 : Cond.methodLink "MailChainModel" 325 y_Mo_putWord ∈ tb := tbc_7 191 rfl rfl
theorem w_1633 : Cond.instanceMethod y_Mo_putWord ∈ tb := tbc_7 193 rfl rfl
theorem w_1634 : Cond.code y_Mo_putWord b_Mo_putWord 3 none ∈ tb := tbc_7 194 rfl rfl
theorem w_1635 : Cond.methodLink "MailChainModel" 317 y_Mo_putChar ∈ tb := tbc_7 195 rfl rfl
theorem w_1637 : Cond.instanceMethod y_Mo_putChar ∈ tb := tbc_7 197 rfl rfl
theorem w_1638 : Cond.code y_Mo_putChar b_Mo_putChar 2 none ∈ tb := tbc_7 198 rfl rfl
theorem w_1639 : Cond.methodLink "MailChainModel" 329 y_Mo_putDecimal ∈ tb := tbc_7 199 rfl rfl
theorem w_1641 : Cond.instanceMethod y_Mo_putDecimal ∈ tb := tbc_7 201 rfl rfl
theorem w_1642 : Cond.code y_Mo_putDecimal b_Mo_putDecimal 5 none ∈ tb := tbc_7 202 rfl rfl
theorem w_1643 : Cond.constantLong "MailChainModel" 320 10 ∈ tb := tbc_7 203 rfl rfl
theorem w_1644 : Cond.constantLong "MailChainModel" 333 4294967295 ∈ tb := tbc_7 204 rfl rfl
theorem w_1653 : Cond.methodLink "MailChainModel" 374 y_Mo_come ∈ tb := tbc_7 213 rfl rfl
theorem w_1655 : Cond.instanceMethod y_Mo_come ∈ tb := tbc_7 215 rfl rfl
theorem w_1656 : Cond.code y_Mo_come b_Mo_come 11 (some FieldType.int) ∈ tb := tbc_7 216 rfl rfl
theorem w_1657 : Cond.methodLink "MailChainModel" 345 y_Mo_word ∈ tb := tbc_7 217 rfl rfl
theorem w_1659 : Cond.instanceMethod y_Mo_word ∈ tb := tbc_7 219 rfl rfl
theorem w_1660 : Cond.code y_Mo_word b_Mo_word 4 (some FieldType.boolean) ∈ tb := tbc_7 220 rfl rfl
theorem w_1661 : Cond.methodLink "MailChainModel" 349 y_Mo_decimal ∈ tb := tbc_7 221 rfl rfl
theorem w_1663 : Cond.instanceMethod y_Mo_decimal ∈ tb := tbc_7 223 rfl rfl
theorem w_1664 : Cond.code y_Mo_decimal b_Mo_decimal 7 (some FieldType.long) ∈ tb := tbc_7 224 rfl rfl
theorem w_1665 : Cond.constantLong "MailChainModel" 341 48 ∈ tb := tbc_7 225 rfl rfl
theorem w_1666 : Cond.constantLong "MailChainModel" 343 (-1) ∈ tb := tbc_7 226 rfl rfl
theorem w_1667 : Cond.constantLong "MailChainModel" 353 48000 ∈ tb := tbc_7 227 rfl rfl
theorem w_1668 : Cond.constantLong "MailChainModel" 355 999 ∈ tb := tbc_7 228 rfl rfl
theorem w_1669 : Cond.methodLink "MailChainModel" 363 y_Mo_keep ∈ tb := tbc_7 229 rfl rfl
theorem w_1671 : Cond.instanceMethod y_Mo_keep ∈ tb := tbc_7 231 rfl rfl
theorem w_1672 : Cond.code y_Mo_keep b_Mo_keep 7 none ∈ tb := tbc_7 232 rfl rfl
theorem w_1681 : Cond.methodLink "MailChainModel" 378 y_Mo_emptyBox ∈ tb := tbc_8 1 rfl rfl
theorem w_1683 : Cond.instanceMethod y_Mo_emptyBox ∈ tb := tbc_8 3 rfl rfl
theorem w_1684 : Cond.code y_Mo_emptyBox b_Mo_emptyBox 2 none ∈ tb := tbc_8 4 rfl rfl
theorem w_1693 : Cond.methodLink "MailChainModel" 409 y_Mo_unpacked ∈ tb := tbc_8 13 rfl rfl
theorem w_1695 : Cond.instanceMethod y_Mo_unpacked ∈ tb := tbc_8 15 rfl rfl
theorem w_1696 : Cond.code y_Mo_unpacked b_Mo_unpacked 4 (some FieldType.int) ∈ tb := tbc_8 16 rfl rfl
theorem w_1697 : Cond.methodLink "MailChainModel" 396 y_Mo_unspell ∈ tb := tbc_8 17 rfl rfl
theorem w_1699 : Cond.instanceMethod y_Mo_unspell ∈ tb := tbc_8 19 rfl rfl
theorem w_1700 : Cond.code y_Mo_unspell b_Mo_unspell 7 none ∈ tb := tbc_8 20 rfl rfl
theorem w_1701 : Cond.methodLink "MailChainModel" 399 y_Mo_areSame ∈ tb := tbc_8 21 rfl rfl
theorem w_1702 : Cond.static y_Mo_areSame ∈ tb := tbc_8 22 rfl rfl
theorem w_1703 : Cond.code y_Mo_areSame b_Mo_areSame 6 (some FieldType.boolean) ∈ tb := tbc_8 23 rfl rfl
theorem w_1704 : Cond.methodLink "MailChainModel" 403 y_Mo_expand ∈ tb := tbc_8 24 rfl rfl
theorem w_1706 : Cond.instanceMethod y_Mo_expand ∈ tb := tbc_8 26 rfl rfl
theorem w_1707 : Cond.code y_Mo_expand b_Mo_expand 7 (some FieldType.boolean) ∈ tb := tbc_8 27 rfl rfl
theorem w_1708 : Cond.methodLink "MailChainModel" 265 y_Mo_code ∈ tb := tbc_8 28 rfl rfl
theorem w_1710 : Cond.instanceMethod y_Mo_code ∈ tb := tbc_8 30 rfl rfl
theorem w_1711 : Cond.code y_Mo_code b_Mo_code 5 (some FieldType.int) ∈ tb := tbc_8 31 rfl rfl
theorem w_1712 : Cond.methodLink "MailChainModel" 268 y_Mo_firstByte ∈ tb := tbc_8 32 rfl rfl
theorem w_1714 : Cond.instanceMethod y_Mo_firstByte ∈ tb := tbc_8 34 rfl rfl
theorem w_1715 : Cond.code y_Mo_firstByte b_Mo_firstByte 3 (some FieldType.int) ∈ tb := tbc_8 35 rfl rfl
theorem w_1716 : Cond.methodLink "MailChainModel" 271 y_Mo_layString ∈ tb := tbc_8 36 rfl rfl
theorem w_1718 : Cond.instanceMethod y_Mo_layString ∈ tb := tbc_8 38 rfl rfl
theorem w_1719 : Cond.code y_Mo_layString b_Mo_layString 5 (some FieldType.boolean) ∈ tb := tbc_8 39 rfl rfl
theorem w_1720 : Cond.methodLink "MailChainModel" 406 y_Mo_readTree ∈ tb := tbc_8 40 rfl rfl
theorem w_1722 : Cond.instanceMethod y_Mo_readTree ∈ tb := tbc_8 42 rfl rfl
theorem w_1723 : Cond.code y_Mo_readTree b_Mo_readTree 10 (some FieldType.boolean) ∈ tb := tbc_8 43 rfl rfl
theorem w_1724 : Cond.methodLink "MailChainModel" 381 y_Mo_octalAt ∈ tb := tbc_8 44 rfl rfl
theorem w_1726 : Cond.instanceMethod y_Mo_octalAt ∈ tb := tbc_8 46 rfl rfl
theorem w_1727 : Cond.code y_Mo_octalAt b_Mo_octalAt 6 (some FieldType.long) ∈ tb := tbc_8 47 rfl rfl
theorem w_1728 : Cond.constantLong "MailChainModel" 385 6000 ∈ tb := tbc_8 48 rfl rfl
theorem w_1729 : Cond.constantLong "MailChainModel" 387 2147483647 ∈ tb := tbc_8 49 rfl rfl
theorem w_1730 : Cond.methodLink "MailChainModel" 389 y_Mo_take ∈ tb := tbc_8 50 rfl rfl
theorem w_1732 : Cond.instanceMethod y_Mo_take ∈ tb := tbc_8 52 rfl rfl
theorem w_1733 : Cond.code y_Mo_take b_Mo_take 9 none ∈ tb := tbc_8 53 rfl rfl
theorem w_1734 : Cond.methodLink "MailChainModel" 393 y_Mo_areLinks ∈ tb := tbc_8 54 rfl rfl
theorem w_1736 : Cond.instanceMethod y_Mo_areLinks ∈ tb := tbc_8 56 rfl rfl
theorem w_1737 : Cond.code y_Mo_areLinks b_Mo_areLinks 6 (some FieldType.boolean) ∈ tb := tbc_8 57 rfl rfl
theorem ws_0 : Cond.selects "MailChain$PartLine" y_Pl_number y_Pl_number ∈ tb := tb_in (List.mem_append_left _ (List.mem_of_getElem? (i := 0) rfl)) rfl
theorem ws_1 : Cond.selects "MailChain$Expander" y_Ex_begin y_Ex_begin ∈ tb := tb_in (List.mem_append_left _ (List.mem_of_getElem? (i := 1) rfl)) rfl
theorem ws_2 : Cond.selects "MailChain$Expander" y_Ex_readCode y_Ex_readCode ∈ tb := tb_in (List.mem_append_left _ (List.mem_of_getElem? (i := 2) rfl)) rfl
theorem ws_3 : Cond.selects "MailChain$Expander" y_Ex_changeWidth y_Ex_changeWidth ∈ tb := tb_in (List.mem_append_left _ (List.mem_of_getElem? (i := 3) rfl)) rfl
theorem ws_4 : Cond.selects "MailChain$Expander" y_Ex_tell y_Ex_tell ∈ tb := tb_in (List.mem_append_left _ (List.mem_of_getElem? (i := 4) rfl)) rfl
theorem ws_5 : Cond.selects "MailChain$Expander" y_Ex_restart y_Ex_restart ∈ tb := tb_in (List.mem_append_left _ (List.mem_of_getElem? (i := 5) rfl)) rfl
theorem ws_6 : Cond.selects "MailChain$Squeezer" y_Sq_begin y_Sq_begin ∈ tb := tb_in (List.mem_append_left _ (List.mem_of_getElem? (i := 6) rfl)) rfl
theorem ws_7 : Cond.selects "MailChain$Squeezer" y_Sq_forget y_Sq_forget ∈ tb := tb_in (List.mem_append_left _ (List.mem_of_getElem? (i := 7) rfl)) rfl
theorem ws_9 : Cond.selects "MailChain$Squeezer" y_Sq_childOf y_Sq_childOf ∈ tb := tb_in (List.mem_append_left _ (List.mem_of_getElem? (i := 9) rfl)) rfl
theorem ws_10 : Cond.selects "MailChain$Squeezer" y_Sq_putCode y_Sq_putCode ∈ tb := tb_in (List.mem_append_left _ (List.mem_of_getElem? (i := 10) rfl)) rfl
theorem ws_11 : Cond.selects "MailChain$Squeezer" y_Sq_changeWidth y_Sq_changeWidth ∈ tb := tb_in (List.mem_append_left _ (List.mem_of_getElem? (i := 11) rfl)) rfl
theorem ws_12 : Cond.selects "MailChain$Squeezer" y_Sq_putBits y_Sq_putBits ∈ tb := tb_in (List.mem_append_left _ (List.mem_of_getElem? (i := 12) rfl)) rfl
theorem ws_13 : Cond.selects "MailChain$Squeezer" y_Sq_learn y_Sq_learn ∈ tb := tb_in (List.mem_append_left _ (List.mem_of_getElem? (i := 13) rfl)) rfl
theorem ws_14 : Cond.selects "MailChain$Tree" y_Tr_insertDraft y_Tr_insertDraft ∈ tb := tb_in (List.mem_append_left _ (List.mem_of_getElem? (i := 14) rfl)) rfl
theorem ws_15 : Cond.selects "MailChain$Entry" y_En_isName y_En_isName ∈ tb := tb_in (List.mem_append_left _ (List.mem_of_getElem? (i := 15) rfl)) rfl
theorem ws_16 : Cond.selects "MailChain$Tree" y_Tr_hasParentOf y_Tr_hasParentOf ∈ tb := tb_in (List.mem_append_left _ (List.mem_of_getElem? (i := 16) rfl)) rfl
theorem ws_17 : Cond.selects "MailChain$Tree" y_Tr_placeOf y_Tr_placeOf ∈ tb := tb_in (List.mem_append_left _ (List.mem_of_getElem? (i := 17) rfl)) rfl
theorem ws_18 : Cond.selects "MailChain" y_Mc_swapYours y_Mc_swapYours ∈ tb := tb_in (List.mem_append_left _ (List.mem_of_getElem? (i := 18) rfl)) rfl
theorem ws_21 : Cond.selects "MailChain$Mail" y_Ma_pieceEnd y_Ma_pieceEnd ∈ tb := tb_in (List.mem_append_left _ (List.mem_of_getElem? (i := 21) rfl)) rfl
theorem ws_23 : Cond.selects "MailChainModel" y_Mo_added y_Mo_added ∈ tb := tb_in (List.mem_append_left _ (List.mem_of_getElem? (i := 23) rfl)) rfl
theorem ws_24 : Cond.selects "MailChainModel" y_Mo_look y_Mo_look ∈ tb := tb_in (List.mem_append_left _ (List.mem_of_getElem? (i := 24) rfl)) rfl
theorem ws_25 : Cond.selects "MailChainModel" y_Mo_mayBe y_Mo_mayBe ∈ tb := tb_in (List.mem_append_left _ (List.mem_of_getElem? (i := 25) rfl)) rfl
theorem ws_26 : Cond.selects "MailChainModel" y_Mo_isPath y_Mo_isPath ∈ tb := tb_in (List.mem_append_left _ (List.mem_of_getElem? (i := 26) rfl)) rfl
theorem ws_27 : Cond.selects "MailChainModel" y_Mo_hasParent y_Mo_hasParent ∈ tb := tb_in (List.mem_append_left _ (List.mem_of_getElem? (i := 27) rfl)) rfl
theorem ws_28 : Cond.selects "MailChainModel" y_Mo_find y_Mo_find ∈ tb := tb_in (List.mem_append_left _ (List.mem_of_getElem? (i := 28) rfl)) rfl
theorem ws_29 : Cond.selects "MailChainModel" y_Mo_compare y_Mo_compare ∈ tb := tb_in (List.mem_append_left _ (List.mem_of_getElem? (i := 29) rfl)) rfl
theorem ws_30 : Cond.selects "MailChainModel" y_Mo_bytesOf y_Mo_bytesOf ∈ tb := tb_in (List.mem_append_left _ (List.mem_of_getElem? (i := 30) rfl)) rfl
theorem ws_31 : Cond.selects "MailChainModel" y_Mo_enter y_Mo_enter ∈ tb := tb_in (List.mem_append_left _ (List.mem_of_getElem? (i := 31) rfl)) rfl
theorem ws_32 : Cond.selects "MailChainModel" y_Mo_copyEntry y_Mo_copyEntry ∈ tb := tb_in (List.mem_append_left _ (List.mem_of_getElem? (i := 32) rfl)) rfl
theorem ws_33 : Cond.selects "MailChainModel" y_Mo_linkedNow y_Mo_linkedNow ∈ tb := tb_in (List.mem_append_left _ (List.mem_of_getElem? (i := 33) rfl)) rfl
theorem ws_34 : Cond.selects "MailChainModel" y_Mo_copyAttributes y_Mo_copyAttributes ∈ tb := tb_in (List.mem_append_left _ (List.mem_of_getElem? (i := 34) rfl)) rfl
theorem ws_35 : Cond.selects "MailChainModel" y_Mo_isLarge y_Mo_isLarge ∈ tb := tb_in (List.mem_append_left _ (List.mem_of_getElem? (i := 35) rfl)) rfl
theorem ws_36 : Cond.selects "MailChainModel" y_Mo_archiveOf y_Mo_archiveOf ∈ tb := tb_in (List.mem_append_left _ (List.mem_of_getElem? (i := 36) rfl)) rfl
theorem ws_37 : Cond.selects "MailChainModel" y_Mo_firstOf y_Mo_firstOf ∈ tb := tb_in (List.mem_append_left _ (List.mem_of_getElem? (i := 37) rfl)) rfl
theorem ws_38 : Cond.selects "MailChainModel" y_Mo_linksOf y_Mo_linksOf ∈ tb := tb_in (List.mem_append_left _ (List.mem_of_getElem? (i := 38) rfl)) rfl
theorem ws_39 : Cond.selects "MailChainModel" y_Mo_header y_Mo_header ∈ tb := tb_in (List.mem_append_left _ (List.mem_of_getElem? (i := 39) rfl)) rfl
theorem ws_40 : Cond.selects "MailChainModel" y_Mo_octal y_Mo_octal ∈ tb := tb_in (List.mem_append_left _ (List.mem_of_getElem? (i := 40) rfl)) rfl
theorem ws_41 : Cond.selects "MailChainModel" y_Mo_zero y_Mo_zero ∈ tb := tb_in (List.mem_append_left _ (List.mem_of_getElem? (i := 41) rfl)) rfl
theorem ws_42 : Cond.selects "MailChainModel" y_Mo_compressRow y_Mo_compressRow ∈ tb := tb_in (List.mem_append_left _ (List.mem_of_getElem? (i := 42) rfl)) rfl
theorem ws_43 : Cond.selects "MailChainModel" y_Mo_clearTable y_Mo_clearTable ∈ tb := tb_in (List.mem_append_left _ (List.mem_of_getElem? (i := 43) rfl)) rfl
theorem ws_44 : Cond.selects "MailChainModel" y_Mo_goOn y_Mo_goOn ∈ tb := tb_in (List.mem_append_left _ (List.mem_of_getElem? (i := 44) rfl)) rfl
theorem ws_45 : Cond.selects "MailChainModel" y_Mo_putCode y_Mo_putCode ∈ tb := tb_in (List.mem_append_left _ (List.mem_of_getElem? (i := 45) rfl)) rfl
theorem ws_46 : Cond.selects "MailChainModel" y_Mo_fill y_Mo_fill ∈ tb := tb_in (List.mem_append_left _ (List.mem_of_getElem? (i := 46) rfl)) rfl
theorem ws_47 : Cond.selects "MailChainModel" y_Mo_putBits y_Mo_putBits ∈ tb := tb_in (List.mem_append_left _ (List.mem_of_getElem? (i := 47) rfl)) rfl
theorem ws_48 : Cond.selects "MailChainModel" y_Mo_spellRow y_Mo_spellRow ∈ tb := tb_in (List.mem_append_left _ (List.mem_of_getElem? (i := 48) rfl)) rfl
theorem ws_49 : Cond.selects "MailChainModel" y_Mo_lay y_Mo_lay ∈ tb := tb_in (List.mem_append_left _ (List.mem_of_getElem? (i := 49) rfl)) rfl
theorem ws_50 : Cond.selects "MailChainModel" y_Mo_six y_Mo_six ∈ tb := tb_in (List.mem_append_left _ (List.mem_of_getElem? (i := 50) rfl)) rfl
theorem ws_51 : Cond.selects "MailChainModel" y_Mo_writePart y_Mo_writePart ∈ tb := tb_in (List.mem_append_left _ (List.mem_of_getElem? (i := 51) rfl)) rfl
theorem ws_52 : Cond.selects "MailChainModel" y_Mo_putWord y_Mo_putWord ∈ tb := tb_in (List.mem_append_left _ (List.mem_of_getElem? (i := 52) rfl)) rfl
theorem ws_53 : Cond.selects "MailChainModel" y_Mo_putChar y_Mo_putChar ∈ tb := tb_in (List.mem_append_left _ (List.mem_of_getElem? (i := 53) rfl)) rfl
theorem ws_54 : Cond.selects "MailChainModel" y_Mo_putDecimal y_Mo_putDecimal ∈ tb := tb_in (List.mem_append_left _ (List.mem_of_getElem? (i := 54) rfl)) rfl
theorem ws_55 : Cond.selects "MailChainModel" y_Mo_come y_Mo_come ∈ tb := tb_in (List.mem_append_left _ (List.mem_of_getElem? (i := 55) rfl)) rfl
theorem ws_56 : Cond.selects "MailChainModel" y_Mo_word y_Mo_word ∈ tb := tb_in (List.mem_append_left _ (List.mem_of_getElem? (i := 56) rfl)) rfl
theorem ws_57 : Cond.selects "MailChainModel" y_Mo_decimal y_Mo_decimal ∈ tb := tb_in (List.mem_append_left _ (List.mem_of_getElem? (i := 57) rfl)) rfl
theorem ws_58 : Cond.selects "MailChainModel" y_Mo_keep y_Mo_keep ∈ tb := tb_in (List.mem_append_left _ (List.mem_of_getElem? (i := 58) rfl)) rfl
theorem ws_59 : Cond.selects "MailChainModel" y_Mo_emptyBox y_Mo_emptyBox ∈ tb := tb_in (List.mem_append_left _ (List.mem_of_getElem? (i := 59) rfl)) rfl
theorem ws_60 : Cond.selects "MailChainModel" y_Mo_unpacked y_Mo_unpacked ∈ tb := tb_in (List.mem_append_left _ (List.mem_of_getElem? (i := 60) rfl)) rfl
theorem ws_61 : Cond.selects "MailChainModel" y_Mo_unspell y_Mo_unspell ∈ tb := tb_in (List.mem_append_left _ (List.mem_of_getElem? (i := 61) rfl)) rfl
theorem ws_62 : Cond.selects "MailChainModel" y_Mo_expand y_Mo_expand ∈ tb := tb_in (List.mem_append_left _ (List.mem_of_getElem? (i := 62) rfl)) rfl
theorem ws_63 : Cond.selects "MailChainModel" y_Mo_code y_Mo_code ∈ tb := tb_in (List.mem_append_left _ (List.mem_of_getElem? (i := 63) rfl)) rfl
theorem ws_64 : Cond.selects "MailChainModel" y_Mo_firstByte y_Mo_firstByte ∈ tb := tb_in (List.mem_append_left _ (List.mem_of_getElem? (i := 64) rfl)) rfl
theorem ws_65 : Cond.selects "MailChainModel" y_Mo_layString y_Mo_layString ∈ tb := tb_in (List.mem_append_left _ (List.mem_of_getElem? (i := 65) rfl)) rfl
theorem ws_66 : Cond.selects "MailChainModel" y_Mo_readTree y_Mo_readTree ∈ tb := tb_in (List.mem_append_left _ (List.mem_of_getElem? (i := 66) rfl)) rfl
theorem ws_67 : Cond.selects "MailChainModel" y_Mo_octalAt y_Mo_octalAt ∈ tb := tb_in (List.mem_append_left _ (List.mem_of_getElem? (i := 67) rfl)) rfl
theorem ws_68 : Cond.selects "MailChainModel" y_Mo_take y_Mo_take ∈ tb := tb_in (List.mem_append_left _ (List.mem_of_getElem? (i := 68) rfl)) rfl
theorem ws_69 : Cond.selects "MailChainModel" y_Mo_areLinks y_Mo_areLinks ∈ tb := tb_in (List.mem_append_left _ (List.mem_of_getElem? (i := 69) rfl)) rfl
theorem cv_JString_checkIndex : zCS y_JString_checkIndex b_JString_checkIndex 2 none 2 := ⟨w_421, w_21, w_422, by decide, by decide, by decide +kernel⟩
theorem cv_JPreconditions_checkIndex : zCS y_JPreconditions_checkIndex b_JPreconditions_checkIndex 3 (some FieldType.int) 3 := ⟨w_426, w_23, w_427, by decide, by decide, by decide +kernel⟩
theorem cv_JString_coder : zCV y_JString_coder "java/lang/String" b_JString_coder 1 (some FieldType.byte) 0 := ⟨w_404, w_405, w_21, w_406, rfl, by decide, by decide, by decide +kernel⟩
theorem cv_JString_isLatin1 : zCV y_JString_isLatin1 "java/lang/String" b_JString_isLatin1 1 (some FieldType.boolean) 0 := ⟨w_414, w_415, w_21, w_416, rfl, by decide, by decide, by decide +kernel⟩
theorem cv_JStringLatin1_charAt : zCS y_JStringLatin1_charAt b_JStringLatin1_charAt 2 (some FieldType.char) 2 := ⟨w_418, w_22, w_419, by decide, by decide, by decide +kernel⟩
theorem cv_JArrays_rangeCheck : zCS y_JArrays_rangeCheck b_JArrays_rangeCheck 3 none 3 := ⟨w_595, w_7, w_596, by decide, by decide, by decide +kernel⟩
theorem cv_Ro_has : zCV y_Ro_has "MailChain$Row" b_Ro_has 2 (some FieldType.boolean) 1 := ⟨w_1196, w_1197, w_2, w_1198, rfl, by decide, by decide, by decide +kernel⟩
theorem cv_Ro_room : zCV y_Ro_room "MailChain$Row" b_Ro_room 1 (some FieldType.int) 0 := ⟨w_471, w_472, w_2, w_473, rfl, by decide, by decide, by decide +kernel⟩
theorem cv_Ro_wipe : zCV y_Ro_wipe "MailChain$Row" b_Ro_wipe 1 none 0 := ⟨w_356, w_357, w_2, w_358, rfl, by decide, by decide, by decide +kernel⟩
theorem cv_Ro_putRange : zCV y_Ro_putRange "MailChain$Row" b_Ro_putRange 5 none 3 := ⟨w_467, w_468, w_2, w_469, rfl, by decide, by decide, by decide +kernel⟩
theorem cv_JString_length : zCV y_JString_length "java/lang/String" b_JString_length 1 (some FieldType.int) 0 := ⟨w_400, w_401, w_21, w_402, rfl, by decide, by decide, by decide +kernel⟩
theorem cv_JString_charAt : zCV y_JString_charAt "java/lang/String" b_JString_charAt 2 (some FieldType.char) 1 := ⟨w_410, w_411, w_21, w_412, rfl, by decide, by decide, by decide +kernel⟩
theorem cv_Ro_put : zCV y_Ro_put "MailChain$Row" b_Ro_put 2 none 1 := ⟨w_512, w_513, w_2, w_514, rfl, by decide, by decide, by decide +kernel⟩
theorem cv_Ro_at : zCV y_Ro_at "MailChain$Row" b_Ro_at 2 (some FieldType.int) 1 := ⟨w_368, w_369, w_2, w_370, rfl, by decide, by decide, by decide +kernel⟩
theorem cv_Ro_order : zCV y_Ro_order "MailChain$Row" b_Ro_order 5 (some FieldType.int) 2 := ⟨w_541, w_542, w_2, w_543, rfl, by decide, by decide, by decide +kernel⟩
theorem cv_Ro_divide : zCS y_Ro_divide b_Ro_divide 3 (some FieldType.int) 2 := ⟨w_372, w_2, w_373, by decide, by decide, by decide +kernel⟩
theorem cv_En_isName : zCV y_En_isName "MailChain$Entry" b_En_isName 4 (some FieldType.boolean) 2 := ⟨w_980, ws_15, w_4, w_981, rfl, by decide, by decide, by decide +kernel⟩
theorem cv_Tr_isTarget : zCS y_Tr_isTarget b_Tr_isTarget 4 (some FieldType.boolean) 3 := ⟨w_966, w_3, w_967, by decide, by decide, by decide +kernel⟩
theorem cv_En_parentSize : zCV y_En_parentSize "MailChain$Entry" b_En_parentSize 3 (some FieldType.int) 0 := ⟨w_987, w_988, w_4, w_989, rfl, by decide, by decide, by decide +kernel⟩
theorem cv_Tr_placeOf : zCV y_Tr_placeOf "MailChain$Tree" b_Tr_placeOf 4 (some FieldType.int) 2 := ⟨w_992, ws_17, w_3, w_993, rfl, by decide, by decide, by decide +kernel⟩
theorem cv_Tr_has : zCV y_Tr_has "MailChain$Tree" b_Tr_has 2 (some FieldType.boolean) 1 := ⟨w_996, w_997, w_3, w_998, rfl, by decide, by decide, by decide +kernel⟩
theorem cv_Tr_draft : zCV y_Tr_draft "MailChain$Tree" b_Tr_draft 1 (some (FieldType.object "MailChain$Entry")) 0 := ⟨w_935, w_936, w_3, w_937, rfl, by decide, by decide, by decide +kernel⟩
theorem cv_En_hasSoundPath : zCV y_En_hasSoundPath "MailChain$Entry" b_En_hasSoundPath 4 (some FieldType.boolean) 0 := ⟨w_974, w_975, w_4, w_976, rfl, by decide, by decide, by decide +kernel⟩
theorem cv_Tr_hasParentOf : zCV y_Tr_hasParentOf "MailChain$Tree" b_Tr_hasParentOf 4 (some FieldType.boolean) 1 := ⟨w_984, ws_16, w_3, w_985, rfl, by decide, by decide, by decide +kernel⟩
theorem cv_Ro_same : zCV y_Ro_same "MailChain$Row" b_Ro_same 2 (some FieldType.boolean) 1 := ⟨w_537, w_538, w_2, w_539, rfl, by decide, by decide, by decide +kernel⟩
theorem cv_En_hasSoundFields : zCV y_En_hasSoundFields "MailChain$Entry" b_En_hasSoundFields 1 (some FieldType.boolean) 0 := ⟨w_959, w_960, w_4, w_961, rfl, by decide, by decide, by decide +kernel⟩
theorem cv_Tr_isBody : zCS y_Tr_isBody b_Tr_isBody 4 (some FieldType.boolean) 4 := ⟨w_963, w_3, w_964, by decide, by decide, by decide +kernel⟩
theorem cv_Tr_insertDraft : zCV y_Tr_insertDraft "MailChain$Tree" b_Tr_insertDraft 5 (some FieldType.int) 0 := ⟨w_971, ws_14, w_3, w_972, rfl, by decide, by decide, by decide +kernel⟩
theorem cv_En_becomeLinkOf : zCV y_En_becomeLinkOf "MailChain$Entry" b_En_becomeLinkOf 2 none 1 := ⟨w_1006, w_1007, w_4, w_1008, rfl, by decide, by decide, by decide +kernel⟩
theorem cv_Tr_firstLinkOf : zCV y_Tr_firstLinkOf "MailChain$Tree" b_Tr_firstLinkOf 3 (some FieldType.int) 1 := ⟨w_1019, w_1020, w_3, w_1021, rfl, by decide, by decide, by decide +kernel⟩
theorem cv_Tr_linksOf : zCV y_Tr_linksOf "MailChain$Tree" b_Tr_linksOf 4 (some FieldType.int) 1 := ⟨w_1023, w_1024, w_3, w_1025, rfl, by decide, by decide, by decide +kernel⟩
theorem cv_Ro_copy : zCV y_Ro_copy "MailChain$Row" b_Ro_copy 4 none 3 := ⟨w_939, w_940, w_2, w_941, rfl, by decide, by decide, by decide +kernel⟩
theorem cv_Ma_pieceEnd : zCV y_Ma_pieceEnd "MailChain$Mail" b_Ma_pieceEnd 2 (some FieldType.int) 1 := ⟨w_1161, ws_21, w_5, w_1162, rfl, by decide, by decide, by decide +kernel⟩
theorem cv_Ro_sum : zCV y_Ro_sum "MailChain$Row" b_Ro_sum 5 (some FieldType.int) 2 := ⟨w_364, w_365, w_2, w_366, rfl, by decide, by decide, by decide +kernel⟩
theorem cv_Ma_has : zCV y_Ma_has "MailChain$Mail" b_Ma_has 2 (some FieldType.boolean) 1 := ⟨w_1173, w_1174, w_5, w_1175, rfl, by decide, by decide, by decide +kernel⟩
theorem cv_Ro_putText : zCV y_Ro_putText "MailChain$Row" b_Ro_putText 3 none 1 := ⟨w_519, w_520, w_2, w_521, rfl, by decide, by decide, by decide +kernel⟩
theorem cv_Ro_putDecimal : zCV y_Ro_putDecimal "MailChain$Row" b_Ro_putDecimal 6 none 1 := ⟨w_1185, w_1186, w_2, w_1187, rfl, by decide, by decide, by decide +kernel⟩
theorem cv_Ro_hasText : zCV y_Ro_hasText "MailChain$Row" b_Ro_hasText 4 (some FieldType.boolean) 2 := ⟨w_396, w_397, w_2, w_398, rfl, by decide, by decide, by decide +kernel⟩
theorem cv_Pl_isDigit : zCS y_Pl_isDigit b_Pl_isDigit 1 (some FieldType.boolean) 1 := ⟨w_451, w_8, w_452, by decide, by decide, by decide +kernel⟩
theorem cv_Pl_number : zCV y_Pl_number "MailChain$PartLine" b_Pl_number 9 (some FieldType.long) 3 := ⟨w_393, ws_0, w_8, w_394, rfl, by decide, by decide, by decide +kernel⟩
theorem cv_JArrays_fill : zCS y_JArrays_fill b_JArrays_fill 4 none 2 := ⟨w_187, w_7, w_188, by decide, by decide, by decide +kernel⟩
theorem cv_Pl_read : zCV y_Pl_read "MailChain$PartLine" b_Pl_read 3 (some FieldType.boolean) 1 := ⟨w_386, w_387, w_8, w_388, rfl, by decide, by decide, by decide +kernel⟩
theorem cv_Bo_keep : zCV y_Bo_keep "MailChain$Box" b_Bo_keep 5 none 4 := ⟨w_463, w_464, w_6, w_465, rfl, by decide, by decide, by decide +kernel⟩
theorem cv_JArrays_fillx : zCS y_JArrays_fillx b_JArrays_fillx 5 none 4 := ⟨w_592, w_7, w_593, by decide, by decide, by decide +kernel⟩
theorem cv_Sq_forget : zCV y_Sq_forget "MailChain$Squeezer" b_Sq_forget 1 none 0 := ⟨w_589, ws_7, w_9, w_590, rfl, by decide, by decide, by decide +kernel⟩
theorem cv_Sq_putBits : zCV y_Sq_putBits "MailChain$Squeezer" b_Sq_putBits 3 none 2 := ⟨w_913, ws_12, w_9, w_914, rfl, by decide, by decide, by decide +kernel⟩
theorem cv_Sq_changeWidth : zCV y_Sq_changeWidth "MailChain$Squeezer" b_Sq_changeWidth 5 none 2 := ⟨w_909, ws_11, w_9, w_910, rfl, by decide, by decide, by decide +kernel⟩
theorem cv_Sq_putCode : zCV y_Sq_putCode "MailChain$Squeezer" b_Sq_putCode 3 none 2 := ⟨w_905, ws_10, w_9, w_906, rfl, by decide, by decide, by decide +kernel⟩
theorem cv_Sq_begin : zCV y_Sq_begin "MailChain$Squeezer" b_Sq_begin 2 none 1 := ⟨w_585, ws_6, w_9, w_586, rfl, by decide, by decide, by decide +kernel⟩
theorem cv_Sq_childOf : zCV y_Sq_childOf "MailChain$Squeezer" b_Sq_childOf 5 (some FieldType.int) 2 := ⟨w_901, ws_9, w_9, w_902, rfl, by decide, by decide, by decide +kernel⟩
theorem cv_Sq_learn : zCV y_Sq_learn "MailChain$Squeezer" b_Sq_learn 4 none 3 := ⟨w_917, ws_13, w_9, w_918, rfl, by decide, by decide, by decide +kernel⟩
theorem cv_Ex_changeWidth : zCV y_Ex_changeWidth "MailChain$Expander" b_Ex_changeWidth 2 none 1 := ⟨w_563, ws_3, w_10, w_564, rfl, by decide, by decide, by decide +kernel⟩
theorem cv_Mc_isWidth : zCS y_Mc_isWidth b_Mc_isWidth 1 (some FieldType.boolean) 1 := ⟨w_551, w_1, w_552, by decide, by decide, by decide +kernel⟩
theorem cv_Ex_begin : zCV y_Ex_begin "MailChain$Expander" b_Ex_begin 1 none 0 := ⟨w_555, ws_1, w_10, w_556, rfl, by decide, by decide, by decide +kernel⟩
theorem cv_Ex_readCode : zCV y_Ex_readCode "MailChain$Expander" b_Ex_readCode 5 (some FieldType.int) 1 := ⟨w_559, ws_2, w_10, w_560, rfl, by decide, by decide, by decide +kernel⟩
theorem cv_Ex_tell : zCV y_Ex_tell "MailChain$Expander" b_Ex_tell 6 (some FieldType.boolean) 2 := ⟨w_568, ws_4, w_10, w_569, rfl, by decide, by decide, by decide +kernel⟩
theorem cv_Ex_restart : zCV y_Ex_restart "MailChain$Expander" b_Ex_restart 1 none 0 := ⟨w_574, ws_5, w_10, w_575, rfl, by decide, by decide, by decide +kernel⟩
theorem cv_Sp_letter : zCS y_Sp_letter b_Sp_letter 1 (some FieldType.int) 1 := ⟨w_530, w_31, w_531, by decide, by decide, by decide +kernel⟩
theorem cv_Sp_writeLine : zCS y_Sp_writeLine b_Sp_writeLine 7 none 4 := ⟨w_527, w_31, w_528, by decide, by decide, by decide +kernel⟩
theorem cv_Sp_sixOf : zCS y_Sp_sixOf b_Sp_sixOf 1 (some FieldType.int) 1 := ⟨w_506, w_31, w_507, by decide, by decide, by decide +kernel⟩
theorem cv_Sp_readLine : zCS y_Sp_readLine b_Sp_readLine 7 none 4 := ⟨w_509, w_31, w_510, by decide, by decide, by decide +kernel⟩
theorem cv_Ro_putOctal : zCV y_Ro_putOctal "MailChain$Row" b_Ro_putOctal 4 none 2 := ⟨w_1032, w_1033, w_2, w_1034, rfl, by decide, by decide, by decide +kernel⟩
theorem cv_Ar_kindDigits : zCS y_Ar_kindDigits b_Ar_kindDigits 1 (some FieldType.int) 1 := ⟨w_951, w_20, w_952, by decide, by decide, by decide +kernel⟩
theorem cv_Tr_hasArchive : zCV y_Tr_hasArchive "MailChain$Tree" b_Tr_hasArchive 3 (some FieldType.boolean) 0 := ⟨w_1014, w_1015, w_3, w_1016, rfl, by decide, by decide, by decide +kernel⟩
theorem cv_Ar_writeHeader : zCS y_Ar_writeHeader b_Ar_writeHeader 4 none 4 := ⟨w_1027, w_20, w_1028, by decide, by decide, by decide +kernel⟩
theorem cv_Ar_octal : zCS y_Ar_octal b_Ar_octal 7 (some FieldType.int) 3 := ⟨w_929, w_20, w_930, by decide, by decide, by decide +kernel⟩
theorem cv_Ar_kindOf : zCS y_Ar_kindOf b_Ar_kindOf 2 (some FieldType.int) 1 := ⟨w_948, w_20, w_949, by decide, by decide, by decide +kernel⟩
theorem cv_Ar_readFields : zCS y_Ar_readFields b_Ar_readFields 4 none 3 := ⟨w_945, w_20, w_946, by decide, by decide, by decide +kernel⟩
theorem cv_Tr_enterLink : zCV y_Tr_enterLink "MailChain$Tree" b_Tr_enterLink 2 (some FieldType.int) 1 := ⟨w_1002, w_1003, w_3, w_1004, rfl, by decide, by decide, by decide +kernel⟩
theorem cv_Tr_enter : zCV y_Tr_enter "MailChain$Tree" b_Tr_enter 6 (some FieldType.int) 3 := ⟨w_954, w_955, w_3, w_956, rfl, by decide, by decide, by decide +kernel⟩
theorem cv_Tr_wipe : zCV y_Tr_wipe "MailChain$Tree" b_Tr_wipe 1 none 0 := ⟨w_352, w_353, w_3, w_354, rfl, by decide, by decide, by decide +kernel⟩
theorem cv_Ar_readEntry : zCS y_Ar_readEntry b_Ar_readEntry 11 (some FieldType.int) 3 := ⟨w_926, w_20, w_927, by decide, by decide, by decide +kernel⟩
theorem cv_Ar_write : zCS y_Ar_write b_Ar_write 4 none 2 := ⟨w_1010, w_20, w_1011, by decide, by decide, by decide +kernel⟩
theorem cv_Bo_take : zCV y_Bo_take "MailChain$Box" b_Bo_take 2 (some FieldType.int) 1 := ⟨w_382, w_383, w_6, w_384, rfl, by decide, by decide, by decide +kernel⟩
theorem cv_Sq_squeeze : zCV y_Sq_squeeze "MailChain$Squeezer" b_Sq_squeeze 8 none 3 := ⟨w_578, w_579, w_9, w_580, rfl, by decide, by decide, by decide +kernel⟩
theorem cv_Sp_write : zCS y_Sp_write b_Sp_write 3 none 2 := ⟨w_516, w_31, w_517, by decide, by decide, by decide +kernel⟩
theorem cv_Bo_wipe : zCV y_Bo_wipe "MailChain$Box" b_Bo_wipe 1 none 0 := ⟨w_482, w_483, w_6, w_484, rfl, by decide, by decide, by decide +kernel⟩
theorem cv_Bo_isWhole : zCV y_Bo_isWhole "MailChain$Box" b_Bo_isWhole 1 (some FieldType.boolean) 0 := ⟨w_491, w_492, w_6, w_493, rfl, by decide, by decide, by decide +kernel⟩
theorem cv_Bo_join : zCV y_Bo_join "MailChain$Box" b_Bo_join 3 (some FieldType.boolean) 1 := ⟨w_495, w_496, w_6, w_497, rfl, by decide, by decide, by decide +kernel⟩
theorem cv_Sp_read : zCS y_Sp_read b_Sp_read 4 none 2 := ⟨w_499, w_31, w_500, by decide, by decide, by decide +kernel⟩
theorem cv_Ex_expand : zCV y_Ex_expand "MailChain$Expander" b_Ex_expand 7 (some FieldType.boolean) 2 := ⟨w_545, w_546, w_10, w_547, rfl, by decide, by decide, by decide +kernel⟩
theorem cv_Ar_read : zCS y_Ar_read b_Ar_read 4 (some FieldType.boolean) 2 := ⟨w_920, w_20, w_921, by decide, by decide, by decide +kernel⟩
theorem cv_Mc_swapYours : zCV y_Mc_swapYours "MailChain" b_Mc_swapYours 2 none 0 := ⟨w_1040, ws_18, w_1, w_1041, rfl, by decide, by decide, by decide +kernel⟩
theorem cv_Mo_at : zCS y_Mo_at b_Mo_at 2 (some FieldType.int) 2 := ⟨w_1504, w_11, w_1505, by decide, by decide, by decide +kernel⟩
theorem cv_Mo_compare : zCV y_Mo_compare "MailChainModel" b_Mo_compare 6 (some FieldType.int) 2 := ⟨w_1508, ws_29, w_11, w_1509, rfl, by decide, by decide, by decide +kernel⟩
theorem cv_Mo_find : zCV y_Mo_find "MailChainModel" b_Mo_find 5 (some FieldType.int) 2 := ⟨w_1501, ws_28, w_11, w_1502, rfl, by decide, by decide, by decide +kernel⟩
theorem cv_Mo_copyEntry : zCV y_Mo_copyEntry "MailChainModel" b_Mo_copyEntry 4 none 2 := ⟨w_1520, ws_32, w_11, w_1521, rfl, by decide, by decide, by decide +kernel⟩
theorem cv_Mo_isTarget : zCS y_Mo_isTarget b_Mo_isTarget 5 (some FieldType.boolean) 3 := ⟨w_1489, w_11, w_1490, by decide, by decide, by decide +kernel⟩
theorem cv_Mo_isNumber : zCS y_Mo_isNumber b_Mo_isNumber 1 (some FieldType.boolean) 1 := ⟨w_1478, w_11, w_1479, by decide, by decide, by decide +kernel⟩
theorem cv_Mo_look : zCV y_Mo_look "MailChainModel" b_Mo_look 5 none 3 := ⟨w_1482, ws_24, w_11, w_1483, rfl, by decide, by decide, by decide +kernel⟩
theorem cv_Mo_mayBe : zCV y_Mo_mayBe "MailChainModel" b_Mo_mayBe 4 (some FieldType.boolean) 2 := ⟨w_1486, ws_25, w_11, w_1487, rfl, by decide, by decide, by decide +kernel⟩
theorem cv_Mo_isPath : zCV y_Mo_isPath "MailChainModel" b_Mo_isPath 7 (some FieldType.boolean) 0 := ⟨w_1493, ws_26, w_11, w_1494, rfl, by decide, by decide, by decide +kernel⟩
theorem cv_Mo_hasParent : zCV y_Mo_hasParent "MailChainModel" b_Mo_hasParent 4 (some FieldType.boolean) 1 := ⟨w_1497, ws_27, w_11, w_1498, rfl, by decide, by decide, by decide +kernel⟩
theorem cv_Mo_bytesOf : zCV y_Mo_bytesOf "MailChainModel" b_Mo_bytesOf 4 (some FieldType.int) 1 := ⟨w_1512, ws_30, w_11, w_1513, rfl, by decide, by decide, by decide +kernel⟩
theorem cv_Mo_enter : zCV y_Mo_enter "MailChainModel" b_Mo_enter 5 (some FieldType.int) 1 := ⟨w_1516, ws_31, w_11, w_1517, rfl, by decide, by decide, by decide +kernel⟩
theorem cv_Mo_added : zCV y_Mo_added "MailChainModel" b_Mo_added 11 (some FieldType.int) 6 := ⟨w_1475, ws_23, w_11, w_1476, rfl, by decide, by decide, by decide +kernel⟩
theorem cv_Mo_copyAttributes : zCV y_Mo_copyAttributes "MailChainModel" b_Mo_copyAttributes 3 none 2 := ⟨w_1532, ws_34, w_11, w_1533, rfl, by decide, by decide, by decide +kernel⟩
theorem cv_Mo_linkedNow : zCV y_Mo_linkedNow "MailChainModel" b_Mo_linkedNow 7 (some FieldType.int) 1 := ⟨w_1528, ws_33, w_11, w_1529, rfl, by decide, by decide, by decide +kernel⟩
theorem cv_Mo_octal : zCV y_Mo_octal "MailChainModel" b_Mo_octal 5 none 2 := ⟨w_1579, ws_40, w_11, w_1580, rfl, by decide, by decide, by decide +kernel⟩
theorem cv_Mo_firstOf : zCV y_Mo_firstOf "MailChainModel" b_Mo_firstOf 7 (some FieldType.int) 2 := ⟨w_1566, ws_37, w_11, w_1567, rfl, by decide, by decide, by decide +kernel⟩
theorem cv_Mo_header : zCV y_Mo_header "MailChainModel" b_Mo_header 9 none 8 := ⟨w_1574, ws_39, w_11, w_1575, rfl, by decide, by decide, by decide +kernel⟩
theorem cv_Mo_zero : zCV y_Mo_zero "MailChainModel" b_Mo_zero 1 none 0 := ⟨w_1584, ws_41, w_11, w_1585, rfl, by decide, by decide, by decide +kernel⟩
theorem cv_Mo_linksOf : zCV y_Mo_linksOf "MailChainModel" b_Mo_linksOf 6 (some FieldType.int) 2 := ⟨w_1570, ws_38, w_11, w_1571, rfl, by decide, by decide, by decide +kernel⟩
theorem cv_Mo_putBits : zCV y_Mo_putBits "MailChainModel" b_Mo_putBits 4 none 2 := ⟨w_1609, ws_47, w_11, w_1610, rfl, by decide, by decide, by decide +kernel⟩
theorem cv_Mo_fill : zCV y_Mo_fill "MailChainModel" b_Mo_fill 1 none 0 := ⟨w_1605, ws_46, w_11, w_1606, rfl, by decide, by decide, by decide +kernel⟩
theorem cv_Mo_clearTable : zCV y_Mo_clearTable "MailChainModel" b_Mo_clearTable 2 none 0 := ⟨w_1592, ws_43, w_11, w_1593, rfl, by decide, by decide, by decide +kernel⟩
theorem cv_Mo_goOn : zCV y_Mo_goOn "MailChainModel" b_Mo_goOn 4 (some FieldType.int) 2 := ⟨w_1597, ws_44, w_11, w_1598, rfl, by decide, by decide, by decide +kernel⟩
theorem cv_Mo_putCode : zCV y_Mo_putCode "MailChainModel" b_Mo_putCode 3 none 2 := ⟨w_1601, ws_45, w_11, w_1602, rfl, by decide, by decide, by decide +kernel⟩
theorem cv_Mo_code : zCV y_Mo_code "MailChainModel" b_Mo_code 5 (some FieldType.int) 1 := ⟨w_1710, ws_63, w_11, w_1711, rfl, by decide, by decide, by decide +kernel⟩
theorem cv_Mo_firstByte : zCV y_Mo_firstByte "MailChainModel" b_Mo_firstByte 3 (some FieldType.int) 1 := ⟨w_1714, ws_64, w_11, w_1715, rfl, by decide, by decide, by decide +kernel⟩
theorem cv_Mo_layString : zCV y_Mo_layString "MailChainModel" b_Mo_layString 5 (some FieldType.boolean) 1 := ⟨w_1718, ws_65, w_11, w_1719, rfl, by decide, by decide, by decide +kernel⟩
theorem cv_Mo_lay : zCV y_Mo_lay "MailChainModel" b_Mo_lay 2 none 1 := ⟨w_1617, ws_49, w_11, w_1618, rfl, by decide, by decide, by decide +kernel⟩
theorem cv_Mo_six : zCV y_Mo_six "MailChainModel" b_Mo_six 2 none 1 := ⟨w_1621, ws_50, w_11, w_1622, rfl, by decide, by decide, by decide +kernel⟩
theorem cv_Mo_step : zCS y_Mo_step b_Mo_step 4 (some FieldType.int) 2 := ⟨w_1546, w_11, w_1547, by decide, by decide, by decide +kernel⟩
theorem cv_Mo_sumOf : zCS y_Mo_sumOf b_Mo_sumOf 5 (some FieldType.int) 3 := ⟨w_1543, w_11, w_1544, by decide, by decide, by decide +kernel⟩
theorem cv_Mo_isLarge : zCV y_Mo_isLarge "MailChainModel" b_Mo_isLarge 4 (some FieldType.boolean) 1 := ⟨w_1555, ws_35, w_11, w_1556, rfl, by decide, by decide, by decide +kernel⟩
theorem cv_Mo_archiveOf : zCV y_Mo_archiveOf "MailChainModel" b_Mo_archiveOf 6 none 1 := ⟨w_1560, ws_36, w_11, w_1561, rfl, by decide, by decide, by decide +kernel⟩
theorem cv_Mo_compressRow : zCV y_Mo_compressRow "MailChainModel" b_Mo_compressRow 7 none 3 := ⟨w_1588, ws_42, w_11, w_1589, rfl, by decide, by decide, by decide +kernel⟩
theorem cv_Mo_spellRow : zCV y_Mo_spellRow "MailChainModel" b_Mo_spellRow 9 none 2 := ⟨w_1613, ws_48, w_11, w_1614, rfl, by decide, by decide, by decide +kernel⟩
theorem cv_Mo_putChar : zCV y_Mo_putChar "MailChainModel" b_Mo_putChar 2 none 1 := ⟨w_1637, ws_53, w_11, w_1638, rfl, by decide, by decide, by decide +kernel⟩
theorem cv_Mo_putWord : zCV y_Mo_putWord "MailChainModel" b_Mo_putWord 3 none 1 := ⟨w_1633, ws_52, w_11, w_1634, rfl, by decide, by decide, by decide +kernel⟩
theorem cv_Mo_putDecimal : zCV y_Mo_putDecimal "MailChainModel" b_Mo_putDecimal 5 none 1 := ⟨w_1641, ws_54, w_11, w_1642, rfl, by decide, by decide, by decide +kernel⟩
theorem cv_Mo_writePart : zCV y_Mo_writePart "MailChainModel" b_Mo_writePart 5 none 1 := ⟨w_1629, ws_51, w_11, w_1630, rfl, by decide, by decide, by decide +kernel⟩
theorem cv_Mo_word : zCV y_Mo_word "MailChainModel" b_Mo_word 4 (some FieldType.boolean) 1 := ⟨w_1659, ws_56, w_11, w_1660, rfl, by decide, by decide, by decide +kernel⟩
theorem cv_Mo_decimal : zCV y_Mo_decimal "MailChainModel" b_Mo_decimal 7 (some FieldType.long) 1 := ⟨w_1663, ws_57, w_11, w_1664, rfl, by decide, by decide, by decide +kernel⟩
theorem cv_Mo_keep : zCV y_Mo_keep "MailChainModel" b_Mo_keep 7 none 5 := ⟨w_1671, ws_58, w_11, w_1672, rfl, by decide, by decide, by decide +kernel⟩
theorem cv_Mo_come : zCV y_Mo_come "MailChainModel" b_Mo_come 11 (some FieldType.int) 0 := ⟨w_1655, ws_55, w_11, w_1656, rfl, by decide, by decide, by decide +kernel⟩
theorem cv_Mo_emptyBox : zCV y_Mo_emptyBox "MailChainModel" b_Mo_emptyBox 2 none 0 := ⟨w_1683, ws_59, w_11, w_1684, rfl, by decide, by decide, by decide +kernel⟩
theorem cv_Mo_octalAt : zCV y_Mo_octalAt "MailChainModel" b_Mo_octalAt 6 (some FieldType.long) 2 := ⟨w_1726, ws_67, w_11, w_1727, rfl, by decide, by decide, by decide +kernel⟩
theorem cv_Mo_areLinks : zCV y_Mo_areLinks "MailChainModel" b_Mo_areLinks 6 (some FieldType.boolean) 0 := ⟨w_1736, ws_69, w_11, w_1737, rfl, by decide, by decide, by decide +kernel⟩
theorem cv_Mo_take : zCV y_Mo_take "MailChainModel" b_Mo_take 9 none 6 := ⟨w_1732, ws_68, w_11, w_1733, rfl, by decide, by decide, by decide +kernel⟩
theorem cv_Mo_unspell : zCV y_Mo_unspell "MailChainModel" b_Mo_unspell 7 none 0 := ⟨w_1699, ws_61, w_11, w_1700, rfl, by decide, by decide, by decide +kernel⟩
theorem cv_Mo_areSame : zCS y_Mo_areSame b_Mo_areSame 6 (some FieldType.boolean) 4 := ⟨w_1702, w_11, w_1703, by decide, by decide, by decide +kernel⟩
theorem cv_Mo_expand : zCV y_Mo_expand "MailChainModel" b_Mo_expand 7 (some FieldType.boolean) 1 := ⟨w_1706, ws_62, w_11, w_1707, rfl, by decide, by decide, by decide +kernel⟩
theorem cv_Mo_readTree : zCV y_Mo_readTree "MailChainModel" b_Mo_readTree 10 (some FieldType.boolean) 0 := ⟨w_1722, ws_66, w_11, w_1723, rfl, by decide, by decide, by decide +kernel⟩
theorem cv_Mo_unpacked : zCV y_Mo_unpacked "MailChainModel" b_Mo_unpacked 4 (some FieldType.int) 0 := ⟨w_1695, ws_60, w_11, w_1696, rfl, by decide, by decide, by decide +kernel⟩
end
section
theorem lo_0_6 : ∀ {k : Nat}, k < N0 → tg k = 0 → k + 386 < N0 ∧ tg (k + 386) = 4 := by
  intro k h1 h2
  have e := uq_0 h1 h2
  subst e
  exact ⟨by decide +kernel, by decide +kernel⟩
theorem w_0 : Cond.initialized "MailChainLaw" ∈ tb := tbc_1 0 rfl rfl
theorem w_15 : Cond.initialized "java/lang/IllegalArgumentException" ∈ tb := tbc_1 15 rfl rfl
theorem w_16 : Cond.initialized "java/lang/UnsupportedOperationException" ∈ tb := tbc_1 16 rfl rfl
theorem w_18 : Cond.initialized "java/lang/IndexOutOfBoundsException" ∈ tb := tbc_1 18 rfl rfl
theorem w_19 : Cond.initialized "java/lang/IllegalStateException" ∈ tb := tbc_1 19 rfl rfl
theorem w_158 : Cond.fieldLink "MailChain" 191 "MailChain$Mail" "squeezed" "LMailChain$Row;" ∈ tb := tbc_1 158 rfl rfl
theorem w_160 : Cond.fieldLink "MailChain" 192 "MailChain$Mail" "text" "LMailChain$Row;" ∈ tb := tbc_1 160 rfl rfl
theorem w_162 : Cond.fieldLink "MailChain" 177 "MailChain$Mail" "count" "I" ∈ tb := tbc_1 162 rfl rfl
theorem w_310 : Cond.fieldLink "MailChain" 41 "MailChain" "mail" "LMailChain$Mail;" ∈ tb := tbc_2 70 rfl rfl
theorem w_598 : Cond.instantiable "java/lang/IllegalArgumentException" 6 ∈ tb := tbc_3 118 rfl rfl
theorem w_1043 : Cond.static y_La_type ∈ tb := tbc_5 83 rfl rfl
theorem w_1044 : Cond.codeWith y_La_type b_La_type 6 (some FieldType.int) [(0, 11, 14, 13), (0, 11, 18, 15)] ∈ tb := tbc_5 84 rfl rfl
theorem w_1045 : Cond.classLink "MailChainLaw" 13 "java/lang/IllegalArgumentException" ∈ tb := tbc_5 85 rfl rfl
theorem w_1046 : Cond.classLink "MailChainLaw" 15 "java/lang/UnsupportedOperationException" ∈ tb := tbc_5 86 rfl rfl
theorem w_1047 : Cond.methodLink "MailChainLaw" 7 y_Mc_type ∈ tb := tbc_5 87 rfl rfl
theorem w_1048 : Cond.instanceMethod y_Mc_type ∈ tb := tbc_5 88 rfl rfl
theorem w_1049 : Cond.selects "MailChain" y_Mc_type y_Mc_type ∈ tb := tbc_5 89 rfl rfl
theorem w_1050 : Cond.code y_Mc_type b_Mc_type 5 (some FieldType.int) ∈ tb := tbc_5 90 rfl rfl
theorem w_1051 : Cond.classLink "MailChain" 81 "java/lang/IllegalArgumentException" ∈ tb := tbc_5 91 rfl rfl
theorem w_1062 : Cond.methodLink "MailChain" 84 y_Ro_room ∈ tb := tbc_5 102 rfl rfl
theorem w_1063 : Cond.classLink "MailChain" 88 "java/lang/UnsupportedOperationException" ∈ tb := tbc_5 103 rfl rfl
theorem w_1064 : Cond.instantiable "java/lang/UnsupportedOperationException" 6 ∈ tb := tbc_5 104 rfl rfl
theorem w_1078 : Cond.methodLink "MailChain" 91 y_Ro_put ∈ tb := tbc_5 118 rfl rfl
theorem w_1080 : Cond.static y_La_again ∈ tb := tbc_5 120 rfl rfl
theorem w_1081 : Cond.codeWith y_La_again b_La_again 4 (some FieldType.int) [(0, 9, 12, 13), (0, 9, 15, 15)] ∈ tb := tbc_5 121 rfl rfl
theorem w_1082 : Cond.methodLink "MailChainLaw" 17 y_Mc_again ∈ tb := tbc_5 122 rfl rfl
theorem w_1083 : Cond.instanceMethod y_Mc_again ∈ tb := tbc_5 123 rfl rfl
theorem w_1084 : Cond.selects "MailChain" y_Mc_again y_Mc_again ∈ tb := tbc_5 124 rfl rfl
theorem w_1085 : Cond.code y_Mc_again b_Mc_again 2 (some FieldType.int) ∈ tb := tbc_5 125 rfl rfl
theorem w_1086 : Cond.methodLink "MailChain" 98 y_Ro_putRange ∈ tb := tbc_5 126 rfl rfl
theorem w_1088 : Cond.static y_La_add ∈ tb := tbc_5 128 rfl rfl
theorem w_1089 : Cond.codeWith y_La_add b_La_add 9 (some FieldType.int) [(0, 18, 21, 13), (0, 18, 25, 25), (0, 18, 29, 15)] ∈ tb := tbc_5 129 rfl rfl
theorem w_1090 : Cond.classLink "MailChainLaw" 25 "java/lang/IllegalStateException" ∈ tb := tbc_5 130 rfl rfl
theorem w_1091 : Cond.methodLink "MailChainLaw" 21 y_Mc_add ∈ tb := tbc_5 131 rfl rfl
theorem w_1092 : Cond.instanceMethod y_Mc_add ∈ tb := tbc_5 132 rfl rfl
theorem w_1093 : Cond.selects "MailChain" y_Mc_add y_Mc_add ∈ tb := tbc_5 133 rfl rfl
theorem w_1094 : Cond.code y_Mc_add b_Mc_add 9 (some FieldType.int) ∈ tb := tbc_5 134 rfl rfl
theorem w_1095 : Cond.methodLink "MailChain" 102 y_Tr_draft ∈ tb := tbc_5 135 rfl rfl
theorem w_1096 : Cond.methodLink "MailChain" 111 y_Ro_copy ∈ tb := tbc_5 136 rfl rfl
theorem w_1097 : Cond.methodLink "MailChain" 129 y_Tr_enter ∈ tb := tbc_5 137 rfl rfl
theorem w_1098 : Cond.methodLink "MailChain" 133 y_Mc_afterEntering ∈ tb := tbc_5 138 rfl rfl
theorem w_1100 : Cond.instanceMethod y_Mc_afterEntering ∈ tb := tbc_5 140 rfl rfl
theorem w_1101 : Cond.code y_Mc_afterEntering b_Mc_afterEntering 2 (some FieldType.int) ∈ tb := tbc_5 141 rfl rfl
theorem w_1102 : Cond.classLink "MailChain" 147 "java/lang/IndexOutOfBoundsException" ∈ tb := tbc_5 142 rfl rfl
theorem w_1103 : Cond.instantiable "java/lang/IndexOutOfBoundsException" 6 ∈ tb := tbc_5 143 rfl rfl
theorem w_1117 : Cond.classLink "MailChain" 150 "java/lang/IllegalStateException" ∈ tb := tbc_5 157 rfl rfl
theorem w_1118 : Cond.instantiable "java/lang/IllegalStateException" 6 ∈ tb := tbc_5 158 rfl rfl
theorem w_1133 : Cond.static y_La_link ∈ tb := tbc_5 173 rfl rfl
theorem w_1134 : Cond.codeWith y_La_link b_La_link 4 (some FieldType.int) [(0, 9, 12, 30), (0, 9, 15, 13), (0, 9, 18, 25), (0, 9, 21, 15)] ∈ tb := tbc_5 174 rfl rfl
theorem w_1135 : Cond.classLink "MailChainLaw" 30 "java/lang/IndexOutOfBoundsException" ∈ tb := tbc_5 175 rfl rfl
theorem w_1136 : Cond.methodLink "MailChainLaw" 27 y_Mc_link ∈ tb := tbc_5 176 rfl rfl
theorem w_1137 : Cond.instanceMethod y_Mc_link ∈ tb := tbc_5 177 rfl rfl
theorem w_1138 : Cond.selects "MailChain" y_Mc_link y_Mc_link ∈ tb := tbc_5 178 rfl rfl
theorem w_1139 : Cond.code y_Mc_link b_Mc_link 3 (some FieldType.int) ∈ tb := tbc_5 179 rfl rfl
theorem w_1140 : Cond.methodLink "MailChain" 137 y_Tr_has ∈ tb := tbc_5 180 rfl rfl
theorem w_1141 : Cond.methodLink "MailChain" 141 y_Tr_enterLink ∈ tb := tbc_5 181 rfl rfl
theorem w_1143 : Cond.static y_La_pack ∈ tb := tbc_5 183 rfl rfl
theorem w_1144 : Cond.codeWith y_La_pack b_La_pack 5 (some FieldType.int) [(0, 10, 13, 13)] ∈ tb := tbc_5 184 rfl rfl
theorem w_1145 : Cond.methodLink "MailChainLaw" 32 y_Mc_pack ∈ tb := tbc_5 185 rfl rfl
theorem w_1146 : Cond.instanceMethod y_Mc_pack ∈ tb := tbc_5 186 rfl rfl
theorem w_1147 : Cond.selects "MailChain" y_Mc_pack y_Mc_pack ∈ tb := tbc_5 187 rfl rfl
theorem w_1148 : Cond.code y_Mc_pack b_Mc_pack 3 (some FieldType.int) ∈ tb := tbc_5 188 rfl rfl
theorem w_1149 : Cond.methodLink "MailChain" 157 y_Mc_isWidth ∈ tb := tbc_5 189 rfl rfl
theorem w_1150 : Cond.methodLink "MailChain" 160 y_Mc_refreshArchive ∈ tb := tbc_5 190 rfl rfl
theorem w_1152 : Cond.instanceMethod y_Mc_refreshArchive ∈ tb := tbc_5 192 rfl rfl
theorem w_1153 : Cond.code y_Mc_refreshArchive b_Mc_refreshArchive 1 none ∈ tb := tbc_5 193 rfl rfl
theorem w_1154 : Cond.methodLink "MailChain" 173 y_Ma_keep ∈ tb := tbc_5 194 rfl rfl
theorem w_1155 : Cond.instanceMethod y_Ma_keep ∈ tb := tbc_5 195 rfl rfl
theorem w_1156 : Cond.selects "MailChain$Mail" y_Ma_keep y_Ma_keep ∈ tb := tbc_5 196 rfl rfl
theorem w_1157 : Cond.code y_Ma_keep b_Ma_keep 5 none ∈ tb := tbc_5 197 rfl rfl
theorem w_1166 : Cond.static y_La_part ∈ tb := tbc_5 206 rfl rfl
theorem w_1167 : Cond.codeWith y_La_part b_La_part 5 (some FieldType.int) [(0, 10, 13, 30)] ∈ tb := tbc_5 207 rfl rfl
theorem w_1168 : Cond.methodLink "MailChainLaw" 36 y_Mc_part ∈ tb := tbc_5 208 rfl rfl
theorem w_1169 : Cond.instanceMethod y_Mc_part ∈ tb := tbc_5 209 rfl rfl
theorem w_1170 : Cond.selects "MailChain" y_Mc_part y_Mc_part ∈ tb := tbc_5 210 rfl rfl
theorem w_1171 : Cond.code y_Mc_part b_Mc_part 3 (some FieldType.int) ∈ tb := tbc_5 211 rfl rfl
theorem w_1172 : Cond.methodLink "MailChain" 183 y_Ma_has ∈ tb := tbc_5 212 rfl rfl
theorem w_1176 : Cond.methodLink "MailChain" 184 y_Ma_write ∈ tb := tbc_5 216 rfl rfl
theorem w_1177 : Cond.instanceMethod y_Ma_write ∈ tb := tbc_5 217 rfl rfl
theorem w_1178 : Cond.selects "MailChain$Mail" y_Ma_write y_Ma_write ∈ tb := tbc_5 218 rfl rfl
theorem w_1179 : Cond.code y_Ma_write b_Ma_write 5 none ∈ tb := tbc_5 219 rfl rfl
theorem w_1195 : Cond.methodLink "MailChain" 187 y_Ro_has ∈ tb := tbc_5 235 rfl rfl
theorem w_1200 : Cond.static y_La_stage ∈ tb := tbc_6 0 rfl rfl
theorem w_1201 : Cond.codeWith y_La_stage b_La_stage 5 (some FieldType.int) [(0, 10, 13, 13)] ∈ tb := tbc_6 1 rfl rfl
theorem w_1202 : Cond.methodLink "MailChainLaw" 39 y_Mc_stage ∈ tb := tbc_6 2 rfl rfl
theorem w_1203 : Cond.instanceMethod y_Mc_stage ∈ tb := tbc_6 3 rfl rfl
theorem w_1204 : Cond.selects "MailChain" y_Mc_stage y_Mc_stage ∈ tb := tbc_6 4 rfl rfl
theorem w_1205 : Cond.code y_Mc_stage b_Mc_stage 3 (some FieldType.int) ∈ tb := tbc_6 5 rfl rfl
theorem w_1207 : Cond.static y_La_pass ∈ tb := tbc_6 7 rfl rfl
theorem w_1208 : Cond.codeWith y_La_pass b_La_pass 6 (some FieldType.int) [(0, 12, 15, 30), (0, 12, 19, 13)] ∈ tb := tbc_6 8 rfl rfl
theorem w_1209 : Cond.methodLink "MailChainLaw" 42 y_Mc_pass ∈ tb := tbc_6 9 rfl rfl
theorem w_1210 : Cond.instanceMethod y_Mc_pass ∈ tb := tbc_6 10 rfl rfl
theorem w_1211 : Cond.selects "MailChain" y_Mc_pass y_Mc_pass ∈ tb := tbc_6 11 rfl rfl
theorem w_1212 : Cond.code y_Mc_pass b_Mc_pass 4 (some FieldType.int) ∈ tb := tbc_6 12 rfl rfl
theorem w_1213 : Cond.methodLink "MailChain" 201 y_Ro_turn ∈ tb := tbc_6 13 rfl rfl
theorem w_1214 : Cond.instanceMethod y_Ro_turn ∈ tb := tbc_6 14 rfl rfl
theorem w_1215 : Cond.selects "MailChain$Row" y_Ro_turn y_Ro_turn ∈ tb := tbc_6 15 rfl rfl
theorem w_1216 : Cond.code y_Ro_turn b_Ro_turn 3 none ∈ tb := tbc_6 16 rfl rfl
theorem w_1219 : Cond.static y_La_forge ∈ tb := tbc_6 19 rfl rfl
theorem w_1220 : Cond.codeWith y_La_forge b_La_forge 4 (some FieldType.int) [(0, 6, 9, 13)] ∈ tb := tbc_6 20 rfl rfl
theorem w_1221 : Cond.methodLink "MailChainLaw" 46 y_Mc_forge ∈ tb := tbc_6 21 rfl rfl
theorem w_1222 : Cond.instanceMethod y_Mc_forge ∈ tb := tbc_6 22 rfl rfl
theorem w_1223 : Cond.selects "MailChain" y_Mc_forge y_Mc_forge ∈ tb := tbc_6 23 rfl rfl
theorem w_1224 : Cond.code y_Mc_forge b_Mc_forge 4 none ∈ tb := tbc_6 24 rfl rfl
theorem w_1225 : Cond.methodLink "MailChain" 206 y_Mc_textOfTape ∈ tb := tbc_6 25 rfl rfl
theorem w_1227 : Cond.instanceMethod y_Mc_textOfTape ∈ tb := tbc_6 27 rfl rfl
theorem w_1228 : Cond.code y_Mc_textOfTape b_Mc_textOfTape 3 (some (FieldType.object "MailChain$Row")) ∈ tb := tbc_6 28 rfl rfl
theorem w_1229 : Cond.methodLink "MailChain" 210 y_Bo_keep ∈ tb := tbc_6 29 rfl rfl
theorem w_1231 : Cond.static y_La_about ∈ tb := tbc_6 31 rfl rfl
theorem w_1232 : Cond.codeWith y_La_about b_La_about 6 (some FieldType.int) [(0, 12, 15, 13), (0, 12, 19, 30)] ∈ tb := tbc_6 32 rfl rfl
theorem w_1233 : Cond.methodLink "MailChainLaw" 50 y_Mc_about ∈ tb := tbc_6 33 rfl rfl
theorem w_1234 : Cond.instanceMethod y_Mc_about ∈ tb := tbc_6 34 rfl rfl
theorem w_1235 : Cond.selects "MailChain" y_Mc_about y_Mc_about ∈ tb := tbc_6 35 rfl rfl
theorem w_1236 : Cond.code y_Mc_about b_Mc_about 5 (some FieldType.int) ∈ tb := tbc_6 36 rfl rfl
theorem w_1237 : Cond.methodLink "MailChain" 238 y_Tr_tell ∈ tb := tbc_6 37 rfl rfl
theorem w_1238 : Cond.instanceMethod y_Tr_tell ∈ tb := tbc_6 38 rfl rfl
theorem w_1239 : Cond.selects "MailChain$Tree" y_Tr_tell y_Tr_tell ∈ tb := tbc_6 39 rfl rfl
theorem w_1240 : Cond.code y_Tr_tell b_Tr_tell 4 (some FieldType.int) ∈ tb := tbc_6 40 rfl rfl
theorem w_1244 : Cond.static y_La_byteOf ∈ tb := tbc_6 44 rfl rfl
theorem w_1245 : Cond.codeWith y_La_byteOf b_La_byteOf 6 (some FieldType.int) [(0, 12, 15, 13), (0, 12, 19, 30)] ∈ tb := tbc_6 45 rfl rfl
theorem w_1246 : Cond.methodLink "MailChainLaw" 53 y_Mc_byteOf ∈ tb := tbc_6 46 rfl rfl
theorem w_1247 : Cond.instanceMethod y_Mc_byteOf ∈ tb := tbc_6 47 rfl rfl
theorem w_1248 : Cond.selects "MailChain" y_Mc_byteOf y_Mc_byteOf ∈ tb := tbc_6 48 rfl rfl
theorem w_1249 : Cond.code y_Mc_byteOf b_Mc_byteOf 5 (some FieldType.int) ∈ tb := tbc_6 49 rfl rfl
theorem w_1250 : Cond.methodLink "MailChain" 241 y_Tr_hasByte ∈ tb := tbc_6 50 rfl rfl
theorem w_1251 : Cond.instanceMethod y_Tr_hasByte ∈ tb := tbc_6 51 rfl rfl
theorem w_1252 : Cond.selects "MailChain$Tree" y_Tr_hasByte y_Tr_hasByte ∈ tb := tbc_6 52 rfl rfl
theorem w_1253 : Cond.code y_Tr_hasByte b_Tr_hasByte 3 (some FieldType.boolean) ∈ tb := tbc_6 53 rfl rfl
theorem w_1254 : Cond.methodLink "MailChain" 245 y_Tr_byteAt ∈ tb := tbc_6 54 rfl rfl
theorem w_1255 : Cond.instanceMethod y_Tr_byteAt ∈ tb := tbc_6 55 rfl rfl
theorem w_1256 : Cond.selects "MailChain$Tree" y_Tr_byteAt y_Tr_byteAt ∈ tb := tbc_6 56 rfl rfl
theorem w_1257 : Cond.code y_Tr_byteAt b_Tr_byteAt 5 (some FieldType.int) ∈ tb := tbc_6 57 rfl rfl
theorem ws_19 : Cond.selects "MailChain" y_Mc_afterEntering y_Mc_afterEntering ∈ tb := tb_in (List.mem_append_left _ (List.mem_of_getElem? (i := 19) rfl)) rfl
theorem ws_20 : Cond.selects "MailChain" y_Mc_refreshArchive y_Mc_refreshArchive ∈ tb := tb_in (List.mem_append_left _ (List.mem_of_getElem? (i := 20) rfl)) rfl
theorem ws_22 : Cond.selects "MailChain" y_Mc_textOfTape y_Mc_textOfTape ∈ tb := tb_in (List.mem_append_left _ (List.mem_of_getElem? (i := 22) rfl)) rfl
theorem cv_Mc_afterEntering : zCV y_Mc_afterEntering "MailChain" b_Mc_afterEntering 2 (some FieldType.int) 1 := ⟨w_1100, ws_19, w_1, w_1101, rfl, by decide, by decide, by decide +kernel⟩
theorem cv_Mc_refreshArchive : zCV y_Mc_refreshArchive "MailChain" b_Mc_refreshArchive 1 none 0 := ⟨w_1152, ws_20, w_1, w_1153, rfl, by decide, by decide, by decide +kernel⟩
theorem cv_Ma_keep : zCV y_Ma_keep "MailChain$Mail" b_Ma_keep 5 none 3 := ⟨w_1155, w_1156, w_5, w_1157, rfl, by decide, by decide, by decide +kernel⟩
theorem cv_Ma_write : zCV y_Ma_write "MailChain$Mail" b_Ma_write 5 none 2 := ⟨w_1177, w_1178, w_5, w_1179, rfl, by decide, by decide, by decide +kernel⟩
theorem cv_Ro_turn : zCV y_Ro_turn "MailChain$Row" b_Ro_turn 3 none 2 := ⟨w_1214, w_1215, w_2, w_1216, rfl, by decide, by decide, by decide +kernel⟩
theorem cv_Mc_textOfTape : zCV y_Mc_textOfTape "MailChain" b_Mc_textOfTape 3 (some (FieldType.object "MailChain$Row")) 2 := ⟨w_1227, ws_22, w_1, w_1228, rfl, by decide, by decide, by decide +kernel⟩
theorem cv_Tr_tell : zCV y_Tr_tell "MailChain$Tree" b_Tr_tell 4 (some FieldType.int) 2 := ⟨w_1238, w_1239, w_3, w_1240, rfl, by decide, by decide, by decide +kernel⟩
theorem cv_Tr_hasByte : zCV y_Tr_hasByte "MailChain$Tree" b_Tr_hasByte 3 (some FieldType.boolean) 2 := ⟨w_1251, w_1252, w_3, w_1253, rfl, by decide, by decide, by decide +kernel⟩
theorem cv_Tr_byteAt : zCV y_Tr_byteAt "MailChain$Tree" b_Tr_byteAt 5 (some FieldType.int) 2 := ⟨w_1255, w_1256, w_3, w_1257, rfl, by decide, by decide, by decide +kernel⟩
theorem cv_Mc_type : zCV y_Mc_type "MailChain" b_Mc_type 5 (some FieldType.int) 2 := ⟨w_1048, w_1049, w_1, w_1050, rfl, by decide, by decide, by decide +kernel⟩
theorem cv_La_type : zCW y_La_type b_La_type 6 (some FieldType.int) [(0, 11, 14, 13), (0, 11, 18, 15)] 4 := ⟨w_1043, w_0, w_1044, by decide, by decide, by decide +kernel⟩
theorem cv_Mc_again : zCV y_Mc_again "MailChain" b_Mc_again 2 (some FieldType.int) 1 := ⟨w_1083, w_1084, w_1, w_1085, rfl, by decide, by decide, by decide +kernel⟩
theorem cv_La_again : zCW y_La_again b_La_again 4 (some FieldType.int) [(0, 9, 12, 13), (0, 9, 15, 15)] 3 := ⟨w_1080, w_0, w_1081, by decide, by decide, by decide +kernel⟩
theorem cv_Mc_add : zCV y_Mc_add "MailChain" b_Mc_add 9 (some FieldType.int) 6 := ⟨w_1092, w_1093, w_1, w_1094, rfl, by decide, by decide, by decide +kernel⟩
theorem cv_La_add : zCW y_La_add b_La_add 9 (some FieldType.int) [(0, 18, 21, 13), (0, 18, 25, 25), (0, 18, 29, 15)] 8 := ⟨w_1088, w_0, w_1089, by decide, by decide, by decide +kernel⟩
theorem cv_Mc_link : zCV y_Mc_link "MailChain" b_Mc_link 3 (some FieldType.int) 1 := ⟨w_1137, w_1138, w_1, w_1139, rfl, by decide, by decide, by decide +kernel⟩
theorem cv_La_link : zCW y_La_link b_La_link 4 (some FieldType.int) [(0, 9, 12, 30), (0, 9, 15, 13), (0, 9, 18, 25), (0, 9, 21, 15)] 3 := ⟨w_1133, w_0, w_1134, by decide, by decide, by decide +kernel⟩
theorem cv_Mc_pack : zCV y_Mc_pack "MailChain" b_Mc_pack 3 (some FieldType.int) 2 := ⟨w_1146, w_1147, w_1, w_1148, rfl, by decide, by decide, by decide +kernel⟩
theorem cv_La_pack : zCW y_La_pack b_La_pack 5 (some FieldType.int) [(0, 10, 13, 13)] 4 := ⟨w_1143, w_0, w_1144, by decide, by decide, by decide +kernel⟩
theorem cv_Mc_part : zCV y_Mc_part "MailChain" b_Mc_part 3 (some FieldType.int) 2 := ⟨w_1169, w_1170, w_1, w_1171, rfl, by decide, by decide, by decide +kernel⟩
theorem cv_La_part : zCW y_La_part b_La_part 5 (some FieldType.int) [(0, 10, 13, 30)] 4 := ⟨w_1166, w_0, w_1167, by decide, by decide, by decide +kernel⟩
theorem cv_Mc_stage : zCV y_Mc_stage "MailChain" b_Mc_stage 3 (some FieldType.int) 2 := ⟨w_1203, w_1204, w_1, w_1205, rfl, by decide, by decide, by decide +kernel⟩
theorem cv_La_stage : zCW y_La_stage b_La_stage 5 (some FieldType.int) [(0, 10, 13, 13)] 4 := ⟨w_1200, w_0, w_1201, by decide, by decide, by decide +kernel⟩
theorem cv_Mc_pass : zCV y_Mc_pass "MailChain" b_Mc_pass 4 (some FieldType.int) 3 := ⟨w_1210, w_1211, w_1, w_1212, rfl, by decide, by decide, by decide +kernel⟩
theorem cv_La_pass : zCW y_La_pass b_La_pass 6 (some FieldType.int) [(0, 12, 15, 30), (0, 12, 19, 13)] 5 := ⟨w_1207, w_0, w_1208, by decide, by decide, by decide +kernel⟩
theorem cv_Mc_forge : zCV y_Mc_forge "MailChain" b_Mc_forge 4 none 2 := ⟨w_1222, w_1223, w_1, w_1224, rfl, by decide, by decide, by decide +kernel⟩
theorem cv_La_forge : zCW y_La_forge b_La_forge 4 (some FieldType.int) [(0, 6, 9, 13)] 3 := ⟨w_1219, w_0, w_1220, by decide, by decide, by decide +kernel⟩
theorem cv_Mc_about : zCV y_Mc_about "MailChain" b_Mc_about 5 (some FieldType.int) 3 := ⟨w_1234, w_1235, w_1, w_1236, rfl, by decide, by decide, by decide +kernel⟩
theorem cv_La_about : zCW y_La_about b_La_about 6 (some FieldType.int) [(0, 12, 15, 13), (0, 12, 19, 30)] 5 := ⟨w_1231, w_0, w_1232, by decide, by decide, by decide +kernel⟩
theorem cv_Mc_byteOf : zCV y_Mc_byteOf "MailChain" b_Mc_byteOf 5 (some FieldType.int) 3 := ⟨w_1247, w_1248, w_1, w_1249, rfl, by decide, by decide, by decide +kernel⟩
theorem cv_La_byteOf : zCW y_La_byteOf b_La_byteOf 6 (some FieldType.int) [(0, 12, 15, 13), (0, 12, 19, 30)] 5 := ⟨w_1244, w_0, w_1245, by decide, by decide, by decide +kernel⟩
theorem oa_1_83 : ∀ w ∈ Bundle.ownAtoms0 "MailChain" 83 (exN 1) ["java/lang/RuntimeException", "java/lang/Exception"], w ∈ tb ∨ w = .castable (exN 1) (exN 1) ∨ w = .isRef (.static Bundle.tN "UNASSIGNED_STACK" Bundle.steD) ∨ w = .isRef (.static Bundle.tN "SUPPRESSED_SENTINEL" Bundle.listD) ∨ (∃ q ∈ chainL, w = .declares ⟨q, "<init>", "()V"⟩) ∨ w = .laysStatic Bundle.tN "UNASSIGNED_STACK" Bundle.steD ∨ w = .laysStatic Bundle.tN "SUPPRESSED_SENTINEL" Bundle.listD := by decide +kernel
theorem oa_2_90 : ∀ w ∈ Bundle.ownAtoms0 "MailChain" 90 (exN 2) ["java/lang/RuntimeException", "java/lang/Exception"], w ∈ tb ∨ w = .castable (exN 2) (exN 2) ∨ w = .isRef (.static Bundle.tN "UNASSIGNED_STACK" Bundle.steD) ∨ w = .isRef (.static Bundle.tN "SUPPRESSED_SENTINEL" Bundle.listD) ∨ (∃ q ∈ chainL, w = .declares ⟨q, "<init>", "()V"⟩) ∨ w = .laysStatic Bundle.tN "UNASSIGNED_STACK" Bundle.steD ∨ w = .laysStatic Bundle.tN "SUPPRESSED_SENTINEL" Bundle.listD := by decide +kernel
theorem oa_3_152 : ∀ w ∈ Bundle.ownAtoms0 "MailChain" 152 (exN 3) ["java/lang/RuntimeException", "java/lang/Exception"], w ∈ tb ∨ w = .castable (exN 3) (exN 3) ∨ w = .isRef (.static Bundle.tN "UNASSIGNED_STACK" Bundle.steD) ∨ w = .isRef (.static Bundle.tN "SUPPRESSED_SENTINEL" Bundle.listD) ∨ (∃ q ∈ chainL, w = .declares ⟨q, "<init>", "()V"⟩) ∨ w = .laysStatic Bundle.tN "UNASSIGNED_STACK" Bundle.steD ∨ w = .laysStatic Bundle.tN "SUPPRESSED_SENTINEL" Bundle.listD := by decide +kernel
theorem oa_4_149 : ∀ w ∈ Bundle.ownAtoms0 "MailChain" 149 (exN 4) ["java/lang/RuntimeException", "java/lang/Exception"], w ∈ tb ∨ w = .castable (exN 4) (exN 4) ∨ w = .isRef (.static Bundle.tN "UNASSIGNED_STACK" Bundle.steD) ∨ w = .isRef (.static Bundle.tN "SUPPRESSED_SENTINEL" Bundle.listD) ∨ (∃ q ∈ chainL, w = .declares ⟨q, "<init>", "()V"⟩) ∨ w = .laysStatic Bundle.tN "UNASSIGNED_STACK" Bundle.steD ∨ w = .laysStatic Bundle.tN "SUPPRESSED_SENTINEL" Bundle.listD := by decide +kernel
end
