-- ===== PART A: goes FIRST, ahead of the names: the tables' words, and 'selects' of the private methods out of them =====
/-- a private method of a class that the tables say can be made, by its rows of tables_1 -/
def lw_okq (q : MethodName × Nat) : Prop := (q.1.cls ≠ "java/lang/invoke/MethodHandle" ∧ q.1.cls ≠ "java/lang/invoke/VarHandle") ∧ Cond.instantiable q.1.cls q.2 ∈ tables_1 ∧ Cond.privateMethod q.1 ∈ tables_1 ∧ Cond.instanceMethod q.1 ∈ tables_1
theorem lw_p0 : lw_okq (⟨"LinkChances$Net", "addSetsWith", "(I)V"⟩, 10) := ⟨⟨by decide +kernel, by decide +kernel⟩, List.mem_of_getElem? (i := 28) (by decide +kernel), List.mem_of_getElem? (i := 264) (by decide +kernel), List.mem_of_getElem? (i := 265) (by decide +kernel)⟩
theorem lw_p1 : lw_okq (⟨"LinkChances$Odds", "spread", "(III)V"⟩, 3) := ⟨⟨by decide +kernel, by decide +kernel⟩, List.mem_of_getElem? (i := 67) (by decide +kernel), List.mem_of_getElem? (i := 383) (by decide +kernel), List.mem_of_getElem? (i := 384) (by decide +kernel)⟩
theorem lw_p2 : lw_okq (⟨"LinkChances$TidyNet", "answer", "(JJ)V"⟩, 8) := ⟨⟨by decide +kernel, by decide +kernel⟩, List.mem_of_getElem? (i := 116) (by decide +kernel), List.mem_of_getElem? (i := 447) (by decide +kernel), List.mem_of_getElem? (i := 448) (by decide +kernel)⟩
theorem lw_p3 : lw_okq (⟨"LinkChances$TidyNet", "dropRound", "()Z"⟩, 8) := ⟨⟨by decide +kernel, by decide +kernel⟩, List.mem_of_getElem? (i := 116) (by decide +kernel), List.mem_of_getElem? (i := 459) (by decide +kernel), List.mem_of_getElem? (i := 460) (by decide +kernel)⟩
theorem lw_p4 : lw_okq (⟨"LinkChances$TidyNet", "isThere", "(I)Z"⟩, 8) := ⟨⟨by decide +kernel, by decide +kernel⟩, List.mem_of_getElem? (i := 116) (by decide +kernel), List.mem_of_getElem? (i := 463) (by decide +kernel), List.mem_of_getElem? (i := 464) (by decide +kernel)⟩
theorem lw_p5 : lw_okq (⟨"LinkChances$TidyNet", "joinTwins", "()Z"⟩, 8) := ⟨⟨by decide +kernel, by decide +kernel⟩, List.mem_of_getElem? (i := 116) (by decide +kernel), List.mem_of_getElem? (i := 467) (by decide +kernel), List.mem_of_getElem? (i := 468) (by decide +kernel)⟩
theorem lw_p6 : lw_okq (⟨"LinkChances$TidyNet", "areTwins", "(II)Z"⟩, 8) := ⟨⟨by decide +kernel, by decide +kernel⟩, List.mem_of_getElem? (i := 116) (by decide +kernel), List.mem_of_getElem? (i := 471) (by decide +kernel), List.mem_of_getElem? (i := 472) (by decide +kernel)⟩
theorem lw_p7 : lw_okq (⟨"LinkChances$TidyNet", "dropEnd", "()Z"⟩, 8) := ⟨⟨by decide +kernel, by decide +kernel⟩, List.mem_of_getElem? (i := 116) (by decide +kernel), List.mem_of_getElem? (i := 475) (by decide +kernel), List.mem_of_getElem? (i := 476) (by decide +kernel)⟩
theorem lw_p8 : lw_okq (⟨"LinkChances$TidyNet", "linksAt", "(I)I"⟩, 8) := ⟨⟨by decide +kernel, by decide +kernel⟩, List.mem_of_getElem? (i := 116) (by decide +kernel), List.mem_of_getElem? (i := 479) (by decide +kernel), List.mem_of_getElem? (i := 480) (by decide +kernel)⟩
theorem lw_p9 : lw_okq (⟨"LinkChances$TidyNet", "isWanted", "(I)Z"⟩, 8) := ⟨⟨by decide +kernel, by decide +kernel⟩, List.mem_of_getElem? (i := 116) (by decide +kernel), List.mem_of_getElem? (i := 483) (by decide +kernel), List.mem_of_getElem? (i := 484) (by decide +kernel)⟩
theorem lw_p10 : lw_okq (⟨"LinkChances$TidyNet", "joinChain", "()Z"⟩, 8) := ⟨⟨by decide +kernel, by decide +kernel⟩, List.mem_of_getElem? (i := 116) (by decide +kernel), List.mem_of_getElem? (i := 498) (by decide +kernel), List.mem_of_getElem? (i := 499) (by decide +kernel)⟩
theorem lw_p11 : lw_okq (⟨"LinkChances$TidyNet", "otherEnd", "(II)I"⟩, 8) := ⟨⟨by decide +kernel, by decide +kernel⟩, List.mem_of_getElem? (i := 116) (by decide +kernel), List.mem_of_getElem? (i := 502) (by decide +kernel), List.mem_of_getElem? (i := 503) (by decide +kernel)⟩
theorem lw_p12 : lw_okq (⟨"LinkChances$TidyNet", "add", "(JJ)V"⟩, 8) := ⟨⟨by decide +kernel, by decide +kernel⟩, List.mem_of_getElem? (i := 116) (by decide +kernel), List.mem_of_getElem? (i := 531) (by decide +kernel), List.mem_of_getElem? (i := 532) (by decide +kernel)⟩
theorem lw_p13 : lw_okq (⟨"LinkChances$Shared", "openBehind", "(I)I"⟩, 2) := ⟨⟨by decide +kernel, by decide +kernel⟩, List.mem_of_getElem? (i := 96) (by decide +kernel), List.mem_of_getElem? (i := 566) (by decide +kernel), List.mem_of_getElem? (i := 567) (by decide +kernel)⟩
theorem lw_p14 : lw_okq (⟨"LinkChances$Shared", "surelyUp", "(I)I"⟩, 2) := ⟨⟨by decide +kernel, by decide +kernel⟩, List.mem_of_getElem? (i := 96) (by decide +kernel), List.mem_of_getElem? (i := 573) (by decide +kernel), List.mem_of_getElem? (i := 574) (by decide +kernel)⟩
theorem lw_p15 : lw_okq (⟨"LinkChances$Shared", "surelyDown", "(I)I"⟩, 2) := ⟨⟨by decide +kernel, by decide +kernel⟩, List.mem_of_getElem? (i := 96) (by decide +kernel), List.mem_of_getElem? (i := 579) (by decide +kernel), List.mem_of_getElem? (i := 580) (by decide +kernel)⟩
def lw_privs_1 : List (MethodName × Nat) := [(⟨"LinkChances$Net", "addSetsWith", "(I)V"⟩, 10), (⟨"LinkChances$Odds", "spread", "(III)V"⟩, 3), (⟨"LinkChances$TidyNet", "answer", "(JJ)V"⟩, 8), (⟨"LinkChances$TidyNet", "dropRound", "()Z"⟩, 8), (⟨"LinkChances$TidyNet", "isThere", "(I)Z"⟩, 8), (⟨"LinkChances$TidyNet", "joinTwins", "()Z"⟩, 8), (⟨"LinkChances$TidyNet", "areTwins", "(II)Z"⟩, 8), (⟨"LinkChances$TidyNet", "dropEnd", "()Z"⟩, 8), (⟨"LinkChances$TidyNet", "linksAt", "(I)I"⟩, 8), (⟨"LinkChances$TidyNet", "isWanted", "(I)Z"⟩, 8), (⟨"LinkChances$TidyNet", "joinChain", "()Z"⟩, 8), (⟨"LinkChances$TidyNet", "otherEnd", "(II)I"⟩, 8), (⟨"LinkChances$TidyNet", "add", "(JJ)V"⟩, 8), (⟨"LinkChances$Shared", "openBehind", "(I)I"⟩, 2), (⟨"LinkChances$Shared", "surelyUp", "(I)I"⟩, 2), (⟨"LinkChances$Shared", "surelyDown", "(I)I"⟩, 2)]
theorem lw_r1 : ∀ q ∈ lw_privs_1, lw_okq q := List.forall_mem_cons.mpr ⟨lw_p0, List.forall_mem_cons.mpr ⟨lw_p1, List.forall_mem_cons.mpr ⟨lw_p2, List.forall_mem_cons.mpr ⟨lw_p3, List.forall_mem_cons.mpr ⟨lw_p4, List.forall_mem_cons.mpr ⟨lw_p5, List.forall_mem_cons.mpr ⟨lw_p6, List.forall_mem_cons.mpr ⟨lw_p7, List.forall_mem_cons.mpr ⟨lw_p8, List.forall_mem_cons.mpr ⟨lw_p9, List.forall_mem_cons.mpr ⟨lw_p10, List.forall_mem_cons.mpr ⟨lw_p11, List.forall_mem_cons.mpr ⟨lw_p12, List.forall_mem_cons.mpr ⟨lw_p13, List.forall_mem_cons.mpr ⟨lw_p14, List.forall_mem_cons.mpr ⟨lw_p15, fun _ h => absurd h List.not_mem_nil⟩⟩⟩⟩⟩⟩⟩⟩⟩⟩⟩⟩⟩⟩⟩⟩
theorem lw_p16 : lw_okq (⟨"LinkChances$Shared", "isLost", "(II)Z"⟩, 2) := ⟨⟨by decide +kernel, by decide +kernel⟩, List.mem_of_getElem? (i := 96) (by decide +kernel), List.mem_of_getElem? (i := 584) (by decide +kernel), List.mem_of_getElem? (i := 585) (by decide +kernel)⟩
theorem lw_p17 : lw_okq (⟨"LinkChances$Shared", "lookOf", "(II)J"⟩, 2) := ⟨⟨by decide +kernel, by decide +kernel⟩, List.mem_of_getElem? (i := 96) (by decide +kernel), List.mem_of_getElem? (i := 590) (by decide +kernel), List.mem_of_getElem? (i := 591) (by decide +kernel)⟩
theorem lw_p18 : lw_okq (⟨"LinkChances$Shared", "isAmong", "(JI)Z"⟩, 2) := ⟨⟨by decide +kernel, by decide +kernel⟩, List.mem_of_getElem? (i := 96) (by decide +kernel), List.mem_of_getElem? (i := 594) (by decide +kernel), List.mem_of_getElem? (i := 595) (by decide +kernel)⟩
theorem lw_p19 : lw_okq (⟨"LinkChances", "alike", "(III)J"⟩, 7) := ⟨⟨by decide +kernel, by decide +kernel⟩, List.mem_of_getElem? (i := 20) (by decide +kernel), List.mem_of_getElem? (i := 646) (by decide +kernel), List.mem_of_getElem? (i := 647) (by decide +kernel)⟩
theorem lw_p20 : lw_okq (⟨"LinkChances$Orders", "lookThrough", "()I"⟩, 4) := ⟨⟨by decide +kernel, by decide +kernel⟩, List.mem_of_getElem? (i := 163) (by decide +kernel), List.mem_of_getElem? (i := 736) (by decide +kernel), List.mem_of_getElem? (i := 737) (by decide +kernel)⟩
theorem lw_p21 : lw_okq (⟨"LinkChances$Orders", "endFrom", "(I)I"⟩, 4) := ⟨⟨by decide +kernel, by decide +kernel⟩, List.mem_of_getElem? (i := 163) (by decide +kernel), List.mem_of_getElem? (i := 740) (by decide +kernel), List.mem_of_getElem? (i := 741) (by decide +kernel)⟩
theorem lw_p22 : lw_okq (⟨"LinkChances$Orders", "byteAt", "(I)I"⟩, 4) := ⟨⟨by decide +kernel, by decide +kernel⟩, List.mem_of_getElem? (i := 163) (by decide +kernel), List.mem_of_getElem? (i := 744) (by decide +kernel), List.mem_of_getElem? (i := 745) (by decide +kernel)⟩
theorem lw_p23 : lw_okq (⟨"LinkChances$Orders", "faultOf", "(II)I"⟩, 4) := ⟨⟨by decide +kernel, by decide +kernel⟩, List.mem_of_getElem? (i := 163) (by decide +kernel), List.mem_of_getElem? (i := 748) (by decide +kernel), List.mem_of_getElem? (i := 749) (by decide +kernel)⟩
theorem lw_p24 : lw_okq (⟨"LinkChances$Orders", "wordLength", "(II)I"⟩, 4) := ⟨⟨by decide +kernel, by decide +kernel⟩, List.mem_of_getElem? (i := 163) (by decide +kernel), List.mem_of_getElem? (i := 752) (by decide +kernel), List.mem_of_getElem? (i := 753) (by decide +kernel)⟩
theorem lw_p25 : lw_okq (⟨"LinkChances$Orders", "wordOf", "(II)I"⟩, 4) := ⟨⟨by decide +kernel, by decide +kernel⟩, List.mem_of_getElem? (i := 163) (by decide +kernel), List.mem_of_getElem? (i := 759) (by decide +kernel), List.mem_of_getElem? (i := 760) (by decide +kernel)⟩
theorem lw_p26 : lw_okq (⟨"LinkChances$Orders", "isWord", "(IILjava/lang/String;)Z"⟩, 4) := ⟨⟨by decide +kernel, by decide +kernel⟩, List.mem_of_getElem? (i := 163) (by decide +kernel), List.mem_of_getElem? (i := 764) (by decide +kernel), List.mem_of_getElem? (i := 765) (by decide +kernel)⟩
theorem lw_p27 : lw_okq (⟨"LinkChances$Orders", "act", "(II)V"⟩, 4) := ⟨⟨by decide +kernel, by decide +kernel⟩, List.mem_of_getElem? (i := 163) (by decide +kernel), List.mem_of_getElem? (i := 824) (by decide +kernel), List.mem_of_getElem? (i := 825) (by decide +kernel)⟩
theorem lw_p28 : lw_okq (⟨"LinkChances$Sheets", "hasItem", "(II)Z"⟩, 3) := ⟨⟨by decide +kernel, by decide +kernel⟩, List.mem_of_getElem? (i := 182) (by decide +kernel), List.mem_of_getElem? (i := 889) (by decide +kernel), List.mem_of_getElem? (i := 890) (by decide +kernel)⟩
theorem lw_p29 : lw_okq (⟨"LinkChances", "addFrom", "(II)Z"⟩, 7) := ⟨⟨by decide +kernel, by decide +kernel⟩, List.mem_of_getElem? (i := 20) (by decide +kernel), List.mem_of_getElem? (i := 927) (by decide +kernel), List.mem_of_getElem? (i := 928) (by decide +kernel)⟩
theorem lw_p30 : lw_okq (⟨"LinkChances", "withLinks", "(J)J"⟩, 7) := ⟨⟨by decide +kernel, by decide +kernel⟩, List.mem_of_getElem? (i := 20) (by decide +kernel), List.mem_of_getElem? (i := 966) (by decide +kernel), List.mem_of_getElem? (i := 967) (by decide +kernel)⟩
theorem lw_p31 : lw_okq (⟨"LinkChances", "withFraction", "(JJ)J"⟩, 7) := ⟨⟨by decide +kernel, by decide +kernel⟩, List.mem_of_getElem? (i := 20) (by decide +kernel), List.mem_of_getElem? (i := 971) (by decide +kernel), List.mem_of_getElem? (i := 972) (by decide +kernel)⟩
def lw_privs_2 : List (MethodName × Nat) := [(⟨"LinkChances$Shared", "isLost", "(II)Z"⟩, 2), (⟨"LinkChances$Shared", "lookOf", "(II)J"⟩, 2), (⟨"LinkChances$Shared", "isAmong", "(JI)Z"⟩, 2), (⟨"LinkChances", "alike", "(III)J"⟩, 7), (⟨"LinkChances$Orders", "lookThrough", "()I"⟩, 4), (⟨"LinkChances$Orders", "endFrom", "(I)I"⟩, 4), (⟨"LinkChances$Orders", "byteAt", "(I)I"⟩, 4), (⟨"LinkChances$Orders", "faultOf", "(II)I"⟩, 4), (⟨"LinkChances$Orders", "wordLength", "(II)I"⟩, 4), (⟨"LinkChances$Orders", "wordOf", "(II)I"⟩, 4), (⟨"LinkChances$Orders", "isWord", "(IILjava/lang/String;)Z"⟩, 4), (⟨"LinkChances$Orders", "act", "(II)V"⟩, 4), (⟨"LinkChances$Sheets", "hasItem", "(II)Z"⟩, 3), (⟨"LinkChances", "addFrom", "(II)Z"⟩, 7), (⟨"LinkChances", "withLinks", "(J)J"⟩, 7), (⟨"LinkChances", "withFraction", "(JJ)J"⟩, 7)]
theorem lw_r2 : ∀ q ∈ lw_privs_2, lw_okq q := List.forall_mem_cons.mpr ⟨lw_p16, List.forall_mem_cons.mpr ⟨lw_p17, List.forall_mem_cons.mpr ⟨lw_p18, List.forall_mem_cons.mpr ⟨lw_p19, List.forall_mem_cons.mpr ⟨lw_p20, List.forall_mem_cons.mpr ⟨lw_p21, List.forall_mem_cons.mpr ⟨lw_p22, List.forall_mem_cons.mpr ⟨lw_p23, List.forall_mem_cons.mpr ⟨lw_p24, List.forall_mem_cons.mpr ⟨lw_p25, List.forall_mem_cons.mpr ⟨lw_p26, List.forall_mem_cons.mpr ⟨lw_p27, List.forall_mem_cons.mpr ⟨lw_p28, List.forall_mem_cons.mpr ⟨lw_p29, List.forall_mem_cons.mpr ⟨lw_p30, List.forall_mem_cons.mpr ⟨lw_p31, fun _ h => absurd h List.not_mem_nil⟩⟩⟩⟩⟩⟩⟩⟩⟩⟩⟩⟩⟩⟩⟩⟩
theorem lw_p32 : lw_okq (⟨"LinkChances", "withChances", "(J)J"⟩, 7) := ⟨⟨by decide +kernel, by decide +kernel⟩, List.mem_of_getElem? (i := 20) (by decide +kernel), List.mem_of_getElem? (i := 975) (by decide +kernel), List.mem_of_getElem? (i := 976) (by decide +kernel)⟩
theorem lw_p33 : lw_okq (⟨"LinkChances", "withSets", "(J)J"⟩, 7) := ⟨⟨by decide +kernel, by decide +kernel⟩, List.mem_of_getElem? (i := 20) (by decide +kernel), List.mem_of_getElem? (i := 979) (by decide +kernel), List.mem_of_getElem? (i := 980) (by decide +kernel)⟩
theorem lw_p34 : lw_okq (⟨"LinkChances", "withPairs", "(J)J"⟩, 7) := ⟨⟨by decide +kernel, by decide +kernel⟩, List.mem_of_getElem? (i := 20) (by decide +kernel), List.mem_of_getElem? (i := 983) (by decide +kernel), List.mem_of_getElem? (i := 984) (by decide +kernel)⟩
theorem lw_p35 : lw_okq (⟨"LinkChancesModel", "finds", "(I)I"⟩, 30) := ⟨⟨by decide +kernel, by decide +kernel⟩, List.mem_of_getElem? (i := 987) (by decide +kernel), List.mem_of_getElem? (i := 1095) (by decide +kernel), List.mem_of_getElem? (i := 1096) (by decide +kernel)⟩
theorem lw_p36 : lw_okq (⟨"LinkChancesModel", "lacks", "(II)I"⟩, 30) := ⟨⟨by decide +kernel, by decide +kernel⟩, List.mem_of_getElem? (i := 987) (by decide +kernel), List.mem_of_getElem? (i := 1107) (by decide +kernel), List.mem_of_getElem? (i := 1108) (by decide +kernel)⟩
theorem lw_p37 : lw_okq (⟨"LinkChancesModel", "mayLink", "(JJJJ)Z"⟩, 30) := ⟨⟨by decide +kernel, by decide +kernel⟩, List.mem_of_getElem? (i := 987) (by decide +kernel), List.mem_of_getElem? (i := 1132) (by decide +kernel), List.mem_of_getElem? (i := 1133) (by decide +kernel)⟩
theorem lw_p38 : lw_okq (⟨"LinkChancesModel", "isStation", "(J)Z"⟩, 30) := ⟨⟨by decide +kernel, by decide +kernel⟩, List.mem_of_getElem? (i := 987) (by decide +kernel), List.mem_of_getElem? (i := 1136) (by decide +kernel), List.mem_of_getElem? (i := 1137) (by decide +kernel)⟩
theorem lw_p39 : lw_okq (⟨"LinkChancesModel", "adds", "(IIII)V"⟩, 30) := ⟨⟨by decide +kernel, by decide +kernel⟩, List.mem_of_getElem? (i := 987) (by decide +kernel), List.mem_of_getElem? (i := 1144) (by decide +kernel), List.mem_of_getElem? (i := 1145) (by decide +kernel)⟩
theorem lw_p40 : lw_okq (⟨"LinkChancesModel", "isLink", "(I)Z"⟩, 30) := ⟨⟨by decide +kernel, by decide +kernel⟩, List.mem_of_getElem? (i := 987) (by decide +kernel), List.mem_of_getElem? (i := 1156) (by decide +kernel), List.mem_of_getElem? (i := 1157) (by decide +kernel)⟩
theorem lw_p41 : lw_okq (⟨"LinkChancesModel", "infoBy", "(II)I"⟩, 30) := ⟨⟨by decide +kernel, by decide +kernel⟩, List.mem_of_getElem? (i := 987) (by decide +kernel), List.mem_of_getElem? (i := 1177) (by decide +kernel), List.mem_of_getElem? (i := 1178) (by decide +kernel)⟩
theorem lw_p42 : lw_okq (⟨"LinkChancesModel", "reachBy", "(I)J"⟩, 30) := ⟨⟨by decide +kernel, by decide +kernel⟩, List.mem_of_getElem? (i := 987) (by decide +kernel), List.mem_of_getElem? (i := 1192) (by decide +kernel), List.mem_of_getElem? (i := 1193) (by decide +kernel)⟩
theorem lw_p43 : lw_okq (⟨"LinkChancesModel", "asItIs", "()V"⟩, 30) := ⟨⟨by decide +kernel, by decide +kernel⟩, List.mem_of_getElem? (i := 987) (by decide +kernel), List.mem_of_getElem? (i := 1196) (by decide +kernel), List.mem_of_getElem? (i := 1197) (by decide +kernel)⟩
theorem lw_p44 : lw_okq (⟨"LinkChancesModel", "wanted", "()I"⟩, 30) := ⟨⟨by decide +kernel, by decide +kernel⟩, List.mem_of_getElem? (i := 987) (by decide +kernel), List.mem_of_getElem? (i := 1200) (by decide +kernel), List.mem_of_getElem? (i := 1201) (by decide +kernel)⟩
theorem lw_p45 : lw_okq (⟨"LinkChancesModel", "above", "(II)J"⟩, 30) := ⟨⟨by decide +kernel, by decide +kernel⟩, List.mem_of_getElem? (i := 987) (by decide +kernel), List.mem_of_getElem? (i := 1204) (by decide +kernel), List.mem_of_getElem? (i := 1205) (by decide +kernel)⟩
theorem lw_p46 : lw_okq (⟨"LinkChancesModel", "weight", "(I)J"⟩, 30) := ⟨⟨by decide +kernel, by decide +kernel⟩, List.mem_of_getElem? (i := 987) (by decide +kernel), List.mem_of_getElem? (i := 1208) (by decide +kernel), List.mem_of_getElem? (i := 1209) (by decide +kernel)⟩
theorem lw_p47 : lw_okq (⟨"LinkChancesModel", "joinedWith", "(II)I"⟩, 30) := ⟨⟨by decide +kernel, by decide +kernel⟩, List.mem_of_getElem? (i := 987) (by decide +kernel), List.mem_of_getElem? (i := 1212) (by decide +kernel), List.mem_of_getElem? (i := 1213) (by decide +kernel)⟩
def lw_privs_3 : List (MethodName × Nat) := [(⟨"LinkChances", "withChances", "(J)J"⟩, 7), (⟨"LinkChances", "withSets", "(J)J"⟩, 7), (⟨"LinkChances", "withPairs", "(J)J"⟩, 7), (⟨"LinkChancesModel", "finds", "(I)I"⟩, 30), (⟨"LinkChancesModel", "lacks", "(II)I"⟩, 30), (⟨"LinkChancesModel", "mayLink", "(JJJJ)Z"⟩, 30), (⟨"LinkChancesModel", "isStation", "(J)Z"⟩, 30), (⟨"LinkChancesModel", "adds", "(IIII)V"⟩, 30), (⟨"LinkChancesModel", "isLink", "(I)Z"⟩, 30), (⟨"LinkChancesModel", "infoBy", "(II)I"⟩, 30), (⟨"LinkChancesModel", "reachBy", "(I)J"⟩, 30), (⟨"LinkChancesModel", "asItIs", "()V"⟩, 30), (⟨"LinkChancesModel", "wanted", "()I"⟩, 30), (⟨"LinkChancesModel", "above", "(II)J"⟩, 30), (⟨"LinkChancesModel", "weight", "(I)J"⟩, 30), (⟨"LinkChancesModel", "joinedWith", "(II)I"⟩, 30)]
theorem lw_r3 : ∀ q ∈ lw_privs_3, lw_okq q := List.forall_mem_cons.mpr ⟨lw_p32, List.forall_mem_cons.mpr ⟨lw_p33, List.forall_mem_cons.mpr ⟨lw_p34, List.forall_mem_cons.mpr ⟨lw_p35, List.forall_mem_cons.mpr ⟨lw_p36, List.forall_mem_cons.mpr ⟨lw_p37, List.forall_mem_cons.mpr ⟨lw_p38, List.forall_mem_cons.mpr ⟨lw_p39, List.forall_mem_cons.mpr ⟨lw_p40, List.forall_mem_cons.mpr ⟨lw_p41, List.forall_mem_cons.mpr ⟨lw_p42, List.forall_mem_cons.mpr ⟨lw_p43, List.forall_mem_cons.mpr ⟨lw_p44, List.forall_mem_cons.mpr ⟨lw_p45, List.forall_mem_cons.mpr ⟨lw_p46, List.forall_mem_cons.mpr ⟨lw_p47, fun _ h => absurd h List.not_mem_nil⟩⟩⟩⟩⟩⟩⟩⟩⟩⟩⟩⟩⟩⟩⟩⟩
theorem lw_p48 : lw_okq (⟨"LinkChancesModel", "below", "()J"⟩, 30) := ⟨⟨by decide +kernel, by decide +kernel⟩, List.mem_of_getElem? (i := 987) (by decide +kernel), List.mem_of_getElem? (i := 1216) (by decide +kernel), List.mem_of_getElem? (i := 1217) (by decide +kernel)⟩
theorem lw_p49 : lw_okq (⟨"LinkChancesModel", "pairBy", "(III)J"⟩, 30) := ⟨⟨by decide +kernel, by decide +kernel⟩, List.mem_of_getElem? (i := 987) (by decide +kernel), List.mem_of_getElem? (i := 1230) (by decide +kernel), List.mem_of_getElem? (i := 1231) (by decide +kernel)⟩
theorem lw_p50 : lw_okq (⟨"LinkChancesModel", "ruleBy", "(I)J"⟩, 30) := ⟨⟨by decide +kernel, by decide +kernel⟩, List.mem_of_getElem? (i := 987) (by decide +kernel), List.mem_of_getElem? (i := 1238) (by decide +kernel), List.mem_of_getElem? (i := 1239) (by decide +kernel)⟩
theorem lw_p51 : lw_okq (⟨"LinkChancesModel", "setsOf", "(I)I"⟩, 30) := ⟨⟨by decide +kernel, by decide +kernel⟩, List.mem_of_getElem? (i := 987) (by decide +kernel), List.mem_of_getElem? (i := 1246) (by decide +kernel), List.mem_of_getElem? (i := 1247) (by decide +kernel)⟩
theorem lw_p52 : lw_okq (⟨"LinkChancesModel", "reaches", "(II)Z"⟩, 30) := ⟨⟨by decide +kernel, by decide +kernel⟩, List.mem_of_getElem? (i := 987) (by decide +kernel), List.mem_of_getElem? (i := 1253) (by decide +kernel), List.mem_of_getElem? (i := 1254) (by decide +kernel)⟩
theorem lw_p53 : lw_okq (⟨"LinkChancesModel", "likeBy", "(III)J"⟩, 30) := ⟨⟨by decide +kernel, by decide +kernel⟩, List.mem_of_getElem? (i := 987) (by decide +kernel), List.mem_of_getElem? (i := 1262) (by decide +kernel), List.mem_of_getElem? (i := 1263) (by decide +kernel)⟩
theorem lw_p54 : lw_okq (⟨"LinkChancesModel", "power", "(JI)J"⟩, 30) := ⟨⟨by decide +kernel, by decide +kernel⟩, List.mem_of_getElem? (i := 987) (by decide +kernel), List.mem_of_getElem? (i := 1266) (by decide +kernel), List.mem_of_getElem? (i := 1267) (by decide +kernel)⟩
theorem lw_p55 : lw_okq (⟨"LinkChancesModel", "times", "(JJ)J"⟩, 30) := ⟨⟨by decide +kernel, by decide +kernel⟩, List.mem_of_getElem? (i := 987) (by decide +kernel), List.mem_of_getElem? (i := 1270) (by decide +kernel), List.mem_of_getElem? (i := 1271) (by decide +kernel)⟩
theorem lw_p56 : lw_okq (⟨"LinkChancesModel", "leastCut", "()I"⟩, 30) := ⟨⟨by decide +kernel, by decide +kernel⟩, List.mem_of_getElem? (i := 987) (by decide +kernel), List.mem_of_getElem? (i := 1279) (by decide +kernel), List.mem_of_getElem? (i := 1280) (by decide +kernel)⟩
theorem lw_p57 : lw_okq (⟨"LinkChancesModel", "leastWay", "()I"⟩, 30) := ⟨⟨by decide +kernel, by decide +kernel⟩, List.mem_of_getElem? (i := 987) (by decide +kernel), List.mem_of_getElem? (i := 1283) (by decide +kernel), List.mem_of_getElem? (i := 1284) (by decide +kernel)⟩
theorem lw_p58 : lw_okq (⟨"LinkChancesModel", "worthBy", "(II)J"⟩, 30) := ⟨⟨by decide +kernel, by decide +kernel⟩, List.mem_of_getElem? (i := 987) (by decide +kernel), List.mem_of_getElem? (i := 1291) (by decide +kernel), List.mem_of_getElem? (i := 1292) (by decide +kernel)⟩
theorem lw_p59 : lw_okq (⟨"LinkChancesModel", "worthAbove", "(I)J"⟩, 30) := ⟨⟨by decide +kernel, by decide +kernel⟩, List.mem_of_getElem? (i := 987) (by decide +kernel), List.mem_of_getElem? (i := 1295) (by decide +kernel), List.mem_of_getElem? (i := 1296) (by decide +kernel)⟩
theorem lw_p60 : lw_okq (⟨"LinkChancesModel", "worthiestNow", "()I"⟩, 30) := ⟨⟨by decide +kernel, by decide +kernel⟩, List.mem_of_getElem? (i := 987) (by decide +kernel), List.mem_of_getElem? (i := 1303) (by decide +kernel), List.mem_of_getElem? (i := 1304) (by decide +kernel)⟩
theorem lw_p61 : lw_okq (⟨"LinkChancesModel", "betterBy", "(IIII)J"⟩, 30) := ⟨⟨by decide +kernel, by decide +kernel⟩, List.mem_of_getElem? (i := 987) (by decide +kernel), List.mem_of_getElem? (i := 1311) (by decide +kernel), List.mem_of_getElem? (i := 1312) (by decide +kernel)⟩
theorem lw_p62 : lw_okq (⟨"LinkChancesModel", "wideBy", "(I)I"⟩, 30) := ⟨⟨by decide +kernel, by decide +kernel⟩, List.mem_of_getElem? (i := 987) (by decide +kernel), List.mem_of_getElem? (i := 1319) (by decide +kernel), List.mem_of_getElem? (i := 1320) (by decide +kernel)⟩
theorem lw_p63 : lw_okq (⟨"LinkChancesModel", "isOpen", "(II)Z"⟩, 30) := ⟨⟨by decide +kernel, by decide +kernel⟩, List.mem_of_getElem? (i := 987) (by decide +kernel), List.mem_of_getElem? (i := 1323) (by decide +kernel), List.mem_of_getElem? (i := 1324) (by decide +kernel)⟩
def lw_privs_4 : List (MethodName × Nat) := [(⟨"LinkChancesModel", "below", "()J"⟩, 30), (⟨"LinkChancesModel", "pairBy", "(III)J"⟩, 30), (⟨"LinkChancesModel", "ruleBy", "(I)J"⟩, 30), (⟨"LinkChancesModel", "setsOf", "(I)I"⟩, 30), (⟨"LinkChancesModel", "reaches", "(II)Z"⟩, 30), (⟨"LinkChancesModel", "likeBy", "(III)J"⟩, 30), (⟨"LinkChancesModel", "power", "(JI)J"⟩, 30), (⟨"LinkChancesModel", "times", "(JJ)J"⟩, 30), (⟨"LinkChancesModel", "leastCut", "()I"⟩, 30), (⟨"LinkChancesModel", "leastWay", "()I"⟩, 30), (⟨"LinkChancesModel", "worthBy", "(II)J"⟩, 30), (⟨"LinkChancesModel", "worthAbove", "(I)J"⟩, 30), (⟨"LinkChancesModel", "worthiestNow", "()I"⟩, 30), (⟨"LinkChancesModel", "betterBy", "(IIII)J"⟩, 30), (⟨"LinkChancesModel", "wideBy", "(I)I"⟩, 30), (⟨"LinkChancesModel", "isOpen", "(II)Z"⟩, 30)]
theorem lw_r4 : ∀ q ∈ lw_privs_4, lw_okq q := List.forall_mem_cons.mpr ⟨lw_p48, List.forall_mem_cons.mpr ⟨lw_p49, List.forall_mem_cons.mpr ⟨lw_p50, List.forall_mem_cons.mpr ⟨lw_p51, List.forall_mem_cons.mpr ⟨lw_p52, List.forall_mem_cons.mpr ⟨lw_p53, List.forall_mem_cons.mpr ⟨lw_p54, List.forall_mem_cons.mpr ⟨lw_p55, List.forall_mem_cons.mpr ⟨lw_p56, List.forall_mem_cons.mpr ⟨lw_p57, List.forall_mem_cons.mpr ⟨lw_p58, List.forall_mem_cons.mpr ⟨lw_p59, List.forall_mem_cons.mpr ⟨lw_p60, List.forall_mem_cons.mpr ⟨lw_p61, List.forall_mem_cons.mpr ⟨lw_p62, List.forall_mem_cons.mpr ⟨lw_p63, fun _ h => absurd h List.not_mem_nil⟩⟩⟩⟩⟩⟩⟩⟩⟩⟩⟩⟩⟩⟩⟩⟩
theorem lw_p64 : lw_okq (⟨"LinkChancesModel", "isPossible", "(II)Z"⟩, 30) := ⟨⟨by decide +kernel, by decide +kernel⟩, List.mem_of_getElem? (i := 987) (by decide +kernel), List.mem_of_getElem? (i := 1327) (by decide +kernel), List.mem_of_getElem? (i := 1328) (by decide +kernel)⟩
theorem lw_p65 : lw_okq (⟨"LinkChancesModel", "keyOf", "(II)I"⟩, 30) := ⟨⟨by decide +kernel, by decide +kernel⟩, List.mem_of_getElem? (i := 987) (by decide +kernel), List.mem_of_getElem? (i := 1331) (by decide +kernel), List.mem_of_getElem? (i := 1332) (by decide +kernel)⟩
theorem lw_p66 : lw_okq (⟨"LinkChancesModel", "widestNow", "()I"⟩, 30) := ⟨⟨by decide +kernel, by decide +kernel⟩, List.mem_of_getElem? (i := 987) (by decide +kernel), List.mem_of_getElem? (i := 1339) (by decide +kernel), List.mem_of_getElem? (i := 1340) (by decide +kernel)⟩
theorem lw_p67 : lw_okq (⟨"LinkChancesModel", "asks", "()V"⟩, 30) := ⟨⟨by decide +kernel, by decide +kernel⟩, List.mem_of_getElem? (i := 987) (by decide +kernel), List.mem_of_getElem? (i := 1347) (by decide +kernel), List.mem_of_getElem? (i := 1348) (by decide +kernel)⟩
theorem lw_p68 : lw_okq (⟨"LinkChancesModel", "tidies", "(I)V"⟩, 30) := ⟨⟨by decide +kernel, by decide +kernel⟩, List.mem_of_getElem? (i := 987) (by decide +kernel), List.mem_of_getElem? (i := 1351) (by decide +kernel), List.mem_of_getElem? (i := 1352) (by decide +kernel)⟩
theorem lw_p69 : lw_okq (⟨"LinkChancesModel", "dropsOwn", "(I)Z"⟩, 30) := ⟨⟨by decide +kernel, by decide +kernel⟩, List.mem_of_getElem? (i := 987) (by decide +kernel), List.mem_of_getElem? (i := 1355) (by decide +kernel), List.mem_of_getElem? (i := 1356) (by decide +kernel)⟩
theorem lw_p70 : lw_okq (⟨"LinkChancesModel", "has", "(II)Z"⟩, 30) := ⟨⟨by decide +kernel, by decide +kernel⟩, List.mem_of_getElem? (i := 987) (by decide +kernel), List.mem_of_getElem? (i := 1359) (by decide +kernel), List.mem_of_getElem? (i := 1360) (by decide +kernel)⟩
theorem lw_p71 : lw_okq (⟨"LinkChancesModel", "drops", "(II)V"⟩, 30) := ⟨⟨by decide +kernel, by decide +kernel⟩, List.mem_of_getElem? (i := 987) (by decide +kernel), List.mem_of_getElem? (i := 1363) (by decide +kernel), List.mem_of_getElem? (i := 1364) (by decide +kernel)⟩
theorem lw_p72 : lw_okq (⟨"LinkChancesModel", "joinsBeside", "(I)Z"⟩, 30) := ⟨⟨by decide +kernel, by decide +kernel⟩, List.mem_of_getElem? (i := 987) (by decide +kernel), List.mem_of_getElem? (i := 1367) (by decide +kernel), List.mem_of_getElem? (i := 1368) (by decide +kernel)⟩
theorem lw_p73 : lw_okq (⟨"LinkChancesModel", "isBeside", "(III)Z"⟩, 30) := ⟨⟨by decide +kernel, by decide +kernel⟩, List.mem_of_getElem? (i := 987) (by decide +kernel), List.mem_of_getElem? (i := 1371) (by decide +kernel), List.mem_of_getElem? (i := 1372) (by decide +kernel)⟩
theorem lw_p74 : lw_okq (⟨"LinkChancesModel", "isAt", "(III)Z"⟩, 30) := ⟨⟨by decide +kernel, by decide +kernel⟩, List.mem_of_getElem? (i := 987) (by decide +kernel), List.mem_of_getElem? (i := 1375) (by decide +kernel), List.mem_of_getElem? (i := 1376) (by decide +kernel)⟩
theorem lw_p75 : lw_okq (⟨"LinkChancesModel", "dropsEnds", "(I)Z"⟩, 30) := ⟨⟨by decide +kernel, by decide +kernel⟩, List.mem_of_getElem? (i := 987) (by decide +kernel), List.mem_of_getElem? (i := 1379) (by decide +kernel), List.mem_of_getElem? (i := 1380) (by decide +kernel)⟩
theorem lw_p76 : lw_okq (⟨"LinkChancesModel", "isFree", "(III)Z"⟩, 30) := ⟨⟨by decide +kernel, by decide +kernel⟩, List.mem_of_getElem? (i := 987) (by decide +kernel), List.mem_of_getElem? (i := 1383) (by decide +kernel), List.mem_of_getElem? (i := 1384) (by decide +kernel)⟩
theorem lw_p77 : lw_okq (⟨"LinkChancesModel", "linksAt", "(II)I"⟩, 30) := ⟨⟨by decide +kernel, by decide +kernel⟩, List.mem_of_getElem? (i := 987) (by decide +kernel), List.mem_of_getElem? (i := 1387) (by decide +kernel), List.mem_of_getElem? (i := 1388) (by decide +kernel)⟩
theorem lw_p78 : lw_okq (⟨"LinkChancesModel", "joinsBehind", "(I)Z"⟩, 30) := ⟨⟨by decide +kernel, by decide +kernel⟩, List.mem_of_getElem? (i := 987) (by decide +kernel), List.mem_of_getElem? (i := 1391) (by decide +kernel), List.mem_of_getElem? (i := 1392) (by decide +kernel)⟩
theorem lw_p79 : lw_okq (⟨"LinkChancesModel", "otherEnd", "(III)I"⟩, 30) := ⟨⟨by decide +kernel, by decide +kernel⟩, List.mem_of_getElem? (i := 987) (by decide +kernel), List.mem_of_getElem? (i := 1395) (by decide +kernel), List.mem_of_getElem? (i := 1396) (by decide +kernel)⟩
def lw_privs_5 : List (MethodName × Nat) := [(⟨"LinkChancesModel", "isPossible", "(II)Z"⟩, 30), (⟨"LinkChancesModel", "keyOf", "(II)I"⟩, 30), (⟨"LinkChancesModel", "widestNow", "()I"⟩, 30), (⟨"LinkChancesModel", "asks", "()V"⟩, 30), (⟨"LinkChancesModel", "tidies", "(I)V"⟩, 30), (⟨"LinkChancesModel", "dropsOwn", "(I)Z"⟩, 30), (⟨"LinkChancesModel", "has", "(II)Z"⟩, 30), (⟨"LinkChancesModel", "drops", "(II)V"⟩, 30), (⟨"LinkChancesModel", "joinsBeside", "(I)Z"⟩, 30), (⟨"LinkChancesModel", "isBeside", "(III)Z"⟩, 30), (⟨"LinkChancesModel", "isAt", "(III)Z"⟩, 30), (⟨"LinkChancesModel", "dropsEnds", "(I)Z"⟩, 30), (⟨"LinkChancesModel", "isFree", "(III)Z"⟩, 30), (⟨"LinkChancesModel", "linksAt", "(II)I"⟩, 30), (⟨"LinkChancesModel", "joinsBehind", "(I)Z"⟩, 30), (⟨"LinkChancesModel", "otherEnd", "(III)I"⟩, 30)]
theorem lw_r5 : ∀ q ∈ lw_privs_5, lw_okq q := List.forall_mem_cons.mpr ⟨lw_p64, List.forall_mem_cons.mpr ⟨lw_p65, List.forall_mem_cons.mpr ⟨lw_p66, List.forall_mem_cons.mpr ⟨lw_p67, List.forall_mem_cons.mpr ⟨lw_p68, List.forall_mem_cons.mpr ⟨lw_p69, List.forall_mem_cons.mpr ⟨lw_p70, List.forall_mem_cons.mpr ⟨lw_p71, List.forall_mem_cons.mpr ⟨lw_p72, List.forall_mem_cons.mpr ⟨lw_p73, List.forall_mem_cons.mpr ⟨lw_p74, List.forall_mem_cons.mpr ⟨lw_p75, List.forall_mem_cons.mpr ⟨lw_p76, List.forall_mem_cons.mpr ⟨lw_p77, List.forall_mem_cons.mpr ⟨lw_p78, List.forall_mem_cons.mpr ⟨lw_p79, fun _ h => absurd h List.not_mem_nil⟩⟩⟩⟩⟩⟩⟩⟩⟩⟩⟩⟩⟩⟩⟩⟩
theorem lw_p80 : lw_okq (⟨"LinkChancesModel", "isAnswered", "(I)Z"⟩, 30) := ⟨⟨by decide +kernel, by decide +kernel⟩, List.mem_of_getElem? (i := 987) (by decide +kernel), List.mem_of_getElem? (i := 1399) (by decide +kernel), List.mem_of_getElem? (i := 1400) (by decide +kernel)⟩
theorem lw_p81 : lw_okq (⟨"LinkChancesModel", "first", "(I)I"⟩, 30) := ⟨⟨by decide +kernel, by decide +kernel⟩, List.mem_of_getElem? (i := 987) (by decide +kernel), List.mem_of_getElem? (i := 1403) (by decide +kernel), List.mem_of_getElem? (i := 1404) (by decide +kernel)⟩
theorem lw_p82 : lw_okq (⟨"LinkChancesModel", "puts", "(IIZ)V"⟩, 30) := ⟨⟨by decide +kernel, by decide +kernel⟩, List.mem_of_getElem? (i := 987) (by decide +kernel), List.mem_of_getElem? (i := 1407) (by decide +kernel), List.mem_of_getElem? (i := 1408) (by decide +kernel)⟩
theorem lw_p83 : lw_okq (⟨"LinkChancesModel", "joinedBy", "(I)J"⟩, 30) := ⟨⟨by decide +kernel, by decide +kernel⟩, List.mem_of_getElem? (i := 987) (by decide +kernel), List.mem_of_getElem? (i := 1411) (by decide +kernel), List.mem_of_getElem? (i := 1412) (by decide +kernel)⟩
theorem lw_p84 : lw_okq (⟨"LinkChancesModel", "does", "(II)I"⟩, 30) := ⟨⟨by decide +kernel, by decide +kernel⟩, List.mem_of_getElem? (i := 987) (by decide +kernel), List.mem_of_getElem? (i := 1428) (by decide +kernel), List.mem_of_getElem? (i := 1429) (by decide +kernel)⟩
theorem lw_p85 : lw_okq (⟨"LinkChancesModel", "wordOf", "(II)I"⟩, 30) := ⟨⟨by decide +kernel, by decide +kernel⟩, List.mem_of_getElem? (i := 987) (by decide +kernel), List.mem_of_getElem? (i := 1434) (by decide +kernel), List.mem_of_getElem? (i := 1435) (by decide +kernel)⟩
theorem lw_p86 : lw_okq (⟨"LinkChancesModel", "isWord", "(IIIIII)Z"⟩, 30) := ⟨⟨by decide +kernel, by decide +kernel⟩, List.mem_of_getElem? (i := 987) (by decide +kernel), List.mem_of_getElem? (i := 1438) (by decide +kernel), List.mem_of_getElem? (i := 1439) (by decide +kernel)⟩
theorem lw_p87 : lw_okq (⟨"LinkChancesModel", "letter", "(II)I"⟩, 30) := ⟨⟨by decide +kernel, by decide +kernel⟩, List.mem_of_getElem? (i := 987) (by decide +kernel), List.mem_of_getElem? (i := 1442) (by decide +kernel), List.mem_of_getElem? (i := 1443) (by decide +kernel)⟩
theorem lw_p88 : lw_okq (⟨"LinkChancesModel", "unseen", "()I"⟩, 30) := ⟨⟨by decide +kernel, by decide +kernel⟩, List.mem_of_getElem? (i := 987) (by decide +kernel), List.mem_of_getElem? (i := 1460) (by decide +kernel), List.mem_of_getElem? (i := 1461) (by decide +kernel)⟩
theorem lw_p89 : lw_okq (⟨"LinkChancesModel", "allReach", "()I"⟩, 30) := ⟨⟨by decide +kernel, by decide +kernel⟩, List.mem_of_getElem? (i := 987) (by decide +kernel), List.mem_of_getElem? (i := 1464) (by decide +kernel), List.mem_of_getElem? (i := 1465) (by decide +kernel)⟩
theorem lw_p90 : lw_okq (⟨"LinkChancesModel", "linkTells", "(JI)J"⟩, 30) := ⟨⟨by decide +kernel, by decide +kernel⟩, List.mem_of_getElem? (i := 987) (by decide +kernel), List.mem_of_getElem? (i := 1475) (by decide +kernel), List.mem_of_getElem? (i := 1476) (by decide +kernel)⟩
theorem lw_p91 : lw_okq (⟨"LinkChancesModel", "pairTells", "(J)J"⟩, 30) := ⟨⟨by decide +kernel, by decide +kernel⟩, List.mem_of_getElem? (i := 987) (by decide +kernel), List.mem_of_getElem? (i := 1479) (by decide +kernel), List.mem_of_getElem? (i := 1480) (by decide +kernel)⟩
def lw_privs_6 : List (MethodName × Nat) := [(⟨"LinkChancesModel", "isAnswered", "(I)Z"⟩, 30), (⟨"LinkChancesModel", "first", "(I)I"⟩, 30), (⟨"LinkChancesModel", "puts", "(IIZ)V"⟩, 30), (⟨"LinkChancesModel", "joinedBy", "(I)J"⟩, 30), (⟨"LinkChancesModel", "does", "(II)I"⟩, 30), (⟨"LinkChancesModel", "wordOf", "(II)I"⟩, 30), (⟨"LinkChancesModel", "isWord", "(IIIIII)Z"⟩, 30), (⟨"LinkChancesModel", "letter", "(II)I"⟩, 30), (⟨"LinkChancesModel", "unseen", "()I"⟩, 30), (⟨"LinkChancesModel", "allReach", "()I"⟩, 30), (⟨"LinkChancesModel", "linkTells", "(JI)J"⟩, 30), (⟨"LinkChancesModel", "pairTells", "(J)J"⟩, 30)]
theorem lw_r6 : ∀ q ∈ lw_privs_6, lw_okq q := List.forall_mem_cons.mpr ⟨lw_p80, List.forall_mem_cons.mpr ⟨lw_p81, List.forall_mem_cons.mpr ⟨lw_p82, List.forall_mem_cons.mpr ⟨lw_p83, List.forall_mem_cons.mpr ⟨lw_p84, List.forall_mem_cons.mpr ⟨lw_p85, List.forall_mem_cons.mpr ⟨lw_p86, List.forall_mem_cons.mpr ⟨lw_p87, List.forall_mem_cons.mpr ⟨lw_p88, List.forall_mem_cons.mpr ⟨lw_p89, List.forall_mem_cons.mpr ⟨lw_p90, List.forall_mem_cons.mpr ⟨lw_p91, fun _ h => absurd h List.not_mem_nil⟩⟩⟩⟩⟩⟩⟩⟩⟩⟩⟩⟩
def lw_privs : List (MethodName × Nat) := lw_privs_1 ++ (lw_privs_2 ++ (lw_privs_3 ++ (lw_privs_4 ++ (lw_privs_5 ++ (lw_privs_6)))))
def lw_tbl : List Cond := k2_sels lw_privs ++ tables_1
theorem lw_privs_ok : ∀ q ∈ lw_privs, lw_okq q := by
  show ∀ q ∈ lw_privs_1 ++ (lw_privs_2 ++ (lw_privs_3 ++ (lw_privs_4 ++ (lw_privs_5 ++ (lw_privs_6))))), lw_okq q
  exact List.forall_mem_append.mpr ⟨lw_r1, List.forall_mem_append.mpr ⟨lw_r2, List.forall_mem_append.mpr ⟨lw_r3, List.forall_mem_append.mpr ⟨lw_r4, List.forall_mem_append.mpr ⟨lw_r5, lw_r6⟩⟩⟩⟩⟩
-- ===== end of PART A; then your names; then what follows =====
/-! ===== BEGIN words of one list among another's, by their places ===== -/
theorem goodIn_r {big : List Cond} (ws : List Cond) (ps : List Nat) (hp : ws = ps.filterMap (fun i => big[i]?)) (h : ws.all goodWord = true) : GoodIn big ws := by
  intro w hw
  have h1 := List.all_eq_true.mp h w hw
  rw [hp] at hw
  obtain ⟨i, -, hi⟩ := List.mem_filterMap.mp hw
  have hm : w ∈ big := by first | exact List.mem_of_getElem? hi | exact List.getElem?_mem hi
  exact ⟨hm, good_of_word h1⟩
theorem goodIn_app {big a b : List Cond} (ha : GoodIn big a) (hb : GoodIn big b) : GoodIn big (a ++ b) := fun w h => (List.mem_append.mp h).elim (ha w) (hb w)
theorem goodIn_ca {big a b : List Cond} {c : Cond} (ha : GoodIn big (c :: a)) (hb : GoodIn big b) : GoodIn big (c :: (a ++ b)) := fun w h => (List.mem_cons.mp h).elim (fun e => ha w (List.mem_cons.mpr (Or.inl e))) (fun h => (List.mem_append.mp h).elim (fun h => ha w (List.mem_cons.mpr (Or.inr h))) (hb w))
theorem goodIn_sub {big ws : List Cond} (hm : ∀ w ∈ ws, w ∈ big) (h : ws.all goodWord = true) : GoodIn big ws := fun w hw => ⟨hm w hw, good_of_word (List.all_eq_true.mp h w hw)⟩
/-! ===== END ===== -/
def RX0 : String := "LinkChances$CutAndJoin"
def TX0 : u_T := fun k => match k with
  | 0 => ("LinkChances$CutAndJoin", "net", "LLinkChances$Net;", true)
  | 1 => ("LinkChances$CutAndJoin", "levels", "[LLinkChances$TidyNet;", true)
  | 2 => ("LinkChances$CutAndJoin", "steps", "I", false)
  | 3 => ("LinkChances$CutAndJoin", "deep", "I", false)
  | _ => ("LinkChances$CutAndJoin", "tidied", "I", false)
def tyX0 : Nat → FieldType := fun k => match k with
  | 0 => .object "LinkChances$Net"
  | 1 => .array (.object "LinkChances$TidyNet")
  | 2 => .int
  | 3 => .int
  | _ => .int
abbrev wsX00 : List Cond := u_ws RX0 TX0 5
theorem nmX0 : ∀ a, a < 5 → ∀ b, b < 5 → a ≠ b → (TX0 a).2.1 ≠ (TX0 b).2.1 := by decide +kernel
theorem tyX0_ok : ∀ k, k < 5 → parseFieldDescriptor (TX0 k).2.2.1 = some (tyX0 k) := by decide +kernel
abbrev cX0_init : ByteArray := prog_2_method_1_code
def yX0_init : MethodName := ⟨RX0, "<init>", "(LLinkChances$Net;)V"⟩
abbrev cX0_askAll : ByteArray := prog_2_method_2_code
def yX0_askAll : MethodName := ⟨RX0, "askAll", "()V"⟩
abbrev cX0_told : ByteArray := prog_2_method_3_code
def yX0_told : MethodName := ⟨RX0, "told", "(I)J"⟩
abbrev cX0_ask : ByteArray := prog_2_method_4_code
def yX0_ask : MethodName := ⟨RX0, "ask", "(LLinkChances$CutAndJoin;I)V"⟩
def RX1 : String := "LinkChances$Fractions"
def TX1 : u_T := fun k => match k with
  | _ => ("", "", "", false)
def tyX1 : Nat → FieldType := fun k => match k with
  | _ => .int
abbrev wsX10 : List Cond := u_ws RX1 TX1 0
theorem nmX1 : ∀ a, a < 0 → ∀ b, b < 0 → a ≠ b → (TX1 a).2.1 ≠ (TX1 b).2.1 := by decide +kernel
theorem tyX1_ok : ∀ k, k < 0 → parseFieldDescriptor (TX1 k).2.2.1 = some (tyX1 k) := by decide +kernel
abbrev cX1_isChance : ByteArray := prog_3_method_2_code
def yX1_isChance : MethodName := ⟨RX1, "isChance", "(JJ)Z"⟩
abbrev cX1_commonDivisor : ByteArray := prog_3_method_3_code
def yX1_commonDivisor : MethodName := ⟨RX1, "commonDivisor", "(JJ)J"⟩
abbrev cX1_told : ByteArray := prog_3_method_4_code
def yX1_told : MethodName := ⟨RX1, "told", "(JJI)J"⟩
def RX2 : String := "LinkChances$Net"
def TX2 : u_T := fun k => match k with
  | 0 => ("LinkChances$Net", "lessers", "[I", true)
  | 1 => ("LinkChances$Net", "greaters", "[I", true)
  | 2 => ("LinkChances$Net", "aboves", "[I", true)
  | 3 => ("LinkChances$Net", "belows", "[I", true)
  | 4 => ("LinkChances$Net", "seens", "[I", true)
  | 5 => ("LinkChances$Net", "joinings", "[J", true)
  | 6 => ("LinkChances$Net", "stationCount", "I", false)
  | 7 => ("LinkChances$Net", "linkCount", "I", false)
  | 8 => ("LinkChances$Net", "source", "I", false)
  | _ => ("LinkChances$Net", "goals", "I", false)
def tyX2 : Nat → FieldType := fun k => match k with
  | 0 => .array .int
  | 1 => .array .int
  | 2 => .array .int
  | 3 => .array .int
  | 4 => .array .int
  | 5 => .array .long
  | 6 => .int
  | 7 => .int
  | 8 => .int
  | _ => .int
abbrev wsX20 : List Cond := u_ws RX2 TX2 10
theorem nmX2 : ∀ a, a < 10 → ∀ b, b < 10 → a ≠ b → (TX2 a).2.1 ≠ (TX2 b).2.1 := by decide +kernel
theorem tyX2_ok : ∀ k, k < 10 → parseFieldDescriptor (TX2 k).2.2.1 = some (tyX2 k) := by decide +kernel
abbrev cX2_init : ByteArray := prog_4_method_1_code
def yX2_init : MethodName := ⟨RX2, "<init>", "()V"⟩
abbrev cX2_renew : ByteArray := prog_4_method_2_code
def yX2_renew : MethodName := ⟨RX2, "renew", "(I)V"⟩
abbrev cX2_stationCount : ByteArray := prog_4_method_3_code
def yX2_stationCount : MethodName := ⟨RX2, "stationCount", "()I"⟩
abbrev cX2_linkCount : ByteArray := prog_4_method_4_code
def yX2_linkCount : MethodName := ⟨RX2, "linkCount", "()I"⟩
abbrev cX2_sourceStation : ByteArray := prog_4_method_5_code
def yX2_sourceStation : MethodName := ⟨RX2, "sourceStation", "()I"⟩
abbrev cX2_goalBits : ByteArray := prog_4_method_6_code
def yX2_goalBits : MethodName := ⟨RX2, "goalBits", "()I"⟩
abbrev cX2_allStations : ByteArray := prog_4_method_7_code
def yX2_allStations : MethodName := ⟨RX2, "allStations", "()I"⟩
abbrev cX2_allLinks : ByteArray := prog_4_method_8_code
def yX2_allLinks : MethodName := ⟨RX2, "allLinks", "()I"⟩
abbrev cX2_wantedStations : ByteArray := prog_4_method_9_code
def yX2_wantedStations : MethodName := ⟨RX2, "wantedStations", "()I"⟩
abbrev cX2_hasStation : ByteArray := prog_4_method_10_code
def yX2_hasStation : MethodName := ⟨RX2, "hasStation", "(J)Z"⟩
abbrev cX2_hasLink : ByteArray := prog_4_method_11_code
def yX2_hasLink : MethodName := ⟨RX2, "hasLink", "(I)Z"⟩
abbrev cX2_hasRoom : ByteArray := prog_4_method_12_code
def yX2_hasRoom : MethodName := ⟨RX2, "hasRoom", "()Z"⟩
abbrev cX2_mayLink : ByteArray := prog_4_method_13_code
def yX2_mayLink : MethodName := ⟨RX2, "mayLink", "(JJJJ)Z"⟩
abbrev cX2_addLink : ByteArray := prog_4_method_14_code
def yX2_addLink : MethodName := ⟨RX2, "addLink", "(IIII)I"⟩
abbrev cX2_dropLast : ByteArray := prog_4_method_15_code
def yX2_dropLast : MethodName := ⟨RX2, "dropLast", "()I"⟩
abbrev cX2_setChance : ByteArray := prog_4_method_16_code
def yX2_setChance : MethodName := ⟨RX2, "setChance", "(III)V"⟩
abbrev cX2_setSeen : ByteArray := prog_4_method_17_code
def yX2_setSeen : MethodName := ⟨RX2, "setSeen", "(II)V"⟩
abbrev cX2_setSource : ByteArray := prog_4_method_18_code
def yX2_setSource : MethodName := ⟨RX2, "setSource", "(I)V"⟩
abbrev cX2_setGoals : ByteArray := prog_4_method_19_code
def yX2_setGoals : MethodName := ⟨RX2, "setGoals", "(I)V"⟩
abbrev cX2_lesserOf : ByteArray := prog_4_method_20_code
def yX2_lesserOf : MethodName := ⟨RX2, "lesserOf", "(I)I"⟩
abbrev cX2_greaterOf : ByteArray := prog_4_method_21_code
def yX2_greaterOf : MethodName := ⟨RX2, "greaterOf", "(I)I"⟩
abbrev cX2_aboveOf : ByteArray := prog_4_method_22_code
def yX2_aboveOf : MethodName := ⟨RX2, "aboveOf", "(I)I"⟩
abbrev cX2_belowOf : ByteArray := prog_4_method_23_code
def yX2_belowOf : MethodName := ⟨RX2, "belowOf", "(I)I"⟩
abbrev cX2_seenOf : ByteArray := prog_4_method_24_code
def yX2_seenOf : MethodName := ⟨RX2, "seenOf", "(I)I"⟩
abbrev cX2_upParts : ByteArray := prog_4_method_25_code
def yX2_upParts : MethodName := ⟨RX2, "upParts", "(I)I"⟩
abbrev cX2_wholeParts : ByteArray := prog_4_method_26_code
def yX2_wholeParts : MethodName := ⟨RX2, "wholeParts", "(I)I"⟩
abbrev cX2_linksSeen : ByteArray := prog_4_method_27_code
def yX2_linksSeen : MethodName := ⟨RX2, "linksSeen", "(I)I"⟩
abbrev cX2_joinedWith : ByteArray := prog_4_method_28_code
def yX2_joinedWith : MethodName := ⟨RX2, "joinedWith", "(II)I"⟩
abbrev cX2_reaches : ByteArray := prog_4_method_29_code
def yX2_reaches : MethodName := ⟨RX2, "reaches", "(I)Z"⟩
abbrev cX2_stationsIn : ByteArray := prog_4_method_30_code
def yX2_stationsIn : MethodName := ⟨RX2, "stationsIn", "(JI)I"⟩
abbrev cX2_addSetsWith : ByteArray := prog_4_method_31_code
def yX2_addSetsWith : MethodName := ⟨RX2, "addSetsWith", "(I)V"⟩
abbrev cX2_joinedOver : ByteArray := prog_4_method_32_code
def yX2_joinedOver : MethodName := ⟨RX2, "joinedOver", "(JII)J"⟩
def RX3 : String := "LinkChances$Odds"
def TX3 : u_T := fun k => match k with
  | 0 => ("LinkChances$Odds", "net", "LLinkChances$Net;", true)
  | 1 => ("LinkChances$Odds", "parts", "[J", true)
  | _ => ("LinkChances$Odds", "whole", "J", false)
def tyX3 : Nat → FieldType := fun k => match k with
  | 0 => .object "LinkChances$Net"
  | 1 => .array .long
  | _ => .long
abbrev wsX30 : List Cond := u_ws RX3 TX3 3
theorem nmX3 : ∀ a, a < 3 → ∀ b, b < 3 → a ≠ b → (TX3 a).2.1 ≠ (TX3 b).2.1 := by decide +kernel
theorem tyX3_ok : ∀ k, k < 3 → parseFieldDescriptor (TX3 k).2.2.1 = some (tyX3 k) := by decide +kernel
abbrev cX3_init : ByteArray := prog_5_method_1_code
def yX3_init : MethodName := ⟨RX3, "<init>", "(LLinkChances$Net;)V"⟩
abbrev cX3_fill : ByteArray := prog_5_method_2_code
def yX3_fill : MethodName := ⟨RX3, "fill", "()V"⟩
abbrev cX3_fillWith : ByteArray := prog_5_method_3_code
def yX3_fillWith : MethodName := ⟨RX3, "fillWith", "(III)V"⟩
abbrev cX3_told : ByteArray := prog_5_method_4_code
def yX3_told : MethodName := ⟨RX3, "told", "(JI)J"⟩
abbrev cX3_reachParts : ByteArray := prog_5_method_5_code
def yX3_reachParts : MethodName := ⟨RX3, "reachParts", "()J"⟩
abbrev cX3_pairParts : ByteArray := prog_5_method_6_code
def yX3_pairParts : MethodName := ⟨RX3, "pairParts", "(II)J"⟩
abbrev cX3_ruleParts : ByteArray := prog_5_method_7_code
def yX3_ruleParts : MethodName := ⟨RX3, "ruleParts", "()J"⟩
abbrev cX3_worthParts : ByteArray := prog_5_method_8_code
def yX3_worthParts : MethodName := ⟨RX3, "worthParts", "(I)J"⟩
abbrev cX3_worthiestLink : ByteArray := prog_5_method_9_code
def yX3_worthiestLink : MethodName := ⟨RX3, "worthiestLink", "()I"⟩
abbrev cX3_spread : ByteArray := prog_5_method_10_code
def yX3_spread : MethodName := ⟨RX3, "spread", "(III)V"⟩
def RX4 : String := "LinkChances$Orders"
def TX4 : u_T := fun k => match k with
  | 0 => ("LinkChances$Orders", "net", "LLinkChances$Net;", true)
  | 1 => ("LinkChances$Orders", "text", "[I", true)
  | 2 => ("LinkChances$Orders", "length", "I", false)
  | _ => ("LinkChances$Orders", "fault", "I", false)
def tyX4 : Nat → FieldType := fun k => match k with
  | 0 => .object "LinkChances$Net"
  | 1 => .array .int
  | 2 => .int
  | _ => .int
abbrev wsX40 : List Cond := u_ws RX4 TX4 4
theorem nmX4 : ∀ a, a < 4 → ∀ b, b < 4 → a ≠ b → (TX4 a).2.1 ≠ (TX4 b).2.1 := by decide +kernel
theorem tyX4_ok : ∀ k, k < 4 → parseFieldDescriptor (TX4 k).2.2.1 = some (tyX4 k) := by decide +kernel
abbrev cX4_init : ByteArray := prog_6_method_1_code
def yX4_init : MethodName := ⟨RX4, "<init>", "(LLinkChances$Net;)V"⟩
abbrev cX4_length : ByteArray := prog_6_method_2_code
def yX4_length : MethodName := ⟨RX4, "length", "()I"⟩
abbrev cX4_latestFault : ByteArray := prog_6_method_3_code
def yX4_latestFault : MethodName := ⟨RX4, "latestFault", "()I"⟩
abbrev cX4_isFull : ByteArray := prog_6_method_4_code
def yX4_isFull : MethodName := ⟨RX4, "isFull", "()Z"⟩
abbrev cX4_append : ByteArray := prog_6_method_5_code
def yX4_append : MethodName := ⟨RX4, "append", "(I)I"⟩
abbrev cX4_clear : ByteArray := prog_6_method_6_code
def yX4_clear : MethodName := ⟨RX4, "clear", "()I"⟩
abbrev cX4_run : ByteArray := prog_6_method_7_code
def yX4_run : MethodName := ⟨RX4, "run", "()I"⟩
abbrev cX4_lookThrough : ByteArray := prog_6_method_8_code
def yX4_lookThrough : MethodName := ⟨RX4, "lookThrough", "()I"⟩
abbrev cX4_faultOf : ByteArray := prog_6_method_9_code
def yX4_faultOf : MethodName := ⟨RX4, "faultOf", "(II)I"⟩
abbrev cX4_act : ByteArray := prog_6_method_10_code
def yX4_act : MethodName := ⟨RX4, "act", "(II)V"⟩
abbrev cX4_endFrom : ByteArray := prog_6_method_11_code
def yX4_endFrom : MethodName := ⟨RX4, "endFrom", "(I)I"⟩
abbrev cX4_wordLength : ByteArray := prog_6_method_12_code
def yX4_wordLength : MethodName := ⟨RX4, "wordLength", "(II)I"⟩
abbrev cX4_wordOf : ByteArray := prog_6_method_13_code
def yX4_wordOf : MethodName := ⟨RX4, "wordOf", "(II)I"⟩
abbrev cX4_isWord : ByteArray := prog_6_method_14_code
def yX4_isWord : MethodName := ⟨RX4, "isWord", "(IILjava/lang/String;)Z"⟩
abbrev cX4_byteAt : ByteArray := prog_6_method_15_code
def yX4_byteAt : MethodName := ⟨RX4, "byteAt", "(I)I"⟩
abbrev cX4_isBetween : ByteArray := prog_6_method_16_code
def yX4_isBetween : MethodName := ⟨RX4, "isBetween", "(III)Z"⟩
def RX5 : String := "LinkChances$SetCounts"
def TX5 : u_T := fun k => match k with
  | 0 => ("LinkChances$SetCounts", "net", "LLinkChances$Net;", true)
  | _ => ("LinkChances$SetCounts", "reaching", "[I", true)
def tyX5 : Nat → FieldType := fun k => match k with
  | 0 => .object "LinkChances$Net"
  | _ => .array .int
abbrev wsX50 : List Cond := u_ws RX5 TX5 2
theorem nmX5 : ∀ a, a < 2 → ∀ b, b < 2 → a ≠ b → (TX5 a).2.1 ≠ (TX5 b).2.1 := by decide +kernel
theorem tyX5_ok : ∀ k, k < 2 → parseFieldDescriptor (TX5 k).2.2.1 = some (tyX5 k) := by decide +kernel
abbrev cX5_init : ByteArray := prog_7_method_1_code
def yX5_init : MethodName := ⟨RX5, "<init>", "(LLinkChances$Net;)V"⟩
abbrev cX5_fill : ByteArray := prog_7_method_2_code
def yX5_fill : MethodName := ⟨RX5, "fill", "()V"⟩
abbrev cX5_ofSize : ByteArray := prog_7_method_3_code
def yX5_ofSize : MethodName := ⟨RX5, "ofSize", "(I)I"⟩
abbrev cX5_likeParts : ByteArray := prog_7_method_4_code
def yX5_likeParts : MethodName := ⟨RX5, "likeParts", "(III)J"⟩
abbrev cX5_leastCut : ByteArray := prog_7_method_5_code
def yX5_leastCut : MethodName := ⟨RX5, "leastCut", "()I"⟩
abbrev cX5_leastWay : ByteArray := prog_7_method_6_code
def yX5_leastWay : MethodName := ⟨RX5, "leastWay", "()I"⟩
abbrev cX5_lesserSize : ByteArray := prog_7_method_7_code
def yX5_lesserSize : MethodName := ⟨RX5, "lesserSize", "(II)I"⟩
abbrev cX5_power : ByteArray := prog_7_method_8_code
def yX5_power : MethodName := ⟨RX5, "power", "(JI)J"⟩
abbrev cX5_times : ByteArray := prog_7_method_9_code
def yX5_times : MethodName := ⟨RX5, "times", "(JJ)J"⟩
abbrev cX5_plus : ByteArray := prog_7_method_10_code
def yX5_plus : MethodName := ⟨RX5, "plus", "(JJ)J"⟩
def RX6 : String := "LinkChances$Shared"
def TX6 : u_T := fun k => match k with
  | 0 => ("LinkChances$Shared", "net", "LLinkChances$Net;", true)
  | _ => ("LinkChances$Shared", "looks", "[J", true)
def tyX6 : Nat → FieldType := fun k => match k with
  | 0 => .object "LinkChances$Net"
  | _ => .array .long
abbrev wsX60 : List Cond := u_ws RX6 TX6 2
theorem nmX6 : ∀ a, a < 2 → ∀ b, b < 2 → a ≠ b → (TX6 a).2.1 ≠ (TX6 b).2.1 := by decide +kernel
theorem tyX6_ok : ∀ k, k < 2 → parseFieldDescriptor (TX6 k).2.2.1 = some (tyX6 k) := by decide +kernel
abbrev cX6_init : ByteArray := prog_8_method_1_code
def yX6_init : MethodName := ⟨RX6, "<init>", "(LLinkChances$Net;)V"⟩
abbrev cX6_greatestWidth : ByteArray := prog_8_method_2_code
def yX6_greatestWidth : MethodName := ⟨RX6, "greatestWidth", "()I"⟩
abbrev cX6_widthBehind : ByteArray := prog_8_method_3_code
def yX6_widthBehind : MethodName := ⟨RX6, "widthBehind", "(I)I"⟩
abbrev cX6_openBehind : ByteArray := prog_8_method_4_code
def yX6_openBehind : MethodName := ⟨RX6, "openBehind", "(I)I"⟩
abbrev cX6_surelyUp : ByteArray := prog_8_method_5_code
def yX6_surelyUp : MethodName := ⟨RX6, "surelyUp", "(I)I"⟩
abbrev cX6_surelyDown : ByteArray := prog_8_method_6_code
def yX6_surelyDown : MethodName := ⟨RX6, "surelyDown", "(I)I"⟩
abbrev cX6_isLost : ByteArray := prog_8_method_7_code
def yX6_isLost : MethodName := ⟨RX6, "isLost", "(II)Z"⟩
abbrev cX6_lookOf : ByteArray := prog_8_method_8_code
def yX6_lookOf : MethodName := ⟨RX6, "lookOf", "(II)J"⟩
abbrev cX6_isAmong : ByteArray := prog_8_method_9_code
def yX6_isAmong : MethodName := ⟨RX6, "isAmong", "(JI)Z"⟩
def RX7 : String := "LinkChances$Sheets"
def TX7 : u_T := fun k => match k with
  | 0 => ("LinkChances$Sheets", "rows", "[[J", true)
  | 1 => ("LinkChances$Sheets", "sizes", "[I", true)
  | _ => ("LinkChances$Sheets", "latest", "I", false)
def tyX7 : Nat → FieldType := fun k => match k with
  | 0 => .array (.array .long)
  | 1 => .array .int
  | _ => .int
abbrev wsX70 : List Cond := u_ws RX7 TX7 3
theorem nmX7 : ∀ a, a < 3 → ∀ b, b < 3 → a ≠ b → (TX7 a).2.1 ≠ (TX7 b).2.1 := by decide +kernel
theorem tyX7_ok : ∀ k, k < 3 → parseFieldDescriptor (TX7 k).2.2.1 = some (tyX7 k) := by decide +kernel
abbrev cX7_init : ByteArray := prog_9_method_1_code
def yX7_init : MethodName := ⟨RX7, "<init>", "()V"⟩
abbrev cX7_finding : ByteArray := prog_9_method_2_code
def yX7_finding : MethodName := ⟨RX7, "finding", "(I)I"⟩
abbrev cX7_latestFinding : ByteArray := prog_9_method_3_code
def yX7_latestFinding : MethodName := ⟨RX7, "latestFinding", "()I"⟩
abbrev cX7_isSheet : ByteArray := prog_9_method_4_code
def yX7_isSheet : MethodName := ⟨RX7, "isSheet", "(I)Z"⟩
abbrev cX7_isLost : ByteArray := prog_9_method_5_code
def yX7_isLost : MethodName := ⟨RX7, "isLost", "(I)Z"⟩
abbrev cX7_sizeOf : ByteArray := prog_9_method_6_code
def yX7_sizeOf : MethodName := ⟨RX7, "sizeOf", "(I)I"⟩
abbrev cX7_holds : ByteArray := prog_9_method_7_code
def yX7_holds : MethodName := ⟨RX7, "holds", "(III)Z"⟩
abbrev cX7_refusalOf : ByteArray := prog_9_method_8_code
def yX7_refusalOf : MethodName := ⟨RX7, "refusalOf", "(I)I"⟩
abbrev cX7_refusalAt : ByteArray := prog_9_method_9_code
def yX7_refusalAt : MethodName := ⟨RX7, "refusalAt", "(II)I"⟩
abbrev cX7_renew : ByteArray := prog_9_method_10_code
def yX7_renew : MethodName := ⟨RX7, "renew", "(II)I"⟩
abbrev cX7_drop : ByteArray := prog_9_method_11_code
def yX7_drop : MethodName := ⟨RX7, "drop", "(I)I"⟩
abbrev cX7_item : ByteArray := prog_9_method_12_code
def yX7_item : MethodName := ⟨RX7, "item", "(II)J"⟩
abbrev cX7_put : ByteArray := prog_9_method_13_code
def yX7_put : MethodName := ⟨RX7, "put", "(IIJ)V"⟩
abbrev cX7_move : ByteArray := prog_9_method_14_code
def yX7_move : MethodName := ⟨RX7, "move", "(IIIII)V"⟩
abbrev cX7_hasItem : ByteArray := prog_9_method_15_code
def yX7_hasItem : MethodName := ⟨RX7, "hasItem", "(II)Z"⟩
def RX8 : String := "LinkChances$TidyNet"
def TX8 : u_T := fun k => match k with
  | 0 => ("LinkChances$TidyNet", "nears", "[I", true)
  | 1 => ("LinkChances$TidyNet", "fars", "[I", true)
  | 2 => ("LinkChances$TidyNet", "aboves", "[J", true)
  | 3 => ("LinkChances$TidyNet", "belows", "[J", true)
  | 4 => ("LinkChances$TidyNet", "links", "I", false)
  | 5 => ("LinkChances$TidyNet", "wanted", "I", false)
  | 6 => ("LinkChances$TidyNet", "answerAbove", "J", false)
  | _ => ("LinkChances$TidyNet", "answerBelow", "J", false)
def tyX8 : Nat → FieldType := fun k => match k with
  | 0 => .array .int
  | 1 => .array .int
  | 2 => .array .long
  | 3 => .array .long
  | 4 => .int
  | 5 => .int
  | 6 => .long
  | _ => .long
abbrev wsX80 : List Cond := u_ws RX8 TX8 8
theorem nmX8 : ∀ a, a < 8 → ∀ b, b < 8 → a ≠ b → (TX8 a).2.1 ≠ (TX8 b).2.1 := by decide +kernel
theorem tyX8_ok : ∀ k, k < 8 → parseFieldDescriptor (TX8 k).2.2.1 = some (tyX8 k) := by decide +kernel
abbrev cX8_init : ByteArray := prog_10_method_1_code
def yX8_init : MethodName := ⟨RX8, "<init>", "()V"⟩
abbrev cX8_takeAll : ByteArray := prog_10_method_2_code
def yX8_takeAll : MethodName := ⟨RX8, "takeAll", "(LLinkChances$Net;)V"⟩
abbrev cX8_takeCut : ByteArray := prog_10_method_3_code
def yX8_takeCut : MethodName := ⟨RX8, "takeCut", "(LLinkChances$TidyNet;I)V"⟩
abbrev cX8_takeJoined : ByteArray := prog_10_method_4_code
def yX8_takeJoined : MethodName := ⟨RX8, "takeJoined", "(LLinkChances$TidyNet;I)V"⟩
abbrev cX8_tidy : ByteArray := prog_10_method_5_code
def yX8_tidy : MethodName := ⟨RX8, "tidy", "()I"⟩
abbrev cX8_isSettled : ByteArray := prog_10_method_6_code
def yX8_isSettled : MethodName := ⟨RX8, "isSettled", "()Z"⟩
abbrev cX8_leastLink : ByteArray := prog_10_method_7_code
def yX8_leastLink : MethodName := ⟨RX8, "leastLink", "()I"⟩
abbrev cX8_canBeUp : ByteArray := prog_10_method_8_code
def yX8_canBeUp : MethodName := ⟨RX8, "canBeUp", "(I)Z"⟩
abbrev cX8_canBeDown : ByteArray := prog_10_method_9_code
def yX8_canBeDown : MethodName := ⟨RX8, "canBeDown", "(I)Z"⟩
abbrev cX8_addUp : ByteArray := prog_10_method_10_code
def yX8_addUp : MethodName := ⟨RX8, "addUp", "(ILLinkChances$TidyNet;)V"⟩
abbrev cX8_addDown : ByteArray := prog_10_method_11_code
def yX8_addDown : MethodName := ⟨RX8, "addDown", "(ILLinkChances$TidyNet;)V"⟩
abbrev cX8_answerAbove : ByteArray := prog_10_method_12_code
def yX8_answerAbove : MethodName := ⟨RX8, "answerAbove", "()J"⟩
abbrev cX8_answerBelow : ByteArray := prog_10_method_13_code
def yX8_answerBelow : MethodName := ⟨RX8, "answerBelow", "()J"⟩
abbrev cX8_answer : ByteArray := prog_10_method_14_code
def yX8_answer : MethodName := ⟨RX8, "answer", "(JJ)V"⟩
abbrev cX8_add : ByteArray := prog_10_method_15_code
def yX8_add : MethodName := ⟨RX8, "add", "(JJ)V"⟩
abbrev cX8_isThere : ByteArray := prog_10_method_16_code
def yX8_isThere : MethodName := ⟨RX8, "isThere", "(I)Z"⟩
abbrev cX8_isWanted : ByteArray := prog_10_method_17_code
def yX8_isWanted : MethodName := ⟨RX8, "isWanted", "(I)Z"⟩
abbrev cX8_linksAt : ByteArray := prog_10_method_18_code
def yX8_linksAt : MethodName := ⟨RX8, "linksAt", "(I)I"⟩
abbrev cX8_dropRound : ByteArray := prog_10_method_19_code
def yX8_dropRound : MethodName := ⟨RX8, "dropRound", "()Z"⟩
abbrev cX8_joinTwins : ByteArray := prog_10_method_20_code
def yX8_joinTwins : MethodName := ⟨RX8, "joinTwins", "()Z"⟩
abbrev cX8_areTwins : ByteArray := prog_10_method_21_code
def yX8_areTwins : MethodName := ⟨RX8, "areTwins", "(II)Z"⟩
abbrev cX8_dropEnd : ByteArray := prog_10_method_22_code
def yX8_dropEnd : MethodName := ⟨RX8, "dropEnd", "()Z"⟩
abbrev cX8_joinChain : ByteArray := prog_10_method_23_code
def yX8_joinChain : MethodName := ⟨RX8, "joinChain", "()Z"⟩
abbrev cX8_otherEnd : ByteArray := prog_10_method_24_code
def yX8_otherEnd : MethodName := ⟨RX8, "otherEnd", "(II)I"⟩
def RX9 : String := "LinkChances"
def TX9 : u_T := fun k => match k with
  | 0 => ("LinkChances", "net", "LLinkChances$Net;", true)
  | 1 => ("LinkChances", "odds", "LLinkChances$Odds;", true)
  | 2 => ("LinkChances", "counts", "LLinkChances$SetCounts;", true)
  | 3 => ("LinkChances", "shared", "LLinkChances$Shared;", true)
  | 4 => ("LinkChances", "cutAndJoin", "LLinkChances$CutAndJoin;", true)
  | 5 => ("LinkChances", "orders", "LLinkChances$Orders;", true)
  | _ => ("LinkChances", "sheets", "LLinkChances$Sheets;", true)
def tyX9 : Nat → FieldType := fun k => match k with
  | 0 => .object "LinkChances$Net"
  | 1 => .object "LinkChances$Odds"
  | 2 => .object "LinkChances$SetCounts"
  | 3 => .object "LinkChances$Shared"
  | 4 => .object "LinkChances$CutAndJoin"
  | 5 => .object "LinkChances$Orders"
  | _ => .object "LinkChances$Sheets"
abbrev wsX90 : List Cond := u_ws RX9 TX9 7
theorem nmX9 : ∀ a, a < 7 → ∀ b, b < 7 → a ≠ b → (TX9 a).2.1 ≠ (TX9 b).2.1 := by decide +kernel
theorem tyX9_ok : ∀ k, k < 7 → parseFieldDescriptor (TX9 k).2.2.1 = some (tyX9 k) := by decide +kernel
abbrev cX9_init : ByteArray := prog_1_method_1_code
def yX9_init : MethodName := ⟨RX9, "<init>", "()V"⟩
abbrev cX9_stations : ByteArray := prog_1_method_2_code
def yX9_stations : MethodName := ⟨RX9, "stations", "(I)I"⟩
abbrev cX9_link : ByteArray := prog_1_method_3_code
def yX9_link : MethodName := ⟨RX9, "link", "(IIII)I"⟩
abbrev cX9_back : ByteArray := prog_1_method_4_code
def yX9_back : MethodName := ⟨RX9, "back", "()I"⟩
abbrev cX9_chance : ByteArray := prog_1_method_5_code
def yX9_chance : MethodName := ⟨RX9, "chance", "(III)I"⟩
abbrev cX9_see : ByteArray := prog_1_method_6_code
def yX9_see : MethodName := ⟨RX9, "see", "(II)I"⟩
abbrev cX9_source : ByteArray := prog_1_method_7_code
def yX9_source : MethodName := ⟨RX9, "source", "(I)I"⟩
abbrev cX9_goals : ByteArray := prog_1_method_8_code
def yX9_goals : MethodName := ⟨RX9, "goals", "(I)I"⟩
abbrev cX9_info : ByteArray := prog_1_method_9_code
def yX9_info : MethodName := ⟨RX9, "info", "(II)I"⟩
abbrev cX9_reach : ByteArray := prog_1_method_10_code
def yX9_reach : MethodName := ⟨RX9, "reach", "(I)J"⟩
abbrev cX9_joined : ByteArray := prog_1_method_11_code
def yX9_joined : MethodName := ⟨RX9, "joined", "(I)J"⟩
abbrev cX9_wide : ByteArray := prog_1_method_12_code
def yX9_wide : MethodName := ⟨RX9, "wide", "(I)I"⟩
abbrev cX9_widest : ByteArray := prog_1_method_13_code
def yX9_widest : MethodName := ⟨RX9, "widest", "()I"⟩
abbrev cX9_pair : ByteArray := prog_1_method_14_code
def yX9_pair : MethodName := ⟨RX9, "pair", "(III)J"⟩
abbrev cX9_rule : ByteArray := prog_1_method_15_code
def yX9_rule : MethodName := ⟨RX9, "rule", "(I)J"⟩
abbrev cX9_sets : ByteArray := prog_1_method_16_code
def yX9_sets : MethodName := ⟨RX9, "sets", "(I)I"⟩
abbrev cX9_like : ByteArray := prog_1_method_17_code
def yX9_like : MethodName := ⟨RX9, "like", "(III)J"⟩
abbrev cX9_least : ByteArray := prog_1_method_18_code
def yX9_least : MethodName := ⟨RX9, "least", "(I)I"⟩
abbrev cX9_worth : ByteArray := prog_1_method_19_code
def yX9_worth : MethodName := ⟨RX9, "worth", "(II)J"⟩
abbrev cX9_worthiest : ByteArray := prog_1_method_20_code
def yX9_worthiest : MethodName := ⟨RX9, "worthiest", "()I"⟩
abbrev cX9_better : ByteArray := prog_1_method_21_code
def yX9_better : MethodName := ⟨RX9, "better", "(IIII)J"⟩
abbrev cX9_type : ByteArray := prog_1_method_22_code
def yX9_type : MethodName := ⟨RX9, "type", "(I)I"⟩
abbrev cX9_wipe : ByteArray := prog_1_method_23_code
def yX9_wipe : MethodName := ⟨RX9, "wipe", "()I"⟩
abbrev cX9_obey : ByteArray := prog_1_method_24_code
def yX9_obey : MethodName := ⟨RX9, "obey", "()I"⟩
abbrev cX9_wrong : ByteArray := prog_1_method_25_code
def yX9_wrong : MethodName := ⟨RX9, "wrong", "()I"⟩
abbrev cX9_sheet : ByteArray := prog_1_method_26_code
def yX9_sheet : MethodName := ⟨RX9, "sheet", "(II)I"⟩
abbrev cX9_lose : ByteArray := prog_1_method_27_code
def yX9_lose : MethodName := ⟨RX9, "lose", "(I)I"⟩
abbrev cX9_lay : ByteArray := prog_1_method_28_code
def yX9_lay : MethodName := ⟨RX9, "lay", "(III)I"⟩
abbrev cX9_get : ByteArray := prog_1_method_29_code
def yX9_get : MethodName := ⟨RX9, "get", "(II)J"⟩
abbrev cX9_copy : ByteArray := prog_1_method_30_code
def yX9_copy : MethodName := ⟨RX9, "copy", "(IIIII)I"⟩
abbrev cX9_read : ByteArray := prog_1_method_31_code
def yX9_read : MethodName := ⟨RX9, "read", "(I)I"⟩
abbrev cX9_write : ByteArray := prog_1_method_32_code
def yX9_write : MethodName := ⟨RX9, "write", "(I)I"⟩
abbrev cX9_count : ByteArray := prog_1_method_33_code
def yX9_count : MethodName := ⟨RX9, "count", "(I)I"⟩
abbrev cX9_digest : ByteArray := prog_1_method_34_code
def yX9_digest : MethodName := ⟨RX9, "digest", "()J"⟩
abbrev cX9_isSide : ByteArray := prog_1_method_35_code
def yX9_isSide : MethodName := ⟨RX9, "isSide", "(I)Z"⟩
abbrev cX9_refused : ByteArray := prog_1_method_36_code
def yX9_refused : MethodName := ⟨RX9, "refused", "(I)J"⟩
abbrev cX9_mixed : ByteArray := prog_1_method_37_code
def yX9_mixed : MethodName := ⟨RX9, "mixed", "(JJ)J"⟩
abbrev cX9_alike : ByteArray := prog_1_method_38_code
def yX9_alike : MethodName := ⟨RX9, "alike", "(III)J"⟩
abbrev cX9_addFrom : ByteArray := prog_1_method_39_code
def yX9_addFrom : MethodName := ⟨RX9, "addFrom", "(II)Z"⟩
abbrev cX9_withFraction : ByteArray := prog_1_method_40_code
def yX9_withFraction : MethodName := ⟨RX9, "withFraction", "(JJ)J"⟩
abbrev cX9_withLinks : ByteArray := prog_1_method_41_code
def yX9_withLinks : MethodName := ⟨RX9, "withLinks", "(J)J"⟩
abbrev cX9_withChances : ByteArray := prog_1_method_42_code
def yX9_withChances : MethodName := ⟨RX9, "withChances", "(J)J"⟩
abbrev cX9_withSets : ByteArray := prog_1_method_43_code
def yX9_withSets : MethodName := ⟨RX9, "withSets", "(J)J"⟩
abbrev cX9_withPairs : ByteArray := prog_1_method_44_code
def yX9_withPairs : MethodName := ⟨RX9, "withPairs", "(J)J"⟩
def RX10 : String := "LinkChancesModel"
def TX10 : u_T := fun k => match k with
  | 0 => ("LinkChancesModel", "latest", "I", false)
  | 1 => ("LinkChancesModel", "sizes", "[I", true)
  | 2 => ("LinkChancesModel", "items", "[J", true)
  | 3 => ("LinkChancesModel", "aside", "[J", true)
  | 4 => ("LinkChancesModel", "stations", "I", false)
  | 5 => ("LinkChancesModel", "source", "I", false)
  | 6 => ("LinkChancesModel", "goals", "I", false)
  | 7 => ("LinkChancesModel", "ones", "[I", true)
  | 8 => ("LinkChancesModel", "others", "[I", true)
  | 9 => ("LinkChancesModel", "ups", "[I", true)
  | 10 => ("LinkChancesModel", "belows", "[I", true)
  | 11 => ("LinkChancesModel", "seens", "[I", true)
  | 12 => ("LinkChancesModel", "links", "I", false)
  | 13 => ("LinkChancesModel", "tops", "[I", true)
  | 14 => ("LinkChancesModel", "bottoms", "[I", true)
  | 15 => ("LinkChancesModel", "over", "Z", false)
  | 16 => ("LinkChancesModel", "keys", "[I", true)
  | 17 => ("LinkChancesModel", "netOnes", "[I", true)
  | 18 => ("LinkChancesModel", "netOthers", "[I", true)
  | 19 => ("LinkChancesModel", "netChances", "[I", true)
  | 20 => ("LinkChancesModel", "present", "[I", true)
  | 21 => ("LinkChancesModel", "netWanted", "[I", true)
  | 22 => ("LinkChancesModel", "stages", "[I", true)
  | 23 => ("LinkChancesModel", "steps", "I", false)
  | 24 => ("LinkChancesModel", "deep", "I", false)
  | 25 => ("LinkChancesModel", "tidy", "I", false)
  | 26 => ("LinkChancesModel", "orders", "[I", true)
  | 27 => ("LinkChancesModel", "bytes", "I", false)
  | 28 => ("LinkChancesModel", "wrongBy", "I", false)
  | _ => ("LinkChancesModel", "before", "[I", true)
def tyX10 : Nat → FieldType := fun k => match k with
  | 0 => .int
  | 1 => .array .int
  | 2 => .array .long
  | 3 => .array .long
  | 4 => .int
  | 5 => .int
  | 6 => .int
  | 7 => .array .int
  | 8 => .array .int
  | 9 => .array .int
  | 10 => .array .int
  | 11 => .array .int
  | 12 => .int
  | 13 => .array .int
  | 14 => .array .int
  | 15 => .boolean
  | 16 => .array .int
  | 17 => .array .int
  | 18 => .array .int
  | 19 => .array .int
  | 20 => .array .int
  | 21 => .array .int
  | 22 => .array .int
  | 23 => .int
  | 24 => .int
  | 25 => .int
  | 26 => .array .int
  | 27 => .int
  | 28 => .int
  | _ => .array .int
abbrev wsX100 : List Cond := u_ws RX10 TX10 30
theorem nmX10 : ∀ a, a < 30 → ∀ b, b < 30 → a ≠ b → (TX10 a).2.1 ≠ (TX10 b).2.1 := by decide +kernel
theorem tyX10_ok : ∀ k, k < 30 → parseFieldDescriptor (TX10 k).2.2.1 = some (tyX10 k) := by decide +kernel
abbrev cX10_init : ByteArray := prog_12_method_1_code
def yX10_init : MethodName := ⟨RX10, "<init>", "()V"⟩
abbrev cX10_in : ByteArray := prog_12_method_3_code
def yX10_in : MethodName := ⟨RX10, "in", "(JJJ)Z"⟩
abbrev cX10_isTwo : ByteArray := prog_12_method_4_code
def yX10_isTwo : MethodName := ⟨RX10, "isTwo", "(I)Z"⟩
abbrev cX10_no : ByteArray := prog_12_method_5_code
def yX10_no : MethodName := ⟨RX10, "no", "(I)J"⟩
abbrev cX10_bitsIn : ByteArray := prog_12_method_6_code
def yX10_bitsIn : MethodName := ⟨RX10, "bitsIn", "(I)I"⟩
abbrev cX10_divisor : ByteArray := prog_12_method_7_code
def yX10_divisor : MethodName := ⟨RX10, "divisor", "(JJ)J"⟩
abbrev cX10_part : ByteArray := prog_12_method_8_code
def yX10_part : MethodName := ⟨RX10, "part", "(JJI)J"⟩
abbrev cX10_finds : ByteArray := prog_12_method_9_code
def yX10_finds : MethodName := ⟨RX10, "finds", "(I)I"⟩
abbrev cX10_isSheet : ByteArray := prog_12_method_10_code
def yX10_isSheet : MethodName := ⟨RX10, "isSheet", "(I)Z"⟩
abbrev cX10_sheet : ByteArray := prog_12_method_11_code
def yX10_sheet : MethodName := ⟨RX10, "sheet", "(II)I"⟩
abbrev cX10_lose : ByteArray := prog_12_method_12_code
def yX10_lose : MethodName := ⟨RX10, "lose", "(I)I"⟩
abbrev cX10_lacks : ByteArray := prog_12_method_13_code
def yX10_lacks : MethodName := ⟨RX10, "lacks", "(II)I"⟩
abbrev cX10_lay : ByteArray := prog_12_method_14_code
def yX10_lay : MethodName := ⟨RX10, "lay", "(III)I"⟩
abbrev cX10_get : ByteArray := prog_12_method_15_code
def yX10_get : MethodName := ⟨RX10, "get", "(II)J"⟩
abbrev cX10_copy : ByteArray := prog_12_method_16_code
def yX10_copy : MethodName := ⟨RX10, "copy", "(IIIII)I"⟩
abbrev cX10_isStation : ByteArray := prog_12_method_17_code
def yX10_isStation : MethodName := ⟨RX10, "isStation", "(J)Z"⟩
abbrev cX10_isLink : ByteArray := prog_12_method_18_code
def yX10_isLink : MethodName := ⟨RX10, "isLink", "(I)Z"⟩
abbrev cX10_stations : ByteArray := prog_12_method_19_code
def yX10_stations : MethodName := ⟨RX10, "stations", "(I)I"⟩
abbrev cX10_isChance : ByteArray := prog_12_method_20_code
def yX10_isChance : MethodName := ⟨RX10, "isChance", "(JJ)Z"⟩
abbrev cX10_mayLink : ByteArray := prog_12_method_21_code
def yX10_mayLink : MethodName := ⟨RX10, "mayLink", "(JJJJ)Z"⟩
abbrev cX10_adds : ByteArray := prog_12_method_22_code
def yX10_adds : MethodName := ⟨RX10, "adds", "(IIII)V"⟩
abbrev cX10_link : ByteArray := prog_12_method_23_code
def yX10_link : MethodName := ⟨RX10, "link", "(IIII)I"⟩
abbrev cX10_back : ByteArray := prog_12_method_24_code
def yX10_back : MethodName := ⟨RX10, "back", "()I"⟩
abbrev cX10_chance : ByteArray := prog_12_method_25_code
def yX10_chance : MethodName := ⟨RX10, "chance", "(III)I"⟩
abbrev cX10_see : ByteArray := prog_12_method_26_code
def yX10_see : MethodName := ⟨RX10, "see", "(II)I"⟩
abbrev cX10_source : ByteArray := prog_12_method_27_code
def yX10_source : MethodName := ⟨RX10, "source", "(I)I"⟩
abbrev cX10_goals : ByteArray := prog_12_method_28_code
def yX10_goals : MethodName := ⟨RX10, "goals", "(I)I"⟩
abbrev cX10_infoBy : ByteArray := prog_12_method_29_code
def yX10_infoBy : MethodName := ⟨RX10, "infoBy", "(II)I"⟩
abbrev cX10_info : ByteArray := prog_12_method_30_code
def yX10_info : MethodName := ⟨RX10, "info", "(II)I"⟩
abbrev cX10_read : ByteArray := prog_12_method_31_code
def yX10_read : MethodName := ⟨RX10, "read", "(I)I"⟩
abbrev cX10_wanted : ByteArray := prog_12_method_32_code
def yX10_wanted : MethodName := ⟨RX10, "wanted", "()I"⟩
abbrev cX10_joinedWith : ByteArray := prog_12_method_33_code
def yX10_joinedWith : MethodName := ⟨RX10, "joinedWith", "(II)I"⟩
abbrev cX10_reaches : ByteArray := prog_12_method_34_code
def yX10_reaches : MethodName := ⟨RX10, "reaches", "(II)Z"⟩
abbrev cX10_asItIs : ByteArray := prog_12_method_35_code
def yX10_asItIs : MethodName := ⟨RX10, "asItIs", "()V"⟩
abbrev cX10_below : ByteArray := prog_12_method_36_code
def yX10_below : MethodName := ⟨RX10, "below", "()J"⟩
abbrev cX10_weight : ByteArray := prog_12_method_37_code
def yX10_weight : MethodName := ⟨RX10, "weight", "(I)J"⟩
abbrev cX10_above : ByteArray := prog_12_method_38_code
def yX10_above : MethodName := ⟨RX10, "above", "(II)J"⟩
abbrev cX10_reachBy : ByteArray := prog_12_method_39_code
def yX10_reachBy : MethodName := ⟨RX10, "reachBy", "(I)J"⟩
abbrev cX10_reach : ByteArray := prog_12_method_40_code
def yX10_reach : MethodName := ⟨RX10, "reach", "(I)J"⟩
abbrev cX10_pairBy : ByteArray := prog_12_method_41_code
def yX10_pairBy : MethodName := ⟨RX10, "pairBy", "(III)J"⟩
abbrev cX10_pair : ByteArray := prog_12_method_42_code
def yX10_pair : MethodName := ⟨RX10, "pair", "(III)J"⟩
abbrev cX10_ruleBy : ByteArray := prog_12_method_43_code
def yX10_ruleBy : MethodName := ⟨RX10, "ruleBy", "(I)J"⟩
abbrev cX10_rule : ByteArray := prog_12_method_44_code
def yX10_rule : MethodName := ⟨RX10, "rule", "(I)J"⟩
abbrev cX10_setsOf : ByteArray := prog_12_method_45_code
def yX10_setsOf : MethodName := ⟨RX10, "setsOf", "(I)I"⟩
abbrev cX10_sets : ByteArray := prog_12_method_46_code
def yX10_sets : MethodName := ⟨RX10, "sets", "(I)I"⟩
abbrev cX10_times : ByteArray := prog_12_method_47_code
def yX10_times : MethodName := ⟨RX10, "times", "(JJ)J"⟩
abbrev cX10_power : ByteArray := prog_12_method_48_code
def yX10_power : MethodName := ⟨RX10, "power", "(JI)J"⟩
abbrev cX10_likeBy : ByteArray := prog_12_method_49_code
def yX10_likeBy : MethodName := ⟨RX10, "likeBy", "(III)J"⟩
abbrev cX10_like : ByteArray := prog_12_method_50_code
def yX10_like : MethodName := ⟨RX10, "like", "(III)J"⟩
abbrev cX10_leastWay : ByteArray := prog_12_method_51_code
def yX10_leastWay : MethodName := ⟨RX10, "leastWay", "()I"⟩
abbrev cX10_leastCut : ByteArray := prog_12_method_52_code
def yX10_leastCut : MethodName := ⟨RX10, "leastCut", "()I"⟩
abbrev cX10_least : ByteArray := prog_12_method_53_code
def yX10_least : MethodName := ⟨RX10, "least", "(I)I"⟩
abbrev cX10_worthAbove : ByteArray := prog_12_method_54_code
def yX10_worthAbove : MethodName := ⟨RX10, "worthAbove", "(I)J"⟩
abbrev cX10_worthBy : ByteArray := prog_12_method_55_code
def yX10_worthBy : MethodName := ⟨RX10, "worthBy", "(II)J"⟩
abbrev cX10_worth : ByteArray := prog_12_method_56_code
def yX10_worth : MethodName := ⟨RX10, "worth", "(II)J"⟩
abbrev cX10_worthiestNow : ByteArray := prog_12_method_57_code
def yX10_worthiestNow : MethodName := ⟨RX10, "worthiestNow", "()I"⟩
abbrev cX10_worthiest : ByteArray := prog_12_method_58_code
def yX10_worthiest : MethodName := ⟨RX10, "worthiest", "()I"⟩
abbrev cX10_betterBy : ByteArray := prog_12_method_59_code
def yX10_betterBy : MethodName := ⟨RX10, "betterBy", "(IIII)J"⟩
abbrev cX10_better : ByteArray := prog_12_method_60_code
def yX10_better : MethodName := ⟨RX10, "better", "(IIII)J"⟩
abbrev cX10_isOpen : ByteArray := prog_12_method_61_code
def yX10_isOpen : MethodName := ⟨RX10, "isOpen", "(II)Z"⟩
abbrev cX10_keyOf : ByteArray := prog_12_method_62_code
def yX10_keyOf : MethodName := ⟨RX10, "keyOf", "(II)I"⟩
abbrev cX10_isPossible : ByteArray := prog_12_method_63_code
def yX10_isPossible : MethodName := ⟨RX10, "isPossible", "(II)Z"⟩
abbrev cX10_wideBy : ByteArray := prog_12_method_64_code
def yX10_wideBy : MethodName := ⟨RX10, "wideBy", "(I)I"⟩
abbrev cX10_wide : ByteArray := prog_12_method_65_code
def yX10_wide : MethodName := ⟨RX10, "wide", "(I)I"⟩
abbrev cX10_widestNow : ByteArray := prog_12_method_66_code
def yX10_widestNow : MethodName := ⟨RX10, "widestNow", "()I"⟩
abbrev cX10_widest : ByteArray := prog_12_method_67_code
def yX10_widest : MethodName := ⟨RX10, "widest", "()I"⟩
abbrev cX10_has : ByteArray := prog_12_method_68_code
def yX10_has : MethodName := ⟨RX10, "has", "(II)Z"⟩
abbrev cX10_drops : ByteArray := prog_12_method_69_code
def yX10_drops : MethodName := ⟨RX10, "drops", "(II)V"⟩
abbrev cX10_isAt : ByteArray := prog_12_method_70_code
def yX10_isAt : MethodName := ⟨RX10, "isAt", "(III)Z"⟩
abbrev cX10_linksAt : ByteArray := prog_12_method_71_code
def yX10_linksAt : MethodName := ⟨RX10, "linksAt", "(II)I"⟩
abbrev cX10_dropsOwn : ByteArray := prog_12_method_72_code
def yX10_dropsOwn : MethodName := ⟨RX10, "dropsOwn", "(I)Z"⟩
abbrev cX10_isBeside : ByteArray := prog_12_method_73_code
def yX10_isBeside : MethodName := ⟨RX10, "isBeside", "(III)Z"⟩
abbrev cX10_joinsBeside : ByteArray := prog_12_method_74_code
def yX10_joinsBeside : MethodName := ⟨RX10, "joinsBeside", "(I)Z"⟩
abbrev cX10_isFree : ByteArray := prog_12_method_75_code
def yX10_isFree : MethodName := ⟨RX10, "isFree", "(III)Z"⟩
abbrev cX10_dropsEnds : ByteArray := prog_12_method_76_code
def yX10_dropsEnds : MethodName := ⟨RX10, "dropsEnds", "(I)Z"⟩
abbrev cX10_otherEnd : ByteArray := prog_12_method_77_code
def yX10_otherEnd : MethodName := ⟨RX10, "otherEnd", "(III)I"⟩
abbrev cX10_joinsBehind : ByteArray := prog_12_method_78_code
def yX10_joinsBehind : MethodName := ⟨RX10, "joinsBehind", "(I)Z"⟩
abbrev cX10_tidies : ByteArray := prog_12_method_79_code
def yX10_tidies : MethodName := ⟨RX10, "tidies", "(I)V"⟩
abbrev cX10_isAnswered : ByteArray := prog_12_method_80_code
def yX10_isAnswered : MethodName := ⟨RX10, "isAnswered", "(I)Z"⟩
abbrev cX10_first : ByteArray := prog_12_method_81_code
def yX10_first : MethodName := ⟨RX10, "first", "(I)I"⟩
abbrev cX10_puts : ByteArray := prog_12_method_82_code
def yX10_puts : MethodName := ⟨RX10, "puts", "(IIZ)V"⟩
abbrev cX10_asks : ByteArray := prog_12_method_83_code
def yX10_asks : MethodName := ⟨RX10, "asks", "()V"⟩
abbrev cX10_joinedBy : ByteArray := prog_12_method_84_code
def yX10_joinedBy : MethodName := ⟨RX10, "joinedBy", "(I)J"⟩
abbrev cX10_joined : ByteArray := prog_12_method_85_code
def yX10_joined : MethodName := ⟨RX10, "joined", "(I)J"⟩
abbrev cX10_type : ByteArray := prog_12_method_86_code
def yX10_type : MethodName := ⟨RX10, "type", "(I)I"⟩
abbrev cX10_wipe : ByteArray := prog_12_method_87_code
def yX10_wipe : MethodName := ⟨RX10, "wipe", "()I"⟩
abbrev cX10_letter : ByteArray := prog_12_method_88_code
def yX10_letter : MethodName := ⟨RX10, "letter", "(II)I"⟩
abbrev cX10_isWord : ByteArray := prog_12_method_89_code
def yX10_isWord : MethodName := ⟨RX10, "isWord", "(IIIIII)Z"⟩
abbrev cX10_wordOf : ByteArray := prog_12_method_90_code
def yX10_wordOf : MethodName := ⟨RX10, "wordOf", "(II)I"⟩
abbrev cX10_does : ByteArray := prog_12_method_91_code
def yX10_does : MethodName := ⟨RX10, "does", "(II)I"⟩
abbrev cX10_obey : ByteArray := prog_12_method_92_code
def yX10_obey : MethodName := ⟨RX10, "obey", "()I"⟩
abbrev cX10_wrong : ByteArray := prog_12_method_93_code
def yX10_wrong : MethodName := ⟨RX10, "wrong", "()I"⟩
abbrev cX10_write : ByteArray := prog_12_method_94_code
def yX10_write : MethodName := ⟨RX10, "write", "(I)I"⟩
abbrev cX10_unseen : ByteArray := prog_12_method_95_code
def yX10_unseen : MethodName := ⟨RX10, "unseen", "()I"⟩
abbrev cX10_allReach : ByteArray := prog_12_method_96_code
def yX10_allReach : MethodName := ⟨RX10, "allReach", "()I"⟩
abbrev cX10_count : ByteArray := prog_12_method_97_code
def yX10_count : MethodName := ⟨RX10, "count", "(I)I"⟩
abbrev cX10_linkTells : ByteArray := prog_12_method_98_code
def yX10_linkTells : MethodName := ⟨RX10, "linkTells", "(JI)J"⟩
abbrev cX10_pairTells : ByteArray := prog_12_method_99_code
def yX10_pairTells : MethodName := ⟨RX10, "pairTells", "(J)J"⟩
abbrev cX10_digest : ByteArray := prog_12_method_100_code
def yX10_digest : MethodName := ⟨RX10, "digest", "()J"⟩
def RJ6 : String := "java/lang/Integer"
def TJ6 : u_T := fun k => match k with
  | _ => ("", "", "", false)
def tyJ6 : Nat → FieldType := fun k => match k with
  | _ => .int
abbrev wsJ60 : List Cond := u_ws RJ6 TJ6 0
theorem nmJ6 : ∀ a, a < 0 → ∀ b, b < 0 → a ≠ b → (TJ6 a).2.1 ≠ (TJ6 b).2.1 := by decide +kernel
theorem tyJ6_ok : ∀ k, k < 0 → parseFieldDescriptor (TJ6 k).2.2.1 = some (tyJ6 k) := by decide +kernel
abbrev cJ6_numberOfTrailingZeros_0f7a4 : ByteArray := prog_13_method_48_code
def yJ6_numberOfTrailingZeros_0f7a4 : MethodName := ⟨RJ6, "numberOfTrailingZeros", "(I)I"⟩
abbrev cJ6_bitCount_0f7a4 : ByteArray := prog_13_method_49_code
def yJ6_bitCount_0f7a4 : MethodName := ⟨RJ6, "bitCount", "(I)I"⟩
def RJ9 : String := "java/lang/Math"
def TJ9 : u_T := fun k => match k with
  | _ => ("", "", "", false)
def tyJ9 : Nat → FieldType := fun k => match k with
  | _ => .int
abbrev wsJ90 : List Cond := u_ws RJ9 TJ9 0
theorem nmJ9 : ∀ a, a < 0 → ∀ b, b < 0 → a ≠ b → (TJ9 a).2.1 ≠ (TJ9 b).2.1 := by decide +kernel
theorem tyJ9_ok : ∀ k, k < 0 → parseFieldDescriptor (TJ9 k).2.2.1 = some (tyJ9 k) := by decide +kernel
abbrev cJ9_max_7cf53 : ByteArray := prog_14_method_65_code
def yJ9_max_7cf53 : MethodName := ⟨RJ9, "max", "(II)I"⟩
abbrev cJ9_min_7cf53 : ByteArray := prog_14_method_69_code
def yJ9_min_7cf53 : MethodName := ⟨RJ9, "min", "(II)I"⟩
def RJ0 : String := "java/lang/String"
def TJ0 : u_T := fun k => match k with
  | _ => ("", "", "", false)
def tyJ0 : Nat → FieldType := fun k => match k with
  | _ => .int
abbrev wsJ00 : List Cond := u_ws RJ0 TJ0 0
theorem nmJ0 : ∀ a, a < 0 → ∀ b, b < 0 → a ≠ b → (TJ0 a).2.1 ≠ (TJ0 b).2.1 := by decide +kernel
theorem tyJ0_ok : ∀ k, k < 0 → parseFieldDescriptor (TJ0 k).2.2.1 = some (tyJ0 k) := by decide +kernel
abbrev cJ0_length_8abf5 : ByteArray := prog_15_method_54_code
def yJ0_length_8abf5 : MethodName := ⟨RJ0, "length", "()I"⟩
abbrev cJ0_charAt_5068e : ByteArray := prog_15_method_56_code
def yJ0_charAt_5068e : MethodName := ⟨RJ0, "charAt", "(I)C"⟩
abbrev cJ0_coder_7d493 : ByteArray := prog_15_method_152_code
def yJ0_coder_7d493 : MethodName := ⟨RJ0, "coder", "()B"⟩
abbrev cJ0_isLatin1_aae02 : ByteArray := prog_15_method_154_code
def yJ0_isLatin1_aae02 : MethodName := ⟨RJ0, "isLatin1", "()Z"⟩
abbrev cJ0_checkIndex_df160 : ByteArray := prog_15_method_155_code
def yJ0_checkIndex_df160 : MethodName := ⟨RJ0, "checkIndex", "(II)V"⟩
def RJ1 : String := "java/lang/StringLatin1"
def TJ1 : u_T := fun k => match k with
  | _ => ("", "", "", false)
def tyJ1 : Nat → FieldType := fun k => match k with
  | _ => .int
abbrev wsJ10 : List Cond := u_ws RJ1 TJ1 0
theorem nmJ1 : ∀ a, a < 0 → ∀ b, b < 0 → a ≠ b → (TJ1 a).2.1 ≠ (TJ1 b).2.1 := by decide +kernel
theorem tyJ1_ok : ∀ k, k < 0 → parseFieldDescriptor (TJ1 k).2.2.1 = some (tyJ1 k) := by decide +kernel
abbrev cJ1_charAt_3b067 : ByteArray := prog_16_method_2_code
def yJ1_charAt_3b067 : MethodName := ⟨RJ1, "charAt", "([BI)C"⟩
def RJ2 : String := "java/lang/StringUTF16"
def TJ2 : u_T := fun k => match k with
  | _ => ("", "", "", false)
def tyJ2 : Nat → FieldType := fun k => match k with
  | _ => .int
abbrev wsJ20 : List Cond := u_ws RJ2 TJ2 0
theorem nmJ2 : ∀ a, a < 0 → ∀ b, b < 0 → a ≠ b → (TJ2 a).2.1 ≠ (TJ2 b).2.1 := by decide +kernel
theorem tyJ2_ok : ∀ k, k < 0 → parseFieldDescriptor (TJ2 k).2.2.1 = some (tyJ2 k) := by decide +kernel
abbrev cJ2_getChar_3b067 : ByteArray := prog_17_method_5_code
def yJ2_getChar_3b067 : MethodName := ⟨RJ2, "getChar", "([BI)C"⟩
abbrev cJ2_length_9d52b : ByteArray := prog_17_method_6_code
def yJ2_length_9d52b : MethodName := ⟨RJ2, "length", "([B)I"⟩
abbrev cJ2_charAt_3b067 : ByteArray := prog_17_method_83_code
def yJ2_charAt_3b067 : MethodName := ⟨RJ2, "charAt", "([BI)C"⟩
abbrev cJ2_checkIndex_2214a : ByteArray := prog_17_method_91_code
def yJ2_checkIndex_2214a : MethodName := ⟨RJ2, "checkIndex", "(I[B)V"⟩
def RJ10 : String := "java/lang/System"
def TJ10 : u_T := fun k => match k with
  | _ => ("", "", "", false)
def tyJ10 : Nat → FieldType := fun k => match k with
  | _ => .int
abbrev wsJ100 : List Cond := u_ws RJ10 TJ10 0
theorem nmJ10 : ∀ a, a < 0 → ∀ b, b < 0 → a ≠ b → (TJ10 a).2.1 ≠ (TJ10 b).2.1 := by decide +kernel
theorem tyJ10_ok : ∀ k, k < 0 → parseFieldDescriptor (TJ10 k).2.2.1 = some (tyJ10 k) := by decide +kernel
def RJ3 : String := "jdk/internal/util/Preconditions"
def TJ3 : u_T := fun k => match k with
  | _ => ("", "", "", false)
def tyJ3 : Nat → FieldType := fun k => match k with
  | _ => .int
abbrev wsJ30 : List Cond := u_ws RJ3 TJ3 0
theorem nmJ3 : ∀ a, a < 0 → ∀ b, b < 0 → a ≠ b → (TJ3 a).2.1 ≠ (TJ3 b).2.1 := by decide +kernel
theorem tyJ3_ok : ∀ k, k < 0 → parseFieldDescriptor (TJ3 k).2.2.1 = some (tyJ3 k) := by decide +kernel
abbrev cJ3_checkIndex_8e157 : ByteArray := prog_19_method_11_code
def yJ3_checkIndex_8e157 : MethodName := ⟨RJ3, "checkIndex", "(IILjava/util/function/BiFunction;)I"⟩
def RL : String := "LinkChancesLaw"
abbrev cL_law : ByteArray := code
def yL_law : MethodName := ⟨RL, "law", "([I)Z"⟩
def wsL_law_r1 : List Cond := [Cond.classLink RL 7 RX9, Cond.instantiable RX9 7, Cond.initialized RX9, Cond.classLink RL 10 RX10, Cond.instantiable RX10 30, Cond.initialized RX10, Cond.methodLink RL 9 yX9_init, Cond.instanceMethod yX9_init, Cond.code yX9_init cX9_init 1 none, Cond.methodLink RX9 3 objectInit, Cond.instanceMethod objectInit, Cond.code objectInit ⟨#[0xb1]⟩ 1 none, Cond.classLink RX9 9 RX2, Cond.instantiable RX2 10, Cond.initialized RX2, Cond.fieldLink RX9 12 "LinkChances" "net" "LLinkChances$Net;", Cond.classLink RX9 16 RX3, Cond.instantiable RX3 3, Cond.initialized RX3, Cond.fieldLink RX9 21 "LinkChances" "odds" "LLinkChances$Odds;", Cond.classLink RX9 25 RX5, Cond.instantiable RX5 2, Cond.initialized RX5, Cond.fieldLink RX9 28 "LinkChances" "counts" "LLinkChances$SetCounts;"]
def wsL_law_r2 : List Cond := [Cond.classLink RX9 32 RX6, Cond.instantiable RX6 2, Cond.initialized RX6, Cond.fieldLink RX9 35 "LinkChances" "shared" "LLinkChances$Shared;", Cond.classLink RX9 39 RX0, Cond.instantiable RX0 5, Cond.initialized RX0, Cond.fieldLink RX9 42 "LinkChances" "cutAndJoin" "LLinkChances$CutAndJoin;", Cond.classLink RX9 46 RX4, Cond.instantiable RX4 4, Cond.initialized RX4, Cond.fieldLink RX9 49 "LinkChances" "orders" "LLinkChances$Orders;", Cond.classLink RX9 53 RX7, Cond.instantiable RX7 3, Cond.initialized RX7, Cond.fieldLink RX9 56 "LinkChances" "sheets" "LLinkChances$Sheets;", Cond.methodLink RX9 11 yX2_init, Cond.instanceMethod yX2_init, Cond.code yX2_init cX2_init 2 none, Cond.methodLink RX2 3 objectInit, Cond.arrayClass .int, Cond.fieldLink RX2 9 "LinkChances$Net" "lessers" "[I", Cond.fieldLink RX2 15 "LinkChances$Net" "greaters" "[I", Cond.fieldLink RX2 18 "LinkChances$Net" "aboves" "[I"]
def wsL_law_r3 : List Cond := [Cond.fieldLink RX2 21 "LinkChances$Net" "belows" "[I", Cond.fieldLink RX2 24 "LinkChances$Net" "seens" "[I", Cond.arrayClass .long, Cond.fieldLink RX2 27 "LinkChances$Net" "joinings" "[J", Cond.fieldLink RX2 31 "LinkChances$Net" "stationCount" "I", Cond.methodLink RX9 18 yX3_init, Cond.instanceMethod yX3_init, Cond.code yX3_init cX3_init 2 none, Cond.methodLink RX3 3 objectInit, Cond.fieldLink RX3 9 "LinkChances$Odds" "parts" "[J", Cond.fieldLink RX3 15 "LinkChances$Odds" "net" "LLinkChances$Net;", Cond.fieldLink RX3 19 "LinkChances$Odds" "whole" "J", Cond.methodLink RX9 27 yX5_init, Cond.instanceMethod yX5_init, Cond.code yX5_init cX5_init 2 none, Cond.methodLink RX5 3 objectInit, Cond.fieldLink RX5 9 "LinkChances$SetCounts" "reaching" "[I", Cond.fieldLink RX5 15 "LinkChances$SetCounts" "net" "LLinkChances$Net;", Cond.methodLink RX9 34 yX6_init, Cond.instanceMethod yX6_init, Cond.code yX6_init cX6_init 2 none, Cond.methodLink RX6 3 objectInit, Cond.fieldLink RX6 9 "LinkChances$Shared" "looks" "[J", Cond.fieldLink RX6 15 "LinkChances$Shared" "net" "LLinkChances$Net;"]
def wsL_law_r4 : List Cond := [Cond.methodLink RX9 41 yX0_init, Cond.instanceMethod yX0_init, Cond.code yX0_init cX0_init 3 none, Cond.methodLink RX0 3 objectInit, Cond.classLink RX0 9 RX8, Cond.fieldLink RX0 11 "LinkChances$CutAndJoin" "levels" "[LLinkChances$TidyNet;", Cond.fieldLink RX0 17 "LinkChances$CutAndJoin" "net" "LLinkChances$Net;", Cond.instantiable RX8 8, Cond.initialized RX8, Cond.instanceMethod yX8_init, Cond.code yX8_init cX8_init 1 none, Cond.methodLink RX8 3 objectInit, Cond.fieldLink RX8 9 "LinkChances$TidyNet" "nears" "[I", Cond.fieldLink RX8 15 "LinkChances$TidyNet" "fars" "[I", Cond.fieldLink RX8 18 "LinkChances$TidyNet" "aboves" "[J", Cond.fieldLink RX8 22 "LinkChances$TidyNet" "belows" "[J", Cond.methodLink RX9 48 yX4_init, Cond.instanceMethod yX4_init, Cond.code yX4_init cX4_init 2 none, Cond.methodLink RX4 1 objectInit, Cond.fieldLink RX4 9 "LinkChances$Orders" "text" "[I", Cond.fieldLink RX4 13 "LinkChances$Orders" "net" "LLinkChances$Net;", Cond.methodLink RX9 55 yX7_init, Cond.instanceMethod yX7_init]
def wsL_law_r5 : List Cond := [Cond.code yX7_init cX7_init 2 none, Cond.methodLink RX7 3 objectInit, Cond.classLink RX7 11 "[[J", Cond.fieldLink RX7 13 "LinkChances$Sheets" "rows" "[[J", Cond.fieldLink RX7 16 "LinkChances$Sheets" "sizes" "[I", Cond.methodLink RL 12 yX10_init, Cond.instanceMethod yX10_init, Cond.code yX10_init cX10_init 2 none, Cond.methodLink RX10 1 objectInit, Cond.fieldLink RX10 7 "LinkChancesModel" "sizes" "[I", Cond.fieldLink RX10 13 "LinkChancesModel" "items" "[J", Cond.fieldLink RX10 17 "LinkChancesModel" "aside" "[J", Cond.fieldLink RX10 20 "LinkChancesModel" "ones" "[I", Cond.fieldLink RX10 23 "LinkChancesModel" "others" "[I", Cond.fieldLink RX10 26 "LinkChancesModel" "ups" "[I", Cond.fieldLink RX10 29 "LinkChancesModel" "belows" "[I", Cond.fieldLink RX10 32 "LinkChancesModel" "seens" "[I", Cond.fieldLink RX10 35 "LinkChancesModel" "tops" "[I", Cond.fieldLink RX10 38 "LinkChancesModel" "bottoms" "[I", Cond.fieldLink RX10 41 "LinkChancesModel" "keys" "[I", Cond.fieldLink RX10 44 "LinkChancesModel" "netOnes" "[I", Cond.fieldLink RX10 47 "LinkChancesModel" "netOthers" "[I", Cond.fieldLink RX10 50 "LinkChancesModel" "netChances" "[I", Cond.fieldLink RX10 53 "LinkChancesModel" "present" "[I"]
def wsL_law_r6 : List Cond := [Cond.fieldLink RX10 56 "LinkChancesModel" "netWanted" "[I", Cond.fieldLink RX10 59 "LinkChancesModel" "stages" "[I", Cond.fieldLink RX10 62 "LinkChancesModel" "orders" "[I", Cond.fieldLink RX10 65 "LinkChancesModel" "before" "[I", Cond.fieldLink RX10 68 "LinkChancesModel" "stations" "I", Cond.methodLink RL 13 yX9_stations, Cond.instanceMethod yX9_stations, Cond.selects RX9 yX9_stations yX9_stations, Cond.code yX9_stations cX9_stations 3 (some .int), Cond.methodLink RX9 60 yX2_stationCount, Cond.instanceMethod yX2_stationCount, Cond.selects RX2 yX2_stationCount yX2_stationCount, Cond.code yX2_stationCount cX2_stationCount 1 (some .int), Cond.methodLink RX9 64 yX2_renew, Cond.instanceMethod yX2_renew, Cond.selects RX2 yX2_renew yX2_renew, Cond.code yX2_renew cX2_renew 2 none, Cond.fieldLink RX2 35 "LinkChances$Net" "linkCount" "I", Cond.fieldLink RX2 38 "LinkChances$Net" "source" "I", Cond.fieldLink RX2 41 "LinkChances$Net" "goals" "I", Cond.methodLink RL 17 yX10_stations, Cond.instanceMethod yX10_stations, Cond.selects RX10 yX10_stations yX10_stations, Cond.code yX10_stations cX10_stations 3 (some .int)]
def wsL_law_r7 : List Cond := [Cond.constantLong RX10 85 (2), Cond.constantLong RX10 106 (7), Cond.fieldLink RX10 103 "LinkChancesModel" "links" "I", Cond.fieldLink RX10 108 "LinkChancesModel" "goals" "I", Cond.fieldLink RX10 111 "LinkChancesModel" "source" "I", Cond.methodLink RX10 72 yX10_in, Cond.static yX10_in, Cond.code yX10_in cX10_in 6 (some .boolean), Cond.methodLink RL 18 yX9_link, Cond.instanceMethod yX9_link, Cond.selects RX9 yX9_link yX9_link, Cond.code yX9_link cX9_link 5 (some .int), Cond.methodLink RX9 68 yX2_mayLink, Cond.instanceMethod yX2_mayLink, Cond.selects RX2 yX2_mayLink yX2_mayLink, Cond.code yX2_mayLink cX2_mayLink 9 (some .boolean), Cond.methodLink RX2 44 yX2_hasStation, Cond.instanceMethod yX2_hasStation, Cond.selects RX2 yX2_hasStation yX2_hasStation, Cond.code yX2_hasStation cX2_hasStation 3 (some .boolean), Cond.methodLink RX2 48 yX1_isChance, Cond.static yX1_isChance, Cond.initialized RX1, Cond.code yX1_isChance cX1_isChance 4 (some .boolean)]
def wsL_law_r8 : List Cond := [Cond.constantLong RX1 7 (9), Cond.methodLink RX9 72 yX2_hasRoom, Cond.instanceMethod yX2_hasRoom, Cond.selects RX2 yX2_hasRoom yX2_hasRoom, Cond.code yX2_hasRoom cX2_hasRoom 1 (some .boolean), Cond.methodLink RX9 76 yX2_addLink, Cond.instanceMethod yX2_addLink, Cond.selects RX2 yX2_addLink yX2_addLink, Cond.code yX2_addLink cX2_addLink 6 (some .int), Cond.methodLink RX2 54 Lib.Math.min.name, Cond.static Lib.Math.min.name, Cond.initialized "java/lang/Math", Cond.code Lib.Math.min.name Lib.Math.min.code 2 (some .int), Cond.methodLink RX2 60 Lib.Math.max.name, Cond.static Lib.Math.max.name, Cond.code Lib.Math.max.name Lib.Math.max.code 2 (some .int), Cond.methodLink RX2 63 yX2_addSetsWith, Cond.instanceMethod yX2_addSetsWith, Cond.selects RX2 yX2_addSetsWith yX2_addSetsWith, Cond.code yX2_addSetsWith cX2_addSetsWith 4 none, Cond.methodLink RX2 92 yX2_lesserOf, Cond.instanceMethod yX2_lesserOf, Cond.selects RX2 yX2_lesserOf yX2_lesserOf, Cond.code yX2_lesserOf cX2_lesserOf 2 (some .int)]
def wsL_law_r9 : List Cond := [Cond.methodLink RX2 67 yX2_hasLink, Cond.instanceMethod yX2_hasLink, Cond.selects RX2 yX2_hasLink yX2_hasLink, Cond.code yX2_hasLink cX2_hasLink 2 (some .boolean), Cond.methodLink RX2 95 yX2_greaterOf, Cond.instanceMethod yX2_greaterOf, Cond.selects RX2 yX2_greaterOf yX2_greaterOf, Cond.code yX2_greaterOf cX2_greaterOf 2 (some .int), Cond.methodLink RX2 98 yX2_joinedOver, Cond.static yX2_joinedOver, Cond.code yX2_joinedOver cX2_joinedOver 6 (some .long), Cond.methodLink RX2 81 yX2_stationsIn, Cond.static yX2_stationsIn, Cond.code yX2_stationsIn cX2_stationsIn 3 (some .int), Cond.methodLink RL 22 yX10_link, Cond.instanceMethod yX10_link, Cond.selects RX10 yX10_link yX10_link, Cond.code yX10_link cX10_link 5 (some .int), Cond.methodLink RX10 124 yX10_mayLink, Cond.instanceMethod yX10_mayLink, Cond.selects RX10 yX10_mayLink yX10_mayLink, Cond.code yX10_mayLink cX10_mayLink 9 (some .boolean), Cond.methodLink RX10 116 yX10_isStation, Cond.instanceMethod yX10_isStation]
def wsL_law_r10 : List Cond := [Cond.selects RX10 yX10_isStation yX10_isStation, Cond.code yX10_isStation cX10_isStation 3 (some .boolean), Cond.methodLink RX10 120 yX10_isChance, Cond.static yX10_isChance, Cond.code yX10_isChance cX10_isChance 4 (some .boolean), Cond.constantLong RX10 114 (9), Cond.methodLink RX10 128 yX10_adds, Cond.instanceMethod yX10_adds, Cond.selects RX10 yX10_adds yX10_adds, Cond.code yX10_adds cX10_adds 5 none, Cond.methodLink RL 23 yX9_back, Cond.instanceMethod yX9_back, Cond.selects RX9 yX9_back yX9_back, Cond.code yX9_back cX9_back 1 (some .int), Cond.methodLink RX9 80 yX2_linkCount, Cond.instanceMethod yX2_linkCount, Cond.selects RX2 yX2_linkCount yX2_linkCount, Cond.code yX2_linkCount cX2_linkCount 1 (some .int), Cond.methodLink RX9 83 yX2_dropLast, Cond.instanceMethod yX2_dropLast, Cond.selects RX2 yX2_dropLast yX2_dropLast, Cond.code yX2_dropLast cX2_dropLast 1 (some .int), Cond.methodLink RL 27 yX10_back, Cond.instanceMethod yX10_back]
def wsL_law_r11 : List Cond := [Cond.selects RX10 yX10_back yX10_back, Cond.code yX10_back cX10_back 1 (some .int), Cond.methodLink RL 28 yX9_chance, Cond.instanceMethod yX9_chance, Cond.selects RX9 yX9_chance yX9_chance, Cond.code yX9_chance cX9_chance 5 (some .int), Cond.methodLink RX9 86 yX2_hasLink, Cond.methodLink RX9 90 yX1_isChance, Cond.methodLink RX9 96 yX2_aboveOf, Cond.instanceMethod yX2_aboveOf, Cond.selects RX2 yX2_aboveOf yX2_aboveOf, Cond.code yX2_aboveOf cX2_aboveOf 2 (some .int), Cond.methodLink RX9 100 yX2_belowOf, Cond.instanceMethod yX2_belowOf, Cond.selects RX2 yX2_belowOf yX2_belowOf, Cond.code yX2_belowOf cX2_belowOf 2 (some .int), Cond.methodLink RX9 103 yX2_setChance, Cond.instanceMethod yX2_setChance, Cond.selects RX2 yX2_setChance yX2_setChance, Cond.code yX2_setChance cX2_setChance 4 none, Cond.methodLink RL 32 yX10_chance, Cond.instanceMethod yX10_chance, Cond.selects RX10 yX10_chance yX10_chance, Cond.code yX10_chance cX10_chance 5 (some .int)]
def wsL_law_r12 : List Cond := [Cond.methodLink RX10 132 yX10_isLink, Cond.instanceMethod yX10_isLink, Cond.selects RX10 yX10_isLink yX10_isLink, Cond.code yX10_isLink cX10_isLink 2 (some .boolean), Cond.methodLink RL 33 yX9_see, Cond.instanceMethod yX9_see, Cond.selects RX9 yX9_see yX9_see, Cond.code yX9_see cX9_see 4 (some .int), Cond.methodLink RX9 107 yX2_seenOf, Cond.instanceMethod yX2_seenOf, Cond.selects RX2 yX2_seenOf yX2_seenOf, Cond.code yX2_seenOf cX2_seenOf 2 (some .int), Cond.methodLink RX9 110 yX2_setSeen, Cond.instanceMethod yX2_setSeen, Cond.selects RX2 yX2_setSeen yX2_setSeen, Cond.code yX2_setSeen cX2_setSeen 3 none, Cond.methodLink RL 37 yX10_see, Cond.instanceMethod yX10_see, Cond.selects RX10 yX10_see yX10_see, Cond.code yX10_see cX10_see 4 (some .int), Cond.methodLink RL 38 yX9_source, Cond.instanceMethod yX9_source, Cond.selects RX9 yX9_source yX9_source, Cond.code yX9_source cX9_source 3 (some .int)]
def wsL_law_r13 : List Cond := [Cond.methodLink RX9 114 yX2_hasStation, Cond.methodLink RX9 118 yX2_sourceStation, Cond.instanceMethod yX2_sourceStation, Cond.selects RX2 yX2_sourceStation yX2_sourceStation, Cond.code yX2_sourceStation cX2_sourceStation 1 (some .int), Cond.methodLink RX9 121 yX2_setSource, Cond.instanceMethod yX2_setSource, Cond.selects RX2 yX2_setSource yX2_setSource, Cond.code yX2_setSource cX2_setSource 2 none, Cond.methodLink RL 41 yX10_source, Cond.instanceMethod yX10_source, Cond.selects RX10 yX10_source yX10_source, Cond.code yX10_source cX10_source 3 (some .int), Cond.methodLink RL 42 yX9_goals, Cond.instanceMethod yX9_goals, Cond.selects RX9 yX9_goals yX9_goals, Cond.code yX9_goals cX9_goals 3 (some .int), Cond.methodLink RX9 124 yX2_allStations, Cond.instanceMethod yX2_allStations, Cond.selects RX2 yX2_allStations yX2_allStations, Cond.code yX2_allStations cX2_allStations 1 (some .int), Cond.methodLink RX9 127 yX2_goalBits, Cond.instanceMethod yX2_goalBits, Cond.selects RX2 yX2_goalBits yX2_goalBits]
def wsL_law_r14 : List Cond := [Cond.code yX2_goalBits cX2_goalBits 1 (some .int), Cond.methodLink RX9 130 yX2_setGoals, Cond.instanceMethod yX2_setGoals, Cond.selects RX2 yX2_setGoals yX2_setGoals, Cond.code yX2_setGoals cX2_setGoals 2 none, Cond.methodLink RL 45 yX10_goals, Cond.instanceMethod yX10_goals, Cond.selects RX10 yX10_goals yX10_goals, Cond.code yX10_goals cX10_goals 3 (some .int), Cond.methodLink RL 46 yX9_info, Cond.instanceMethod yX9_info, Cond.selects RX9 yX9_info yX9_info, Cond.code yX9_info cX9_info 3 (some .int), Cond.methodLink RX9 133 yX2_lesserOf, Cond.methodLink RX9 136 yX2_greaterOf, Cond.methodLink RL 49 yX10_info, Cond.instanceMethod yX10_info, Cond.selects RX10 yX10_info yX10_info, Cond.code yX10_info cX10_info 3 (some .int), Cond.constantLong RX10 135 (4), Cond.methodLink RX10 137 yX10_infoBy, Cond.instanceMethod yX10_infoBy, Cond.selects RX10 yX10_infoBy yX10_infoBy, Cond.code yX10_infoBy cX10_infoBy 3 (some .int)]
def wsL_law_r15 : List Cond := [Cond.methodLink RL 50 yX9_reach, Cond.instanceMethod yX9_reach, Cond.selects RX9 yX9_reach yX9_reach, Cond.code yX9_reach cX9_reach 2 (some .long), Cond.methodLink RX9 139 yX9_isSide, Cond.static yX9_isSide, Cond.code yX9_isSide cX9_isSide 1 (some .boolean), Cond.methodLink RX9 142 yX9_refused, Cond.static yX9_refused, Cond.code yX9_refused cX9_refused 1 (some .long), Cond.constantLong RX9 306 (-9223372036854775808), Cond.methodLink RX9 146 yX3_fill, Cond.instanceMethod yX3_fill, Cond.selects RX3 yX3_fill yX3_fill, Cond.code yX3_fill cX3_fill 1 none, Cond.methodLink RX3 23 yX3_fillWith, Cond.instanceMethod yX3_fillWith, Cond.selects RX3 yX3_fillWith yX3_fillWith, Cond.code yX3_fillWith cX3_fillWith 5 none, Cond.methodLink RX3 27 yX2_linkCount, Cond.methodLink RX3 33 yX3_spread, Cond.instanceMethod yX3_spread, Cond.selects RX3 yX3_spread yX3_spread, Cond.code yX3_spread cX3_spread 6 none]
def wsL_law_r16 : List Cond := [Cond.methodLink RX3 36 yX2_upParts, Cond.instanceMethod yX2_upParts, Cond.selects RX2 yX2_upParts yX2_upParts, Cond.code yX2_upParts cX2_upParts 3 (some .int), Cond.methodLink RX2 71 yX2_seenOf, Cond.methodLink RX2 75 yX2_aboveOf, Cond.methodLink RX3 40 yX2_wholeParts, Cond.instanceMethod yX2_wholeParts, Cond.selects RX2 yX2_wholeParts yX2_wholeParts, Cond.code yX2_wholeParts cX2_wholeParts 2 (some .int), Cond.methodLink RX2 78 yX2_belowOf, Cond.methodLink RX9 149 yX3_reachParts, Cond.instanceMethod yX3_reachParts, Cond.selects RX3 yX3_reachParts yX3_reachParts, Cond.code yX3_reachParts cX3_reachParts 4 (some .long), Cond.methodLink RX3 49 yX2_allLinks, Cond.instanceMethod yX2_allLinks, Cond.selects RX2 yX2_allLinks yX2_allLinks, Cond.code yX2_allLinks cX2_allLinks 1 (some .int), Cond.methodLink RX3 52 yX2_reaches, Cond.instanceMethod yX2_reaches, Cond.selects RX2 yX2_reaches yX2_reaches, Cond.code yX2_reaches cX2_reaches 2 (some .boolean), Cond.methodLink RX2 85 yX2_wantedStations]
def wsL_law_r17 : List Cond := [Cond.instanceMethod yX2_wantedStations, Cond.selects RX2 yX2_wantedStations yX2_wantedStations, Cond.code yX2_wantedStations cX2_wantedStations 1 (some .int), Cond.methodLink RX2 89 yX2_joinedWith, Cond.instanceMethod yX2_joinedWith, Cond.selects RX2 yX2_joinedWith yX2_joinedWith, Cond.code yX2_joinedWith cX2_joinedWith 3 (some .int), Cond.methodLink RX9 153 yX3_told, Cond.instanceMethod yX3_told, Cond.selects RX3 yX3_told yX3_told, Cond.code yX3_told cX3_told 4 (some .long), Cond.methodLink RX3 43 yX1_told, Cond.static yX1_told, Cond.code yX1_told cX1_told 7 (some .long), Cond.methodLink RX1 9 yX1_commonDivisor, Cond.static yX1_commonDivisor, Cond.code yX1_commonDivisor cX1_commonDivisor 7 (some .long), Cond.methodLink RL 54 yX10_reach, Cond.instanceMethod yX10_reach, Cond.selects RX10 yX10_reach yX10_reach, Cond.code yX10_reach cX10_reach 2 (some .long), Cond.methodLink RX10 165 yX10_isTwo, Cond.static yX10_isTwo, Cond.code yX10_isTwo cX10_isTwo 1 (some .boolean)]
def wsL_law_r18 : List Cond := [Cond.methodLink RX10 168 yX10_reachBy, Cond.instanceMethod yX10_reachBy, Cond.selects RX10 yX10_reachBy yX10_reachBy, Cond.code yX10_reachBy cX10_reachBy 2 (some .long), Cond.methodLink RX10 146 yX10_asItIs, Cond.instanceMethod yX10_asItIs, Cond.selects RX10 yX10_asItIs yX10_asItIs, Cond.code yX10_asItIs cX10_asItIs 2 none, Cond.methodLink RX10 149 yX10_wanted, Cond.instanceMethod yX10_wanted, Cond.selects RX10 yX10_wanted yX10_wanted, Cond.code yX10_wanted cX10_wanted 1 (some .int), Cond.methodLink RX10 153 yX10_above, Cond.instanceMethod yX10_above, Cond.selects RX10 yX10_above yX10_above, Cond.code yX10_above cX10_above 8 (some .long), Cond.methodLink RX10 143 yX10_weight, Cond.instanceMethod yX10_weight, Cond.selects RX10 yX10_weight yX10_weight, Cond.code yX10_weight cX10_weight 5 (some .long), Cond.methodLink RX10 140 yX10_joinedWith, Cond.instanceMethod yX10_joinedWith, Cond.selects RX10 yX10_joinedWith yX10_joinedWith, Cond.code yX10_joinedWith cX10_joinedWith 7 (some .int)]
def wsL_law_r19 : List Cond := [Cond.methodLink RX10 157 yX10_below, Cond.instanceMethod yX10_below, Cond.selects RX10 yX10_below yX10_below, Cond.code yX10_below cX10_below 4 (some .long), Cond.methodLink RX10 161 yX10_part, Cond.static yX10_part, Cond.code yX10_part cX10_part 5 (some .long), Cond.methodLink RX10 78 yX10_divisor, Cond.static yX10_divisor, Cond.code yX10_divisor cX10_divisor 11 (some .long), Cond.methodLink RX10 99 yX10_no, Cond.static yX10_no, Cond.code yX10_no cX10_no 1 (some .long), Cond.constantLong RX10 76 (-9223372036854775808), Cond.methodLink RL 55 yX9_joined, Cond.instanceMethod yX9_joined, Cond.selects RX9 yX9_joined yX9_joined, Cond.code yX9_joined cX9_joined 2 (some .long), Cond.methodLink RX9 157 yX0_askAll, Cond.instanceMethod yX0_askAll, Cond.selects RX0 yX0_askAll yX0_askAll, Cond.code yX0_askAll cX0_askAll 1 none, Cond.fieldLink RX0 22 "LinkChances$CutAndJoin" "steps" "I", Cond.fieldLink RX0 26 "LinkChances$CutAndJoin" "deep" "I"]
def wsL_law_r20 : List Cond := [Cond.fieldLink RX0 29 "LinkChances$CutAndJoin" "tidied" "I", Cond.methodLink RX0 32 yX8_takeAll, Cond.instanceMethod yX8_takeAll, Cond.selects RX8 yX8_takeAll yX8_takeAll, Cond.code yX8_takeAll cX8_takeAll 3 none, Cond.fieldLink RX8 31 "LinkChances$TidyNet" "links" "I", Cond.fieldLink RX8 38 "LinkChances$TidyNet" "wanted" "I", Cond.methodLink RX8 25 yX2_allLinks, Cond.methodLink RX8 35 yX2_wantedStations, Cond.methodLink RX8 41 yX2_linkCount, Cond.methodLink RX8 44 yX2_lesserOf, Cond.methodLink RX8 48 yX2_greaterOf, Cond.methodLink RX8 51 yX2_upParts, Cond.methodLink RX8 54 yX2_wholeParts, Cond.methodLink RX8 57 yX8_answer, Cond.instanceMethod yX8_answer, Cond.selects RX8 yX8_answer yX8_answer, Cond.code yX8_answer cX8_answer 5 none, Cond.fieldLink RX8 105 "LinkChances$TidyNet" "answerAbove" "J", Cond.fieldLink RX8 109 "LinkChances$TidyNet" "answerBelow" "J", Cond.methodLink RX0 36 yX0_ask, Cond.static yX0_ask, Cond.code yX0_ask cX0_ask 5 none, Cond.methodLink RX0 47 Lib.Math.max.name]
def wsL_law_r21 : List Cond := [Cond.methodLink RX0 53 yX8_tidy, Cond.instanceMethod yX8_tidy, Cond.selects RX8 yX8_tidy yX8_tidy, Cond.code yX8_tidy cX8_tidy 2 (some .int), Cond.methodLink RX8 78 yX8_dropRound, Cond.instanceMethod yX8_dropRound, Cond.selects RX8 yX8_dropRound yX8_dropRound, Cond.code yX8_dropRound cX8_dropRound 2 (some .boolean), Cond.methodLink RX8 102 yX8_isThere, Cond.instanceMethod yX8_isThere, Cond.selects RX8 yX8_isThere yX8_isThere, Cond.code yX8_isThere cX8_isThere 2 (some .boolean), Cond.methodLink RX8 82 yX8_joinTwins, Cond.instanceMethod yX8_joinTwins, Cond.selects RX8 yX8_joinTwins yX8_joinTwins, Cond.code yX8_joinTwins cX8_joinTwins 5 (some .boolean), Cond.methodLink RX8 125 yX8_areTwins, Cond.instanceMethod yX8_areTwins, Cond.selects RX8 yX8_areTwins yX8_areTwins, Cond.code yX8_areTwins cX8_areTwins 3 (some .boolean), Cond.methodLink RX8 85 yX8_dropEnd, Cond.instanceMethod yX8_dropEnd, Cond.selects RX8 yX8_dropEnd yX8_dropEnd, Cond.code yX8_dropEnd cX8_dropEnd 4 (some .boolean)]
def wsL_law_r22 : List Cond := [Cond.methodLink RX8 65 Lib.Math.min.name, Cond.methodLink RX8 96 yX8_linksAt, Cond.instanceMethod yX8_linksAt, Cond.selects RX8 yX8_linksAt yX8_linksAt, Cond.code yX8_linksAt cX8_linksAt 4 (some .int), Cond.methodLink RX8 74 yX8_isWanted, Cond.instanceMethod yX8_isWanted, Cond.selects RX8 yX8_isWanted yX8_isWanted, Cond.code yX8_isWanted cX8_isWanted 2 (some .boolean), Cond.methodLink RX8 91 yJ6_bitCount_0f7a4, Cond.static yJ6_bitCount_0f7a4, Cond.initialized RJ6, Cond.code yJ6_bitCount_0f7a4 cJ6_bitCount_0f7a4 1 (some .int), Cond.constant RJ6 265 (1431655765), Cond.constant RJ6 266 (858993459), Cond.constant RJ6 267 (252645135), Cond.methodLink RX8 99 yJ6_numberOfTrailingZeros_0f7a4, Cond.static yJ6_numberOfTrailingZeros_0f7a4, Cond.code yJ6_numberOfTrailingZeros_0f7a4 cJ6_numberOfTrailingZeros_0f7a4 2 (some .int), Cond.constant RJ6 264 (65536), Cond.methodLink RX8 88 yX8_joinChain, Cond.instanceMethod yX8_joinChain, Cond.selects RX8 yX8_joinChain yX8_joinChain, Cond.code yX8_joinChain cX8_joinChain 8 (some .boolean)]
def wsL_law_r23 : List Cond := [Cond.methodLink RX8 129 yX8_otherEnd, Cond.instanceMethod yX8_otherEnd, Cond.selects RX8 yX8_otherEnd yX8_otherEnd, Cond.code yX8_otherEnd cX8_otherEnd 3 (some .int), Cond.methodLink RX0 57 yX8_isSettled, Cond.instanceMethod yX8_isSettled, Cond.selects RX8 yX8_isSettled yX8_isSettled, Cond.code yX8_isSettled cX8_isSettled 2 (some .boolean), Cond.methodLink RX0 61 yX8_leastLink, Cond.instanceMethod yX8_leastLink, Cond.selects RX8 yX8_leastLink yX8_leastLink, Cond.code yX8_leastLink cX8_leastLink 1 (some .int), Cond.methodLink RX0 64 yX8_canBeUp, Cond.instanceMethod yX8_canBeUp, Cond.selects RX8 yX8_canBeUp yX8_canBeUp, Cond.code yX8_canBeUp cX8_canBeUp 2 (some .boolean), Cond.methodLink RX0 68 yX8_takeJoined, Cond.instanceMethod yX8_takeJoined, Cond.selects RX8 yX8_takeJoined yX8_takeJoined, Cond.code yX8_takeJoined cX8_takeJoined 6 none, Cond.methodLink RX8 71 Lib.Math.max.name, Cond.methodLink RX8 61 yX8_takeCut, Cond.instanceMethod yX8_takeCut, Cond.selects RX8 yX8_takeCut yX8_takeCut]
def wsL_law_r24 : List Cond := [Cond.code yX8_takeCut cX8_takeCut 4 none, Cond.methodLink RX0 72 yX8_addUp, Cond.instanceMethod yX8_addUp, Cond.selects RX8 yX8_addUp yX8_addUp, Cond.code yX8_addUp cX8_addUp 3 none, Cond.methodLink RX8 112 yX8_add, Cond.instanceMethod yX8_add, Cond.selects RX8 yX8_add yX8_add, Cond.code yX8_add cX8_add 11 none, Cond.methodLink RX8 115 yX1_commonDivisor, Cond.methodLink RX8 121 yX1_told, Cond.methodLink RX0 76 yX8_canBeDown, Cond.instanceMethod yX8_canBeDown, Cond.selects RX8 yX8_canBeDown yX8_canBeDown, Cond.code yX8_canBeDown cX8_canBeDown 2 (some .boolean), Cond.methodLink RX0 79 yX8_takeCut, Cond.methodLink RX0 82 yX8_addDown, Cond.instanceMethod yX8_addDown, Cond.selects RX8 yX8_addDown yX8_addDown, Cond.code yX8_addDown cX8_addDown 3 none, Cond.methodLink RX9 160 yX0_told, Cond.instanceMethod yX0_told, Cond.selects RX0 yX0_told yX0_told, Cond.code yX0_told cX0_told 2 (some .long)]
def wsL_law_r25 : List Cond := [Cond.methodLink RX0 40 yX8_answerAbove, Cond.instanceMethod yX8_answerAbove, Cond.selects RX8 yX8_answerAbove yX8_answerAbove, Cond.code yX8_answerAbove cX8_answerAbove 1 (some .long), Cond.methodLink RX0 44 yX8_answerBelow, Cond.instanceMethod yX8_answerBelow, Cond.selects RX8 yX8_answerBelow yX8_answerBelow, Cond.code yX8_answerBelow cX8_answerBelow 1 (some .long), Cond.methodLink RL 58 yX10_joined, Cond.instanceMethod yX10_joined, Cond.selects RX10 yX10_joined yX10_joined, Cond.code yX10_joined cX10_joined 2 (some .long), Cond.methodLink RX10 299 yX10_asks, Cond.instanceMethod yX10_asks, Cond.selects RX10 yX10_asks yX10_asks, Cond.code yX10_asks cX10_asks 4 none, Cond.fieldLink RX10 279 "LinkChancesModel" "steps" "I", Cond.fieldLink RX10 282 "LinkChancesModel" "deep" "I", Cond.fieldLink RX10 240 "LinkChancesModel" "tidy" "I", Cond.methodLink RX10 285 yX10_tidies, Cond.instanceMethod yX10_tidies, Cond.selects RX10 yX10_tidies yX10_tidies, Cond.code yX10_tidies cX10_tidies 3 none, Cond.methodLink RX10 267 yX10_dropsOwn]
def wsL_law_r26 : List Cond := [Cond.instanceMethod yX10_dropsOwn, Cond.selects RX10 yX10_dropsOwn yX10_dropsOwn, Cond.code yX10_dropsOwn cX10_dropsOwn 3 (some .boolean), Cond.methodLink RX10 243 yX10_has, Cond.instanceMethod yX10_has, Cond.selects RX10 yX10_has yX10_has, Cond.code yX10_has cX10_has 3 (some .boolean), Cond.methodLink RX10 250 yX10_drops, Cond.instanceMethod yX10_drops, Cond.selects RX10 yX10_drops yX10_drops, Cond.code yX10_drops cX10_drops 3 none, Cond.methodLink RX10 270 yX10_joinsBeside, Cond.instanceMethod yX10_joinsBeside, Cond.selects RX10 yX10_joinsBeside yX10_joinsBeside, Cond.code yX10_joinsBeside cX10_joinsBeside 6 (some .boolean), Cond.methodLink RX10 254 yX10_isBeside, Cond.instanceMethod yX10_isBeside, Cond.selects RX10 yX10_isBeside yX10_isBeside, Cond.code yX10_isBeside cX10_isBeside 4 (some .boolean), Cond.methodLink RX10 246 yX10_isAt, Cond.instanceMethod yX10_isAt, Cond.selects RX10 yX10_isAt yX10_isAt, Cond.code yX10_isAt cX10_isAt 4 (some .boolean), Cond.methodLink RX10 273 yX10_dropsEnds]
def wsL_law_r27 : List Cond := [Cond.instanceMethod yX10_dropsEnds, Cond.selects RX10 yX10_dropsEnds yX10_dropsEnds, Cond.code yX10_dropsEnds cX10_dropsEnds 3 (some .boolean), Cond.methodLink RX10 260 yX10_isFree, Cond.instanceMethod yX10_isFree, Cond.selects RX10 yX10_isFree yX10_isFree, Cond.code yX10_isFree cX10_isFree 4 (some .boolean), Cond.methodLink RX10 257 yX10_linksAt, Cond.instanceMethod yX10_linksAt, Cond.selects RX10 yX10_linksAt yX10_linksAt, Cond.code yX10_linksAt cX10_linksAt 5 (some .int), Cond.methodLink RX10 276 yX10_joinsBehind, Cond.instanceMethod yX10_joinsBehind, Cond.selects RX10 yX10_joinsBehind yX10_joinsBehind, Cond.code yX10_joinsBehind cX10_joinsBehind 10 (some .boolean), Cond.methodLink RX10 263 yX10_otherEnd, Cond.instanceMethod yX10_otherEnd, Cond.selects RX10 yX10_otherEnd yX10_otherEnd, Cond.code yX10_otherEnd cX10_otherEnd 4 (some .int), Cond.methodLink RX10 289 yX10_isAnswered, Cond.instanceMethod yX10_isAnswered, Cond.selects RX10 yX10_isAnswered yX10_isAnswered, Cond.code yX10_isAnswered cX10_isAnswered 4 (some .boolean), Cond.methodLink RX10 178 yX10_bitsIn]
def wsL_law_r28 : List Cond := [Cond.static yX10_bitsIn, Cond.code yX10_bitsIn cX10_bitsIn 3 (some .int), Cond.methodLink RX10 292 yX10_first, Cond.instanceMethod yX10_first, Cond.selects RX10 yX10_first yX10_first, Cond.code yX10_first cX10_first 3 (some .int), Cond.methodLink RX10 295 yX10_puts, Cond.instanceMethod yX10_puts, Cond.selects RX10 yX10_puts yX10_puts, Cond.code yX10_puts cX10_puts 12 none, Cond.methodLink RX10 302 yX10_joinedBy, Cond.instanceMethod yX10_joinedBy, Cond.selects RX10 yX10_joinedBy yX10_joinedBy, Cond.code yX10_joinedBy cX10_joinedBy 2 (some .long), Cond.methodLink RL 59 yX9_wide, Cond.instanceMethod yX9_wide, Cond.selects RX9 yX9_wide yX9_wide, Cond.code yX9_wide cX9_wide 2 (some .int), Cond.methodLink RX9 162 yX6_widthBehind, Cond.instanceMethod yX6_widthBehind, Cond.selects RX6 yX6_widthBehind yX6_widthBehind, Cond.code yX6_widthBehind cX6_widthBehind 10 (some .int), Cond.methodLink RX6 35 yX6_openBehind, Cond.instanceMethod yX6_openBehind]
def wsL_law_r29 : List Cond := [Cond.selects RX6 yX6_openBehind yX6_openBehind, Cond.code yX6_openBehind cX6_openBehind 4 (some .int), Cond.methodLink RX6 19 yX2_linkCount, Cond.methodLink RX6 60 yX2_lesserOf, Cond.methodLink RX6 63 yX2_greaterOf, Cond.methodLink RX6 38 yX6_surelyUp, Cond.instanceMethod yX6_surelyUp, Cond.selects RX6 yX6_surelyUp yX6_surelyUp, Cond.code yX6_surelyUp cX6_surelyUp 4 (some .int), Cond.methodLink RX6 66 yX2_upParts, Cond.methodLink RX6 69 yX2_wholeParts, Cond.methodLink RX6 41 yX6_surelyDown, Cond.instanceMethod yX6_surelyDown, Cond.selects RX6 yX6_surelyDown yX6_surelyDown, Cond.code yX6_surelyDown cX6_surelyDown 4 (some .int), Cond.methodLink RX6 44 yX2_reaches, Cond.methodLink RX6 48 yX6_isLost, Cond.instanceMethod yX6_isLost, Cond.selects RX6 yX6_isLost yX6_isLost, Cond.code yX6_isLost cX6_isLost 5 (some .boolean), Cond.methodLink RX6 72 yX2_wantedStations, Cond.methodLink RX6 75 yX2_joinedWith, Cond.methodLink RX6 52 yX6_lookOf, Cond.instanceMethod yX6_lookOf]
def wsL_law_r30 : List Cond := [Cond.selects RX6 yX6_lookOf yX6_lookOf, Cond.code yX6_lookOf cX6_lookOf 8 (some .long), Cond.methodLink RX6 56 yX6_isAmong, Cond.instanceMethod yX6_isAmong, Cond.selects RX6 yX6_isAmong yX6_isAmong, Cond.code yX6_isAmong cX6_isAmong 5 (some .boolean), Cond.methodLink RL 62 yX10_wide, Cond.instanceMethod yX10_wide, Cond.selects RX10 yX10_wide yX10_wide, Cond.code yX10_wide cX10_wide 2 (some .int), Cond.methodLink RX10 234 yX10_wideBy, Cond.instanceMethod yX10_wideBy, Cond.selects RX10 yX10_wideBy yX10_wideBy, Cond.code yX10_wideBy cX10_wideBy 8 (some .int), Cond.methodLink RX10 225 yX10_isOpen, Cond.instanceMethod yX10_isOpen, Cond.selects RX10 yX10_isOpen yX10_isOpen, Cond.code yX10_isOpen cX10_isOpen 5 (some .boolean), Cond.methodLink RX10 228 yX10_isPossible, Cond.instanceMethod yX10_isPossible, Cond.selects RX10 yX10_isPossible yX10_isPossible, Cond.code yX10_isPossible cX10_isPossible 6 (some .boolean), Cond.methodLink RX10 231 yX10_keyOf, Cond.instanceMethod yX10_keyOf]
def wsL_law_r31 : List Cond := [Cond.selects RX10 yX10_keyOf yX10_keyOf, Cond.code yX10_keyOf cX10_keyOf 9 (some .int), Cond.methodLink RX10 181 yX10_reaches, Cond.instanceMethod yX10_reaches, Cond.selects RX10 yX10_reaches yX10_reaches, Cond.code yX10_reaches cX10_reaches 3 (some .boolean), Cond.methodLink RL 63 yX9_widest, Cond.instanceMethod yX9_widest, Cond.selects RX9 yX9_widest yX9_widest, Cond.code yX9_widest cX9_widest 1 (some .int), Cond.methodLink RX9 165 yX6_greatestWidth, Cond.instanceMethod yX6_greatestWidth, Cond.selects RX6 yX6_greatestWidth yX6_greatestWidth, Cond.code yX6_greatestWidth cX6_greatestWidth 3 (some .int), Cond.methodLink RX6 29 Lib.Math.max.name, Cond.methodLink RX6 25 yX6_widthBehind, Cond.methodLink RL 66 yX10_widest, Cond.instanceMethod yX10_widest, Cond.selects RX10 yX10_widest yX10_widest, Cond.code yX10_widest cX10_widest 1 (some .int), Cond.methodLink RX10 237 yX10_widestNow, Cond.instanceMethod yX10_widestNow, Cond.selects RX10 yX10_widestNow yX10_widestNow, Cond.code yX10_widestNow cX10_widestNow 4 (some .int)]
def wsL_law_r32 : List Cond := [Cond.methodLink RL 67 yX9_pair, Cond.instanceMethod yX9_pair, Cond.selects RX9 yX9_pair yX9_pair, Cond.code yX9_pair cX9_pair 4 (some .long), Cond.methodLink RX9 168 yX3_pairParts, Cond.instanceMethod yX3_pairParts, Cond.selects RX3 yX3_pairParts yX3_pairParts, Cond.code yX3_pairParts cX3_pairParts 6 (some .long), Cond.methodLink RX3 56 yX2_joinedWith, Cond.methodLink RL 71 yX10_pair, Cond.instanceMethod yX10_pair, Cond.selects RX10 yX10_pair yX10_pair, Cond.code yX10_pair cX10_pair 4 (some .long), Cond.methodLink RX10 171 yX10_pairBy, Cond.instanceMethod yX10_pairBy, Cond.selects RX10 yX10_pairBy yX10_pairBy, Cond.code yX10_pairBy cX10_pairBy 4 (some .long), Cond.methodLink RL 72 yX9_rule, Cond.instanceMethod yX9_rule, Cond.selects RX9 yX9_rule yX9_rule, Cond.code yX9_rule cX9_rule 2 (some .long), Cond.methodLink RX9 172 yX3_ruleParts, Cond.instanceMethod yX3_ruleParts, Cond.selects RX3 yX3_ruleParts yX3_ruleParts]
def wsL_law_r33 : List Cond := [Cond.code yX3_ruleParts cX3_ruleParts 4 (some .long), Cond.methodLink RX3 60 yX2_sourceStation, Cond.methodLink RX3 63 yJ6_bitCount_0f7a4, Cond.methodLink RL 75 yX10_rule, Cond.instanceMethod yX10_rule, Cond.selects RX10 yX10_rule yX10_rule, Cond.code yX10_rule cX10_rule 2 (some .long), Cond.methodLink RX10 175 yX10_ruleBy, Cond.instanceMethod yX10_ruleBy, Cond.selects RX10 yX10_ruleBy yX10_ruleBy, Cond.code yX10_ruleBy cX10_ruleBy 5 (some .long), Cond.methodLink RL 76 yX9_sets, Cond.instanceMethod yX9_sets, Cond.selects RX9 yX9_sets yX9_sets, Cond.code yX9_sets cX9_sets 2 (some .int), Cond.methodLink RX9 175 yX5_fill, Cond.instanceMethod yX5_fill, Cond.selects RX5 yX5_fill yX5_fill, Cond.code yX5_fill cX5_fill 3 none, Cond.methodLink RX5 19 yX2_allLinks, Cond.methodLink RX5 25 yJ6_bitCount_0f7a4, Cond.methodLink RX5 31 yX2_reaches, Cond.methodLink RX9 176 yX5_ofSize, Cond.instanceMethod yX5_ofSize]
def wsL_law_r34 : List Cond := [Cond.selects RX5 yX5_ofSize yX5_ofSize, Cond.code yX5_ofSize cX5_ofSize 2 (some .int), Cond.methodLink RL 79 yX10_sets, Cond.instanceMethod yX10_sets, Cond.selects RX10 yX10_sets yX10_sets, Cond.code yX10_sets cX10_sets 2 (some .int), Cond.methodLink RX10 185 yX10_setsOf, Cond.instanceMethod yX10_setsOf, Cond.selects RX10 yX10_setsOf yX10_setsOf, Cond.code yX10_setsOf cX10_setsOf 4 (some .int), Cond.methodLink RL 80 yX9_like, Cond.instanceMethod yX9_like, Cond.selects RX9 yX9_like yX9_like, Cond.code yX9_like cX9_like 4 (some .long), Cond.methodLink RX9 179 yX9_alike, Cond.instanceMethod yX9_alike, Cond.selects RX9 yX9_alike yX9_alike, Cond.code yX9_alike cX9_alike 6 (some .long), Cond.methodLink RX9 310 yX5_likeParts, Cond.instanceMethod yX5_likeParts, Cond.selects RX5 yX5_likeParts yX5_likeParts, Cond.code yX5_likeParts cX5_likeParts 10 (some .long), Cond.constantLong RX5 52 (-1), Cond.methodLink RX5 35 yX2_linkCount]
def wsL_law_r35 : List Cond := [Cond.methodLink RX5 38 yX5_ofSize, Cond.methodLink RX5 41 yX5_power, Cond.static yX5_power, Cond.code yX5_power cX5_power 6 (some .long), Cond.methodLink RX5 45 yX5_times, Cond.static yX5_times, Cond.code yX5_times cX5_times 4 (some .long), Cond.constantLong RX5 63 (9223372036854775807), Cond.methodLink RX5 49 yX5_plus, Cond.static yX5_plus, Cond.code yX5_plus cX5_plus 4 (some .long), Cond.methodLink RL 83 yX10_like, Cond.instanceMethod yX10_like, Cond.selects RX10 yX10_like yX10_like, Cond.code yX10_like cX10_like 4 (some .long), Cond.constantLong RX10 201 (99), Cond.methodLink RX10 203 yX10_likeBy, Cond.instanceMethod yX10_likeBy, Cond.selects RX10 yX10_likeBy yX10_likeBy, Cond.code yX10_likeBy cX10_likeBy 9 (some .long), Cond.fieldLink RX10 188 "LinkChancesModel" "over" "Z", Cond.constantLong RX10 192 (9223372036854775807), Cond.methodLink RX10 197 yX10_power, Cond.instanceMethod yX10_power]
def wsL_law_r36 : List Cond := [Cond.selects RX10 yX10_power yX10_power, Cond.code yX10_power cX10_power 7 (some .long), Cond.methodLink RX10 194 yX10_times, Cond.instanceMethod yX10_times, Cond.selects RX10 yX10_times yX10_times, Cond.code yX10_times cX10_times 5 (some .long), Cond.methodLink RL 84 yX9_least, Cond.instanceMethod yX9_least, Cond.selects RX9 yX9_least yX9_least, Cond.code yX9_least cX9_least 2 (some .int), Cond.methodLink RX9 183 yX5_leastCut, Cond.instanceMethod yX5_leastCut, Cond.selects RX5 yX5_leastCut yX5_leastCut, Cond.code yX5_leastCut cX5_leastCut 3 (some .int), Cond.methodLink RX5 54 yX5_lesserSize, Cond.static yX5_lesserSize, Cond.code yX5_lesserSize cX5_lesserSize 3 (some .int), Cond.methodLink RX5 58 Lib.Math.min.name, Cond.methodLink RX9 186 yX5_leastWay, Cond.instanceMethod yX5_leastWay, Cond.selects RX5 yX5_leastWay yX5_leastWay, Cond.code yX5_leastWay cX5_leastWay 3 (some .int), Cond.methodLink RL 87 yX10_least, Cond.instanceMethod yX10_least]
def wsL_law_r37 : List Cond := [Cond.selects RX10 yX10_least yX10_least, Cond.code yX10_least cX10_least 2 (some .int), Cond.methodLink RX10 206 yX10_leastCut, Cond.instanceMethod yX10_leastCut, Cond.selects RX10 yX10_leastCut yX10_leastCut, Cond.code yX10_leastCut cX10_leastCut 4 (some .int), Cond.methodLink RX10 209 yX10_leastWay, Cond.instanceMethod yX10_leastWay, Cond.selects RX10 yX10_leastWay yX10_leastWay, Cond.code yX10_leastWay cX10_leastWay 2 (some .int), Cond.methodLink RL 88 yX9_worth, Cond.instanceMethod yX9_worth, Cond.selects RX9 yX9_worth yX9_worth, Cond.code yX9_worth cX9_worth 3 (some .long), Cond.methodLink RX9 189 yX3_worthParts, Cond.instanceMethod yX3_worthParts, Cond.selects RX3 yX3_worthParts yX3_worthParts, Cond.code yX3_worthParts cX3_worthParts 6 (some .long), Cond.methodLink RX3 68 yX2_hasLink, Cond.methodLink RL 92 yX10_worth, Cond.instanceMethod yX10_worth, Cond.selects RX10 yX10_worth yX10_worth, Cond.code yX10_worth cX10_worth 3 (some .long), Cond.methodLink RX10 215 yX10_worthBy]
def wsL_law_r38 : List Cond := [Cond.instanceMethod yX10_worthBy, Cond.selects RX10 yX10_worthBy yX10_worthBy, Cond.code yX10_worthBy cX10_worthBy 5 (some .long), Cond.methodLink RX10 212 yX10_worthAbove, Cond.instanceMethod yX10_worthAbove, Cond.selects RX10 yX10_worthAbove yX10_worthAbove, Cond.code yX10_worthAbove cX10_worthAbove 4 (some .long), Cond.methodLink RL 93 yX9_worthiest, Cond.instanceMethod yX9_worthiest, Cond.selects RX9 yX9_worthiest yX9_worthiest, Cond.code yX9_worthiest cX9_worthiest 1 (some .int), Cond.methodLink RX9 192 yX3_worthiestLink, Cond.instanceMethod yX3_worthiestLink, Cond.selects RX3 yX3_worthiestLink yX3_worthiestLink, Cond.code yX3_worthiestLink cX3_worthiestLink 7 (some .int), Cond.constantLong RX3 71 (-1), Cond.methodLink RX3 73 yX2_seenOf, Cond.methodLink RX3 76 yX3_worthParts, Cond.methodLink RL 96 yX10_worthiest, Cond.instanceMethod yX10_worthiest, Cond.selects RX10 yX10_worthiest yX10_worthiest, Cond.code yX10_worthiest cX10_worthiest 1 (some .int), Cond.methodLink RX10 218 yX10_worthiestNow, Cond.instanceMethod yX10_worthiestNow]
def wsL_law_r39 : List Cond := [Cond.selects RX10 yX10_worthiestNow yX10_worthiestNow, Cond.code yX10_worthiestNow cX10_worthiestNow 14 (some .int), Cond.methodLink RL 97 yX9_better, Cond.instanceMethod yX9_better, Cond.selects RX9 yX9_better yX9_better, Cond.code yX9_better cX9_better 5 (some .long), Cond.methodLink RX9 195 yX3_fillWith, Cond.methodLink RL 101 yX10_better, Cond.instanceMethod yX10_better, Cond.selects RX10 yX10_better yX10_better, Cond.code yX10_better cX10_better 5 (some .long), Cond.methodLink RX10 221 yX10_betterBy, Cond.instanceMethod yX10_betterBy, Cond.selects RX10 yX10_betterBy yX10_betterBy, Cond.code yX10_betterBy cX10_betterBy 5 (some .long), Cond.methodLink RL 102 yX9_type, Cond.instanceMethod yX9_type, Cond.selects RX9 yX9_type yX9_type, Cond.code yX9_type cX9_type 2 (some .int), Cond.methodLink RX9 198 yX4_isFull, Cond.instanceMethod yX4_isFull, Cond.selects RX4 yX4_isFull yX4_isFull, Cond.code yX4_isFull cX4_isFull 1 (some .boolean), Cond.fieldLink RX4 17 "LinkChances$Orders" "length" "I"]
def wsL_law_r40 : List Cond := [Cond.methodLink RX9 201 yX4_append, Cond.instanceMethod yX4_append, Cond.selects RX4 yX4_append yX4_append, Cond.code yX4_append cX4_append 2 (some .int), Cond.methodLink RL 105 yX10_type, Cond.instanceMethod yX10_type, Cond.selects RX10 yX10_type yX10_type, Cond.code yX10_type cX10_type 2 (some .int), Cond.constantLong RX10 305 (255), Cond.fieldLink RX10 307 "LinkChancesModel" "bytes" "I", Cond.methodLink RL 106 yX9_wipe, Cond.instanceMethod yX9_wipe, Cond.selects RX9 yX9_wipe yX9_wipe, Cond.code yX9_wipe cX9_wipe 1 (some .int), Cond.methodLink RX9 204 yX4_clear, Cond.instanceMethod yX4_clear, Cond.selects RX4 yX4_clear yX4_clear, Cond.code yX4_clear cX4_clear 2 (some .int), Cond.methodLink RL 109 yX10_wipe, Cond.instanceMethod yX10_wipe, Cond.selects RX10 yX10_wipe yX10_wipe, Cond.code yX10_wipe cX10_wipe 2 (some .int), Cond.methodLink RL 110 yX9_obey, Cond.instanceMethod yX9_obey]
def wsL_law_r41 : List Cond := [Cond.selects RX9 yX9_obey yX9_obey, Cond.code yX9_obey cX9_obey 1 (some .int), Cond.methodLink RX9 207 yX4_run, Cond.instanceMethod yX4_run, Cond.selects RX4 yX4_run yX4_run, Cond.code yX4_run cX4_run 5 (some .int), Cond.fieldLink RX4 21 "LinkChances$Orders" "fault" "I", Cond.methodLink RX4 24 yX4_lookThrough, Cond.instanceMethod yX4_lookThrough, Cond.selects RX4 yX4_lookThrough yX4_lookThrough, Cond.code yX4_lookThrough cX4_lookThrough 4 (some .int), Cond.methodLink RX4 28 yX4_endFrom, Cond.instanceMethod yX4_endFrom, Cond.selects RX4 yX4_endFrom yX4_endFrom, Cond.code yX4_endFrom cX4_endFrom 3 (some .int), Cond.methodLink RX4 46 yX4_byteAt, Cond.instanceMethod yX4_byteAt, Cond.selects RX4 yX4_byteAt yX4_byteAt, Cond.code yX4_byteAt cX4_byteAt 2 (some .int), Cond.methodLink RX4 36 yX4_faultOf, Cond.instanceMethod yX4_faultOf, Cond.selects RX4 yX4_faultOf yX4_faultOf, Cond.code yX4_faultOf cX4_faultOf 7 (some .int), Cond.methodLink RX4 40 yX4_wordLength]
def wsL_law_r42 : List Cond := [Cond.instanceMethod yX4_wordLength, Cond.selects RX4 yX4_wordLength yX4_wordLength, Cond.code yX4_wordLength cX4_wordLength 4 (some .int), Cond.methodLink RX4 49 yX4_isBetween, Cond.static yX4_isBetween, Cond.code yX4_isBetween cX4_isBetween 3 (some .boolean), Cond.methodLink RX4 43 yX4_wordOf, Cond.instanceMethod yX4_wordOf, Cond.selects RX4 yX4_wordOf yX4_wordOf, Cond.code yX4_wordOf cX4_wordOf 3 (some .int), Cond.methodLink RX4 81 yX4_isWord, Cond.instanceMethod yX4_isWord, Cond.selects RX4 yX4_isWord yX4_isWord, Cond.code yX4_isWord cX4_isWord 5 (some .boolean), Cond.methodLink RX4 97 yJ0_length_8abf5, Cond.instanceMethod yJ0_length_8abf5, Cond.selects RJ0 yJ0_length_8abf5 yJ0_length_8abf5, Cond.initialized RJ0, Cond.code yJ0_length_8abf5 cJ0_length_8abf5 1 (some .int), Cond.fieldLink RJ0 9 "java/lang/String" "value" "[B", Cond.methodLink RJ0 335 yJ0_coder_7d493, Cond.instanceMethod yJ0_coder_7d493, Cond.selects RJ0 yJ0_coder_7d493 yJ0_coder_7d493, Cond.code yJ0_coder_7d493 cJ0_coder_7d493 1 (some .byte)]
def wsL_law_r43 : List Cond := [Cond.fieldLink RJ0 38 "java/lang/String" "COMPACT_STRINGS" "Z", Cond.fieldLink RJ0 15 "java/lang/String" "coder" "B", Cond.methodLink RX4 101 yJ0_charAt_5068e, Cond.instanceMethod yJ0_charAt_5068e, Cond.selects RJ0 yJ0_charAt_5068e yJ0_charAt_5068e, Cond.code yJ0_charAt_5068e cJ0_charAt_5068e 2 (some .char), Cond.methodLink RJ0 492 yJ0_isLatin1_aae02, Cond.instanceMethod yJ0_isLatin1_aae02, Cond.selects RJ0 yJ0_isLatin1_aae02 yJ0_isLatin1_aae02, Cond.code yJ0_isLatin1_aae02 cJ0_isLatin1_aae02 1 (some .boolean), Cond.methodLink RJ0 495 yJ1_charAt_3b067, Cond.static yJ1_charAt_3b067, Cond.initialized RJ1, Cond.code yJ1_charAt_3b067 cJ1_charAt_3b067 2 (some .char), Cond.methodLink RJ1 9 yJ0_checkIndex_df160, Cond.static yJ0_checkIndex_df160, Cond.code yJ0_checkIndex_df160 cJ0_checkIndex_df160 2 none, Cond.fieldLink RJ0 1053 "jdk/internal/util/Preconditions" "SIOOBE_FORMATTER" "Ljava/util/function/BiFunction;", Cond.methodLink RJ0 1059 yJ3_checkIndex_8e157, Cond.static yJ3_checkIndex_8e157, Cond.initialized RJ3, Cond.code yJ3_checkIndex_8e157 cJ3_checkIndex_8e157 3 (some .int), Cond.methodLink RJ0 498 yJ2_charAt_3b067, Cond.static yJ2_charAt_3b067]
def wsL_law_r44 : List Cond := [Cond.initialized RJ2, Cond.code yJ2_charAt_3b067 cJ2_charAt_3b067 2 (some .char), Cond.methodLink RJ2 67 yJ2_checkIndex_2214a, Cond.static yJ2_checkIndex_2214a, Cond.code yJ2_checkIndex_2214a cJ2_checkIndex_2214a 2 none, Cond.methodLink RJ2 48 yJ2_length_9d52b, Cond.static yJ2_length_9d52b, Cond.code yJ2_length_9d52b cJ2_length_9d52b 1 (some .int), Cond.methodLink RJ2 414 yJ0_checkIndex_df160, Cond.methodLink RJ2 71 yJ2_getChar_3b067, Cond.static yJ2_getChar_3b067, Cond.code yJ2_getChar_3b067 cJ2_getChar_3b067 2 (some .char), Cond.fieldLink RJ2 44 "java/lang/StringUTF16" "$assertionsDisabled" "Z", Cond.fieldLink RJ2 59 "java/lang/StringUTF16" "HI_BYTE_SHIFT" "I", Cond.fieldLink RJ2 63 "java/lang/StringUTF16" "LO_BYTE_SHIFT" "I", Cond.methodLink RX4 53 yX2_hasStation, Cond.methodLink RX4 59 yX2_hasLink, Cond.methodLink RX4 32 yX4_act, Cond.instanceMethod yX4_act, Cond.selects RX4 yX4_act yX4_act, Cond.code yX4_act cX4_act 4 none, Cond.methodLink RX4 63 yX2_setSeen, Cond.methodLink RX4 66 yX2_goalBits, Cond.methodLink RX4 69 yX2_setGoals]
def wsL_law_r45 : List Cond := [Cond.methodLink RX4 73 yX2_setSource, Cond.methodLink RX4 76 yX2_allStations, Cond.methodLink RL 113 yX10_obey, Cond.instanceMethod yX10_obey, Cond.selects RX10 yX10_obey yX10_obey, Cond.code yX10_obey cX10_obey 7 (some .int), Cond.fieldLink RX10 328 "LinkChancesModel" "wrongBy" "I", Cond.methodLink RX10 331 yX10_does, Cond.instanceMethod yX10_does, Cond.selects RX10 yX10_does yX10_does, Cond.code yX10_does cX10_does 7 (some .int), Cond.constantLong RX10 317 (97), Cond.constantLong RX10 319 (122), Cond.constantLong RX10 324 (48), Cond.constantLong RX10 326 (57), Cond.methodLink RX10 321 yX10_wordOf, Cond.instanceMethod yX10_wordOf, Cond.selects RX10 yX10_wordOf yX10_wordOf, Cond.code yX10_wordOf cX10_wordOf 4 (some .int), Cond.methodLink RX10 313 yX10_isWord, Cond.instanceMethod yX10_isWord, Cond.selects RX10 yX10_isWord yX10_isWord, Cond.code yX10_isWord cX10_isWord 8 (some .boolean), Cond.methodLink RX10 310 yX10_letter]
def wsL_law_r46 : List Cond := [Cond.instanceMethod yX10_letter, Cond.selects RX10 yX10_letter yX10_letter, Cond.code yX10_letter cX10_letter 3 (some .int), Cond.methodLink RL 114 yX9_wrong, Cond.instanceMethod yX9_wrong, Cond.selects RX9 yX9_wrong yX9_wrong, Cond.code yX9_wrong cX9_wrong 1 (some .int), Cond.methodLink RX9 210 yX4_latestFault, Cond.instanceMethod yX4_latestFault, Cond.selects RX4 yX4_latestFault yX4_latestFault, Cond.code yX4_latestFault cX4_latestFault 1 (some .int), Cond.methodLink RL 117 yX10_wrong, Cond.instanceMethod yX10_wrong, Cond.selects RX10 yX10_wrong yX10_wrong, Cond.code yX10_wrong cX10_wrong 1 (some .int), Cond.methodLink RL 118 yX9_sheet, Cond.instanceMethod yX9_sheet, Cond.selects RX9 yX9_sheet yX9_sheet, Cond.code yX9_sheet cX9_sheet 3 (some .int), Cond.methodLink RX9 213 yX7_isSheet, Cond.instanceMethod yX7_isSheet, Cond.selects RX7 yX7_isSheet yX7_isSheet, Cond.code yX7_isSheet cX7_isSheet 2 (some .boolean), Cond.methodLink RX9 216 yX7_finding]
def wsL_law_r47 : List Cond := [Cond.instanceMethod yX7_finding, Cond.selects RX7 yX7_finding yX7_finding, Cond.code yX7_finding cX7_finding 2 (some .int), Cond.fieldLink RX7 20 "LinkChances$Sheets" "latest" "I", Cond.methodLink RX9 219 yX7_renew, Cond.instanceMethod yX7_renew, Cond.selects RX7 yX7_renew yX7_renew, Cond.code yX7_renew cX7_renew 4 (some .int), Cond.methodLink RX7 24 yX7_isSheet, Cond.methodLink RL 121 yX10_sheet, Cond.instanceMethod yX10_sheet, Cond.selects RX10 yX10_sheet yX10_sheet, Cond.code yX10_sheet cX10_sheet 4 (some .int), Cond.methodLink RX10 87 yX10_isSheet, Cond.static yX10_isSheet, Cond.code yX10_isSheet cX10_isSheet 1 (some .boolean), Cond.methodLink RX10 91 yX10_finds, Cond.instanceMethod yX10_finds, Cond.selects RX10 yX10_finds yX10_finds, Cond.code yX10_finds cX10_finds 2 (some .int), Cond.fieldLink RX10 82 "LinkChancesModel" "latest" "I", Cond.methodLink RL 122 yX9_lose, Cond.instanceMethod yX9_lose, Cond.selects RX9 yX9_lose yX9_lose]
def wsL_law_r48 : List Cond := [Cond.code yX9_lose cX9_lose 3 (some .int), Cond.methodLink RX9 222 yX7_refusalOf, Cond.instanceMethod yX7_refusalOf, Cond.selects RX7 yX7_refusalOf yX7_refusalOf, Cond.code yX7_refusalOf cX7_refusalOf 2 (some .int), Cond.methodLink RX7 28 yX7_isLost, Cond.instanceMethod yX7_isLost, Cond.selects RX7 yX7_isLost yX7_isLost, Cond.code yX7_isLost cX7_isLost 2 (some .boolean), Cond.methodLink RX7 35 yX7_finding, Cond.methodLink RX9 225 yX7_drop, Cond.instanceMethod yX7_drop, Cond.selects RX7 yX7_drop yX7_drop, Cond.code yX7_drop cX7_drop 3 (some .int), Cond.methodLink RX7 31 yX7_sizeOf, Cond.instanceMethod yX7_sizeOf, Cond.selects RX7 yX7_sizeOf yX7_sizeOf, Cond.code yX7_sizeOf cX7_sizeOf 2 (some .int), Cond.methodLink RL 125 yX10_lose, Cond.instanceMethod yX10_lose, Cond.selects RX10 yX10_lose yX10_lose, Cond.code yX10_lose cX10_lose 3 (some .int), Cond.methodLink RL 126 yX9_lay, Cond.instanceMethod yX9_lay]
def wsL_law_r49 : List Cond := [Cond.selects RX9 yX9_lay yX9_lay, Cond.code yX9_lay cX9_lay 5 (some .int), Cond.methodLink RX9 228 yX7_refusalAt, Cond.instanceMethod yX7_refusalAt, Cond.selects RX7 yX7_refusalAt yX7_refusalAt, Cond.code yX7_refusalAt cX7_refusalAt 4 (some .int), Cond.methodLink RX7 38 yX7_refusalOf, Cond.methodLink RX7 41 yX7_hasItem, Cond.instanceMethod yX7_hasItem, Cond.selects RX7 yX7_hasItem yX7_hasItem, Cond.code yX7_hasItem cX7_hasItem 3 (some .boolean), Cond.methodLink RX9 231 yX7_put, Cond.instanceMethod yX7_put, Cond.selects RX7 yX7_put yX7_put, Cond.code yX7_put cX7_put 5 none, Cond.methodLink RL 129 yX10_lay, Cond.instanceMethod yX10_lay, Cond.selects RX10 yX10_lay yX10_lay, Cond.code yX10_lay cX10_lay 5 (some .int), Cond.methodLink RX10 95 yX10_lacks, Cond.instanceMethod yX10_lacks, Cond.selects RX10 yX10_lacks yX10_lacks, Cond.code yX10_lacks cX10_lacks 3 (some .int), Cond.methodLink RL 130 yX9_get]
def wsL_law_r50 : List Cond := [Cond.instanceMethod yX9_get, Cond.selects RX9 yX9_get yX9_get, Cond.code yX9_get cX9_get 4 (some .long), Cond.methodLink RX9 235 yX7_item, Cond.instanceMethod yX7_item, Cond.selects RX7 yX7_item yX7_item, Cond.code yX7_item cX7_item 3 (some .long), Cond.methodLink RL 133 yX10_get, Cond.instanceMethod yX10_get, Cond.selects RX10 yX10_get yX10_get, Cond.code yX10_get cX10_get 4 (some .long), Cond.methodLink RL 134 yX9_copy, Cond.instanceMethod yX9_copy, Cond.selects RX9 yX9_copy yX9_copy, Cond.code yX9_copy cX9_copy 6 (some .int), Cond.methodLink RX9 238 yX7_isLost, Cond.methodLink RX9 241 yX7_holds, Cond.instanceMethod yX7_holds, Cond.selects RX7 yX7_holds yX7_holds, Cond.code yX7_holds cX7_holds 5 (some .boolean), Cond.methodLink RX9 245 yX7_move, Cond.instanceMethod yX7_move, Cond.selects RX7 yX7_move yX7_move, Cond.code yX7_move cX7_move 6 none]
def wsL_law_r51 : List Cond := [Cond.methodLink RX7 49 arraycopyName, Cond.native arraycopyName, Cond.static arraycopyName, Cond.initialized "java/lang/System", Cond.methodLink RX7 45 yX7_holds, Cond.methodLink RL 138 yX10_copy, Cond.instanceMethod yX10_copy, Cond.selects RX10 yX10_copy yX10_copy, Cond.code yX10_copy cX10_copy 7 (some .int), Cond.methodLink RL 139 yX9_read, Cond.instanceMethod yX9_read, Cond.selects RX9 yX9_read yX9_read, Cond.code yX9_read cX9_read 5 (some .int), Cond.methodLink RX9 249 yX7_sizeOf, Cond.methodLink RX9 252 yX9_addFrom, Cond.instanceMethod yX9_addFrom, Cond.selects RX9 yX9_addFrom yX9_addFrom, Cond.code yX9_addFrom cX9_addFrom 11 (some .boolean), Cond.methodLink RL 142 yX10_read, Cond.instanceMethod yX10_read, Cond.selects RX10 yX10_read yX10_read, Cond.code yX10_read cX10_read 6 (some .int), Cond.methodLink RL 143 yX9_write, Cond.instanceMethod yX9_write]
def wsL_law_r52 : List Cond := [Cond.selects RX9 yX9_write yX9_write, Cond.code yX9_write cX9_write 5 (some .int), Cond.methodLink RX9 256 Lib.Math.min.name, Cond.methodLink RL 146 yX10_write, Cond.instanceMethod yX10_write, Cond.selects RX10 yX10_write yX10_write, Cond.code yX10_write cX10_write 4 (some .int), Cond.methodLink RL 147 yX9_count, Cond.instanceMethod yX9_count, Cond.selects RX9 yX9_count yX9_count, Cond.code yX9_count cX9_count 2 (some .int), Cond.methodLink RX9 261 yX2_wantedStations, Cond.methodLink RX9 264 yJ6_bitCount_0f7a4, Cond.methodLink RX9 269 yX2_linksSeen, Cond.instanceMethod yX2_linksSeen, Cond.selects RX2 yX2_linksSeen yX2_linksSeen, Cond.code yX2_linksSeen cX2_linksSeen 4 (some .int), Cond.methodLink RX9 272 yX2_allLinks, Cond.methodLink RX9 275 yX2_reaches, Cond.methodLink RX9 278 yX4_length, Cond.instanceMethod yX4_length, Cond.selects RX4 yX4_length yX4_length, Cond.code yX4_length cX4_length 1 (some .int), Cond.methodLink RX9 281 yX7_latestFinding]
def wsL_law_r53 : List Cond := [Cond.instanceMethod yX7_latestFinding, Cond.selects RX7 yX7_latestFinding yX7_latestFinding, Cond.code yX7_latestFinding cX7_latestFinding 1 (some .int), Cond.methodLink RL 150 yX10_count, Cond.instanceMethod yX10_count, Cond.selects RX10 yX10_count yX10_count, Cond.code yX10_count cX10_count 2 (some .int), Cond.methodLink RX10 334 yX10_unseen, Cond.instanceMethod yX10_unseen, Cond.selects RX10 yX10_unseen yX10_unseen, Cond.code yX10_unseen cX10_unseen 3 (some .int), Cond.methodLink RX10 337 yX10_allReach, Cond.instanceMethod yX10_allReach, Cond.selects RX10 yX10_allReach yX10_allReach, Cond.code yX10_allReach cX10_allReach 3 (some .int), Cond.methodLink RL 151 yX9_digest, Cond.instanceMethod yX9_digest, Cond.selects RX9 yX9_digest yX9_digest, Cond.code yX9_digest cX9_digest 4 (some .long), Cond.constantLong RX9 284 (17), Cond.methodLink RX9 286 yX9_count, Cond.methodLink RX9 289 yX9_mixed, Cond.static yX9_mixed, Cond.code yX9_mixed cX9_mixed 4 (some .long)]
def wsL_law_r54 : List Cond := [Cond.constantLong RX9 308 (31), Cond.methodLink RX9 293 yX9_withLinks, Cond.instanceMethod yX9_withLinks, Cond.selects RX9 yX9_withLinks yX9_withLinks, Cond.code yX9_withLinks cX9_withLinks 5 (some .long), Cond.methodLink RX9 313 yX9_info, Cond.methodLink RX9 316 yX9_withFraction, Cond.instanceMethod yX9_withFraction, Cond.selects RX9 yX9_withFraction yX9_withFraction, Cond.code yX9_withFraction cX9_withFraction 5 (some .long), Cond.methodLink RX9 297 yX9_withChances, Cond.instanceMethod yX9_withChances, Cond.selects RX9 yX9_withChances yX9_withChances, Cond.code yX9_withChances cX9_withChances 4 (some .long), Cond.methodLink RX9 300 yX9_withSets, Cond.instanceMethod yX9_withSets, Cond.selects RX9 yX9_withSets yX9_withSets, Cond.code yX9_withSets cX9_withSets 4 (some .long), Cond.methodLink RX9 303 yX9_withPairs, Cond.instanceMethod yX9_withPairs, Cond.selects RX9 yX9_withPairs yX9_withPairs, Cond.code yX9_withPairs cX9_withPairs 5 (some .long), Cond.methodLink RL 155 yX10_digest, Cond.instanceMethod yX10_digest]
def wsL_law_r55 : List Cond := [Cond.selects RX10 yX10_digest yX10_digest, Cond.code yX10_digest cX10_digest 4 (some .long), Cond.constantLong RX10 342 (17), Cond.constantLong RX10 340 (31), Cond.methodLink RX10 344 yX10_count, Cond.methodLink RX10 347 yX10_linkTells, Cond.instanceMethod yX10_linkTells, Cond.selects RX10 yX10_linkTells yX10_linkTells, Cond.code yX10_linkTells cX10_linkTells 7 (some .long), Cond.methodLink RX10 350 yX10_pairTells, Cond.instanceMethod yX10_pairTells, Cond.selects RX10 yX10_pairTells yX10_pairTells, Cond.code yX10_pairTells cX10_pairTells 7 (some .long)]
def wsL_law : List Cond := (wsL_law_r1 ++ (wsL_law_r2 ++ (wsL_law_r3 ++ (wsL_law_r4 ++ (wsL_law_r5 ++ (wsL_law_r6 ++ (wsL_law_r7 ++ (wsL_law_r8 ++ (wsL_law_r9 ++ (wsL_law_r10 ++ (wsL_law_r11 ++ (wsL_law_r12 ++ (wsL_law_r13 ++ (wsL_law_r14 ++ (wsL_law_r15 ++ (wsL_law_r16 ++ (wsL_law_r17 ++ (wsL_law_r18 ++ (wsL_law_r19 ++ (wsL_law_r20 ++ (wsL_law_r21 ++ (wsL_law_r22 ++ (wsL_law_r23 ++ (wsL_law_r24 ++ (wsL_law_r25 ++ (wsL_law_r26 ++ (wsL_law_r27 ++ (wsL_law_r28 ++ (wsL_law_r29 ++ (wsL_law_r30 ++ (wsL_law_r31 ++ (wsL_law_r32 ++ (wsL_law_r33 ++ (wsL_law_r34 ++ (wsL_law_r35 ++ (wsL_law_r36 ++ (wsL_law_r37 ++ (wsL_law_r38 ++ (wsL_law_r39 ++ (wsL_law_r40 ++ (wsL_law_r41 ++ (wsL_law_r42 ++ (wsL_law_r43 ++ (wsL_law_r44 ++ (wsL_law_r45 ++ (wsL_law_r46 ++ (wsL_law_r47 ++ (wsL_law_r48 ++ (wsL_law_r49 ++ (wsL_law_r50 ++ (wsL_law_r51 ++ (wsL_law_r52 ++ (wsL_law_r53 ++ (wsL_law_r54 ++ wsL_law_r55)))))))))))))))))))))))))))))))))))))))))))))))))))))) ++ wsX90 ++ wsX100 ++ wsX20 ++ wsX30 ++ wsX50 ++ wsX60 ++ wsX00 ++ wsX40 ++ wsX70 ++ wsX80 ++ ([] : List Cond)
abbrev vwCl : List vw_C := [(RX0, TX0, 5), (RX2, TX2, 10), (RX3, TX3, 3), (RX4, TX4, 4), (RX5, TX5, 2), (RX6, TX6, 2), (RX7, TX7, 3), (RX8, TX8, 8), (RX9, TX9, 7), (RX10, TX10, 30)]
