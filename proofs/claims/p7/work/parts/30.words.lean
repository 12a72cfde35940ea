section
-- ===== PART A: goes FIRST, ahead of the names: the tables' words, and 'selects' of the private methods out of them =====
/-- a private method of a class that the tables say can be made, by its rows of tables_1 -/
def lw_okq (q : MethodName × Nat) : Prop := (q.1.cls ≠ "java/lang/invoke/MethodHandle" ∧ q.1.cls ≠ "java/lang/invoke/VarHandle") ∧ Cond.instantiable q.1.cls q.2 ∈ tables_1 ∧ Cond.privateMethod q.1 ∈ tables_1 ∧ Cond.instanceMethod q.1 ∈ tables_1
theorem lw_p0 : lw_okq (⟨"EarCode$Inquiry", "isForbiddenToAll", "(II)Z"⟩, 3) := ⟨⟨by decide +kernel, by decide +kernel⟩, List.mem_of_getElem? (i := 359) (by decide +kernel), List.mem_of_getElem? (i := 459) (by decide +kernel), List.mem_of_getElem? (i := 460) (by decide +kernel)⟩
theorem lw_p1 : lw_okq (⟨"EarCode$Inquiry", "forbidding", "(II)I"⟩, 3) := ⟨⟨by decide +kernel, by decide +kernel⟩, List.mem_of_getElem? (i := 359) (by decide +kernel), List.mem_of_getElem? (i := 464) (by decide +kernel), List.mem_of_getElem? (i := 465) (by decide +kernel)⟩
theorem lw_p2 : lw_okq (⟨"EarCode$Law", "holds", "(IIIII)Z"⟩, 9) := ⟨⟨by decide +kernel, by decide +kernel⟩, List.mem_of_getElem? (i := 83) (by decide +kernel), List.mem_of_getElem? (i := 483) (by decide +kernel), List.mem_of_getElem? (i := 484) (by decide +kernel)⟩
theorem lw_p3 : lw_okq (⟨"EarCode$Inquiry", "clearOthers", "()V"⟩, 3) := ⟨⟨by decide +kernel, by decide +kernel⟩, List.mem_of_getElem? (i := 359) (by decide +kernel), List.mem_of_getElem? (i := 495) (by decide +kernel), List.mem_of_getElem? (i := 496) (by decide +kernel)⟩
theorem lw_p4 : lw_okq (⟨"EarCode$Inquiry", "findOthers", "(I)V"⟩, 3) := ⟨⟨by decide +kernel, by decide +kernel⟩, List.mem_of_getElem? (i := 359) (by decide +kernel), List.mem_of_getElem? (i := 499) (by decide +kernel), List.mem_of_getElem? (i := 500) (by decide +kernel)⟩
theorem lw_p5 : lw_okq (⟨"EarCode$Inquiry", "demanding", "(II)I"⟩, 3) := ⟨⟨by decide +kernel, by decide +kernel⟩, List.mem_of_getElem? (i := 359) (by decide +kernel), List.mem_of_getElem? (i := 503) (by decide +kernel), List.mem_of_getElem? (i := 504) (by decide +kernel)⟩
theorem lw_p6 : lw_okq (⟨"EarCode$Inquiry", "addOthers", "(II)V"⟩, 3) := ⟨⟨by decide +kernel, by decide +kernel⟩, List.mem_of_getElem? (i := 359) (by decide +kernel), List.mem_of_getElem? (i := 507) (by decide +kernel), List.mem_of_getElem? (i := 508) (by decide +kernel)⟩
theorem lw_p7 : lw_okq (⟨"EarCode$Inquiry", "isRelief", "(I)Z"⟩, 3) := ⟨⟨by decide +kernel, by decide +kernel⟩, List.mem_of_getElem? (i := 359) (by decide +kernel), List.mem_of_getElem? (i := 513) (by decide +kernel), List.mem_of_getElem? (i := 514) (by decide +kernel)⟩
theorem lw_p8 : lw_okq (⟨"EarCode$Inquiry", "knownTogether", "(I)I"⟩, 3) := ⟨⟨by decide +kernel, by decide +kernel⟩, List.mem_of_getElem? (i := 359) (by decide +kernel), List.mem_of_getElem? (i := 525) (by decide +kernel), List.mem_of_getElem? (i := 526) (by decide +kernel)⟩
theorem lw_p9 : lw_okq (⟨"EarCode$World", "seersOf", "(I)I"⟩, 20) := ⟨⟨by decide +kernel, by decide +kernel⟩, List.mem_of_getElem? (i := 128) (by decide +kernel), List.mem_of_getElem? (i := 563) (by decide +kernel), List.mem_of_getElem? (i := 564) (by decide +kernel)⟩
theorem lw_p10 : lw_okq (⟨"EarCode$World", "letAllSee", "(I)Z"⟩, 20) := ⟨⟨by decide +kernel, by decide +kernel⟩, List.mem_of_getElem? (i := 128) (by decide +kernel), List.mem_of_getElem? (i := 571) (by decide +kernel), List.mem_of_getElem? (i := 572) (by decide +kernel)⟩
theorem lw_p11 : lw_okq (⟨"EarCode$World", "pickDoers", "(LEarCode$Law;I)I"⟩, 20) := ⟨⟨by decide +kernel, by decide +kernel⟩, List.mem_of_getElem? (i := 128) (by decide +kernel), List.mem_of_getElem? (i := 587) (by decide +kernel), List.mem_of_getElem? (i := 588) (by decide +kernel)⟩
theorem lw_p12 : lw_okq (⟨"EarCode$World", "keepsFrom", "(LEarCode$Law;I)Z"⟩, 20) := ⟨⟨by decide +kernel, by decide +kernel⟩, List.mem_of_getElem? (i := 128) (by decide +kernel), List.mem_of_getElem? (i := 591) (by decide +kernel), List.mem_of_getElem? (i := 592) (by decide +kernel)⟩
theorem lw_p13 : lw_okq (⟨"EarCode$World", "draw", "()I"⟩, 20) := ⟨⟨by decide +kernel, by decide +kernel⟩, List.mem_of_getElem? (i := 128) (by decide +kernel), List.mem_of_getElem? (i := 605) (by decide +kernel), List.mem_of_getElem? (i := 606) (by decide +kernel)⟩
theorem lw_p14 : lw_okq (⟨"EarCode$World", "judge", "(LEarCode$Law;III)V"⟩, 20) := ⟨⟨by decide +kernel, by decide +kernel⟩, List.mem_of_getElem? (i := 128) (by decide +kernel), List.mem_of_getElem? (i := 611) (by decide +kernel), List.mem_of_getElem? (i := 612) (by decide +kernel)⟩
theorem lw_p15 : lw_okq (⟨"EarCode$Text", "put", "(IIII)V"⟩, 6) := ⟨⟨by decide +kernel, by decide +kernel⟩, List.mem_of_getElem? (i := 58) (by decide +kernel), List.mem_of_getElem? (i := 750) (by decide +kernel), List.mem_of_getElem? (i := 751) (by decide +kernel)⟩
def lw_privs_1 : List (MethodName × Nat) := [(⟨"EarCode$Inquiry", "isForbiddenToAll", "(II)Z"⟩, 3), (⟨"EarCode$Inquiry", "forbidding", "(II)I"⟩, 3), (⟨"EarCode$Law", "holds", "(IIIII)Z"⟩, 9), (⟨"EarCode$Inquiry", "clearOthers", "()V"⟩, 3), (⟨"EarCode$Inquiry", "findOthers", "(I)V"⟩, 3), (⟨"EarCode$Inquiry", "demanding", "(II)I"⟩, 3), (⟨"EarCode$Inquiry", "addOthers", "(II)V"⟩, 3), (⟨"EarCode$Inquiry", "isRelief", "(I)Z"⟩, 3), (⟨"EarCode$Inquiry", "knownTogether", "(I)I"⟩, 3), (⟨"EarCode$World", "seersOf", "(I)I"⟩, 20), (⟨"EarCode$World", "letAllSee", "(I)Z"⟩, 20), (⟨"EarCode$World", "pickDoers", "(LEarCode$Law;I)I"⟩, 20), (⟨"EarCode$World", "keepsFrom", "(LEarCode$Law;I)Z"⟩, 20), (⟨"EarCode$World", "draw", "()I"⟩, 20), (⟨"EarCode$World", "judge", "(LEarCode$Law;III)V"⟩, 20), (⟨"EarCode$Text", "put", "(IIII)V"⟩, 6)]
theorem lw_r1 : ∀ q ∈ lw_privs_1, lw_okq q := List.forall_mem_cons.mpr ⟨lw_p0, List.forall_mem_cons.mpr ⟨lw_p1, List.forall_mem_cons.mpr ⟨lw_p2, List.forall_mem_cons.mpr ⟨lw_p3, List.forall_mem_cons.mpr ⟨lw_p4, List.forall_mem_cons.mpr ⟨lw_p5, List.forall_mem_cons.mpr ⟨lw_p6, List.forall_mem_cons.mpr ⟨lw_p7, List.forall_mem_cons.mpr ⟨lw_p8, List.forall_mem_cons.mpr ⟨lw_p9, List.forall_mem_cons.mpr ⟨lw_p10, List.forall_mem_cons.mpr ⟨lw_p11, List.forall_mem_cons.mpr ⟨lw_p12, List.forall_mem_cons.mpr ⟨lw_p13, List.forall_mem_cons.mpr ⟨lw_p14, List.forall_mem_cons.mpr ⟨lw_p15, fun _ h => absurd h List.not_mem_nil⟩⟩⟩⟩⟩⟩⟩⟩⟩⟩⟩⟩⟩⟩⟩⟩
theorem lw_p16 : lw_okq (⟨"EarCode$LawReader", "readClause", "()Z"⟩, 2) := ⟨⟨by decide +kernel, by decide +kernel⟩, List.mem_of_getElem? (i := 249) (by decide +kernel), List.mem_of_getElem? (i := 779) (by decide +kernel), List.mem_of_getElem? (i := 780) (by decide +kernel)⟩
theorem lw_p17 : lw_okq (⟨"EarCode$LawReader", "readCondition", "(I)Z"⟩, 2) := ⟨⟨by decide +kernel, by decide +kernel⟩, List.mem_of_getElem? (i := 249) (by decide +kernel), List.mem_of_getElem? (i := 796) (by decide +kernel), List.mem_of_getElem? (i := 797) (by decide +kernel)⟩
theorem lw_p18 : lw_okq (⟨"EarCode$LawReader", "readAtom", "(I)Z"⟩, 2) := ⟨⟨by decide +kernel, by decide +kernel⟩, List.mem_of_getElem? (i := 249) (by decide +kernel), List.mem_of_getElem? (i := 800) (by decide +kernel), List.mem_of_getElem? (i := 801) (by decide +kernel)⟩
theorem lw_p19 : lw_okq (⟨"EarCode$LawReader", "readComparison", "()Z"⟩, 2) := ⟨⟨by decide +kernel, by decide +kernel⟩, List.mem_of_getElem? (i := 249) (by decide +kernel), List.mem_of_getElem? (i := 808) (by decide +kernel), List.mem_of_getElem? (i := 809) (by decide +kernel)⟩
theorem lw_p20 : lw_okq (⟨"EarCode$LawReader", "readSum", "(II)Z"⟩, 2) := ⟨⟨by decide +kernel, by decide +kernel⟩, List.mem_of_getElem? (i := 249) (by decide +kernel), List.mem_of_getElem? (i := 816) (by decide +kernel), List.mem_of_getElem? (i := 817) (by decide +kernel)⟩
theorem lw_p21 : lw_okq (⟨"java/lang/Throwable", "fillInStackTrace", "(I)Ljava/lang/Throwable;"⟩, 6) := ⟨⟨by decide +kernel, by decide +kernel⟩, List.mem_of_getElem? (i := 869) (by decide +kernel), List.mem_of_getElem? (i := 867) (by decide +kernel), List.mem_of_getElem? (i := 868) (by decide +kernel)⟩
theorem lw_p22 : lw_okq (⟨"EarCode$RepublicReader", "readLine", "()Z"⟩, 3) := ⟨⟨by decide +kernel, by decide +kernel⟩, List.mem_of_getElem? (i := 262) (by decide +kernel), List.mem_of_getElem? (i := 928) (by decide +kernel), List.mem_of_getElem? (i := 929) (by decide +kernel)⟩
theorem lw_p23 : lw_okq (⟨"EarCode$RepublicReader", "readCitizen", "()Z"⟩, 3) := ⟨⟨by decide +kernel, by decide +kernel⟩, List.mem_of_getElem? (i := 262) (by decide +kernel), List.mem_of_getElem? (i := 933) (by decide +kernel), List.mem_of_getElem? (i := 934) (by decide +kernel)⟩
theorem lw_p24 : lw_okq (⟨"EarCode$RepublicReader", "readHabit", "(I)Z"⟩, 3) := ⟨⟨by decide +kernel, by decide +kernel⟩, List.mem_of_getElem? (i := 262) (by decide +kernel), List.mem_of_getElem? (i := 942) (by decide +kernel), List.mem_of_getElem? (i := 943) (by decide +kernel)⟩
theorem lw_p25 : lw_okq (⟨"EarCode$RepublicReader", "readMatter", "()I"⟩, 3) := ⟨⟨by decide +kernel, by decide +kernel⟩, List.mem_of_getElem? (i := 262) (by decide +kernel), List.mem_of_getElem? (i := 946) (by decide +kernel), List.mem_of_getElem? (i := 947) (by decide +kernel)⟩
theorem lw_p26 : lw_okq (⟨"EarCode$RepublicReader", "readKnows", "(I)Z"⟩, 3) := ⟨⟨by decide +kernel, by decide +kernel⟩, List.mem_of_getElem? (i := 262) (by decide +kernel), List.mem_of_getElem? (i := 959) (by decide +kernel), List.mem_of_getElem? (i := 960) (by decide +kernel)⟩
theorem lw_p27 : lw_okq (⟨"EarCode$RepublicReader", "readWatch", "()Z"⟩, 3) := ⟨⟨by decide +kernel, by decide +kernel⟩, List.mem_of_getElem? (i := 262) (by decide +kernel), List.mem_of_getElem? (i := 963) (by decide +kernel), List.mem_of_getElem? (i := 964) (by decide +kernel)⟩
theorem lw_p28 : lw_okq (⟨"EarCode$RepublicReader", "readTerm", "()Z"⟩, 3) := ⟨⟨by decide +kernel, by decide +kernel⟩, List.mem_of_getElem? (i := 262) (by decide +kernel), List.mem_of_getElem? (i := 967) (by decide +kernel), List.mem_of_getElem? (i := 968) (by decide +kernel)⟩
theorem lw_p29 : lw_okq (⟨"EarCode$RepublicReader", "readHarm", "()Z"⟩, 3) := ⟨⟨by decide +kernel, by decide +kernel⟩, List.mem_of_getElem? (i := 262) (by decide +kernel), List.mem_of_getElem? (i := 971) (by decide +kernel), List.mem_of_getElem? (i := 972) (by decide +kernel)⟩
theorem lw_p30 : lw_okq (⟨"EarCode$RepublicReader", "readWed", "()Z"⟩, 3) := ⟨⟨by decide +kernel, by decide +kernel⟩, List.mem_of_getElem? (i := 262) (by decide +kernel), List.mem_of_getElem? (i := 975) (by decide +kernel), List.mem_of_getElem? (i := 976) (by decide +kernel)⟩
theorem lw_p31 : lw_okq (⟨"EarCode$RepublicReader", "readLiving", "(ZI)I"⟩, 3) := ⟨⟨by decide +kernel, by decide +kernel⟩, List.mem_of_getElem? (i := 262) (by decide +kernel), List.mem_of_getElem? (i := 979) (by decide +kernel), List.mem_of_getElem? (i := 980) (by decide +kernel)⟩
def lw_privs_2 : List (MethodName × Nat) := [(⟨"EarCode$LawReader", "readClause", "()Z"⟩, 2), (⟨"EarCode$LawReader", "readCondition", "(I)Z"⟩, 2), (⟨"EarCode$LawReader", "readAtom", "(I)Z"⟩, 2), (⟨"EarCode$LawReader", "readComparison", "()Z"⟩, 2), (⟨"EarCode$LawReader", "readSum", "(II)Z"⟩, 2), (⟨"java/lang/Throwable", "fillInStackTrace", "(I)Ljava/lang/Throwable;"⟩, 6), (⟨"EarCode$RepublicReader", "readLine", "()Z"⟩, 3), (⟨"EarCode$RepublicReader", "readCitizen", "()Z"⟩, 3), (⟨"EarCode$RepublicReader", "readHabit", "(I)Z"⟩, 3), (⟨"EarCode$RepublicReader", "readMatter", "()I"⟩, 3), (⟨"EarCode$RepublicReader", "readKnows", "(I)Z"⟩, 3), (⟨"EarCode$RepublicReader", "readWatch", "()Z"⟩, 3), (⟨"EarCode$RepublicReader", "readTerm", "()Z"⟩, 3), (⟨"EarCode$RepublicReader", "readHarm", "()Z"⟩, 3), (⟨"EarCode$RepublicReader", "readWed", "()Z"⟩, 3), (⟨"EarCode$RepublicReader", "readLiving", "(ZI)I"⟩, 3)]
theorem lw_r2 : ∀ q ∈ lw_privs_2, lw_okq q := List.forall_mem_cons.mpr ⟨lw_p16, List.forall_mem_cons.mpr ⟨lw_p17, List.forall_mem_cons.mpr ⟨lw_p18, List.forall_mem_cons.mpr ⟨lw_p19, List.forall_mem_cons.mpr ⟨lw_p20, List.forall_mem_cons.mpr ⟨lw_p21, List.forall_mem_cons.mpr ⟨lw_p22, List.forall_mem_cons.mpr ⟨lw_p23, List.forall_mem_cons.mpr ⟨lw_p24, List.forall_mem_cons.mpr ⟨lw_p25, List.forall_mem_cons.mpr ⟨lw_p26, List.forall_mem_cons.mpr ⟨lw_p27, List.forall_mem_cons.mpr ⟨lw_p28, List.forall_mem_cons.mpr ⟨lw_p29, List.forall_mem_cons.mpr ⟨lw_p30, List.forall_mem_cons.mpr ⟨lw_p31, fun _ h => absurd h List.not_mem_nil⟩⟩⟩⟩⟩⟩⟩⟩⟩⟩⟩⟩⟩⟩⟩⟩
theorem lw_p32 : lw_okq (⟨"EarCode$RepublicReader", "readSeen", "()Z"⟩, 3) := ⟨⟨by decide +kernel, by decide +kernel⟩, List.mem_of_getElem? (i := 262) (by decide +kernel), List.mem_of_getElem? (i := 988) (by decide +kernel), List.mem_of_getElem? (i := 989) (by decide +kernel)⟩
theorem lw_p33 : lw_okq (⟨"EarCode", "needClause", "(I)V"⟩, 16) := ⟨⟨by decide +kernel, by decide +kernel⟩, List.mem_of_getElem? (i := 31) (by decide +kernel), List.mem_of_getElem? (i := 1018) (by decide +kernel), List.mem_of_getElem? (i := 1019) (by decide +kernel)⟩
theorem lw_p34 : lw_okq (⟨"EarCode", "needCitizen", "(I)V"⟩, 16) := ⟨⟨by decide +kernel, by decide +kernel⟩, List.mem_of_getElem? (i := 31) (by decide +kernel), List.mem_of_getElem? (i := 1073) (by decide +kernel), List.mem_of_getElem? (i := 1074) (by decide +kernel)⟩
theorem lw_p35 : lw_okq (⟨"EarCode", "needAlive", "(I)V"⟩, 16) := ⟨⟨by decide +kernel, by decide +kernel⟩, List.mem_of_getElem? (i := 31) (by decide +kernel), List.mem_of_getElem? (i := 1114) (by decide +kernel), List.mem_of_getElem? (i := 1115) (by decide +kernel)⟩
theorem lw_p36 : lw_okq (⟨"EarCode$Reading", "takeRow", "(III)Z"⟩, 9) := ⟨⟨by decide +kernel, by decide +kernel⟩, List.mem_of_getElem? (i := 298) (by decide +kernel), List.mem_of_getElem? (i := 1215) (by decide +kernel), List.mem_of_getElem? (i := 1216) (by decide +kernel)⟩
theorem lw_p37 : lw_okq (⟨"EarCode$Reading", "addNeed", "(I)V"⟩, 9) := ⟨⟨by decide +kernel, by decide +kernel⟩, List.mem_of_getElem? (i := 298) (by decide +kernel), List.mem_of_getElem? (i := 1222) (by decide +kernel), List.mem_of_getElem? (i := 1223) (by decide +kernel)⟩
theorem lw_p38 : lw_okq (⟨"EarCode$Reading", "meetsNeeds", "(I)Z"⟩, 9) := ⟨⟨by decide +kernel, by decide +kernel⟩, List.mem_of_getElem? (i := 298) (by decide +kernel), List.mem_of_getElem? (i := 1235) (by decide +kernel), List.mem_of_getElem? (i := 1236) (by decide +kernel)⟩
theorem lw_p39 : lw_okq (⟨"EarCode$Reading", "sumOverSubsets", "()V"⟩, 9) := ⟨⟨by decide +kernel, by decide +kernel⟩, List.mem_of_getElem? (i := 298) (by decide +kernel), List.mem_of_getElem? (i := 1250) (by decide +kernel), List.mem_of_getElem? (i := 1251) (by decide +kernel)⟩
theorem lw_p40 : lw_okq (⟨"EarCode$Outlook", "foresee", "(IIII)V"⟩, 5) := ⟨⟨by decide +kernel, by decide +kernel⟩, List.mem_of_getElem? (i := 335) (by decide +kernel), List.mem_of_getElem? (i := 1291) (by decide +kernel), List.mem_of_getElem? (i := 1292) (by decide +kernel)⟩
theorem lw_p41 : lw_okq (⟨"EarCode$Outlook", "riskyDays", "(III)I"⟩, 5) := ⟨⟨by decide +kernel, by decide +kernel⟩, List.mem_of_getElem? (i := 335) (by decide +kernel), List.mem_of_getElem? (i := 1298) (by decide +kernel), List.mem_of_getElem? (i := 1299) (by decide +kernel)⟩
theorem lw_p42 : lw_okq (⟨"EarCode$Outlook", "findTellingOf", "(III)V"⟩, 5) := ⟨⟨by decide +kernel, by decide +kernel⟩, List.mem_of_getElem? (i := 335) (by decide +kernel), List.mem_of_getElem? (i := 1337) (by decide +kernel), List.mem_of_getElem? (i := 1338) (by decide +kernel)⟩
theorem lw_p43 : lw_okq (⟨"EarCode$Inquiry", "isAllowedToAny", "(I)Z"⟩, 3) := ⟨⟨by decide +kernel, by decide +kernel⟩, List.mem_of_getElem? (i := 359) (by decide +kernel), List.mem_of_getElem? (i := 1365) (by decide +kernel), List.mem_of_getElem? (i := 1366) (by decide +kernel)⟩
theorem lw_p44 : lw_okq (⟨"EarCode$Inquiry", "timesInHabits", "(I)I"⟩, 3) := ⟨⟨by decide +kernel, by decide +kernel⟩, List.mem_of_getElem? (i := 359) (by decide +kernel), List.mem_of_getElem? (i := 1381) (by decide +kernel), List.mem_of_getElem? (i := 1382) (by decide +kernel)⟩
theorem lw_p45 : lw_okq (⟨"EarCode", "tryDays", "(II)V"⟩, 16) := ⟨⟨by decide +kernel, by decide +kernel⟩, List.mem_of_getElem? (i := 31) (by decide +kernel), List.mem_of_getElem? (i := 1445) (by decide +kernel), List.mem_of_getElem? (i := 1446) (by decide +kernel)⟩
theorem lw_p46 : lw_okq (⟨"EarCodeModel", "readAll", "(Z)I"⟩, 38) := ⟨⟨by decide +kernel, by decide +kernel⟩, List.mem_of_getElem? (i := 1479) (by decide +kernel), List.mem_of_getElem? (i := 1634) (by decide +kernel), List.mem_of_getElem? (i := 1635) (by decide +kernel)⟩
theorem lw_p47 : lw_okq (⟨"EarCodeModel", "uses", "()V"⟩, 38) := ⟨⟨by decide +kernel, by decide +kernel⟩, List.mem_of_getElem? (i := 1479) (by decide +kernel), List.mem_of_getElem? (i := 1638) (by decide +kernel), List.mem_of_getElem? (i := 1639) (by decide +kernel)⟩
def lw_privs_3 : List (MethodName × Nat) := [(⟨"EarCode$RepublicReader", "readSeen", "()Z"⟩, 3), (⟨"EarCode", "needClause", "(I)V"⟩, 16), (⟨"EarCode", "needCitizen", "(I)V"⟩, 16), (⟨"EarCode", "needAlive", "(I)V"⟩, 16), (⟨"EarCode$Reading", "takeRow", "(III)Z"⟩, 9), (⟨"EarCode$Reading", "addNeed", "(I)V"⟩, 9), (⟨"EarCode$Reading", "meetsNeeds", "(I)Z"⟩, 9), (⟨"EarCode$Reading", "sumOverSubsets", "()V"⟩, 9), (⟨"EarCode$Outlook", "foresee", "(IIII)V"⟩, 5), (⟨"EarCode$Outlook", "riskyDays", "(III)I"⟩, 5), (⟨"EarCode$Outlook", "findTellingOf", "(III)V"⟩, 5), (⟨"EarCode$Inquiry", "isAllowedToAny", "(I)Z"⟩, 3), (⟨"EarCode$Inquiry", "timesInHabits", "(I)I"⟩, 3), (⟨"EarCode", "tryDays", "(II)V"⟩, 16), (⟨"EarCodeModel", "readAll", "(Z)I"⟩, 38), (⟨"EarCodeModel", "uses", "()V"⟩, 38)]
theorem lw_r3 : ∀ q ∈ lw_privs_3, lw_okq q := List.forall_mem_cons.mpr ⟨lw_p32, List.forall_mem_cons.mpr ⟨lw_p33, List.forall_mem_cons.mpr ⟨lw_p34, List.forall_mem_cons.mpr ⟨lw_p35, List.forall_mem_cons.mpr ⟨lw_p36, List.forall_mem_cons.mpr ⟨lw_p37, List.forall_mem_cons.mpr ⟨lw_p38, List.forall_mem_cons.mpr ⟨lw_p39, List.forall_mem_cons.mpr ⟨lw_p40, List.forall_mem_cons.mpr ⟨lw_p41, List.forall_mem_cons.mpr ⟨lw_p42, List.forall_mem_cons.mpr ⟨lw_p43, List.forall_mem_cons.mpr ⟨lw_p44, List.forall_mem_cons.mpr ⟨lw_p45, List.forall_mem_cons.mpr ⟨lw_p46, List.forall_mem_cons.mpr ⟨lw_p47, fun _ h => absurd h List.not_mem_nil⟩⟩⟩⟩⟩⟩⟩⟩⟩⟩⟩⟩⟩⟩⟩⟩
theorem lw_p48 : lw_okq (⟨"EarCodeModel", "blanks", "()V"⟩, 38) := ⟨⟨by decide +kernel, by decide +kernel⟩, List.mem_of_getElem? (i := 1479) (by decide +kernel), List.mem_of_getElem? (i := 1642) (by decide +kernel), List.mem_of_getElem? (i := 1643) (by decide +kernel)⟩
theorem lw_p49 : lw_okq (⟨"EarCodeModel", "isAt", "(II)Z"⟩, 38) := ⟨⟨by decide +kernel, by decide +kernel⟩, List.mem_of_getElem? (i := 1479) (by decide +kernel), List.mem_of_getElem? (i := 1646) (by decide +kernel), List.mem_of_getElem? (i := 1647) (by decide +kernel)⟩
theorem lw_p50 : lw_okq (⟨"EarCodeModel", "readLine", "(ZI)Z"⟩, 38) := ⟨⟨by decide +kernel, by decide +kernel⟩, List.mem_of_getElem? (i := 1479) (by decide +kernel), List.mem_of_getElem? (i := 1650) (by decide +kernel), List.mem_of_getElem? (i := 1651) (by decide +kernel)⟩
theorem lw_p51 : lw_okq (⟨"EarCodeModel", "letters", "()V"⟩, 38) := ⟨⟨by decide +kernel, by decide +kernel⟩, List.mem_of_getElem? (i := 1479) (by decide +kernel), List.mem_of_getElem? (i := 1654) (by decide +kernel), List.mem_of_getElem? (i := 1655) (by decide +kernel)⟩
theorem lw_p52 : lw_okq (⟨"EarCodeModel", "readClause", "(I)Z"⟩, 38) := ⟨⟨by decide +kernel, by decide +kernel⟩, List.mem_of_getElem? (i := 1479) (by decide +kernel), List.mem_of_getElem? (i := 1658) (by decide +kernel), List.mem_of_getElem? (i := 1659) (by decide +kernel)⟩
theorem lw_p53 : lw_okq (⟨"EarCodeModel", "isWord", "(Ljava/lang/String;)Z"⟩, 38) := ⟨⟨by decide +kernel, by decide +kernel⟩, List.mem_of_getElem? (i := 1479) (by decide +kernel), List.mem_of_getElem? (i := 1663) (by decide +kernel), List.mem_of_getElem? (i := 1664) (by decide +kernel)⟩
theorem lw_p54 : lw_okq (⟨"EarCodeModel", "number", "(II)I"⟩, 38) := ⟨⟨by decide +kernel, by decide +kernel⟩, List.mem_of_getElem? (i := 1479) (by decide +kernel), List.mem_of_getElem? (i := 1670) (by decide +kernel), List.mem_of_getElem? (i := 1671) (by decide +kernel)⟩
theorem lw_p55 : lw_okq (⟨"EarCodeModel", "passes", "(Ljava/lang/String;)Z"⟩, 38) := ⟨⟨by decide +kernel, by decide +kernel⟩, List.mem_of_getElem? (i := 1479) (by decide +kernel), List.mem_of_getElem? (i := 1675) (by decide +kernel), List.mem_of_getElem? (i := 1676) (by decide +kernel)⟩
theorem lw_p56 : lw_okq (⟨"EarCodeModel", "readCond", "()Z"⟩, 38) := ⟨⟨by decide +kernel, by decide +kernel⟩, List.mem_of_getElem? (i := 1479) (by decide +kernel), List.mem_of_getElem? (i := 1679) (by decide +kernel), List.mem_of_getElem? (i := 1680) (by decide +kernel)⟩
theorem lw_p57 : lw_okq (⟨"EarCodeModel", "readAllOf", "()Z"⟩, 38) := ⟨⟨by decide +kernel, by decide +kernel⟩, List.mem_of_getElem? (i := 1479) (by decide +kernel), List.mem_of_getElem? (i := 1683) (by decide +kernel), List.mem_of_getElem? (i := 1684) (by decide +kernel)⟩
theorem lw_p58 : lw_okq (⟨"EarCodeModel", "readAtom", "()Z"⟩, 38) := ⟨⟨by decide +kernel, by decide +kernel⟩, List.mem_of_getElem? (i := 1479) (by decide +kernel), List.mem_of_getElem? (i := 1687) (by decide +kernel), List.mem_of_getElem? (i := 1688) (by decide +kernel)⟩
theorem lw_p59 : lw_okq (⟨"EarCodeModel", "sign", "(I)Z"⟩, 38) := ⟨⟨by decide +kernel, by decide +kernel⟩, List.mem_of_getElem? (i := 1479) (by decide +kernel), List.mem_of_getElem? (i := 1691) (by decide +kernel), List.mem_of_getElem? (i := 1692) (by decide +kernel)⟩
theorem lw_p60 : lw_okq (⟨"EarCodeModel", "emits", "(II)V"⟩, 38) := ⟨⟨by decide +kernel, by decide +kernel⟩, List.mem_of_getElem? (i := 1479) (by decide +kernel), List.mem_of_getElem? (i := 1696) (by decide +kernel), List.mem_of_getElem? (i := 1697) (by decide +kernel)⟩
theorem lw_p61 : lw_okq (⟨"EarCodeModel", "readSum", "()Z"⟩, 38) := ⟨⟨by decide +kernel, by decide +kernel⟩, List.mem_of_getElem? (i := 1479) (by decide +kernel), List.mem_of_getElem? (i := 1701) (by decide +kernel), List.mem_of_getElem? (i := 1702) (by decide +kernel)⟩
theorem lw_p62 : lw_okq (⟨"EarCodeModel", "readPart", "()Z"⟩, 38) := ⟨⟨by decide +kernel, by decide +kernel⟩, List.mem_of_getElem? (i := 1479) (by decide +kernel), List.mem_of_getElem? (i := 1705) (by decide +kernel), List.mem_of_getElem? (i := 1706) (by decide +kernel)⟩
theorem lw_p63 : lw_okq (⟨"EarCodeModel", "readRepublicLine", "(I)Z"⟩, 38) := ⟨⟨by decide +kernel, by decide +kernel⟩, List.mem_of_getElem? (i := 1479) (by decide +kernel), List.mem_of_getElem? (i := 1715) (by decide +kernel), List.mem_of_getElem? (i := 1716) (by decide +kernel)⟩
def lw_privs_4 : List (MethodName × Nat) := [(⟨"EarCodeModel", "blanks", "()V"⟩, 38), (⟨"EarCodeModel", "isAt", "(II)Z"⟩, 38), (⟨"EarCodeModel", "readLine", "(ZI)Z"⟩, 38), (⟨"EarCodeModel", "letters", "()V"⟩, 38), (⟨"EarCodeModel", "readClause", "(I)Z"⟩, 38), (⟨"EarCodeModel", "isWord", "(Ljava/lang/String;)Z"⟩, 38), (⟨"EarCodeModel", "number", "(II)I"⟩, 38), (⟨"EarCodeModel", "passes", "(Ljava/lang/String;)Z"⟩, 38), (⟨"EarCodeModel", "readCond", "()Z"⟩, 38), (⟨"EarCodeModel", "readAllOf", "()Z"⟩, 38), (⟨"EarCodeModel", "readAtom", "()Z"⟩, 38), (⟨"EarCodeModel", "sign", "(I)Z"⟩, 38), (⟨"EarCodeModel", "emits", "(II)V"⟩, 38), (⟨"EarCodeModel", "readSum", "()Z"⟩, 38), (⟨"EarCodeModel", "readPart", "()Z"⟩, 38), (⟨"EarCodeModel", "readRepublicLine", "(I)Z"⟩, 38)]
theorem lw_r4 : ∀ q ∈ lw_privs_4, lw_okq q := List.forall_mem_cons.mpr ⟨lw_p48, List.forall_mem_cons.mpr ⟨lw_p49, List.forall_mem_cons.mpr ⟨lw_p50, List.forall_mem_cons.mpr ⟨lw_p51, List.forall_mem_cons.mpr ⟨lw_p52, List.forall_mem_cons.mpr ⟨lw_p53, List.forall_mem_cons.mpr ⟨lw_p54, List.forall_mem_cons.mpr ⟨lw_p55, List.forall_mem_cons.mpr ⟨lw_p56, List.forall_mem_cons.mpr ⟨lw_p57, List.forall_mem_cons.mpr ⟨lw_p58, List.forall_mem_cons.mpr ⟨lw_p59, List.forall_mem_cons.mpr ⟨lw_p60, List.forall_mem_cons.mpr ⟨lw_p61, List.forall_mem_cons.mpr ⟨lw_p62, List.forall_mem_cons.mpr ⟨lw_p63, fun _ h => absurd h List.not_mem_nil⟩⟩⟩⟩⟩⟩⟩⟩⟩⟩⟩⟩⟩⟩⟩⟩
theorem lw_p64 : lw_okq (⟨"EarCodeModel", "readCitizen", "()Z"⟩, 38) := ⟨⟨by decide +kernel, by decide +kernel⟩, List.mem_of_getElem? (i := 1479) (by decide +kernel), List.mem_of_getElem? (i := 1720) (by decide +kernel), List.mem_of_getElem? (i := 1721) (by decide +kernel)⟩
theorem lw_p65 : lw_okq (⟨"EarCodeModel", "citizens", "()I"⟩, 38) := ⟨⟨by decide +kernel, by decide +kernel⟩, List.mem_of_getElem? (i := 1479) (by decide +kernel), List.mem_of_getElem? (i := 1724) (by decide +kernel), List.mem_of_getElem? (i := 1725) (by decide +kernel)⟩
theorem lw_p66 : lw_okq (⟨"EarCodeModel", "sets", "(III)V"⟩, 38) := ⟨⟨by decide +kernel, by decide +kernel⟩, List.mem_of_getElem? (i := 1479) (by decide +kernel), List.mem_of_getElem? (i := 1728) (by decide +kernel), List.mem_of_getElem? (i := 1729) (by decide +kernel)⟩
theorem lw_p67 : lw_okq (⟨"EarCodeModel", "of", "(II)I"⟩, 38) := ⟨⟨by decide +kernel, by decide +kernel⟩, List.mem_of_getElem? (i := 1479) (by decide +kernel), List.mem_of_getElem? (i := 1733) (by decide +kernel), List.mem_of_getElem? (i := 1734) (by decide +kernel)⟩
theorem lw_p68 : lw_okq (⟨"EarCodeModel", "readHabit", "(I)Z"⟩, 38) := ⟨⟨by decide +kernel, by decide +kernel⟩, List.mem_of_getElem? (i := 1479) (by decide +kernel), List.mem_of_getElem? (i := 1738) (by decide +kernel), List.mem_of_getElem? (i := 1739) (by decide +kernel)⟩
theorem lw_p69 : lw_okq (⟨"EarCodeModel", "matterTold", "()I"⟩, 38) := ⟨⟨by decide +kernel, by decide +kernel⟩, List.mem_of_getElem? (i := 1479) (by decide +kernel), List.mem_of_getElem? (i := 1742) (by decide +kernel), List.mem_of_getElem? (i := 1743) (by decide +kernel)⟩
theorem lw_p70 : lw_okq (⟨"EarCodeModel", "isFigure", "()Z"⟩, 38) := ⟨⟨by decide +kernel, by decide +kernel⟩, List.mem_of_getElem? (i := 1479) (by decide +kernel), List.mem_of_getElem? (i := 1746) (by decide +kernel), List.mem_of_getElem? (i := 1747) (by decide +kernel)⟩
theorem lw_p71 : lw_okq (⟨"EarCodeModel", "readKnows", "(I)Z"⟩, 38) := ⟨⟨by decide +kernel, by decide +kernel⟩, List.mem_of_getElem? (i := 1479) (by decide +kernel), List.mem_of_getElem? (i := 1751) (by decide +kernel), List.mem_of_getElem? (i := 1752) (by decide +kernel)⟩
theorem lw_p72 : lw_okq (⟨"EarCodeModel", "clauses", "()I"⟩, 38) := ⟨⟨by decide +kernel, by decide +kernel⟩, List.mem_of_getElem? (i := 1479) (by decide +kernel), List.mem_of_getElem? (i := 1755) (by decide +kernel), List.mem_of_getElem? (i := 1756) (by decide +kernel)⟩
theorem lw_p73 : lw_okq (⟨"EarCodeModel", "readNumber", "(III)Z"⟩, 38) := ⟨⟨by decide +kernel, by decide +kernel⟩, List.mem_of_getElem? (i := 1479) (by decide +kernel), List.mem_of_getElem? (i := 1761) (by decide +kernel), List.mem_of_getElem? (i := 1762) (by decide +kernel)⟩
theorem lw_p74 : lw_okq (⟨"EarCodeModel", "readWed", "()Z"⟩, 38) := ⟨⟨by decide +kernel, by decide +kernel⟩, List.mem_of_getElem? (i := 1479) (by decide +kernel), List.mem_of_getElem? (i := 1767) (by decide +kernel), List.mem_of_getElem? (i := 1768) (by decide +kernel)⟩
theorem lw_p75 : lw_okq (⟨"EarCodeModel", "citizenTold", "()I"⟩, 38) := ⟨⟨by decide +kernel, by decide +kernel⟩, List.mem_of_getElem? (i := 1479) (by decide +kernel), List.mem_of_getElem? (i := 1771) (by decide +kernel), List.mem_of_getElem? (i := 1772) (by decide +kernel)⟩
theorem lw_p76 : lw_okq (⟨"EarCodeModel", "isAlive", "(I)Z"⟩, 38) := ⟨⟨by decide +kernel, by decide +kernel⟩, List.mem_of_getElem? (i := 1479) (by decide +kernel), List.mem_of_getElem? (i := 1775) (by decide +kernel), List.mem_of_getElem? (i := 1776) (by decide +kernel)⟩
theorem lw_p77 : lw_okq (⟨"EarCodeModel", "isSingle", "(I)Z"⟩, 38) := ⟨⟨by decide +kernel, by decide +kernel⟩, List.mem_of_getElem? (i := 1479) (by decide +kernel), List.mem_of_getElem? (i := 1779) (by decide +kernel), List.mem_of_getElem? (i := 1780) (by decide +kernel)⟩
theorem lw_p78 : lw_okq (⟨"EarCodeModel", "weds", "(II)V"⟩, 38) := ⟨⟨by decide +kernel, by decide +kernel⟩, List.mem_of_getElem? (i := 1479) (by decide +kernel), List.mem_of_getElem? (i := 1783) (by decide +kernel), List.mem_of_getElem? (i := 1784) (by decide +kernel)⟩
theorem lw_p79 : lw_okq (⟨"EarCodeModel", "readSeen", "()Z"⟩, 38) := ⟨⟨by decide +kernel, by decide +kernel⟩, List.mem_of_getElem? (i := 1479) (by decide +kernel), List.mem_of_getElem? (i := 1788) (by decide +kernel), List.mem_of_getElem? (i := 1789) (by decide +kernel)⟩
def lw_privs_5 : List (MethodName × Nat) := [(⟨"EarCodeModel", "readCitizen", "()Z"⟩, 38), (⟨"EarCodeModel", "citizens", "()I"⟩, 38), (⟨"EarCodeModel", "sets", "(III)V"⟩, 38), (⟨"EarCodeModel", "of", "(II)I"⟩, 38), (⟨"EarCodeModel", "readHabit", "(I)Z"⟩, 38), (⟨"EarCodeModel", "matterTold", "()I"⟩, 38), (⟨"EarCodeModel", "isFigure", "()Z"⟩, 38), (⟨"EarCodeModel", "readKnows", "(I)Z"⟩, 38), (⟨"EarCodeModel", "clauses", "()I"⟩, 38), (⟨"EarCodeModel", "readNumber", "(III)Z"⟩, 38), (⟨"EarCodeModel", "readWed", "()Z"⟩, 38), (⟨"EarCodeModel", "citizenTold", "()I"⟩, 38), (⟨"EarCodeModel", "isAlive", "(I)Z"⟩, 38), (⟨"EarCodeModel", "isSingle", "(I)Z"⟩, 38), (⟨"EarCodeModel", "weds", "(II)V"⟩, 38), (⟨"EarCodeModel", "readSeen", "()Z"⟩, 38)]
theorem lw_r5 : ∀ q ∈ lw_privs_5, lw_okq q := List.forall_mem_cons.mpr ⟨lw_p64, List.forall_mem_cons.mpr ⟨lw_p65, List.forall_mem_cons.mpr ⟨lw_p66, List.forall_mem_cons.mpr ⟨lw_p67, List.forall_mem_cons.mpr ⟨lw_p68, List.forall_mem_cons.mpr ⟨lw_p69, List.forall_mem_cons.mpr ⟨lw_p70, List.forall_mem_cons.mpr ⟨lw_p71, List.forall_mem_cons.mpr ⟨lw_p72, List.forall_mem_cons.mpr ⟨lw_p73, List.forall_mem_cons.mpr ⟨lw_p74, List.forall_mem_cons.mpr ⟨lw_p75, List.forall_mem_cons.mpr ⟨lw_p76, List.forall_mem_cons.mpr ⟨lw_p77, List.forall_mem_cons.mpr ⟨lw_p78, List.forall_mem_cons.mpr ⟨lw_p79, fun _ h => absurd h List.not_mem_nil⟩⟩⟩⟩⟩⟩⟩⟩⟩⟩⟩⟩⟩⟩⟩⟩
theorem lw_p80 : lw_okq (⟨"EarCodeModel", "throwsIf", "(ZI)Z"⟩, 38) := ⟨⟨by decide +kernel, by decide +kernel⟩, List.mem_of_getElem? (i := 1479) (by decide +kernel), List.mem_of_getElem? (i := 1793) (by decide +kernel), List.mem_of_getElem? (i := 1794) (by decide +kernel)⟩
theorem lw_p81 : lw_okq (⟨"EarCodeModel", "noClause", "(I)Z"⟩, 38) := ⟨⟨by decide +kernel, by decide +kernel⟩, List.mem_of_getElem? (i := 1479) (by decide +kernel), List.mem_of_getElem? (i := 1805) (by decide +kernel), List.mem_of_getElem? (i := 1806) (by decide +kernel)⟩
theorem lw_p82 : lw_okq (⟨"EarCodeModel", "demands", "(I)Z"⟩, 38) := ⟨⟨by decide +kernel, by decide +kernel⟩, List.mem_of_getElem? (i := 1479) (by decide +kernel), List.mem_of_getElem? (i := 1812) (by decide +kernel), List.mem_of_getElem? (i := 1813) (by decide +kernel)⟩
theorem lw_p83 : lw_okq (⟨"EarCodeModel", "deedOf", "(I)I"⟩, 38) := ⟨⟨by decide +kernel, by decide +kernel⟩, List.mem_of_getElem? (i := 1479) (by decide +kernel), List.mem_of_getElem? (i := 1816) (by decide +kernel), List.mem_of_getElem? (i := 1817) (by decide +kernel)⟩
theorem lw_p84 : lw_okq (⟨"EarCodeModel", "inForce", "()I"⟩, 38) := ⟨⟨by decide +kernel, by decide +kernel⟩, List.mem_of_getElem? (i := 1479) (by decide +kernel), List.mem_of_getElem? (i := 1820) (by decide +kernel), List.mem_of_getElem? (i := 1821) (by decide +kernel)⟩
theorem lw_p85 : lw_okq (⟨"EarCodeModel", "knowers", "(I)I"⟩, 38) := ⟨⟨by decide +kernel, by decide +kernel⟩, List.mem_of_getElem? (i := 1479) (by decide +kernel), List.mem_of_getElem? (i := 1824) (by decide +kernel), List.mem_of_getElem? (i := 1825) (by decide +kernel)⟩
theorem lw_p86 : lw_okq (⟨"EarCodeModel", "knows", "(II)Z"⟩, 38) := ⟨⟨by decide +kernel, by decide +kernel⟩, List.mem_of_getElem? (i := 1479) (by decide +kernel), List.mem_of_getElem? (i := 1828) (by decide +kernel), List.mem_of_getElem? (i := 1829) (by decide +kernel)⟩
theorem lw_p87 : lw_okq (⟨"EarCodeModel", "contradicting", "(I)I"⟩, 38) := ⟨⟨by decide +kernel, by decide +kernel⟩, List.mem_of_getElem? (i := 1479) (by decide +kernel), List.mem_of_getElem? (i := 1835) (by decide +kernel), List.mem_of_getElem? (i := 1836) (by decide +kernel)⟩
theorem lw_p88 : lw_okq (⟨"EarCodeModel", "contradict", "(II)Z"⟩, 38) := ⟨⟨by decide +kernel, by decide +kernel⟩, List.mem_of_getElem? (i := 1479) (by decide +kernel), List.mem_of_getElem? (i := 1839) (by decide +kernel), List.mem_of_getElem? (i := 1840) (by decide +kernel)⟩
theorem lw_p89 : lw_okq (⟨"EarCodeModel", "isOf", "(IIII)Z"⟩, 38) := ⟨⟨by decide +kernel, by decide +kernel⟩, List.mem_of_getElem? (i := 1479) (by decide +kernel), List.mem_of_getElem? (i := 1843) (by decide +kernel), List.mem_of_getElem? (i := 1844) (by decide +kernel)⟩
theorem lw_p90 : lw_okq (⟨"EarCodeModel", "factOf", "(IIIII)I"⟩, 38) := ⟨⟨by decide +kernel, by decide +kernel⟩, List.mem_of_getElem? (i := 1479) (by decide +kernel), List.mem_of_getElem? (i := 1847) (by decide +kernel), List.mem_of_getElem? (i := 1848) (by decide +kernel)⟩
theorem lw_p91 : lw_okq (⟨"EarCodeModel", "noCitizen", "(I)Z"⟩, 38) := ⟨⟨by decide +kernel, by decide +kernel⟩, List.mem_of_getElem? (i := 1479) (by decide +kernel), List.mem_of_getElem? (i := 1856) (by decide +kernel), List.mem_of_getElem? (i := 1857) (by decide +kernel)⟩
theorem lw_p92 : lw_okq (⟨"EarCodeModel", "doesIn", "(II)I"⟩, 38) := ⟨⟨by decide +kernel, by decide +kernel⟩, List.mem_of_getElem? (i := 1479) (by decide +kernel), List.mem_of_getElem? (i := 1860) (by decide +kernel), List.mem_of_getElem? (i := 1861) (by decide +kernel)⟩
theorem lw_p93 : lw_okq (⟨"EarCodeModel", "pooled", "(I)I"⟩, 38) := ⟨⟨by decide +kernel, by decide +kernel⟩, List.mem_of_getElem? (i := 1479) (by decide +kernel), List.mem_of_getElem? (i := 1864) (by decide +kernel), List.mem_of_getElem? (i := 1865) (by decide +kernel)⟩
theorem lw_p94 : lw_okq (⟨"EarCodeModel", "saying", "(IZIII)I"⟩, 38) := ⟨⟨by decide +kernel, by decide +kernel⟩, List.mem_of_getElem? (i := 1479) (by decide +kernel), List.mem_of_getElem? (i := 1884) (by decide +kernel), List.mem_of_getElem? (i := 1885) (by decide +kernel)⟩
theorem lw_p95 : lw_okq (⟨"EarCodeModel", "may", "(II)Z"⟩, 38) := ⟨⟨by decide +kernel, by decide +kernel⟩, List.mem_of_getElem? (i := 1479) (by decide +kernel), List.mem_of_getElem? (i := 1888) (by decide +kernel), List.mem_of_getElem? (i := 1889) (by decide +kernel)⟩
def lw_privs_6 : List (MethodName × Nat) := [(⟨"EarCodeModel", "throwsIf", "(ZI)Z"⟩, 38), (⟨"EarCodeModel", "noClause", "(I)Z"⟩, 38), (⟨"EarCodeModel", "demands", "(I)Z"⟩, 38), (⟨"EarCodeModel", "deedOf", "(I)I"⟩, 38), (⟨"EarCodeModel", "inForce", "()I"⟩, 38), (⟨"EarCodeModel", "knowers", "(I)I"⟩, 38), (⟨"EarCodeModel", "knows", "(II)Z"⟩, 38), (⟨"EarCodeModel", "contradicting", "(I)I"⟩, 38), (⟨"EarCodeModel", "contradict", "(II)Z"⟩, 38), (⟨"EarCodeModel", "isOf", "(IIII)Z"⟩, 38), (⟨"EarCodeModel", "factOf", "(IIIII)I"⟩, 38), (⟨"EarCodeModel", "noCitizen", "(I)Z"⟩, 38), (⟨"EarCodeModel", "doesIn", "(II)I"⟩, 38), (⟨"EarCodeModel", "pooled", "(I)I"⟩, 38), (⟨"EarCodeModel", "saying", "(IZIII)I"⟩, 38), (⟨"EarCodeModel", "may", "(II)Z"⟩, 38)]
theorem lw_r6 : ∀ q ∈ lw_privs_6, lw_okq q := List.forall_mem_cons.mpr ⟨lw_p80, List.forall_mem_cons.mpr ⟨lw_p81, List.forall_mem_cons.mpr ⟨lw_p82, List.forall_mem_cons.mpr ⟨lw_p83, List.forall_mem_cons.mpr ⟨lw_p84, List.forall_mem_cons.mpr ⟨lw_p85, List.forall_mem_cons.mpr ⟨lw_p86, List.forall_mem_cons.mpr ⟨lw_p87, List.forall_mem_cons.mpr ⟨lw_p88, List.forall_mem_cons.mpr ⟨lw_p89, List.forall_mem_cons.mpr ⟨lw_p90, List.forall_mem_cons.mpr ⟨lw_p91, List.forall_mem_cons.mpr ⟨lw_p92, List.forall_mem_cons.mpr ⟨lw_p93, List.forall_mem_cons.mpr ⟨lw_p94, List.forall_mem_cons.mpr ⟨lw_p95, fun _ h => absurd h List.not_mem_nil⟩⟩⟩⟩⟩⟩⟩⟩⟩⟩⟩⟩⟩⟩⟩⟩
theorem lw_p96 : lw_okq (⟨"EarCodeModel", "forbidsNow", "(III)I"⟩, 38) := ⟨⟨by decide +kernel, by decide +kernel⟩, List.mem_of_getElem? (i := 1479) (by decide +kernel), List.mem_of_getElem? (i := 1892) (by decide +kernel), List.mem_of_getElem? (i := 1893) (by decide +kernel)⟩
theorem lw_p97 : lw_okq (⟨"EarCodeModel", "forbidding", "(IIII)I"⟩, 38) := ⟨⟨by decide +kernel, by decide +kernel⟩, List.mem_of_getElem? (i := 1479) (by decide +kernel), List.mem_of_getElem? (i := 1896) (by decide +kernel), List.mem_of_getElem? (i := 1897) (by decide +kernel)⟩
theorem lw_p98 : lw_okq (⟨"EarCodeModel", "remembers", "()V"⟩, 38) := ⟨⟨by decide +kernel, by decide +kernel⟩, List.mem_of_getElem? (i := 1479) (by decide +kernel), List.mem_of_getElem? (i := 1907) (by decide +kernel), List.mem_of_getElem? (i := 1908) (by decide +kernel)⟩
theorem lw_p99 : lw_okq (⟨"EarCodeModel", "oneDay", "()V"⟩, 38) := ⟨⟨by decide +kernel, by decide +kernel⟩, List.mem_of_getElem? (i := 1479) (by decide +kernel), List.mem_of_getElem? (i := 1932) (by decide +kernel), List.mem_of_getElem? (i := 1933) (by decide +kernel)⟩
theorem lw_p100 : lw_okq (⟨"EarCodeModel", "keeps", "(II)Z"⟩, 38) := ⟨⟨by decide +kernel, by decide +kernel⟩, List.mem_of_getElem? (i := 1479) (by decide +kernel), List.mem_of_getElem? (i := 1936) (by decide +kernel), List.mem_of_getElem? (i := 1937) (by decide +kernel)⟩
theorem lw_p101 : lw_okq (⟨"EarCodeModel", "draw", "(I)I"⟩, 38) := ⟨⟨by decide +kernel, by decide +kernel⟩, List.mem_of_getElem? (i := 1479) (by decide +kernel), List.mem_of_getElem? (i := 1940) (by decide +kernel), List.mem_of_getElem? (i := 1941) (by decide +kernel)⟩
theorem lw_p102 : lw_okq (⟨"EarCodeModel", "breaks", "(III)V"⟩, 38) := ⟨⟨by decide +kernel, by decide +kernel⟩, List.mem_of_getElem? (i := 1479) (by decide +kernel), List.mem_of_getElem? (i := 1945) (by decide +kernel), List.mem_of_getElem? (i := 1946) (by decide +kernel)⟩
theorem lw_p103 : lw_okq (⟨"EarCodeModel", "isLogged", "(III)V"⟩, 38) := ⟨⟨by decide +kernel, by decide +kernel⟩, List.mem_of_getElem? (i := 1479) (by decide +kernel), List.mem_of_getElem? (i := 1953) (by decide +kernel), List.mem_of_getElem? (i := 1954) (by decide +kernel)⟩
theorem lw_p104 : lw_okq (⟨"EarCodeModel", "alive", "()I"⟩, 38) := ⟨⟨by decide +kernel, by decide +kernel⟩, List.mem_of_getElem? (i := 1479) (by decide +kernel), List.mem_of_getElem? (i := 1961) (by decide +kernel), List.mem_of_getElem? (i := 1962) (by decide +kernel)⟩
theorem lw_p105 : lw_okq (⟨"EarCodeModel", "isWatched", "()Z"⟩, 38) := ⟨⟨by decide +kernel, by decide +kernel⟩, List.mem_of_getElem? (i := 1479) (by decide +kernel), List.mem_of_getElem? (i := 1973) (by decide +kernel), List.mem_of_getElem? (i := 1974) (by decide +kernel)⟩
theorem lw_p106 : lw_okq (⟨"EarCodeModel", "laysWatched", "()V"⟩, 38) := ⟨⟨by decide +kernel, by decide +kernel⟩, List.mem_of_getElem? (i := 1479) (by decide +kernel), List.mem_of_getElem? (i := 1977) (by decide +kernel), List.mem_of_getElem? (i := 1978) (by decide +kernel)⟩
theorem lw_p107 : lw_okq (⟨"EarCodeModel", "nevers", "()I"⟩, 38) := ⟨⟨by decide +kernel, by decide +kernel⟩, List.mem_of_getElem? (i := 1479) (by decide +kernel), List.mem_of_getElem? (i := 1981) (by decide +kernel), List.mem_of_getElem? (i := 1982) (by decide +kernel)⟩
theorem lw_p108 : lw_okq (⟨"EarCodeModel", "isCode", "(I)Z"⟩, 38) := ⟨⟨by decide +kernel, by decide +kernel⟩, List.mem_of_getElem? (i := 1479) (by decide +kernel), List.mem_of_getElem? (i := 1985) (by decide +kernel), List.mem_of_getElem? (i := 1986) (by decide +kernel)⟩
theorem lw_p109 : lw_okq (⟨"EarCodeModel", "riskOf", "(III)I"⟩, 38) := ⟨⟨by decide +kernel, by decide +kernel⟩, List.mem_of_getElem? (i := 1479) (by decide +kernel), List.mem_of_getElem? (i := 2012) (by decide +kernel), List.mem_of_getElem? (i := 2013) (by decide +kernel)⟩
theorem lw_p110 : lw_okq (⟨"EarCodeModel", "goesRound", "()Z"⟩, 38) := ⟨⟨by decide +kernel, by decide +kernel⟩, List.mem_of_getElem? (i := 1479) (by decide +kernel), List.mem_of_getElem? (i := 2052) (by decide +kernel), List.mem_of_getElem? (i := 2053) (by decide +kernel)⟩
theorem lw_p111 : lw_okq (⟨"EarCodeModel", "halfOfOthers", "(I)J"⟩, 38) := ⟨⟨by decide +kernel, by decide +kernel⟩, List.mem_of_getElem? (i := 1479) (by decide +kernel), List.mem_of_getElem? (i := 2056) (by decide +kernel), List.mem_of_getElem? (i := 2057) (by decide +kernel)⟩
def lw_privs_7 : List (MethodName × Nat) := [(⟨"EarCodeModel", "forbidsNow", "(III)I"⟩, 38), (⟨"EarCodeModel", "forbidding", "(IIII)I"⟩, 38), (⟨"EarCodeModel", "remembers", "()V"⟩, 38), (⟨"EarCodeModel", "oneDay", "()V"⟩, 38), (⟨"EarCodeModel", "keeps", "(II)Z"⟩, 38), (⟨"EarCodeModel", "draw", "(I)I"⟩, 38), (⟨"EarCodeModel", "breaks", "(III)V"⟩, 38), (⟨"EarCodeModel", "isLogged", "(III)V"⟩, 38), (⟨"EarCodeModel", "alive", "()I"⟩, 38), (⟨"EarCodeModel", "isWatched", "()Z"⟩, 38), (⟨"EarCodeModel", "laysWatched", "()V"⟩, 38), (⟨"EarCodeModel", "nevers", "()I"⟩, 38), (⟨"EarCodeModel", "isCode", "(I)Z"⟩, 38), (⟨"EarCodeModel", "riskOf", "(III)I"⟩, 38), (⟨"EarCodeModel", "goesRound", "()Z"⟩, 38), (⟨"EarCodeModel", "halfOfOthers", "(I)J"⟩, 38)]
theorem lw_r7 : ∀ q ∈ lw_privs_7, lw_okq q := List.forall_mem_cons.mpr ⟨lw_p96, List.forall_mem_cons.mpr ⟨lw_p97, List.forall_mem_cons.mpr ⟨lw_p98, List.forall_mem_cons.mpr ⟨lw_p99, List.forall_mem_cons.mpr ⟨lw_p100, List.forall_mem_cons.mpr ⟨lw_p101, List.forall_mem_cons.mpr ⟨lw_p102, List.forall_mem_cons.mpr ⟨lw_p103, List.forall_mem_cons.mpr ⟨lw_p104, List.forall_mem_cons.mpr ⟨lw_p105, List.forall_mem_cons.mpr ⟨lw_p106, List.forall_mem_cons.mpr ⟨lw_p107, List.forall_mem_cons.mpr ⟨lw_p108, List.forall_mem_cons.mpr ⟨lw_p109, List.forall_mem_cons.mpr ⟨lw_p110, List.forall_mem_cons.mpr ⟨lw_p111, fun _ h => absurd h List.not_mem_nil⟩⟩⟩⟩⟩⟩⟩⟩⟩⟩⟩⟩⟩⟩⟩⟩
theorem lw_p112 : lw_okq (⟨"EarCodeModel", "sumOf", "([J)I"⟩, 38) := ⟨⟨by decide +kernel, by decide +kernel⟩, List.mem_of_getElem? (i := 1479) (by decide +kernel), List.mem_of_getElem? (i := 2060) (by decide +kernel), List.mem_of_getElem? (i := 2061) (by decide +kernel)⟩
theorem lw_p113 : lw_okq (⟨"EarCodeModel", "worthiest", "(II)I"⟩, 38) := ⟨⟨by decide +kernel, by decide +kernel⟩, List.mem_of_getElem? (i := 1479) (by decide +kernel), List.mem_of_getElem? (i := 2072) (by decide +kernel), List.mem_of_getElem? (i := 2073) (by decide +kernel)⟩
theorem lw_p114 : lw_okq (⟨"EarCodeModel", "worthOf", "(II)I"⟩, 38) := ⟨⟨by decide +kernel, by decide +kernel⟩, List.mem_of_getElem? (i := 1479) (by decide +kernel), List.mem_of_getElem? (i := 2076) (by decide +kernel), List.mem_of_getElem? (i := 2077) (by decide +kernel)⟩
theorem lw_p115 : lw_okq (⟨"EarCodeModel", "keepsAll", "()V"⟩, 38) := ⟨⟨by decide +kernel, by decide +kernel⟩, List.mem_of_getElem? (i := 1479) (by decide +kernel), List.mem_of_getElem? (i := 2092) (by decide +kernel), List.mem_of_getElem? (i := 2093) (by decide +kernel)⟩
theorem lw_p116 : lw_okq (⟨"EarCodeModel", "takenNow", "()I"⟩, 38) := ⟨⟨by decide +kernel, by decide +kernel⟩, List.mem_of_getElem? (i := 1479) (by decide +kernel), List.mem_of_getElem? (i := 2096) (by decide +kernel), List.mem_of_getElem? (i := 2097) (by decide +kernel)⟩
theorem lw_p117 : lw_okq (⟨"EarCodeModel", "bringsBack", "()V"⟩, 38) := ⟨⟨by decide +kernel, by decide +kernel⟩, List.mem_of_getElem? (i := 1479) (by decide +kernel), List.mem_of_getElem? (i := 2100) (by decide +kernel), List.mem_of_getElem? (i := 2101) (by decide +kernel)⟩
theorem lw_p118 : lw_okq (⟨"EarCodeModel", "ofLog", "(II)I"⟩, 38) := ⟨⟨by decide +kernel, by decide +kernel⟩, List.mem_of_getElem? (i := 1479) (by decide +kernel), List.mem_of_getElem? (i := 2116) (by decide +kernel), List.mem_of_getElem? (i := 2117) (by decide +kernel)⟩
theorem lw_p119 : lw_okq (⟨"EarCodeModel", "takenFor", "(I)I"⟩, 38) := ⟨⟨by decide +kernel, by decide +kernel⟩, List.mem_of_getElem? (i := 1479) (by decide +kernel), List.mem_of_getElem? (i := 2124) (by decide +kernel), List.mem_of_getElem? (i := 2125) (by decide +kernel)⟩
def lw_privs_8 : List (MethodName × Nat) := [(⟨"EarCodeModel", "sumOf", "([J)I"⟩, 38), (⟨"EarCodeModel", "worthiest", "(II)I"⟩, 38), (⟨"EarCodeModel", "worthOf", "(II)I"⟩, 38), (⟨"EarCodeModel", "keepsAll", "()V"⟩, 38), (⟨"EarCodeModel", "takenNow", "()I"⟩, 38), (⟨"EarCodeModel", "bringsBack", "()V"⟩, 38), (⟨"EarCodeModel", "ofLog", "(II)I"⟩, 38), (⟨"EarCodeModel", "takenFor", "(I)I"⟩, 38)]
theorem lw_r8 : ∀ q ∈ lw_privs_8, lw_okq q := List.forall_mem_cons.mpr ⟨lw_p112, List.forall_mem_cons.mpr ⟨lw_p113, List.forall_mem_cons.mpr ⟨lw_p114, List.forall_mem_cons.mpr ⟨lw_p115, List.forall_mem_cons.mpr ⟨lw_p116, List.forall_mem_cons.mpr ⟨lw_p117, List.forall_mem_cons.mpr ⟨lw_p118, List.forall_mem_cons.mpr ⟨lw_p119, fun _ h => absurd h List.not_mem_nil⟩⟩⟩⟩⟩⟩⟩⟩
def lw_privs : List (MethodName × Nat) := lw_privs_1 ++ (lw_privs_2 ++ (lw_privs_3 ++ (lw_privs_4 ++ (lw_privs_5 ++ (lw_privs_6 ++ (lw_privs_7 ++ (lw_privs_8)))))))
def lw_tbl : List Cond := k2_sels lw_privs ++ tables_1
theorem lw_privs_ok : ∀ q ∈ lw_privs, lw_okq q := by
  show ∀ q ∈ lw_privs_1 ++ (lw_privs_2 ++ (lw_privs_3 ++ (lw_privs_4 ++ (lw_privs_5 ++ (lw_privs_6 ++ (lw_privs_7 ++ (lw_privs_8))))))), lw_okq q
  exact List.forall_mem_append.mpr ⟨lw_r1, List.forall_mem_append.mpr ⟨lw_r2, List.forall_mem_append.mpr ⟨lw_r3, List.forall_mem_append.mpr ⟨lw_r4, List.forall_mem_append.mpr ⟨lw_r5, List.forall_mem_append.mpr ⟨lw_r6, List.forall_mem_append.mpr ⟨lw_r7, lw_r8⟩⟩⟩⟩⟩⟩⟩
end
section
def RX0 : String := "EarCode$Inquiry"
def TX0 : u_T := fun k => match k with
  | 0 => ("EarCode$Inquiry", "law", "LEarCode$Law;", true)
  | 1 => ("EarCode$Inquiry", "world", "LEarCode$World;", true)
  | _ => ("EarCode$Inquiry", "others", "[I", true)
def tyX0 : Nat → FieldType := fun k => match k with
  | 0 => .object "EarCode$Law"
  | 1 => .object "EarCode$World"
  | _ => .array .int
theorem nmX0 : ∀ a, a < 3 → ∀ b, b < 3 → a ≠ b → (TX0 a).2.1 ≠ (TX0 b).2.1 := by decide +kernel
theorem tyX0_ok : ∀ k, k < 3 → parseFieldDescriptor (TX0 k).2.2.1 = some (tyX0 k) := by decide +kernel
def RX1 : String := "EarCode$Law"
def TX1 : u_T := fun k => match k with
  | 0 => ("EarCode$Law", "told", "Z", false)
  | 1 => ("EarCode$Law", "clauses", "I", false)
  | 2 => ("EarCode$Law", "always", "I", false)
  | 3 => ("EarCode$Law", "deeds", "[I", true)
  | 4 => ("EarCode$Law", "ends", "[I", true)
  | 5 => ("EarCode$Law", "steps", "[I", true)
  | 6 => ("EarCode$Law", "stepsSize", "I", false)
  | 7 => ("EarCode$Law", "terms", "[I", true)
  | _ => ("EarCode$Law", "termsSize", "I", false)
def tyX1 : Nat → FieldType := fun k => match k with
  | 0 => .boolean
  | 1 => .int
  | 2 => .int
  | 3 => .array .int
  | 4 => .array .int
  | 5 => .array .int
  | 6 => .int
  | 7 => .array .int
  | _ => .int
theorem nmX1 : ∀ a, a < 9 → ∀ b, b < 9 → a ≠ b → (TX1 a).2.1 ≠ (TX1 b).2.1 := by decide +kernel
theorem tyX1_ok : ∀ k, k < 9 → parseFieldDescriptor (TX1 k).2.2.1 = some (tyX1 k) := by decide +kernel
def RX2 : String := "EarCode$LawReader"
def TX2 : u_T := fun k => match k with
  | 0 => ("EarCode$LawReader", "text", "LEarCode$Text;", true)
  | _ => ("EarCode$LawReader", "law", "LEarCode$Law;", true)
def tyX2 : Nat → FieldType := fun k => match k with
  | 0 => .object "EarCode$Text"
  | _ => .object "EarCode$Law"
theorem nmX2 : ∀ a, a < 2 → ∀ b, b < 2 → a ≠ b → (TX2 a).2.1 ≠ (TX2 b).2.1 := by decide +kernel
theorem tyX2_ok : ∀ k, k < 2 → parseFieldDescriptor (TX2 k).2.2.1 = some (tyX2 k) := by decide +kernel
def RX3 : String := "EarCode$Log"
def TX3 : u_T := fun k => match k with
  | 0 => ("EarCode$Log", "rows", "[I", true)
  | 1 => ("EarCode$Log", "size", "I", false)
  | _ => ("EarCode$Log", "end", "I", false)
def tyX3 : Nat → FieldType := fun k => match k with
  | 0 => .array .int
  | 1 => .int
  | _ => .int
theorem nmX3 : ∀ a, a < 3 → ∀ b, b < 3 → a ≠ b → (TX3 a).2.1 ≠ (TX3 b).2.1 := by decide +kernel
theorem tyX3_ok : ∀ k, k < 3 → parseFieldDescriptor (TX3 k).2.2.1 = some (tyX3 k) := by decide +kernel
def RX4 : String := "EarCode$Memory"
def TX4 : u_T := fun k => match k with
  | 0 => ("EarCode$Memory", "worlds", "[LEarCode$World;", true)
  | 1 => ("EarCode$Memory", "end", "I", false)
  | _ => ("EarCode$Memory", "size", "I", false)
def tyX4 : Nat → FieldType := fun k => match k with
  | 0 => .array (.object "EarCode$World")
  | 1 => .int
  | _ => .int
theorem nmX4 : ∀ a, a < 3 → ∀ b, b < 3 → a ≠ b → (TX4 a).2.1 ≠ (TX4 b).2.1 := by decide +kernel
theorem tyX4_ok : ∀ k, k < 3 → parseFieldDescriptor (TX4 k).2.2.1 = some (tyX4 k) := by decide +kernel
def RX5 : String := "EarCode$Outlook"
def TX5 : u_T := fun k => match k with
  | 0 => ("EarCode$Outlook", "law", "LEarCode$Law;", true)
  | 1 => ("EarCode$Outlook", "world", "LEarCode$World;", true)
  | 2 => ("EarCode$Outlook", "forbidding", "[I", true)
  | 3 => ("EarCode$Outlook", "bestPair", "I", false)
  | _ => ("EarCode$Outlook", "bestLess", "I", false)
def tyX5 : Nat → FieldType := fun k => match k with
  | 0 => .object "EarCode$Law"
  | 1 => .object "EarCode$World"
  | 2 => .array .int
  | 3 => .int
  | _ => .int
theorem nmX5 : ∀ a, a < 5 → ∀ b, b < 5 → a ≠ b → (TX5 a).2.1 ≠ (TX5 b).2.1 := by decide +kernel
theorem tyX5_ok : ∀ k, k < 5 → parseFieldDescriptor (TX5 k).2.2.1 = some (tyX5 k) := by decide +kernel
def RX6 : String := "EarCode$Reading"
def TX6 : u_T := fun k => match k with
  | 0 => ("EarCode$Reading", "law", "LEarCode$Law;", true)
  | 1 => ("EarCode$Reading", "world", "LEarCode$World;", true)
  | 2 => ("EarCode$Reading", "needs", "[I", true)
  | 3 => ("EarCode$Reading", "needed", "I", false)
  | 4 => ("EarCode$Reading", "barred", "I", false)
  | 5 => ("EarCode$Reading", "marks", "[I", true)
  | 6 => ("EarCode$Reading", "codes", "I", false)
  | 7 => ("EarCode$Reading", "sure", "I", false)
  | _ => ("EarCode$Reading", "possible", "I", false)
def tyX6 : Nat → FieldType := fun k => match k with
  | 0 => .object "EarCode$Law"
  | 1 => .object "EarCode$World"
  | 2 => .array .int
  | 3 => .int
  | 4 => .int
  | 5 => .array .int
  | 6 => .int
  | 7 => .int
  | _ => .int
theorem nmX6 : ∀ a, a < 9 → ∀ b, b < 9 → a ≠ b → (TX6 a).2.1 ≠ (TX6 b).2.1 := by decide +kernel
theorem tyX6_ok : ∀ k, k < 9 → parseFieldDescriptor (TX6 k).2.2.1 = some (tyX6 k) := by decide +kernel
def RX7 : String := "EarCode$RepublicReader"
def TX7 : u_T := fun k => match k with
  | 0 => ("EarCode$RepublicReader", "text", "LEarCode$Text;", true)
  | 1 => ("EarCode$RepublicReader", "law", "LEarCode$Law;", true)
  | _ => ("EarCode$RepublicReader", "world", "LEarCode$World;", true)
def tyX7 : Nat → FieldType := fun k => match k with
  | 0 => .object "EarCode$Text"
  | 1 => .object "EarCode$Law"
  | _ => .object "EarCode$World"
theorem nmX7 : ∀ a, a < 3 → ∀ b, b < 3 → a ≠ b → (TX7 a).2.1 ≠ (TX7 b).2.1 := by decide +kernel
theorem tyX7_ok : ∀ k, k < 3 → parseFieldDescriptor (TX7 k).2.2.1 = some (tyX7 k) := by decide +kernel
def RX8 : String := "EarCode$Tape"
def TX8 : u_T := fun k => match k with
  | 0 => ("EarCode$Tape", "bytes", "[I", true)
  | _ => ("EarCode$Tape", "size", "I", false)
def tyX8 : Nat → FieldType := fun k => match k with
  | 0 => .array .int
  | _ => .int
theorem nmX8 : ∀ a, a < 2 → ∀ b, b < 2 → a ≠ b → (TX8 a).2.1 ≠ (TX8 b).2.1 := by decide +kernel
theorem tyX8_ok : ∀ k, k < 2 → parseFieldDescriptor (TX8 k).2.2.1 = some (tyX8 k) := by decide +kernel
def RX9 : String := "EarCode$Text"
def TX9 : u_T := fun k => match k with
  | 0 => ("EarCode$Text", "kinds", "[I", true)
  | 1 => ("EarCode$Text", "begins", "[I", true)
  | 2 => ("EarCode$Text", "sizes", "[I", true)
  | 3 => ("EarCode$Text", "values", "[I", true)
  | 4 => ("EarCode$Text", "things", "I", false)
  | _ => ("EarCode$Text", "at", "I", false)
def tyX9 : Nat → FieldType := fun k => match k with
  | 0 => .array .int
  | 1 => .array .int
  | 2 => .array .int
  | 3 => .array .int
  | 4 => .int
  | _ => .int
theorem nmX9 : ∀ a, a < 6 → ∀ b, b < 6 → a ≠ b → (TX9 a).2.1 ≠ (TX9 b).2.1 := by decide +kernel
theorem tyX9_ok : ∀ k, k < 6 → parseFieldDescriptor (TX9 k).2.2.1 = some (tyX9 k) := by decide +kernel
def RX10 : String := "EarCode$World"
def TX10 : u_T := fun k => match k with
  | 0 => ("EarCode$World", "citizens", "I", false)
  | 1 => ("EarCode$World", "living", "I", false)
  | 2 => ("EarCode$World", "knows", "[I", true)
  | 3 => ("EarCode$World", "fear", "[I", true)
  | 4 => ("EarCode$World", "taken", "[I", true)
  | 5 => ("EarCode$World", "spouse", "[I", true)
  | 6 => ("EarCode$World", "habits", "[I", true)
  | 7 => ("EarCode$World", "habitSize", "[I", true)
  | 8 => ("EarCode$World", "habitNext", "[I", true)
  | 9 => ("EarCode$World", "seen", "[J", true)
  | 10 => ("EarCode$World", "harm", "[I", true)
  | 11 => ("EarCode$World", "watch", "I", false)
  | 12 => ("EarCode$World", "term", "I", false)
  | 13 => ("EarCode$World", "day", "I", false)
  | 14 => ("EarCode$World", "seed", "I", false)
  | 15 => ("EarCode$World", "texts", "I", false)
  | 16 => ("EarCode$World", "arrests", "I", false)
  | 17 => ("EarCode$World", "harmDone", "I", false)
  | 18 => ("EarCode$World", "kept", "I", false)
  | _ => ("EarCode$World", "log", "LEarCode$Log;", true)
def tyX10 : Nat → FieldType := fun k => match k with
  | 0 => .int
  | 1 => .int
  | 2 => .array .int
  | 3 => .array .int
  | 4 => .array .int
  | 5 => .array .int
  | 6 => .array .int
  | 7 => .array .int
  | 8 => .array .int
  | 9 => .array .long
  | 10 => .array .int
  | 11 => .int
  | 12 => .int
  | 13 => .int
  | 14 => .int
  | 15 => .int
  | 16 => .int
  | 17 => .int
  | 18 => .int
  | _ => .object "EarCode$Log"
theorem nmX10 : ∀ a, a < 20 → ∀ b, b < 20 → a ≠ b → (TX10 a).2.1 ≠ (TX10 b).2.1 := by decide +kernel
theorem tyX10_ok : ∀ k, k < 20 → parseFieldDescriptor (TX10 k).2.2.1 = some (tyX10 k) := by decide +kernel
def RX11 : String := "EarCode"
def TX11 : u_T := fun k => match k with
  | 0 => ("EarCode", "tape", "LEarCode$Tape;", true)
  | 1 => ("EarCode", "text", "LEarCode$Text;", true)
  | 2 => ("EarCode", "law", "LEarCode$Law;", true)
  | 3 => ("EarCode", "newLaw", "LEarCode$Law;", true)
  | 4 => ("EarCode", "world", "LEarCode$World;", true)
  | 5 => ("EarCode", "tryout", "LEarCode$World;", true)
  | 6 => ("EarCode", "lawReader", "LEarCode$LawReader;", true)
  | 7 => ("EarCode", "republicReader", "LEarCode$RepublicReader;", true)
  | 8 => ("EarCode", "memory", "LEarCode$Memory;", true)
  | 9 => ("EarCode", "reading", "LEarCode$Reading;", true)
  | 10 => ("EarCode", "outlook", "LEarCode$Outlook;", true)
  | 11 => ("EarCode", "inquiry", "LEarCode$Inquiry;", true)
  | 12 => ("EarCode", "imageLaw", "LEarCode$Law;", true)
  | 13 => ("EarCode", "imageWorld", "LEarCode$World;", true)
  | 14 => ("EarCode", "imaged", "Z", false)
  | _ => ("EarCode", "faultAt", "I", false)
def tyX11 : Nat → FieldType := fun k => match k with
  | 0 => .object "EarCode$Tape"
  | 1 => .object "EarCode$Text"
  | 2 => .object "EarCode$Law"
  | 3 => .object "EarCode$Law"
  | 4 => .object "EarCode$World"
  | 5 => .object "EarCode$World"
  | 6 => .object "EarCode$LawReader"
  | 7 => .object "EarCode$RepublicReader"
  | 8 => .object "EarCode$Memory"
  | 9 => .object "EarCode$Reading"
  | 10 => .object "EarCode$Outlook"
  | 11 => .object "EarCode$Inquiry"
  | 12 => .object "EarCode$Law"
  | 13 => .object "EarCode$World"
  | 14 => .boolean
  | _ => .int
theorem nmX11 : ∀ a, a < 16 → ∀ b, b < 16 → a ≠ b → (TX11 a).2.1 ≠ (TX11 b).2.1 := by decide +kernel
theorem tyX11_ok : ∀ k, k < 16 → parseFieldDescriptor (TX11 k).2.2.1 = some (tyX11 k) := by decide +kernel
def RX12 : String := "EarCodeModel"
def TX12 : u_T := fun k => match k with
  | 0 => ("EarCodeModel", "thrown", "I", false)
  | 1 => ("EarCodeModel", "world", "[I", true)
  | 2 => ("EarCodeModel", "image", "[I", true)
  | 3 => ("EarCodeModel", "before", "[I", true)
  | 4 => ("EarCodeModel", "trial", "[I", true)
  | 5 => ("EarCodeModel", "acts", "[I", true)
  | 6 => ("EarCodeModel", "seen", "[J", true)
  | 7 => ("EarCodeModel", "imageSeen", "[J", true)
  | 8 => ("EarCodeModel", "beforeSeen", "[J", true)
  | 9 => ("EarCodeModel", "trialSeen", "[J", true)
  | 10 => ("EarCodeModel", "actsSeen", "[J", true)
  | 11 => ("EarCodeModel", "hasImage", "Z", false)
  | 12 => ("EarCodeModel", "remembered", "I", false)
  | 13 => ("EarCodeModel", "clauses", "[I", true)
  | 14 => ("EarCodeModel", "told", "[I", true)
  | 15 => ("EarCodeModel", "clauseCount", "I", false)
  | 16 => ("EarCodeModel", "imageCount", "I", false)
  | 17 => ("EarCodeModel", "tape", "[B", true)
  | 18 => ("EarCodeModel", "taped", "I", false)
  | 19 => ("EarCodeModel", "point", "I", false)
  | 20 => ("EarCodeModel", "end", "I", false)
  | 21 => ("EarCodeModel", "begin", "I", false)
  | 22 => ("EarCodeModel", "deep", "I", false)
  | 23 => ("EarCodeModel", "faultAt", "I", false)
  | 24 => ("EarCodeModel", "five", "[I", true)
  | 25 => ("EarCodeModel", "steps", "I", false)
  | 26 => ("EarCodeModel", "hadClauses", "[I", true)
  | 27 => ("EarCodeModel", "hadTold", "[I", true)
  | 28 => ("EarCodeModel", "value", "[I", true)
  | 29 => ("EarCodeModel", "free", "I", false)
  | 30 => ("EarCodeModel", "done", "I", false)
  | 31 => ("EarCodeModel", "against", "[I", true)
  | 32 => ("EarCodeModel", "byWhom", "[I", true)
  | 33 => ("EarCodeModel", "codesBy", "[I", true)
  | 34 => ("EarCodeModel", "forbids", "[I", true)
  | 35 => ("EarCodeModel", "usuals", "[I", true)
  | 36 => ("EarCodeModel", "fears", "[J", true)
  | _ => ("EarCodeModel", "fearsThen", "[J", true)
def tyX12 : Nat → FieldType := fun k => match k with
  | 0 => .int
  | 1 => .array .int
  | 2 => .array .int
  | 3 => .array .int
  | 4 => .array .int
  | 5 => .array .int
  | 6 => .array .long
  | 7 => .array .long
  | 8 => .array .long
  | 9 => .array .long
  | 10 => .array .long
  | 11 => .boolean
  | 12 => .int
  | 13 => .array .int
  | 14 => .array .int
  | 15 => .int
  | 16 => .int
  | 17 => .array .byte
  | 18 => .int
  | 19 => .int
  | 20 => .int
  | 21 => .int
  | 22 => .int
  | 23 => .int
  | 24 => .array .int
  | 25 => .int
  | 26 => .array .int
  | 27 => .array .int
  | 28 => .array .int
  | 29 => .int
  | 30 => .int
  | 31 => .array .int
  | 32 => .array .int
  | 33 => .array .int
  | 34 => .array .int
  | 35 => .array .int
  | 36 => .array .long
  | _ => .array .long
theorem nmX12 : ∀ a, a < 38 → ∀ b, b < 38 → a ≠ b → (TX12 a).2.1 ≠ (TX12 b).2.1 := by decide +kernel
theorem tyX12_ok : ∀ k, k < 38 → parseFieldDescriptor (TX12 k).2.2.1 = some (tyX12 k) := by decide +kernel
def tb_cl : List vw_C := [(RX0, TX0, 3), (RX1, TX1, 9), (RX2, TX2, 2), (RX3, TX3, 3), (RX4, TX4, 3), (RX5, TX5, 5), (RX6, TX6, 9), (RX7, TX7, 3), (RX8, TX8, 2), (RX9, TX9, 6), (RX10, TX10, 20), (RX11, TX11, 16), (RX12, TX12, 38)]
/-- the kinds of the fields -/
def tb_ft : List (List Nat) := [[3, 3, 3], [2, 0, 0, 3, 3, 3, 0, 3, 0], [3, 3], [3, 0, 0], [3, 0, 0], [3, 3, 3, 0, 0], [3, 3, 3, 0, 0, 3, 0, 0, 0], [3, 3, 3], [3, 0], [3, 3, 3, 3, 0, 0], [0, 0, 3, 3, 3, 3, 3, 3, 3, 3, 3, 0, 0, 0, 0, 0, 0, 0, 0, 3], [3, 3, 3, 3, 3, 3, 3, 3, 3, 3, 3, 3, 3, 3, 2, 0], [0, 3, 3, 3, 3, 3, 3, 3, 3, 3, 3, 2, 0, 3, 3, 0, 0, 3, 0, 0, 0, 0, 0, 0, 3, 0, 3, 3, 3, 0, 0, 3, 3, 3, 3, 3, 3, 3]]
end
