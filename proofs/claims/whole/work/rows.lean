section
-- ===== PART A: goes FIRST, ahead of the names: the tables' words, and 'selects' of the private methods out of them =====
/-- a private method of a class that the tables say can be made, by its rows of tables_1 -/
def lw_okq (q : MethodName × Nat) : Prop := (q.1.cls ≠ "java/lang/invoke/MethodHandle" ∧ q.1.cls ≠ "java/lang/invoke/VarHandle") ∧ Cond.instantiable q.1.cls q.2 ∈ tables_1 ∧ Cond.privateMethod q.1 ∈ tables_1 ∧ Cond.instanceMethod q.1 ∈ tables_1
theorem lw_p0 : lw_okq (⟨"KeyPath$TextReader", "next", "()I"⟩, 10) := ⟨⟨by decide +kernel, by decide +kernel⟩, List.mem_of_getElem? (i := 27) (by decide +kernel), List.mem_of_getElem? (i := 382) (by decide +kernel), List.mem_of_getElem? (i := 383) (by decide +kernel)⟩
theorem lw_p1 : lw_okq (⟨"KeyPath$TextReader", "readPart", "()V"⟩, 10) := ⟨⟨by decide +kernel, by decide +kernel⟩, List.mem_of_getElem? (i := 27) (by decide +kernel), List.mem_of_getElem? (i := 386) (by decide +kernel), List.mem_of_getElem? (i := 387) (by decide +kernel)⟩
theorem lw_p2 : lw_okq (⟨"KeyPath$TextReader", "readLength", "()V"⟩, 10) := ⟨⟨by decide +kernel, by decide +kernel⟩, List.mem_of_getElem? (i := 27) (by decide +kernel), List.mem_of_getElem? (i := 390) (by decide +kernel), List.mem_of_getElem? (i := 391) (by decide +kernel)⟩
theorem lw_p3 : lw_okq (⟨"KeyPath$TextReader", "fail", "(II)V"⟩, 10) := ⟨⟨by decide +kernel, by decide +kernel⟩, List.mem_of_getElem? (i := 27) (by decide +kernel), List.mem_of_getElem? (i := 394) (by decide +kernel), List.mem_of_getElem? (i := 395) (by decide +kernel)⟩
theorem lw_p4 : lw_okq (⟨"KeyPath$TextReader", "readNumber", "()I"⟩, 10) := ⟨⟨by decide +kernel, by decide +kernel⟩, List.mem_of_getElem? (i := 27) (by decide +kernel), List.mem_of_getElem? (i := 401) (by decide +kernel), List.mem_of_getElem? (i := 402) (by decide +kernel)⟩
theorem lw_p5 : lw_okq (⟨"KeyPath$TextReader", "soundNamed", "(I)V"⟩, 10) := ⟨⟨by decide +kernel, by decide +kernel⟩, List.mem_of_getElem? (i := 27) (by decide +kernel), List.mem_of_getElem? (i := 408) (by decide +kernel), List.mem_of_getElem? (i := 409) (by decide +kernel)⟩
theorem lw_p6 : lw_okq (⟨"KeyPath$Notes", "isBehind", "(IIII)Z"⟩, 4) := ⟨⟨by decide +kernel, by decide +kernel⟩, List.mem_of_getElem? (i := 33) (by decide +kernel), List.mem_of_getElem? (i := 416) (by decide +kernel), List.mem_of_getElem? (i := 417) (by decide +kernel)⟩
theorem lw_p7 : lw_okq (⟨"KeyPath$TextReader", "readNames", "()V"⟩, 10) := ⟨⟨by decide +kernel, by decide +kernel⟩, List.mem_of_getElem? (i := 27) (by decide +kernel), List.mem_of_getElem? (i := 427) (by decide +kernel), List.mem_of_getElem? (i := 428) (by decide +kernel)⟩
theorem lw_p8 : lw_okq (⟨"KeyPath$TextReader", "readName", "()V"⟩, 10) := ⟨⟨by decide +kernel, by decide +kernel⟩, List.mem_of_getElem? (i := 27) (by decide +kernel), List.mem_of_getElem? (i := 431) (by decide +kernel), List.mem_of_getElem? (i := 432) (by decide +kernel)⟩
theorem lw_p9 : lw_okq (⟨"KeyPath$TextReader", "readAccidental", "()I"⟩, 10) := ⟨⟨by decide +kernel, by decide +kernel⟩, List.mem_of_getElem? (i := 27) (by decide +kernel), List.mem_of_getElem? (i := 440) (by decide +kernel), List.mem_of_getElem? (i := 441) (by decide +kernel)⟩
theorem lw_p10 : lw_okq (⟨"KeyPath$TextReader", "isNamed", "(I)Z"⟩, 10) := ⟨⟨by decide +kernel, by decide +kernel⟩, List.mem_of_getElem? (i := 27) (by decide +kernel), List.mem_of_getElem? (i := 444) (by decide +kernel), List.mem_of_getElem? (i := 445) (by decide +kernel)⟩
theorem lw_p11 : lw_okq (⟨"KeyPath", "notesChanged", "()V"⟩, 8) := ⟨⟨by decide +kernel, by decide +kernel⟩, List.mem_of_getElem? (i := 19) (by decide +kernel), List.mem_of_getElem? (i := 456) (by decide +kernel), List.mem_of_getElem? (i := 457) (by decide +kernel)⟩
theorem lw_p12 : lw_okq (⟨"KeyPath", "weightsChanged", "()V"⟩, 8) := ⟨⟨by decide +kernel, by decide +kernel⟩, List.mem_of_getElem? (i := 19) (by decide +kernel), List.mem_of_getElem? (i := 460) (by decide +kernel), List.mem_of_getElem? (i := 461) (by decide +kernel)⟩
theorem lw_p13 : lw_okq (⟨"KeyPath", "pathChanged", "()V"⟩, 8) := ⟨⟨by decide +kernel, by decide +kernel⟩, List.mem_of_getElem? (i := 19) (by decide +kernel), List.mem_of_getElem? (i := 464) (by decide +kernel), List.mem_of_getElem? (i := 465) (by decide +kernel)⟩
theorem lw_p14 : lw_okq (⟨"KeyPath$History", "forgetOldest", "()V"⟩, 6) := ⟨⟨by decide +kernel, by decide +kernel⟩, List.mem_of_getElem? (i := 99) (by decide +kernel), List.mem_of_getElem? (i := 485) (by decide +kernel), List.mem_of_getElem? (i := 486) (by decide +kernel)⟩
theorem lw_p15 : lw_okq (⟨"KeyPath", "freshWindows", "()V"⟩, 8) := ⟨⟨by decide +kernel, by decide +kernel⟩, List.mem_of_getElem? (i := 19) (by decide +kernel), List.mem_of_getElem? (i := 541) (by decide +kernel), List.mem_of_getElem? (i := 542) (by decide +kernel)⟩
def lw_privs_1 : List (MethodName × Nat) := [(⟨"KeyPath$TextReader", "next", "()I"⟩, 10), (⟨"KeyPath$TextReader", "readPart", "()V"⟩, 10), (⟨"KeyPath$TextReader", "readLength", "()V"⟩, 10), (⟨"KeyPath$TextReader", "fail", "(II)V"⟩, 10), (⟨"KeyPath$TextReader", "readNumber", "()I"⟩, 10), (⟨"KeyPath$TextReader", "soundNamed", "(I)V"⟩, 10), (⟨"KeyPath$Notes", "isBehind", "(IIII)Z"⟩, 4), (⟨"KeyPath$TextReader", "readNames", "()V"⟩, 10), (⟨"KeyPath$TextReader", "readName", "()V"⟩, 10), (⟨"KeyPath$TextReader", "readAccidental", "()I"⟩, 10), (⟨"KeyPath$TextReader", "isNamed", "(I)Z"⟩, 10), (⟨"KeyPath", "notesChanged", "()V"⟩, 8), (⟨"KeyPath", "weightsChanged", "()V"⟩, 8), (⟨"KeyPath", "pathChanged", "()V"⟩, 8), (⟨"KeyPath$History", "forgetOldest", "()V"⟩, 6), (⟨"KeyPath", "freshWindows", "()V"⟩, 8)]
theorem lw_r1 : ∀ q ∈ lw_privs_1, lw_okq q := List.forall_mem_cons.mpr ⟨lw_p0, List.forall_mem_cons.mpr ⟨lw_p1, List.forall_mem_cons.mpr ⟨lw_p2, List.forall_mem_cons.mpr ⟨lw_p3, List.forall_mem_cons.mpr ⟨lw_p4, List.forall_mem_cons.mpr ⟨lw_p5, List.forall_mem_cons.mpr ⟨lw_p6, List.forall_mem_cons.mpr ⟨lw_p7, List.forall_mem_cons.mpr ⟨lw_p8, List.forall_mem_cons.mpr ⟨lw_p9, List.forall_mem_cons.mpr ⟨lw_p10, List.forall_mem_cons.mpr ⟨lw_p11, List.forall_mem_cons.mpr ⟨lw_p12, List.forall_mem_cons.mpr ⟨lw_p13, List.forall_mem_cons.mpr ⟨lw_p14, List.forall_mem_cons.mpr ⟨lw_p15, fun _ h => absurd h List.not_mem_nil⟩⟩⟩⟩⟩⟩⟩⟩⟩⟩⟩⟩⟩⟩⟩⟩
theorem lw_p16 : lw_okq (⟨"KeyPath$Windows", "countSpan", "(LKeyPath$Notes;III)V"⟩, 7) := ⟨⟨by decide +kernel, by decide +kernel⟩, List.mem_of_getElem? (i := 125) (by decide +kernel), List.mem_of_getElem? (i := 552) (by decide +kernel), List.mem_of_getElem? (i := 553) (by decide +kernel)⟩
theorem lw_p17 : lw_okq (⟨"KeyPath$Windows", "fullestTriad", "(I)I"⟩, 7) := ⟨⟨by decide +kernel, by decide +kernel⟩, List.mem_of_getElem? (i := 125) (by decide +kernel), List.mem_of_getElem? (i := 563) (by decide +kernel), List.mem_of_getElem? (i := 564) (by decide +kernel)⟩
theorem lw_p18 : lw_okq (⟨"KeyPath", "noWindow", "(I)Z"⟩, 8) := ⟨⟨by decide +kernel, by decide +kernel⟩, List.mem_of_getElem? (i := 19) (by decide +kernel), List.mem_of_getElem? (i := 599) (by decide +kernel), List.mem_of_getElem? (i := 600) (by decide +kernel)⟩
theorem lw_p19 : lw_okq (⟨"KeyPath", "freshFits", "()V"⟩, 8) := ⟨⟨by decide +kernel, by decide +kernel⟩, List.mem_of_getElem? (i := 19) (by decide +kernel), List.mem_of_getElem? (i := 621) (by decide +kernel), List.mem_of_getElem? (i := 622) (by decide +kernel)⟩
theorem lw_p20 : lw_okq (⟨"KeyPath$Profiles", "judgeRow", "(LKeyPath$Windows;I)V"⟩, 4) := ⟨⟨by decide +kernel, by decide +kernel⟩, List.mem_of_getElem? (i := 165) (by decide +kernel), List.mem_of_getElem? (i := 629) (by decide +kernel), List.mem_of_getElem? (i := 630) (by decide +kernel)⟩
theorem lw_p21 : lw_okq (⟨"KeyPath$Profiles", "betterThan", "(II)I"⟩, 4) := ⟨⟨by decide +kernel, by decide +kernel⟩, List.mem_of_getElem? (i := 165) (by decide +kernel), List.mem_of_getElem? (i := 643) (by decide +kernel), List.mem_of_getElem? (i := 644) (by decide +kernel)⟩
theorem lw_p22 : lw_okq (⟨"KeyPath$Net", "reachFrom", "(I)V"⟩, 8) := ⟨⟨by decide +kernel, by decide +kernel⟩, List.mem_of_getElem? (i := 198) (by decide +kernel), List.mem_of_getElem? (i := 663) (by decide +kernel), List.mem_of_getElem? (i := 664) (by decide +kernel)⟩
theorem lw_p23 : lw_okq (⟨"KeyPath$Net", "rankOfStep", "(I)I"⟩, 8) := ⟨⟨by decide +kernel, by decide +kernel⟩, List.mem_of_getElem? (i := 198) (by decide +kernel), List.mem_of_getElem? (i := 676) (by decide +kernel), List.mem_of_getElem? (i := 677) (by decide +kernel)⟩
theorem lw_p24 : lw_okq (⟨"KeyPath$Net", "copyRow", "(II)V"⟩, 8) := ⟨⟨by decide +kernel, by decide +kernel⟩, List.mem_of_getElem? (i := 198) (by decide +kernel), List.mem_of_getElem? (i := 680) (by decide +kernel), List.mem_of_getElem? (i := 681) (by decide +kernel)⟩
theorem lw_p25 : lw_okq (⟨"KeyPath$Net", "nextOnWay", "(II)I"⟩, 8) := ⟨⟨by decide +kernel, by decide +kernel⟩, List.mem_of_getElem? (i := 198) (by decide +kernel), List.mem_of_getElem? (i := 692) (by decide +kernel), List.mem_of_getElem? (i := 693) (by decide +kernel)⟩
theorem lw_p26 : lw_okq (⟨"KeyPath", "noPath", "()Z"⟩, 8) := ⟨⟨by decide +kernel, by decide +kernel⟩, List.mem_of_getElem? (i := 19) (by decide +kernel), List.mem_of_getElem? (i := 701) (by decide +kernel), List.mem_of_getElem? (i := 702) (by decide +kernel)⟩
theorem lw_p27 : lw_okq (⟨"KeyPath$PathFinder", "lookBehind", "(II)V"⟩, 16) := ⟨⟨by decide +kernel, by decide +kernel⟩, List.mem_of_getElem? (i := 237) (by decide +kernel), List.mem_of_getElem? (i := 714) (by decide +kernel), List.mem_of_getElem? (i := 715) (by decide +kernel)⟩
theorem lw_p28 : lw_okq (⟨"KeyPath$PathFinder", "findLeast", "()V"⟩, 16) := ⟨⟨by decide +kernel, by decide +kernel⟩, List.mem_of_getElem? (i := 237) (by decide +kernel), List.mem_of_getElem? (i := 725) (by decide +kernel), List.mem_of_getElem? (i := 726) (by decide +kernel)⟩
theorem lw_p29 : lw_okq (⟨"KeyPath$PathFinder", "follow", "()V"⟩, 16) := ⟨⟨by decide +kernel, by decide +kernel⟩, List.mem_of_getElem? (i := 237) (by decide +kernel), List.mem_of_getElem? (i := 729) (by decide +kernel), List.mem_of_getElem? (i := 730) (by decide +kernel)⟩
theorem lw_p30 : lw_okq (⟨"KeyPath$PathFinder", "firstKey", "()I"⟩, 16) := ⟨⟨by decide +kernel, by decide +kernel⟩, List.mem_of_getElem? (i := 237) (by decide +kernel), List.mem_of_getElem? (i := 733) (by decide +kernel), List.mem_of_getElem? (i := 734) (by decide +kernel)⟩
theorem lw_p31 : lw_okq (⟨"KeyPath$PathFinder", "nextKey", "(I)I"⟩, 16) := ⟨⟨by decide +kernel, by decide +kernel⟩, List.mem_of_getElem? (i := 237) (by decide +kernel), List.mem_of_getElem? (i := 737) (by decide +kernel), List.mem_of_getElem? (i := 738) (by decide +kernel)⟩
def lw_privs_2 : List (MethodName × Nat) := [(⟨"KeyPath$Windows", "countSpan", "(LKeyPath$Notes;III)V"⟩, 7), (⟨"KeyPath$Windows", "fullestTriad", "(I)I"⟩, 7), (⟨"KeyPath", "noWindow", "(I)Z"⟩, 8), (⟨"KeyPath", "freshFits", "()V"⟩, 8), (⟨"KeyPath$Profiles", "judgeRow", "(LKeyPath$Windows;I)V"⟩, 4), (⟨"KeyPath$Profiles", "betterThan", "(II)I"⟩, 4), (⟨"KeyPath$Net", "reachFrom", "(I)V"⟩, 8), (⟨"KeyPath$Net", "rankOfStep", "(I)I"⟩, 8), (⟨"KeyPath$Net", "copyRow", "(II)V"⟩, 8), (⟨"KeyPath$Net", "nextOnWay", "(II)I"⟩, 8), (⟨"KeyPath", "noPath", "()Z"⟩, 8), (⟨"KeyPath$PathFinder", "lookBehind", "(II)V"⟩, 16), (⟨"KeyPath$PathFinder", "findLeast", "()V"⟩, 16), (⟨"KeyPath$PathFinder", "follow", "()V"⟩, 16), (⟨"KeyPath$PathFinder", "firstKey", "()I"⟩, 16), (⟨"KeyPath$PathFinder", "nextKey", "(I)I"⟩, 16)]
theorem lw_r2 : ∀ q ∈ lw_privs_2, lw_okq q := List.forall_mem_cons.mpr ⟨lw_p16, List.forall_mem_cons.mpr ⟨lw_p17, List.forall_mem_cons.mpr ⟨lw_p18, List.forall_mem_cons.mpr ⟨lw_p19, List.forall_mem_cons.mpr ⟨lw_p20, List.forall_mem_cons.mpr ⟨lw_p21, List.forall_mem_cons.mpr ⟨lw_p22, List.forall_mem_cons.mpr ⟨lw_p23, List.forall_mem_cons.mpr ⟨lw_p24, List.forall_mem_cons.mpr ⟨lw_p25, List.forall_mem_cons.mpr ⟨lw_p26, List.forall_mem_cons.mpr ⟨lw_p27, List.forall_mem_cons.mpr ⟨lw_p28, List.forall_mem_cons.mpr ⟨lw_p29, List.forall_mem_cons.mpr ⟨lw_p30, List.forall_mem_cons.mpr ⟨lw_p31, fun _ h => absurd h List.not_mem_nil⟩⟩⟩⟩⟩⟩⟩⟩⟩⟩⟩⟩⟩⟩⟩⟩
theorem lw_p32 : lw_okq (⟨"KeyPath$PathFinder", "splitSegments", "()V"⟩, 16) := ⟨⟨by decide +kernel, by decide +kernel⟩, List.mem_of_getElem? (i := 237) (by decide +kernel), List.mem_of_getElem? (i := 741) (by decide +kernel), List.mem_of_getElem? (i := 742) (by decide +kernel)⟩
theorem lw_p33 : lw_okq (⟨"KeyPath$Detours", "goOn", "(LKeyPath$PathFinder;II)V"⟩, 6) := ⟨⟨by decide +kernel, by decide +kernel⟩, List.mem_of_getElem? (i := 312) (by decide +kernel), List.mem_of_getElem? (i := 809) (by decide +kernel), List.mem_of_getElem? (i := 810) (by decide +kernel)⟩
theorem lw_p34 : lw_okq (⟨"KeyPath$Detours", "settle", "(LKeyPath$PathFinder;III)I"⟩, 6) := ⟨⟨by decide +kernel, by decide +kernel⟩, List.mem_of_getElem? (i := 312) (by decide +kernel), List.mem_of_getElem? (i := 824) (by decide +kernel), List.mem_of_getElem? (i := 825) (by decide +kernel)⟩
theorem lw_p35 : lw_okq (⟨"KeyPath$PathFinder", "searchFirm", "(LKeyPath$Net;)I"⟩, 16) := ⟨⟨by decide +kernel, by decide +kernel⟩, List.mem_of_getElem? (i := 237) (by decide +kernel), List.mem_of_getElem? (i := 836) (by decide +kernel), List.mem_of_getElem? (i := 837) (by decide +kernel)⟩
theorem lw_p36 : lw_okq (⟨"KeyPath$PathFinder", "isFirm", "(LKeyPath$Net;I)Z"⟩, 16) := ⟨⟨by decide +kernel, by decide +kernel⟩, List.mem_of_getElem? (i := 237) (by decide +kernel), List.mem_of_getElem? (i := 840) (by decide +kernel), List.mem_of_getElem? (i := 841) (by decide +kernel)⟩
theorem lw_p37 : lw_okq (⟨"KeyPath", "romanOf", "(I)I"⟩, 8) := ⟨⟨by decide +kernel, by decide +kernel⟩, List.mem_of_getElem? (i := 19) (by decide +kernel), List.mem_of_getElem? (i := 887) (by decide +kernel), List.mem_of_getElem? (i := 888) (by decide +kernel)⟩
theorem lw_p38 : lw_okq (⟨"KeyPathModel", "peek", "()I"⟩, 42) := ⟨⟨by decide +kernel, by decide +kernel⟩, List.mem_of_getElem? (i := 982) (by decide +kernel), List.mem_of_getElem? (i := 1126) (by decide +kernel), List.mem_of_getElem? (i := 1127) (by decide +kernel)⟩
theorem lw_p39 : lw_okq (⟨"KeyPathModel", "readOne", "()V"⟩, 42) := ⟨⟨by decide +kernel, by decide +kernel⟩, List.mem_of_getElem? (i := 982) (by decide +kernel), List.mem_of_getElem? (i := 1130) (by decide +kernel), List.mem_of_getElem? (i := 1131) (by decide +kernel)⟩
theorem lw_p40 : lw_okq (⟨"KeyPathModel", "nameRead", "(I)V"⟩, 42) := ⟨⟨by decide +kernel, by decide +kernel⟩, List.mem_of_getElem? (i := 982) (by decide +kernel), List.mem_of_getElem? (i := 1134) (by decide +kernel), List.mem_of_getElem? (i := 1135) (by decide +kernel)⟩
theorem lw_p41 : lw_okq (⟨"KeyPathModel", "isLetter", "()Z"⟩, 42) := ⟨⟨by decide +kernel, by decide +kernel⟩, List.mem_of_getElem? (i := 982) (by decide +kernel), List.mem_of_getElem? (i := 1138) (by decide +kernel), List.mem_of_getElem? (i := 1139) (by decide +kernel)⟩
theorem lw_p42 : lw_okq (⟨"KeyPathModel", "fails", "(II)V"⟩, 42) := ⟨⟨by decide +kernel, by decide +kernel⟩, List.mem_of_getElem? (i := 982) (by decide +kernel), List.mem_of_getElem? (i := 1144) (by decide +kernel), List.mem_of_getElem? (i := 1145) (by decide +kernel)⟩
theorem lw_p43 : lw_okq (⟨"KeyPathModel", "must", "(I)V"⟩, 42) := ⟨⟨by decide +kernel, by decide +kernel⟩, List.mem_of_getElem? (i := 982) (by decide +kernel), List.mem_of_getElem? (i := 1154) (by decide +kernel), List.mem_of_getElem? (i := 1155) (by decide +kernel)⟩
theorem lw_p44 : lw_okq (⟨"KeyPathModel", "lengthRead", "()I"⟩, 42) := ⟨⟨by decide +kernel, by decide +kernel⟩, List.mem_of_getElem? (i := 982) (by decide +kernel), List.mem_of_getElem? (i := 1158) (by decide +kernel), List.mem_of_getElem? (i := 1159) (by decide +kernel)⟩
theorem lw_p45 : lw_okq (⟨"KeyPathModel", "comes", "(III)I"⟩, 42) := ⟨⟨by decide +kernel, by decide +kernel⟩, List.mem_of_getElem? (i := 982) (by decide +kernel), List.mem_of_getElem? (i := 1163) (by decide +kernel), List.mem_of_getElem? (i := 1164) (by decide +kernel)⟩
theorem lw_p46 : lw_okq (⟨"KeyPathModel", "notesAct", "()V"⟩, 42) := ⟨⟨by decide +kernel, by decide +kernel⟩, List.mem_of_getElem? (i := 982) (by decide +kernel), List.mem_of_getElem? (i := 1176) (by decide +kernel), List.mem_of_getElem? (i := 1177) (by decide +kernel)⟩
theorem lw_p47 : lw_okq (⟨"KeyPathModel", "isNote", "(I)Z"⟩, 42) := ⟨⟨by decide +kernel, by decide +kernel⟩, List.mem_of_getElem? (i := 982) (by decide +kernel), List.mem_of_getElem? (i := 1184) (by decide +kernel), List.mem_of_getElem? (i := 1185) (by decide +kernel)⟩
def lw_privs_3 : List (MethodName × Nat) := [(⟨"KeyPath$PathFinder", "splitSegments", "()V"⟩, 16), (⟨"KeyPath$Detours", "goOn", "(LKeyPath$PathFinder;II)V"⟩, 6), (⟨"KeyPath$Detours", "settle", "(LKeyPath$PathFinder;III)I"⟩, 6), (⟨"KeyPath$PathFinder", "searchFirm", "(LKeyPath$Net;)I"⟩, 16), (⟨"KeyPath$PathFinder", "isFirm", "(LKeyPath$Net;I)Z"⟩, 16), (⟨"KeyPath", "romanOf", "(I)I"⟩, 8), (⟨"KeyPathModel", "peek", "()I"⟩, 42), (⟨"KeyPathModel", "readOne", "()V"⟩, 42), (⟨"KeyPathModel", "nameRead", "(I)V"⟩, 42), (⟨"KeyPathModel", "isLetter", "()Z"⟩, 42), (⟨"KeyPathModel", "fails", "(II)V"⟩, 42), (⟨"KeyPathModel", "must", "(I)V"⟩, 42), (⟨"KeyPathModel", "lengthRead", "()I"⟩, 42), (⟨"KeyPathModel", "comes", "(III)I"⟩, 42), (⟨"KeyPathModel", "notesAct", "()V"⟩, 42), (⟨"KeyPathModel", "isNote", "(I)Z"⟩, 42)]
theorem lw_r3 : ∀ q ∈ lw_privs_3, lw_okq q := List.forall_mem_cons.mpr ⟨lw_p32, List.forall_mem_cons.mpr ⟨lw_p33, List.forall_mem_cons.mpr ⟨lw_p34, List.forall_mem_cons.mpr ⟨lw_p35, List.forall_mem_cons.mpr ⟨lw_p36, List.forall_mem_cons.mpr ⟨lw_p37, List.forall_mem_cons.mpr ⟨lw_p38, List.forall_mem_cons.mpr ⟨lw_p39, List.forall_mem_cons.mpr ⟨lw_p40, List.forall_mem_cons.mpr ⟨lw_p41, List.forall_mem_cons.mpr ⟨lw_p42, List.forall_mem_cons.mpr ⟨lw_p43, List.forall_mem_cons.mpr ⟨lw_p44, List.forall_mem_cons.mpr ⟨lw_p45, List.forall_mem_cons.mpr ⟨lw_p46, List.forall_mem_cons.mpr ⟨lw_p47, fun _ h => absurd h List.not_mem_nil⟩⟩⟩⟩⟩⟩⟩⟩⟩⟩⟩⟩⟩⟩⟩⟩
theorem lw_p48 : lw_okq (⟨"KeyPathModel", "windowsBy", "(I)I"⟩, 42) := ⟨⟨by decide +kernel, by decide +kernel⟩, List.mem_of_getElem? (i := 982) (by decide +kernel), List.mem_of_getElem? (i := 1208) (by decide +kernel), List.mem_of_getElem? (i := 1209) (by decide +kernel)⟩
theorem lw_p49 : lw_okq (⟨"KeyPathModel", "theEnd", "()I"⟩, 42) := ⟨⟨by decide +kernel, by decide +kernel⟩, List.mem_of_getElem? (i := 982) (by decide +kernel), List.mem_of_getElem? (i := 1212) (by decide +kernel), List.mem_of_getElem? (i := 1213) (by decide +kernel)⟩
theorem lw_p50 : lw_okq (⟨"KeyPathModel", "windowMany", "()I"⟩, 42) := ⟨⟨by decide +kernel, by decide +kernel⟩, List.mem_of_getElem? (i := 982) (by decide +kernel), List.mem_of_getElem? (i := 1216) (by decide +kernel), List.mem_of_getElem? (i := 1217) (by decide +kernel)⟩
theorem lw_p51 : lw_okq (⟨"KeyPathModel", "isWindow", "(I)Z"⟩, 42) := ⟨⟨by decide +kernel, by decide +kernel⟩, List.mem_of_getElem? (i := 982) (by decide +kernel), List.mem_of_getElem? (i := 1248) (by decide +kernel), List.mem_of_getElem? (i := 1249) (by decide +kernel)⟩
theorem lw_p52 : lw_okq (⟨"KeyPathModel", "countedIn", "(I)V"⟩, 42) := ⟨⟨by decide +kernel, by decide +kernel⟩, List.mem_of_getElem? (i := 982) (by decide +kernel), List.mem_of_getElem? (i := 1252) (by decide +kernel), List.mem_of_getElem? (i := 1253) (by decide +kernel)⟩
theorem lw_p53 : lw_okq (⟨"KeyPathModel", "counted", "(II)V"⟩, 42) := ⟨⟨by decide +kernel, by decide +kernel⟩, List.mem_of_getElem? (i := 982) (by decide +kernel), List.mem_of_getElem? (i := 1256) (by decide +kernel), List.mem_of_getElem? (i := 1257) (by decide +kernel)⟩
theorem lw_p54 : lw_okq (⟨"KeyPathModel", "matched", "(I)I"⟩, 42) := ⟨⟨by decide +kernel, by decide +kernel⟩, List.mem_of_getElem? (i := 982) (by decide +kernel), List.mem_of_getElem? (i := 1264) (by decide +kernel), List.mem_of_getElem? (i := 1265) (by decide +kernel)⟩
theorem lw_p55 : lw_okq (⟨"KeyPathModel", "fitted", "(I)I"⟩, 42) := ⟨⟨by decide +kernel, by decide +kernel⟩, List.mem_of_getElem? (i := 982) (by decide +kernel), List.mem_of_getElem? (i := 1275) (by decide +kernel), List.mem_of_getElem? (i := 1276) (by decide +kernel)⟩
theorem lw_p56 : lw_okq (⟨"KeyPathModel", "rankedNow", "(I)I"⟩, 42) := ⟨⟨by decide +kernel, by decide +kernel⟩, List.mem_of_getElem? (i := 982) (by decide +kernel), List.mem_of_getElem? (i := 1283) (by decide +kernel), List.mem_of_getElem? (i := 1284) (by decide +kernel)⟩
theorem lw_p57 : lw_okq (⟨"KeyPathModel", "chordNow", "()I"⟩, 42) := ⟨⟨by decide +kernel, by decide +kernel⟩, List.mem_of_getElem? (i := 982) (by decide +kernel), List.mem_of_getElem? (i := 1295) (by decide +kernel), List.mem_of_getElem? (i := 1296) (by decide +kernel)⟩
theorem lw_p58 : lw_okq (⟨"KeyPathModel", "laysFar", "(I)V"⟩, 42) := ⟨⟨by decide +kernel, by decide +kernel⟩, List.mem_of_getElem? (i := 982) (by decide +kernel), List.mem_of_getElem? (i := 1306) (by decide +kernel), List.mem_of_getElem? (i := 1307) (by decide +kernel)⟩
theorem lw_p59 : lw_okq (⟨"KeyPathModel", "costs", "(I)I"⟩, 42) := ⟨⟨by decide +kernel, by decide +kernel⟩, List.mem_of_getElem? (i := 982) (by decide +kernel), List.mem_of_getElem? (i := 1314) (by decide +kernel), List.mem_of_getElem? (i := 1315) (by decide +kernel)⟩
theorem lw_p60 : lw_okq (⟨"KeyPathModel", "hasPath", "()Z"⟩, 42) := ⟨⟨by decide +kernel, by decide +kernel⟩, List.mem_of_getElem? (i := 982) (by decide +kernel), List.mem_of_getElem? (i := 1326) (by decide +kernel), List.mem_of_getElem? (i := 1327) (by decide +kernel)⟩
theorem lw_p61 : lw_okq (⟨"KeyPathModel", "laysOwn", "()V"⟩, 42) := ⟨⟨by decide +kernel, by decide +kernel⟩, List.mem_of_getElem? (i := 982) (by decide +kernel), List.mem_of_getElem? (i := 1330) (by decide +kernel), List.mem_of_getElem? (i := 1331) (by decide +kernel)⟩
theorem lw_p62 : lw_okq (⟨"KeyPathModel", "laysNet", "()V"⟩, 42) := ⟨⟨by decide +kernel, by decide +kernel⟩, List.mem_of_getElem? (i := 982) (by decide +kernel), List.mem_of_getElem? (i := 1334) (by decide +kernel), List.mem_of_getElem? (i := 1335) (by decide +kernel)⟩
theorem lw_p63 : lw_okq (⟨"KeyPathModel", "laysPath", "(I)Z"⟩, 42) := ⟨⟨by decide +kernel, by decide +kernel⟩, List.mem_of_getElem? (i := 982) (by decide +kernel), List.mem_of_getElem? (i := 1338) (by decide +kernel), List.mem_of_getElem? (i := 1339) (by decide +kernel)⟩
def lw_privs_4 : List (MethodName × Nat) := [(⟨"KeyPathModel", "windowsBy", "(I)I"⟩, 42), (⟨"KeyPathModel", "theEnd", "()I"⟩, 42), (⟨"KeyPathModel", "windowMany", "()I"⟩, 42), (⟨"KeyPathModel", "isWindow", "(I)Z"⟩, 42), (⟨"KeyPathModel", "countedIn", "(I)V"⟩, 42), (⟨"KeyPathModel", "counted", "(II)V"⟩, 42), (⟨"KeyPathModel", "matched", "(I)I"⟩, 42), (⟨"KeyPathModel", "fitted", "(I)I"⟩, 42), (⟨"KeyPathModel", "rankedNow", "(I)I"⟩, 42), (⟨"KeyPathModel", "chordNow", "()I"⟩, 42), (⟨"KeyPathModel", "laysFar", "(I)V"⟩, 42), (⟨"KeyPathModel", "costs", "(I)I"⟩, 42), (⟨"KeyPathModel", "hasPath", "()Z"⟩, 42), (⟨"KeyPathModel", "laysOwn", "()V"⟩, 42), (⟨"KeyPathModel", "laysNet", "()V"⟩, 42), (⟨"KeyPathModel", "laysPath", "(I)Z"⟩, 42)]
theorem lw_r4 : ∀ q ∈ lw_privs_4, lw_okq q := List.forall_mem_cons.mpr ⟨lw_p48, List.forall_mem_cons.mpr ⟨lw_p49, List.forall_mem_cons.mpr ⟨lw_p50, List.forall_mem_cons.mpr ⟨lw_p51, List.forall_mem_cons.mpr ⟨lw_p52, List.forall_mem_cons.mpr ⟨lw_p53, List.forall_mem_cons.mpr ⟨lw_p54, List.forall_mem_cons.mpr ⟨lw_p55, List.forall_mem_cons.mpr ⟨lw_p56, List.forall_mem_cons.mpr ⟨lw_p57, List.forall_mem_cons.mpr ⟨lw_p58, List.forall_mem_cons.mpr ⟨lw_p59, List.forall_mem_cons.mpr ⟨lw_p60, List.forall_mem_cons.mpr ⟨lw_p61, List.forall_mem_cons.mpr ⟨lw_p62, List.forall_mem_cons.mpr ⟨lw_p63, fun _ h => absurd h List.not_mem_nil⟩⟩⟩⟩⟩⟩⟩⟩⟩⟩⟩⟩⟩⟩⟩⟩
theorem lw_p64 : lw_okq (⟨"KeyPathModel", "moves", "(IIII)I"⟩, 42) := ⟨⟨by decide +kernel, by decide +kernel⟩, List.mem_of_getElem? (i := 982) (by decide +kernel), List.mem_of_getElem? (i := 1342) (by decide +kernel), List.mem_of_getElem? (i := 1343) (by decide +kernel)⟩
theorem lw_p65 : lw_okq (⟨"KeyPathModel", "laysAhead", "()V"⟩, 42) := ⟨⟨by decide +kernel, by decide +kernel⟩, List.mem_of_getElem? (i := 982) (by decide +kernel), List.mem_of_getElem? (i := 1362) (by decide +kernel), List.mem_of_getElem? (i := 1363) (by decide +kernel)⟩
theorem lw_p66 : lw_okq (⟨"KeyPathModel", "throughNow", "(II)I"⟩, 42) := ⟨⟨by decide +kernel, by decide +kernel⟩, List.mem_of_getElem? (i := 982) (by decide +kernel), List.mem_of_getElem? (i := 1366) (by decide +kernel), List.mem_of_getElem? (i := 1367) (by decide +kernel)⟩
theorem lw_p67 : lw_okq (⟨"KeyPathModel", "turns", "(I)V"⟩, 42) := ⟨⟨by decide +kernel, by decide +kernel⟩, List.mem_of_getElem? (i := 982) (by decide +kernel), List.mem_of_getElem? (i := 1383) (by decide +kernel), List.mem_of_getElem? (i := 1384) (by decide +kernel)⟩
theorem lw_p68 : lw_okq (⟨"KeyPathModel", "leastOf", "(II)I"⟩, 42) := ⟨⟨by decide +kernel, by decide +kernel⟩, List.mem_of_getElem? (i := 982) (by decide +kernel), List.mem_of_getElem? (i := 1387) (by decide +kernel), List.mem_of_getElem? (i := 1388) (by decide +kernel)⟩
theorem lw_p69 : lw_okq (⟨"KeyPathModel", "segmentsNow", "()I"⟩, 42) := ⟨⟨by decide +kernel, by decide +kernel⟩, List.mem_of_getElem? (i := 982) (by decide +kernel), List.mem_of_getElem? (i := 1400) (by decide +kernel), List.mem_of_getElem? (i := 1401) (by decide +kernel)⟩
theorem lw_p70 : lw_okq (⟨"KeyPathModel", "firstOf", "(I)I"⟩, 42) := ⟨⟨by decide +kernel, by decide +kernel⟩, List.mem_of_getElem? (i := 982) (by decide +kernel), List.mem_of_getElem? (i := 1412) (by decide +kernel), List.mem_of_getElem? (i := 1413) (by decide +kernel)⟩
theorem lw_p71 : lw_okq (⟨"KeyPathModel", "romanNow", "(I)I"⟩, 42) := ⟨⟨by decide +kernel, by decide +kernel⟩, List.mem_of_getElem? (i := 982) (by decide +kernel), List.mem_of_getElem? (i := 1439) (by decide +kernel), List.mem_of_getElem? (i := 1440) (by decide +kernel)⟩
theorem lw_p72 : lw_okq (⟨"KeyPathModel", "isBehindFifth", "(II)Z"⟩, 42) := ⟨⟨by decide +kernel, by decide +kernel⟩, List.mem_of_getElem? (i := 982) (by decide +kernel), List.mem_of_getElem? (i := 1455) (by decide +kernel), List.mem_of_getElem? (i := 1456) (by decide +kernel)⟩
def lw_privs_5 : List (MethodName × Nat) := [(⟨"KeyPathModel", "moves", "(IIII)I"⟩, 42), (⟨"KeyPathModel", "laysAhead", "()V"⟩, 42), (⟨"KeyPathModel", "throughNow", "(II)I"⟩, 42), (⟨"KeyPathModel", "turns", "(I)V"⟩, 42), (⟨"KeyPathModel", "leastOf", "(II)I"⟩, 42), (⟨"KeyPathModel", "segmentsNow", "()I"⟩, 42), (⟨"KeyPathModel", "firstOf", "(I)I"⟩, 42), (⟨"KeyPathModel", "romanNow", "(I)I"⟩, 42), (⟨"KeyPathModel", "isBehindFifth", "(II)Z"⟩, 42)]
theorem lw_r5 : ∀ q ∈ lw_privs_5, lw_okq q := List.forall_mem_cons.mpr ⟨lw_p64, List.forall_mem_cons.mpr ⟨lw_p65, List.forall_mem_cons.mpr ⟨lw_p66, List.forall_mem_cons.mpr ⟨lw_p67, List.forall_mem_cons.mpr ⟨lw_p68, List.forall_mem_cons.mpr ⟨lw_p69, List.forall_mem_cons.mpr ⟨lw_p70, List.forall_mem_cons.mpr ⟨lw_p71, List.forall_mem_cons.mpr ⟨lw_p72, fun _ h => absurd h List.not_mem_nil⟩⟩⟩⟩⟩⟩⟩⟩⟩
def lw_privs : List (MethodName × Nat) := lw_privs_1 ++ (lw_privs_2 ++ (lw_privs_3 ++ (lw_privs_4 ++ (lw_privs_5))))
def lw_tbl : List Cond := k2_sels lw_privs ++ tables_1
theorem lw_privs_ok : ∀ q ∈ lw_privs, lw_okq q := by
  show ∀ q ∈ lw_privs_1 ++ (lw_privs_2 ++ (lw_privs_3 ++ (lw_privs_4 ++ (lw_privs_5)))), lw_okq q
  exact List.forall_mem_append.mpr ⟨lw_r1, List.forall_mem_append.mpr ⟨lw_r2, List.forall_mem_append.mpr ⟨lw_r3, List.forall_mem_append.mpr ⟨lw_r4, lw_r5⟩⟩⟩⟩
/-! ===== names, the cells ===== -/
def k_Tg : List Cond := lw_tbl.filter goodWord
theorem k_tg {w : Cond} (i : Nat) (h : tables_1[i]? = some w) (hg : goodWord w = true) : w ∈ k_Tg := List.mem_filter.mpr ⟨List.mem_append_right _ (List.mem_of_getElem? h), hg⟩
theorem k_tgs {w : Cond} (i : Nat) (h : (k2_sels lw_privs)[i]? = some w) (hg : goodWord w = true) : w ∈ k_Tg := List.mem_filter.mpr ⟨List.mem_append_left _ (List.mem_of_getElem? h), hg⟩
def k_T0 : u_T := fun k => match k with
  | 0 => ("KeyPath", "reader", "LKeyPath$TextReader;", true)
  | 1 => ("KeyPath", "notes", "LKeyPath$Notes;", true)
  | 2 => ("KeyPath", "history", "LKeyPath$History;", true)
  | 3 => ("KeyPath", "windows", "LKeyPath$Windows;", true)
  | 4 => ("KeyPath", "profiles", "LKeyPath$Profiles;", true)
  | 5 => ("KeyPath", "net", "LKeyPath$Net;", true)
  | 6 => ("KeyPath", "finder", "LKeyPath$PathFinder;", true)
  | _ => ("KeyPath", "detours", "LKeyPath$Detours;", true)
def k_y0 : Nat → FieldType := fun k => match k with
  | 0 => .object "KeyPath$TextReader"
  | 1 => .object "KeyPath$Notes"
  | 2 => .object "KeyPath$History"
  | 3 => .object "KeyPath$Windows"
  | 4 => .object "KeyPath$Profiles"
  | 5 => .object "KeyPath$Net"
  | 6 => .object "KeyPath$PathFinder"
  | _ => .object "KeyPath$Detours"
theorem k_n0 : ∀ a, a < 8 → ∀ b, b < 8 → a ≠ b → (k_T0 a).2.1 ≠ (k_T0 b).2.1 := by decide +kernel
theorem k_ok0 : ∀ k, k < 8 → parseFieldDescriptor (k_T0 k).2.2.1 = some (k_y0 k) := by decide +kernel
theorem k_lay0 : ∀ w ∈ u_ws "KeyPath" k_T0 8, w ∈ k_Tg := by
  have h : u_ws "KeyPath" k_T0 8 = ([345, 347, 349, 351, 353, 355, 357, 359] : List Nat).filterMap (fun i => tables_1[i]?) := by decide +kernel
  have hg : (u_ws "KeyPath" k_T0 8).all goodWord = true := by decide +kernel
  intro w hw
  have h1 := List.all_eq_true.mp hg w hw
  rw [h] at hw
  obtain ⟨i, -, hi⟩ := List.mem_filterMap.mp hw
  exact k_tg i hi h1
def k_T1 : u_T := fun k => match k with
  | 0 => ("KeyPath$TextReader", "tape", "[I", true)
  | 1 => ("KeyPath$TextReader", "held", "I", false)
  | 2 => ("KeyPath$TextReader", "found", "LKeyPath$Notes;", true)
  | 3 => ("KeyPath$TextReader", "trouble", "I", false)
  | 4 => ("KeyPath$TextReader", "place", "I", false)
  | 5 => ("KeyPath$TextReader", "length", "I", false)
  | 6 => ("KeyPath$TextReader", "at", "I", false)
  | 7 => ("KeyPath$TextReader", "tick", "I", false)
  | 8 => ("KeyPath$TextReader", "named", "[I", true)
  | _ => ("KeyPath$TextReader", "names", "I", false)
def k_y1 : Nat → FieldType := fun k => match k with
  | 0 => .array .int
  | 1 => .int
  | 2 => .object "KeyPath$Notes"
  | 3 => .int
  | 4 => .int
  | 5 => .int
  | 6 => .int
  | 7 => .int
  | 8 => .array .int
  | _ => .int
theorem k_n1 : ∀ a, a < 10 → ∀ b, b < 10 → a ≠ b → (k_T1 a).2.1 ≠ (k_T1 b).2.1 := by decide +kernel
theorem k_ok1 : ∀ k, k < 10 → parseFieldDescriptor (k_T1 k).2.2.1 = some (k_y1 k) := by decide +kernel
theorem k_lay1 : ∀ w ∈ u_ws "KeyPath$TextReader" k_T1 10, w ∈ k_Tg := by
  have h : u_ws "KeyPath$TextReader" k_T1 10 = ([75, 77, 79, 81, 83, 85, 87, 89, 91, 93] : List Nat).filterMap (fun i => tables_1[i]?) := by decide +kernel
  have hg : (u_ws "KeyPath$TextReader" k_T1 10).all goodWord = true := by decide +kernel
  intro w hw
  have h1 := List.all_eq_true.mp hg w hw
  rw [h] at hw
  obtain ⟨i, -, hi⟩ := List.mem_filterMap.mp hw
  exact k_tg i hi h1
def k_T2 : u_T := fun k => match k with
  | 0 => ("KeyPath$Notes", "ticks", "[I", true)
  | 1 => ("KeyPath$Notes", "lengths", "[I", true)
  | 2 => ("KeyPath$Notes", "pitches", "[I", true)
  | _ => ("KeyPath$Notes", "size", "I", false)
def k_y2 : Nat → FieldType := fun k => match k with
  | 0 => .array .int
  | 1 => .array .int
  | 2 => .array .int
  | _ => .int
theorem k_n2 : ∀ a, a < 4 → ∀ b, b < 4 → a ≠ b → (k_T2 a).2.1 ≠ (k_T2 b).2.1 := by decide +kernel
theorem k_ok2 : ∀ k, k < 4 → parseFieldDescriptor (k_T2 k).2.2.1 = some (k_y2 k) := by decide +kernel
theorem k_lay2 : ∀ w ∈ u_ws "KeyPath$Notes" k_T2 4, w ∈ k_Tg := by
  have h : u_ws "KeyPath$Notes" k_T2 4 = ([51, 53, 55, 57] : List Nat).filterMap (fun i => tables_1[i]?) := by decide +kernel
  have hg : (u_ws "KeyPath$Notes" k_T2 4).all goodWord = true := by decide +kernel
  intro w hw
  have h1 := List.all_eq_true.mp hg w hw
  rw [h] at hw
  obtain ⟨i, -, hi⟩ := List.mem_filterMap.mp hw
  exact k_tg i hi h1
def k_T3 : u_T := fun k => match k with
  | 0 => ("KeyPath$History", "kinds", "[I", true)
  | 1 => ("KeyPath$History", "places", "[I", true)
  | 2 => ("KeyPath$History", "ticks", "[I", true)
  | 3 => ("KeyPath$History", "lengths", "[I", true)
  | 4 => ("KeyPath$History", "pitches", "[I", true)
  | _ => ("KeyPath$History", "size", "I", false)
def k_y3 : Nat → FieldType := fun k => match k with
  | 0 => .array .int
  | 1 => .array .int
  | 2 => .array .int
  | 3 => .array .int
  | 4 => .array .int
  | _ => .int
theorem k_n3 : ∀ a, a < 6 → ∀ b, b < 6 → a ≠ b → (k_T3 a).2.1 ≠ (k_T3 b).2.1 := by decide +kernel
theorem k_ok3 : ∀ k, k < 6 → parseFieldDescriptor (k_T3 k).2.2.1 = some (k_y3 k) := by decide +kernel
theorem k_lay3 : ∀ w ∈ u_ws "KeyPath$History" k_T3 6, w ∈ k_Tg := by
  have h : u_ws "KeyPath$History" k_T3 6 = ([111, 113, 115, 117, 119, 121] : List Nat).filterMap (fun i => tables_1[i]?) := by decide +kernel
  have hg : (u_ws "KeyPath$History" k_T3 6).all goodWord = true := by decide +kernel
  intro w hw
  have h1 := List.all_eq_true.mp hg w hw
  rw [h] at hw
  obtain ⟨i, -, hi⟩ := List.mem_filterMap.mp hw
  exact k_tg i hi h1
def k_T4 : u_T := fun k => match k with
  | 0 => ("KeyPath$Windows", "wide", "I", false)
  | 1 => ("KeyPath$Windows", "hop", "I", false)
  | 2 => ("KeyPath$Windows", "size", "I", false)
  | 3 => ("KeyPath$Windows", "counts", "[I", true)
  | 4 => ("KeyPath$Windows", "totals", "[I", true)
  | 5 => ("KeyPath$Windows", "chords", "[I", true)
  | _ => ("KeyPath$Windows", "stale", "Z", false)
def k_y4 : Nat → FieldType := fun k => match k with
  | 0 => .int
  | 1 => .int
  | 2 => .int
  | 3 => .array .int
  | 4 => .array .int
  | 5 => .array .int
  | _ => .boolean
theorem k_n4 : ∀ a, a < 7 → ∀ b, b < 7 → a ≠ b → (k_T4 a).2.1 ≠ (k_T4 b).2.1 := by decide +kernel
theorem k_ok4 : ∀ k, k < 7 → parseFieldDescriptor (k_T4 k).2.2.1 = some (k_y4 k) := by decide +kernel
theorem k_lay4 : ∀ w ∈ u_ws "KeyPath$Windows" k_T4 7, w ∈ k_Tg := by
  have h : u_ws "KeyPath$Windows" k_T4 7 = ([149, 151, 153, 155, 157, 159, 161] : List Nat).filterMap (fun i => tables_1[i]?) := by decide +kernel
  have hg : (u_ws "KeyPath$Windows" k_T4 7).all goodWord = true := by decide +kernel
  intro w hw
  have h1 := List.all_eq_true.mp hg w hw
  rw [h] at hw
  obtain ⟨i, -, hi⟩ := List.mem_filterMap.mp hw
  exact k_tg i hi h1
def k_T5 : u_T := fun k => match k with
  | 0 => ("KeyPath$Profiles", "weights", "[I", true)
  | 1 => ("KeyPath$Profiles", "fits", "[I", true)
  | 2 => ("KeyPath$Profiles", "bests", "[I", true)
  | _ => ("KeyPath$Profiles", "stale", "Z", false)
def k_y5 : Nat → FieldType := fun k => match k with
  | 0 => .array .int
  | 1 => .array .int
  | 2 => .array .int
  | _ => .boolean
theorem k_n5 : ∀ a, a < 4 → ∀ b, b < 4 → a ≠ b → (k_T5 a).2.1 ≠ (k_T5 b).2.1 := by decide +kernel
theorem k_ok5 : ∀ k, k < 4 → parseFieldDescriptor (k_T5 k).2.2.1 = some (k_y5 k) := by decide +kernel
theorem k_lay5 : ∀ w ∈ u_ws "KeyPath$Profiles" k_T5 4, w ∈ k_Tg := by
  have h : u_ws "KeyPath$Profiles" k_T5 4 = ([188, 190, 192, 194] : List Nat).filterMap (fun i => tables_1[i]?) := by decide +kernel
  have hg : (u_ws "KeyPath$Profiles" k_T5 4).all goodWord = true := by decide +kernel
  intro w hw
  have h1 := List.all_eq_true.mp hg w hw
  rw [h] at hw
  obtain ⟨i, -, hi⟩ := List.mem_filterMap.mp hw
  exact k_tg i hi h1
def k_T6 : u_T := fun k => match k with
  | 0 => ("KeyPath$Net", "fifth", "I", false)
  | 1 => ("KeyPath$Net", "relative", "I", false)
  | 2 => ("KeyPath$Net", "parallel", "I", false)
  | 3 => ("KeyPath$Net", "factor", "I", false)
  | 4 => ("KeyPath$Net", "stale", "Z", false)
  | 5 => ("KeyPath$Net", "sums", "[I", true)
  | 6 => ("KeyPath$Net", "ranks", "[I", true)
  | _ => ("KeyPath$Net", "row", "[I", true)
def k_y6 : Nat → FieldType := fun k => match k with
  | 0 => .int
  | 1 => .int
  | 2 => .int
  | 3 => .int
  | 4 => .boolean
  | 5 => .array .int
  | 6 => .array .int
  | _ => .array .int
theorem k_n6 : ∀ a, a < 8 → ∀ b, b < 8 → a ≠ b → (k_T6 a).2.1 ≠ (k_T6 b).2.1 := by decide +kernel
theorem k_ok6 : ∀ k, k < 8 → parseFieldDescriptor (k_T6 k).2.2.1 = some (k_y6 k) := by decide +kernel
theorem k_lay6 : ∀ w ∈ u_ws "KeyPath$Net" k_T6 8, w ∈ k_Tg := by
  have h : u_ws "KeyPath$Net" k_T6 8 = ([219, 221, 223, 225, 227, 229, 231, 233] : List Nat).filterMap (fun i => tables_1[i]?) := by decide +kernel
  have hg : (u_ws "KeyPath$Net" k_T6 8).all goodWord = true := by decide +kernel
  intro w hw
  have h1 := List.all_eq_true.mp hg w hw
  rw [h] at hw
  obtain ⟨i, -, hi⟩ := List.mem_filterMap.mp hw
  exact k_tg i hi h1
def k_T7 : u_T := fun k => match k with
  | 0 => ("KeyPath$PathFinder", "pins", "[I", true)
  | 1 => ("KeyPath$PathFinder", "size", "I", false)
  | 2 => ("KeyPath$PathFinder", "own", "[I", true)
  | 3 => ("KeyPath$PathFinder", "kept", "[Z", true)
  | 4 => ("KeyPath$PathFinder", "steps", "[I", true)
  | 5 => ("KeyPath$PathFinder", "behind", "[I", true)
  | 6 => ("KeyPath$PathFinder", "ways", "[I", true)
  | 7 => ("KeyPath$PathFinder", "exists", "Z", false)
  | 8 => ("KeyPath$PathFinder", "least", "I", false)
  | 9 => ("KeyPath$PathFinder", "tied", "I", false)
  | 10 => ("KeyPath$PathFinder", "path", "[I", true)
  | 11 => ("KeyPath$PathFinder", "firsts", "[I", true)
  | 12 => ("KeyPath$PathFinder", "segmentCount", "I", false)
  | 13 => ("KeyPath$PathFinder", "stale", "Z", false)
  | 14 => ("KeyPath$PathFinder", "firmKnown", "Z", false)
  | _ => ("KeyPath$PathFinder", "firm", "I", false)
def k_y7 : Nat → FieldType := fun k => match k with
  | 0 => .array .int
  | 1 => .int
  | 2 => .array .int
  | 3 => .array .boolean
  | 4 => .array .int
  | 5 => .array .int
  | 6 => .array .int
  | 7 => .boolean
  | 8 => .int
  | 9 => .int
  | 10 => .array .int
  | 11 => .array .int
  | 12 => .int
  | 13 => .boolean
  | 14 => .boolean
  | _ => .int
theorem k_n7 : ∀ a, a < 16 → ∀ b, b < 16 → a ≠ b → (k_T7 a).2.1 ≠ (k_T7 b).2.1 := by decide +kernel
theorem k_ok7 : ∀ k, k < 16 → parseFieldDescriptor (k_T7 k).2.2.1 = some (k_y7 k) := by decide +kernel
theorem k_lay7 : ∀ w ∈ u_ws "KeyPath$PathFinder" k_T7 16, w ∈ k_Tg := by
  have h : u_ws "KeyPath$PathFinder" k_T7 16 = ([277, 279, 281, 283, 285, 287, 289, 291, 293, 295, 297, 299, 301, 303, 305, 307] : List Nat).filterMap (fun i => tables_1[i]?) := by decide +kernel
  have hg : (u_ws "KeyPath$PathFinder" k_T7 16).all goodWord = true := by decide +kernel
  intro w hw
  have h1 := List.all_eq_true.mp hg w hw
  rw [h] at hw
  obtain ⟨i, -, hi⟩ := List.mem_filterMap.mp hw
  exact k_tg i hi h1
def k_T8 : u_T := fun k => match k with
  | 0 => ("KeyPath$Detours", "ahead", "[I", true)
  | 1 => ("KeyPath$Detours", "aheadKnown", "Z", false)
  | 2 => ("KeyPath$Detours", "byMoves", "[I", true)
  | 3 => ("KeyPath$Detours", "leastByMoves", "[I", true)
  | 4 => ("KeyPath$Detours", "movesKnown", "Z", false)
  | _ => ("KeyPath$Detours", "settled", "[I", true)
def k_y8 : Nat → FieldType := fun k => match k with
  | 0 => .array .int
  | 1 => .boolean
  | 2 => .array .int
  | 3 => .array .int
  | 4 => .boolean
  | _ => .array .int
theorem k_n8 : ∀ a, a < 6 → ∀ b, b < 6 → a ≠ b → (k_T8 a).2.1 ≠ (k_T8 b).2.1 := by decide +kernel
theorem k_ok8 : ∀ k, k < 6 → parseFieldDescriptor (k_T8 k).2.2.1 = some (k_y8 k) := by decide +kernel
theorem k_lay8 : ∀ w ∈ u_ws "KeyPath$Detours" k_T8 6, w ∈ k_Tg := by
  have h : u_ws "KeyPath$Detours" k_T8 6 = ([324, 326, 328, 330, 332, 334] : List Nat).filterMap (fun i => tables_1[i]?) := by decide +kernel
  have hg : (u_ws "KeyPath$Detours" k_T8 6).all goodWord = true := by decide +kernel
  intro w hw
  have h1 := List.all_eq_true.mp hg w hw
  rw [h] at hw
  obtain ⟨i, -, hi⟩ := List.mem_filterMap.mp hw
  exact k_tg i hi h1
def k_T9 : u_T := fun k => match k with
  | 0 => ("KeyPathModel", "thrown", "I", false)
  | 1 => ("KeyPathModel", "tick", "[I", true)
  | 2 => ("KeyPathModel", "length", "[I", true)
  | 3 => ("KeyPathModel", "pitch", "[I", true)
  | 4 => ("KeyPathModel", "readTick", "[I", true)
  | 5 => ("KeyPathModel", "readLength", "[I", true)
  | 6 => ("KeyPathModel", "readPitch", "[I", true)
  | 7 => ("KeyPathModel", "notes", "I", false)
  | 8 => ("KeyPathModel", "readNotes", "I", false)
  | 9 => ("KeyPathModel", "acts", "[I", true)
  | 10 => ("KeyPathModel", "actMany", "I", false)
  | 11 => ("KeyPathModel", "wide", "I", false)
  | 12 => ("KeyPathModel", "hop", "I", false)
  | 13 => ("KeyPathModel", "fifth", "I", false)
  | 14 => ("KeyPathModel", "relative", "I", false)
  | 15 => ("KeyPathModel", "parallel", "I", false)
  | 16 => ("KeyPathModel", "factor", "I", false)
  | 17 => ("KeyPathModel", "weights", "[I", true)
  | 18 => ("KeyPathModel", "pins", "[I", true)
  | 19 => ("KeyPathModel", "tape", "[B", true)
  | 20 => ("KeyPathModel", "taped", "I", false)
  | 21 => ("KeyPathModel", "size", "I", false)
  | 22 => ("KeyPathModel", "spot", "I", false)
  | 23 => ("KeyPathModel", "wrong", "I", false)
  | 24 => ("KeyPathModel", "wrongAt", "I", false)
  | 25 => ("KeyPathModel", "now", "I", false)
  | 26 => ("KeyPathModel", "counts", "[I", true)
  | 27 => ("KeyPathModel", "sum", "I", false)
  | 28 => ("KeyPathModel", "far", "[I", true)
  | 29 => ("KeyPathModel", "ways", "[I", true)
  | 30 => ("KeyPathModel", "net", "[I", true)
  | 31 => ("KeyPathModel", "own", "[I", true)
  | 32 => ("KeyPathModel", "ahead", "[I", true)
  | 33 => ("KeyPathModel", "behind", "[I", true)
  | 34 => ("KeyPathModel", "tied", "[I", true)
  | 35 => ("KeyPathModel", "path", "[I", true)
  | 36 => ("KeyPathModel", "isSilent", "[Z", true)
  | 37 => ("KeyPathModel", "windows0", "I", false)
  | 38 => ("KeyPathModel", "least", "I", false)
  | 39 => ("KeyPathModel", "bySteps", "[I", true)
  | 40 => ("KeyPathModel", "stepped", "[I", true)
  | _ => ("KeyPathModel", "both", "[I", true)
def k_y9 : Nat → FieldType := fun k => match k with
  | 0 => .int
  | 1 => .array .int
  | 2 => .array .int
  | 3 => .array .int
  | 4 => .array .int
  | 5 => .array .int
  | 6 => .array .int
  | 7 => .int
  | 8 => .int
  | 9 => .array .int
  | 10 => .int
  | 11 => .int
  | 12 => .int
  | 13 => .int
  | 14 => .int
  | 15 => .int
  | 16 => .int
  | 17 => .array .int
  | 18 => .array .int
  | 19 => .array .byte
  | 20 => .int
  | 21 => .int
  | 22 => .int
  | 23 => .int
  | 24 => .int
  | 25 => .int
  | 26 => .array .int
  | 27 => .int
  | 28 => .array .int
  | 29 => .array .int
  | 30 => .array .int
  | 31 => .array .int
  | 32 => .array .int
  | 33 => .array .int
  | 34 => .array .int
  | 35 => .array .int
  | 36 => .array .boolean
  | 37 => .int
  | 38 => .int
  | 39 => .array .int
  | 40 => .array .int
  | _ => .array .int
theorem k_n9 : ∀ a, a < 42 → ∀ b, b < 42 → a ≠ b → (k_T9 a).2.1 ≠ (k_T9 b).2.1 := by decide +kernel
theorem k_ok9 : ∀ k, k < 42 → parseFieldDescriptor (k_T9 k).2.2.1 = some (k_y9 k) := by decide +kernel
theorem k_lay9 : ∀ w ∈ u_ws "KeyPathModel" k_T9 42, w ∈ k_Tg := by
  have h : u_ws "KeyPathModel" k_T9 42 = ([1029, 1031, 1033, 1035, 1037, 1039, 1041, 1043, 1045, 1047, 1049, 1051, 1053, 1055, 1057, 1059, 1061, 1063, 1065, 1067, 1069, 1071, 1073, 1075, 1077, 1079, 1081, 1083, 1085, 1087, 1089, 1091, 1093, 1095, 1097, 1099, 1101, 1103, 1105, 1107, 1109, 1111] : List Nat).filterMap (fun i => tables_1[i]?) := by decide +kernel
  have hg : (u_ws "KeyPathModel" k_T9 42).all goodWord = true := by decide +kernel
  intro w hw
  have h1 := List.all_eq_true.mp hg w hw
  rw [h] at hw
  obtain ⟨i, -, hi⟩ := List.mem_filterMap.mp hw
  exact k_tg i hi h1
abbrev k_cls : List vw_C := [("KeyPath", k_T0, 8), ("KeyPath$TextReader", k_T1, 10), ("KeyPath$Notes", k_T2, 4), ("KeyPath$History", k_T3, 6), ("KeyPath$Windows", k_T4, 7), ("KeyPath$Profiles", k_T5, 4), ("KeyPath$Net", k_T6, 8), ("KeyPath$PathFinder", k_T7, 16), ("KeyPath$Detours", k_T8, 6), ("KeyPathModel", k_T9, 42)]
/-- how many cells there are; of each: 0 an object, 1 int[], 2 byte[], 3 boolean[]; its length; its kind of object; its fields (some: the cell that it holds for good) -/
def k_NC : Nat := 68
def k_ty (c : Nat) : Nat := ([0, 0, 0, 0, 0, 0, 0, 0, 0, 0, 0, 1, 1, 1, 1, 1, 1, 1, 1, 1, 1, 1, 1, 1, 1, 1, 1, 1, 1, 1, 1, 1, 1, 1, 1, 3, 1, 1, 1, 1, 1, 1, 1, 1, 1, 1, 1, 1, 1, 1, 1, 1, 1, 1, 2, 1, 1, 1, 1, 1, 1, 1, 1, 1, 3, 1, 1, 1] : List Nat).getD c 9
def k_ln (c : Nat) : Nat := ([0, 0, 0, 0, 0, 0, 0, 0, 0, 0, 0, 700, 6, 100, 100, 100, 100, 100, 100, 10, 10, 10, 10, 10, 588, 49, 48, 24, 1176, 49, 576, 576, 24, 48, 1152, 48, 576, 1152, 1152, 48, 48, 1152, 1152, 48, 1152, 100, 100, 100, 100, 100, 100, 3010, 24, 48, 700, 12, 24, 24, 576, 1152, 1152, 1152, 1152, 48, 48, 1152, 1152, 12] : List Nat).getD c 0
def k_ci (c : Nat) : Nat := ([0, 1, 2, 2, 3, 4, 5, 6, 7, 8, 9, 0, 0, 0, 0, 0, 0, 0, 0, 0, 0, 0, 0, 0, 0, 0, 0, 0, 0, 0, 0, 0, 0, 0, 0, 0, 0, 0, 0, 0, 0, 0, 0, 0, 0, 0, 0, 0, 0, 0, 0, 0, 0, 0, 0, 0, 0, 0, 0, 0, 0, 0, 0, 0, 0, 0, 0, 0] : List Nat).getD c 0
def k_fs (c : Nat) : List (Option Nat) := ([[some 1, some 3, some 4, some 5, some 6, some 7, some 8, some 9], [some 11, none, some 2, none, none, none, none, none, some 12, none], [some 13, some 14, some 15, none], [some 16, some 17, some 18, none], [some 19, some 20, some 21, some 22, some 23, none], [none, none, none, some 24, some 25, some 26, none], [some 27, some 28, some 29, none], [none, none, none, none, none, some 30, some 31, some 32], [some 33, none, some 34, some 35, some 36, some 37, some 38, none, none, none, some 39, some 40, none, none, none, none], [some 41, none, some 42, some 43, none, some 44], [none, some 45, some 46, some 47, some 48, some 49, some 50, none, none, some 51, none, none, none, none, none, none, none, some 52, some 53, some 54, none, none, none, none, none, none, some 55, none, some 56, some 57, some 58, some 59, some 60, some 61, some 62, some 63, some 64, none, none, some 65, some 66, some 67]] : List (List (Option Nat))).getD c []
def k_nest : List Cond := [(Cond.methodLinkNest "KeyPath" (11 : Nat) ({ cls := "KeyPath$TextReader", name := "<init>", desc := "()V" } : MethodName) "KeyPath"), (Cond.methodLinkNest "KeyPath$TextReader" (17 : Nat) ({ cls := "KeyPath$Notes", name := "<init>", desc := "()V" } : MethodName) "KeyPath"), (Cond.methodLinkNest "KeyPath" (18 : Nat) ({ cls := "KeyPath$Notes", name := "<init>", desc := "()V" } : MethodName) "KeyPath"), (Cond.methodLinkNest "KeyPath" (25 : Nat) ({ cls := "KeyPath$History", name := "<init>", desc := "()V" } : MethodName) "KeyPath"), (Cond.methodLinkNest "KeyPath" (32 : Nat) ({ cls := "KeyPath$Windows", name := "<init>", desc := "()V" } : MethodName) "KeyPath"), (Cond.methodLinkNest "KeyPath" (39 : Nat) ({ cls := "KeyPath$Profiles", name := "<init>", desc := "()V" } : MethodName) "KeyPath"), (Cond.fieldLinkNest "KeyPath$Profiles" (9 : Nat) "KeyPath" "FIRST_WEIGHTS" "[I" "KeyPath"), (Cond.methodLinkNest "KeyPath" (46 : Nat) ({ cls := "KeyPath$Net", name := "<init>", desc := "()V" } : MethodName) "KeyPath"), (Cond.methodLinkNest "KeyPath" (60 : Nat) ({ cls := "KeyPath$Detours", name := "<init>", desc := "()V" } : MethodName) "KeyPath"), (Cond.methodLinkNest "KeyPath$TextReader" (89 : Nat) ({ cls := "KeyPath", name := "outOf", desc := "(III)Z" } : MethodName) "KeyPath"), (Cond.fieldLinkNest "KeyPath$TextReader" (80 : Nat) "KeyPath" "LETTER_TONES" "[I" "KeyPath"), (Cond.methodLinkNest "KeyPath$Notes" (35 : Nat) ({ cls := "KeyPath", name := "outOf", desc := "(III)Z" } : MethodName) "KeyPath"), (Cond.methodLinkNest "KeyPath$Windows" (77 : Nat) ({ cls := "KeyPath", name := "toneOf", desc := "(II)I" } : MethodName) "KeyPath"), (Cond.methodLinkNest "KeyPath$Profiles" (33 : Nat) ({ cls := "KeyPath", name := "modeOf", desc := "(I)I" } : MethodName) "KeyPath"), (Cond.methodLinkNest "KeyPath$Net" (38 : Nat) ({ cls := "KeyPath", name := "modeOf", desc := "(I)I" } : MethodName) "KeyPath"), (Cond.methodLinkNest "KeyPath$PathFinder" (87 : Nat) ({ cls := "KeyPath", name := "plus", desc := "(II)I" } : MethodName) "KeyPath"), (Cond.methodLinkNest "KeyPath$Detours" (48 : Nat) ({ cls := "KeyPath", name := "plus", desc := "(II)I" } : MethodName) "KeyPath"), (Cond.methodLinkNest "KeyPath$Windows" (81 : Nat) ({ cls := "KeyPath", name := "degreeOf", desc := "(II)I" } : MethodName) "KeyPath")]
def k_s0 : Nat → Int := fun j => ([0, 2, 4, 5, 7, 9, 11, 0, 2, 3, 5, 7, 8, 10] : List Int).getD j 0
def k_s1 : Nat → Int := fun j => ([0, 1, 1, 0, 0, 1, 2, 1, 2, 0, 1, 1, 0, 0] : List Int).getD j 0
def k_s2 : Nat → Int := fun j => ([4, 3, 3] : List Int).getD j 0
def k_s3 : Nat → Int := fun j => ([7, 7, 6] : List Int).getD j 0
def k_s4 : Nat → Int := fun j => ([9, 11, 0, 2, 4, 5, 7] : List Int).getD j 0
def k_s5 : Nat → Int := fun j => ([63, 22, 35, 23, 44, 41, 25, 52, 24, 37, 23, 29, 63, 27, 35, 54, 26, 35, 25, 48, 40, 27, 33, 32] : List Int).getD j 0
end
section
/-! ===== numbers ===== -/
abbrev KM : Type := Nat → Int → Int
abbrev KV : Type := Int ⊕ (Int ⊕ Nat)
abbrev ki (v : Int) : KV := Sum.inl v
abbrev kl (v : Int) : KV := Sum.inr (Sum.inl v)
abbrev kr (c : Nat) : KV := Sum.inr (Sum.inr c)
abbrev li (v : Int) : Option KV := some (ki v)
abbrev lq (c : Nat) : Option KV := some (kr c)
def c32 (v : Int) : Int32 := Int32.ofInt v
def c64 (v : Int) : Int64 := Int64.ofInt v
def k_tr (α : Nat → Nat) : KV → Value
  | .inl v => .int (c32 v)
  | .inr (.inl v) => .long (c64 v)
  | .inr (.inr c) => .ref (α c)
abbrev kin (v : Int) : Prop := -2147483648 ≤ v ∧ v < 2147483648
abbrev kin6 (v : Int) : Prop := -9223372036854775808 ≤ v ∧ v < 9223372036854775808
theorem c32_toInt {a : Int} (h : kin a) : (c32 a).toInt = a := Int32.toInt_ofInt_of_le (by have := h.1; omega) (by have := h.2; omega)
theorem c64_toInt {a : Int} (h : kin6 a) : (c64 a).toInt = a := Int64.toInt_ofInt_of_le (by have := h.1; omega) (by have := h.2; omega)
theorem c32_of (x : Int32) : c32 x.toInt = x := Int32.ofInt_toInt x
theorem c32_add (a b : Int) : c32 (a + b) = c32 a + c32 b := Int32.ofInt_add a b
theorem c32_sub (a b : Int) : c32 (a - b) = c32 a - c32 b := Int32.ofInt_sub a b
theorem c32_mul (a b : Int) : c32 (a * b) = c32 a * c32 b := Int32.ofInt_mul a b
theorem c32_neg (a : Int) : c32 (-a) = -c32 a := Int32.ofInt_neg a
theorem c64_mul (a b : Int) : c64 (a * b) = c64 a * c64 b := Int64.ofInt_mul a b
theorem c32_min : Int32.minValue.toInt = -2147483648 := by decide
theorem c32_max : Int32.maxValue.toInt = 2147483647 := by decide
theorem c64_min : Int64.minValue.toInt = -9223372036854775808 := by decide
theorem c64_max : Int64.maxValue.toInt = 9223372036854775807 := by decide
theorem c32_lt {a b : Int} (ha : kin a) (hb : kin b) : c32 a < c32 b ↔ a < b := by
  rw [Int32.lt_iff_toInt_lt, c32_toInt ha, c32_toInt hb]
theorem c32_eq {a b : Int} (ha : kin a) (hb : kin b) : c32 a = c32 b ↔ a = b := by
  rw [← Int32.toInt_inj, c32_toInt ha, c32_toInt hb]
theorem c64_lt {a b : Int} (ha : kin6 a) (hb : kin6 b) : c64 a < c64 b ↔ a < b := by
  rw [Int64.lt_iff_toInt_lt, c64_toInt ha, c64_toInt hb]
theorem c64_eq {a b : Int} (ha : kin6 a) (hb : kin6 b) : c64 a = c64 b ↔ a = b := by
  rw [← Int64.toInt_inj, c64_toInt ha, c64_toInt hb]
theorem c32_0 : c32 0 = 0 := by decide
theorem c32_div {a b : Int} (ha : kin a) (hb : kin b) : c32 (a.tdiv b) = c32 a / c32 b :=
  Int32.ofInt_tdiv (by rw [c32_min]; exact ha.1) (by rw [c32_max]; have := ha.2; omega) (by rw [c32_min]; exact hb.1) (by rw [c32_max]; have := hb.2; omega)
theorem c64_div {a b : Int} (ha : kin6 a) (hb : kin6 b) : c64 (a.tdiv b) = c64 a / c64 b :=
  Int64.ofInt_tdiv (by rw [c64_min]; exact ha.1) (by rw [c64_max]; have := ha.2; omega) (by rw [c64_min]; exact hb.1) (by rw [c64_max]; have := hb.2; omega)
theorem c32_rem {a b : Int} (ha : kin a) (hb : kin b) : c32 (a.tmod b) = c32 a - c32 a / c32 b * c32 b := by
  rw [← c32_div ha hb, ← c32_mul, ← c32_sub]
  congr 1
  have := Int.tmod_def a b
  rw [this, Int.mul_comm]
theorem c32_ne0 {b : Int} (hb : kin b) (h : b ≠ 0) : ¬ c32 b = 0 := by
  rw [← c32_0, c32_eq hb (by decide)]
  exact h
theorem c32_clamp {a : Int} (h0 : 0 ≤ a) (h : a < 2147483648) : (c32 a).toNatClampNeg = a.toNat := by
  show (c32 a).toInt.toNat = a.toNat
  rw [c32_toInt ⟨by omega, h⟩]
theorem c32_in {a : Int} {N : Nat} (h0 : 0 ≤ a) (h : a < (N : Int)) (hN : N < 2147483648) : vp_in (c32 a) N := by
  rw [vp_in_iff, c32_toInt ⟨by omega, by omega⟩]
  exact ⟨h0, h⟩
theorem c32_l {a : Int} (h : kin a) : (c32 a).toInt64 = c64 a :=
  Int64.toInt_inj.mp (by rw [Int32.toInt_toInt64, c32_toInt h, c64_toInt ⟨by have := h.1; omega, by have := h.2; omega⟩])
theorem c64_i (a : Int) : (c64 a).toInt32 = c32 a := Int64.toInt32_ofInt
/-! ===== memory, the cells as a world ===== -/
def ks (σ : KM) (c : Nat) (i v : Int) : KM := fun c' i' => if c' = c ∧ i' = i then v else σ c' i'
theorem ks_ne {σ : KM} {c : Nat} {i v : Int} {c' : Nat} (h : c' ≠ c) : ks σ c i v c' = σ c' := by
  funext j
  simp [ks, h]
def k_fl (α : Nat → Nat) (f : Nat → Int) : Nat → List (Option Nat) → List Value
  | _, [] => []
  | k, some d :: r => .ref (α d) :: k_fl α f (k + 1) r
  | k, none :: r => .int (c32 (f k)) :: k_fl α f (k + 1) r
theorem k_fl_len (α : Nat → Nat) (f : Nat → Int) : ∀ (fs : List (Option Nat)) (s : Nat), (k_fl α f s fs).length = fs.length
  | [], s => rfl
  | some d :: r, s => by simp [k_fl, k_fl_len α f r]
  | none :: r, s => by simp [k_fl, k_fl_len α f r]
theorem k_fl_i (α : Nat → Nat) (f : Nat → Int) : ∀ (fs : List (Option Nat)) (s k : Nat), fs[k]? = some none → (k_fl α f s fs)[k]? = some (.int (c32 (f (s + k))))
  | [], s, k, h => by simp at h
  | some d :: r, s, 0, h => by simp at h
  | none :: r, s, 0, h => by simp [k_fl]
  | some d :: r, s, k + 1, h => by
    have := k_fl_i α f r (s + 1) k (by simpa using h)
    simp only [k_fl, List.getElem?_cons_succ, this]
    rw [show s + 1 + k = s + (k + 1) by omega]
  | none :: r, s, k + 1, h => by
    have := k_fl_i α f r (s + 1) k (by simpa using h)
    simp only [k_fl, List.getElem?_cons_succ, this]
    rw [show s + 1 + k = s + (k + 1) by omega]
theorem k_fl_r (α : Nat → Nat) (f : Nat → Int) : ∀ (fs : List (Option Nat)) (s k d : Nat), fs[k]? = some (some d) → (k_fl α f s fs)[k]? = some (.ref (α d))
  | [], s, k, d, h => by simp at h
  | some d' :: r, s, 0, d, h => by
    simp at h
    simp [k_fl, h]
  | none :: r, s, 0, d, h => by simp at h
  | some d' :: r, s, k + 1, d, h => by
    have := k_fl_r α f r (s + 1) k d (by simpa using h)
    simp only [k_fl, List.getElem?_cons_succ, this]
  | none :: r, s, k + 1, d, h => by
    have := k_fl_r α f r (s + 1) k d (by simpa using h)
    simp only [k_fl, List.getElem?_cons_succ, this]
theorem k_fl_ext (α : Nat → Nat) (f g : Nat → Int) : ∀ (fs : List (Option Nat)) (s : Nat), (∀ j, s ≤ j → f j = g j) → k_fl α f s fs = k_fl α g s fs
  | [], s, h => rfl
  | some d :: r, s, h => by simp [k_fl, k_fl_ext α f g r (s + 1) (fun j hj => h j (by omega))]
  | none :: r, s, h => by simp [k_fl, k_fl_ext α f g r (s + 1) (fun j hj => h j (by omega)), h s (Nat.le_refl s)]
theorem k_fl_set (α : Nat → Nat) (f : Nat → Int) (v : Int) : ∀ (fs : List (Option Nat)) (s k : Nat), fs[k]? = some none → (k_fl α f s fs).set k (.int (c32 v)) = k_fl α (fun j => if j = s + k then v else f j) s fs
  | [], s, k, h => by simp at h
  | some d :: r, s, 0, h => by simp at h
  | none :: r, s, 0, h => by
    simp only [k_fl, List.set_cons_zero, Nat.add_zero, if_true]
    rw [k_fl_ext α f (fun j => if j = s then v else f j) r (s + 1) (fun j hj => by rw [if_neg (by omega)])]
  | some d :: r, s, k + 1, h => by
    have := k_fl_set α f v r (s + 1) k (by simpa using h)
    simp only [k_fl, List.set_cons_succ, this]
    rw [show s + 1 + k = s + (k + 1) by omega]
  | none :: r, s, k + 1, h => by
    have := k_fl_set α f v r (s + 1) k (by simpa using h)
    simp only [k_fl, List.set_cons_succ, this]
    rw [show s + 1 + k = s + (k + 1) by omega, if_neg (by omega)]
def k_ent (α : Nat → Nat) (K : Nat → ClassId) (σ : KM) (c : Nat) : va_E := if k_ty c = 0 then .inr (k_ci c, k_fl α (fun k => σ c (k : Int)) 0 (k_fs c)) else .inl (K (k_ty c), k_ln c, .inl (fun j => c32 (σ c (j : Int))))
def k_wd (α : Nat → Nat) (K : Nat → ClassId) (σ : KM) : va_W := (List.range k_NC).map (fun c => (α c, k_ent α K σ c))
theorem k_at {α : Nat → Nat} {K : Nat → ClassId} {σ : KM} {c : Nat} (h : c < k_NC) : (k_wd α K σ)[c]? = some (α c, k_ent α K σ c) := by
  simp [k_wd, List.getElem?_map, List.getElem?_range h]
theorem k_ao {α : Nat → Nat} {K : Nat → ClassId} {σ : KM} {c : Nat} (h : c < k_NC) (h0 : k_ty c = 0) : (k_wd α K σ)[c]? = some (α c, .inr (k_ci c, k_fl α (fun k => σ c (k : Int)) 0 (k_fs c))) := by
  rw [k_at h]
  simp [k_ent, h0]
theorem k_aa {α : Nat → Nat} {K : Nat → ClassId} {σ : KM} {c : Nat} (h : c < k_NC) (h0 : k_ty c ≠ 0) : (k_wd α K σ)[c]? = some (α c, .inl (K (k_ty c), k_ln c, .inl (fun j => c32 (σ c (j : Int))))) := by
  rw [k_at h]
  simp [k_ent, h0]
theorem k_wd_len (α : Nat → Nat) (K : Nat → ClassId) (σ : KM) : (k_wd α K σ).length = k_NC := by simp [k_wd]
theorem k_wd_set {α : Nat → Nat} {K : Nat → ClassId} {σ τ : KM} {c : Nat} {e : va_E} (h : c < k_NC) (he : e = k_ent α K τ c) (hn : ∀ c', c' ≠ c → τ c' = σ c') : (k_wd α K σ).set c (α c, e) = k_wd α K τ := by
  apply List.ext_getElem?
  intro j
  by_cases hj : j = c
  · subst hj
    rw [List.getElem?_set_self (by rw [k_wd_len]; exact h), k_at h, he]
  · rw [List.getElem?_set_ne (Ne.symm hj)]
    by_cases hl : j < k_NC
    · rw [k_at hl, k_at hl]
      simp [k_ent, hn j hj]
    · rw [List.getElem?_eq_none (by rw [k_wd_len]; omega), List.getElem?_eq_none (by rw [k_wd_len]; omega)]
theorem k_wd_arr {α : Nat → Nat} {K : Nat → ClassId} {σ : KM} {c : Nat} {i v : Int} (h : c < k_NC) (h0 : k_ty c ≠ 0) (hi : 0 ≤ i) : (k_wd α K σ).set c (α c, .inl (K (k_ty c), k_ln c, .inl (upd (fun j => c32 (σ c (j : Int))) i.toNat (c32 v)))) = k_wd α K (ks σ c i v) := by
  refine k_wd_set h ?_ (fun c' hc => ks_ne hc)
  simp only [k_ent, h0, if_false]
  congr 4
  funext j
  by_cases hj : j = i.toNat
  · have e1 : (j : Int) = i := by omega
    simp only [upd, ks, if_pos hj, true_and, if_pos e1]
  · have : ¬ (j : Int) = i := by omega
    simp [upd, ks, hj, this]
theorem k_wd_obj {α : Nat → Nat} {K : Nat → ClassId} {σ : KM} {c k : Nat} {v : Int} (h : c < k_NC) (h0 : k_ty c = 0) (hk : (k_fs c)[k]? = some none) : (k_wd α K σ).set c (α c, .inr (k_ci c, (k_fl α (fun k => σ c (k : Int)) 0 (k_fs c)).set k (.int (c32 v)))) = k_wd α K (ks σ c (k : Int) v) := by
  refine k_wd_set h ?_ (fun c' hc => ks_ne hc)
  simp only [k_ent, h0, if_true]
  rw [k_fl_set α (fun k => σ c (k : Int)) v (k_fs c) 0 k hk]
  congr 3
  funext j
  simp only [ks, true_and, Nat.zero_add]
  by_cases hj : j = k
  · simp [hj]
  · have : ¬ (j : Int) = (k : Int) := by omega
    simp [hj, this]
def k_inj (α : Nat → Nat) : Prop := ∀ i j, i < k_NC → j < k_NC → α i = α j → i = j
theorem k_wd_D {α : Nat → Nat} {K : Nat → ClassId} {σ : KM} {A : Nat → Prop} (h1 : k_inj α) (h2 : ∀ c, c < k_NC → A (α c)) : va_D A (k_wd α K σ) := by
  have key : ∀ (k : Nat) (q : Nat × va_E), (k_wd α K σ)[k]? = some q → k < k_NC ∧ q.1 = α k := by
    intro k q hk
    have hl : k < k_NC := by
      rw [← k_wd_len α K σ]
      exact (List.getElem?_eq_some_iff.mp hk).1
    rw [k_at hl] at hk
    cases hk
    exact ⟨hl, rfl⟩
  refine ⟨fun i j p q hi hj hpq => ?_, fun k q hk => ?_⟩
  · obtain ⟨a1, a2⟩ := key i p hi
    obtain ⟨b1, b2⟩ := key j q hj
    exact h1 i j a1 b1 (by rw [← a2, ← b2]; exact hpq)
  · obtain ⟨a1, a2⟩ := key k q hk
    rw [a2]
    exact h2 k a1
def k_tys (K : Nat → ClassId) : List (ClassId × FieldType) := [(K 0, .int), (K 1, .int), (K 2, .byte), (K 3, .boolean)]
def k_AA (α : Nat → Nat) (sz : Nat) : Nat → Prop := fun q => (∃ c, c < k_NC ∧ q = α c) ∨ sz ≤ q
/-! ===== what stays as it was at the start: words of nest mates, static rows, texts ===== -/
def k_sn (i : Nat) : String := match i with
  | 0 => "DEGREE_STEPS"
  | 1 => "DEGREE_KINDS"
  | 2 => "THIRDS"
  | 3 => "FIFTHS"
  | 4 => "LETTER_TONES"
  | _ => "FIRST_WEIGHTS"
def k_sl (i : Nat) : Nat := match i with
  | 0 => 14
  | 1 => 14
  | 2 => 3
  | 3 => 3
  | 4 => 7
  | _ => 24
def k_sv (i : Nat) : Nat → Int := match i with
  | 0 => k_s0
  | 1 => k_s1
  | 2 => k_s2
  | 3 => k_s3
  | 4 => k_s4
  | _ => k_s5
def k_t0 : List Int32 := [99, 99, 100, 100, 101, 102, 102, 103, 103, 97, 97, 98]
def k_t1 : List Int32 := [32, 35, 32, 35, 32, 32, 35, 32, 35, 32, 35, 32]
def k_ext (α : Nat → Nat) (A : Nat → Prop) (U : State) (H : Heap) : Prop :=
  (∀ w ∈ k_nest, va_Nw w U) ∧ (∀ i, i < 6 → va_Z "KeyPath" (k_sn i) "[I" (.ref (α (100 + i))) A U H ∧ va_T .int (α (100 + i)) (k_sl i) (fun j => .int (c32 (k_sv i j))) A U H) ∧ (vk_R "KeyPath" 316 "ccddeffggaab" (α 110) U ∧ vk_R "KeyPath" 324 " # #  # # # " (α 111) U) ∧ vk_S 2 [12, 12] [k_t0, k_t1] (fun i => α (110 + i)) (fun i => α (112 + i)) A U H ∧ va_Z "java/lang/String" "COMPACT_STRINGS" "Z" (.int 1) A U H ∧ va_Zq "jdk/internal/util/Preconditions" "SIOOBE_FORMATTER" "Ljava/util/function/BiFunction;" A U H
def k_isNest : Cond → Bool
  | .methodLinkNest .. => true
  | .fieldLinkNest .. => true
  | _ => false
theorem k_nest_all : k_nest.all k_isNest = true := by decide +kernel
theorem k_nw_warm {w : Cond} (hw : k_isNest w = true) {s U : State} (hW : s.WarmedH U.vm) (h : va_Nw w s) : va_Nw w U := by
  cases w <;> first | exact va_Nw.warmM hW h | exact va_Nw.warmF hW h | (simp [k_isNest] at hw)
theorem k_nw_same {w : Cond} (hw : k_isNest w = true) {s U : State} (hv : s.vm = U.vm) (h : va_Nw w s) : va_Nw w U := by
  cases w <;> first | exact va_Nw.same rfl hv h | (simp [k_isNest] at hw)
theorem k_ext.warm {α : Nat → Nat} {A B : Nat → Prop} {s U : State} {H1 : Heap} (hW : s.WarmedH U.vm) (hAB : ∀ q, B q → A q) (hk : ∀ a : Nat, a < s.heap.size → ¬ A a → H1[a]? = s.heap[a]?) (h : k_ext α A s s.heap) : k_ext α B U H1 := by
  obtain ⟨h1, h2, ⟨h3, h4⟩, h5, h6, h7⟩ := h
  have hvm := hW.alike
  refine ⟨fun w hw => k_nw_warm (List.all_eq_true.mp k_nest_all w hw) hW (h1 w hw), fun i hi => ⟨(((h2 i hi).1.kept hk).narrow hAB).moved hvm, (((h2 i hi).2.kept hk).narrow hAB).moved hvm⟩, ⟨h3.warm hW, h4.warm hW⟩, ((h5.kept hk).narrow hAB).moved hvm, ((h6.kept hk).narrow hAB).moved hvm, ?_⟩
  rcases h7 with h | ⟨t, h⟩
  · exact Or.inl (((h.kept hk).narrow hAB).moved hvm)
  · exact Or.inr ⟨t, ((h.kept hk).narrow hAB).moved hvm⟩
theorem k_ext.same {α : Nat → Nat} {A : Nat → Prop} {s U : State} {H : Heap} (hv : U.vm = s.vm) (h : k_ext α A s H) : k_ext α A U H := by
  obtain ⟨h1, h2, ⟨h3, h4⟩, h5, h6, h7⟩ := h
  have hvm : s.vm.Alike U.vm := by rw [hv]; exact Vm.Alike.refl _
  refine ⟨fun w hw => k_nw_same (List.all_eq_true.mp k_nest_all w hw) hv.symm (h1 w hw), fun i hi => ⟨(h2 i hi).1.moved hvm, (h2 i hi).2.moved hvm⟩, ⟨h3.same hv, h4.same hv⟩, h5.moved hvm, h6.moved hvm, ?_⟩
  rcases h7 with h | ⟨t, h⟩
  · exact Or.inl (h.moved hvm)
  · exact Or.inr ⟨t, h.moved hvm⟩
/-! ===== the judgement ===== -/
abbrev KC : Type := (Program × Launch × Env × Room) × (State × MethodId × Array Value × List Frame) × (Method × Code) × (va_G × (Nat → ClassId) × (Nat → Nat) × (Nat → Prop)) × ((State → Prop) × Nat × Nat × Nat)
def k_lv (α : Nat → Nat) (nL : Nat) (ls : Array Slot) (L : List (Option KV)) : Prop := ls.size = nL ∧ lv_wf ls ∧ L.length = nL ∧ ∀ (i : Nat) (v : KV), L[i]? = some (some v) → ls[i]? = some (.val (k_tr α v))
def kW : KC → Nat → List (Option KV) → List KV → KM → Prop
  | ((p, l, e, R), (s, m, args, below), (meth, c), (D, K, α, A), (Q, cells, slots, nL)), pc, L, st, σ => ∀ (H : Heap) (locs : List Loc) (ls : Array Slot), va_P D k_cls (k_wd α K σ) H → va_S A s.heap H locs → k_lv α nL ls L → W p l e R s m args below meth c H locs cells slots Q (F0 m pc ls (st.map (k_tr α)))
def kOk : KC → Nat → ByteArray → Nat → String → Prop
  | ((p, l, e, R), (s, m, args, below), (meth, c), (D, K, α, A), (Q, cells, slots, nL)), d, cc, n, own => p.tables.exec = Jvm.exec ∧ c.code = cc ∧ c.maxLocals = nL ∧ n = nL ∧ s.vm.findClass own = some m.cls ∧ (∀ w ∈ k_Tg, w.before args s = true) ∧ (d ≤ R.frames ∧ 40 * d ≤ R.locals ∧ cells ≤ R.cells ∧ slots ≤ R.slots) ∧ va_K D k_cls (k_tys K) s ∧ (∀ q, s.heap.size ≤ q → A q) ∧ (∀ c, c < k_NC → A (α c)) ∧ k_inj α ∧ k_ext α A s s.heap
def kJ {Z : Type} (X : KC) (pc : Nat) (L : List (Option KV)) (st : List KV) (σ : KM) (F : Option Z) (Θ : Z → Prop) : Prop := ∀ z, F = some z → Θ z → kW X pc L st σ
end
section
/-! ===== pure steps ===== -/
def kLet {Z : Type} (a : Int) (G : Int → Option Z) : Option Z := G a
def kLt {Z : Type} (a b : Int) (T E : Option Z) : Option Z := if kin a ∧ kin b then (if a < b then T else E) else none
def kEq {Z : Type} (a b : Int) (T E : Option Z) : Option Z := if kin a ∧ kin b then (if a = b then T else E) else none
def kCk {Z : Type} (a : Int) (F : Option Z) : Option Z := if kin a then F else none
def kCk6 {Z : Type} (a b : Int) (F : Option Z) : Option Z := if kin6 a ∧ kin6 b then F else none
def kDv {Z : Type} (a b : Int) (G : Int → Option Z) : Option Z := if kin a ∧ kin b ∧ b ≠ 0 then G (a.tdiv b) else none
def kRm {Z : Type} (a b : Int) (G : Int → Option Z) : Option Z := if kin a ∧ kin b ∧ b ≠ 0 then G (a.tmod b) else none
def kDv6 {Z : Type} (a b : Int) (G : Int → Option Z) : Option Z := if kin6 a ∧ kin6 b ∧ b ≠ 0 then G (a.tdiv b) else none
def kRd {Z : Type} (σ : KM) (c : Nat) (N i : Int) (G : Int → Option Z) : Option Z := if 0 ≤ i ∧ i < N then G (σ c i) else none
def kWr {Z : Type} (σ : KM) (c : Nat) (N i v : Int) (G : KM → Option Z) : Option Z := if 0 ≤ i ∧ i < N then G (ks σ c i v) else none
def kWz {Z : Type} (σ : KM) (c : Nat) (N i v : Int) (G : KM → Option Z) : Option Z := if (0 ≤ i ∧ i < N) ∧ (v = 0 ∨ v = 1) then G (ks σ c i v) else none
def kWb {Z : Type} (σ : KM) (c : Nat) (N i v : Int) (G : KM → Option Z) : Option Z := if (0 ≤ i ∧ i < N) ∧ (-128 ≤ v ∧ v < 128) then G (ks σ c i v) else none
def kRs {Z : Type} (c : Nat) (N i : Int) (G : Int → Option Z) : Option Z := if 0 ≤ i ∧ i < N then G (k_sv c i.toNat) else none
def kWf {Z : Type} (σ : KM) (c : Nat) (k v : Int) (G : KM → Option Z) : Option Z := G (ks σ c k v)
def kWfz {Z : Type} (σ : KM) (c : Nat) (k v : Int) (G : KM → Option Z) : Option Z := if v = 0 ∨ v = 1 then G (ks σ c k v) else none
def kCall {Z : Type} (C : Option (Int × KM)) (G : Int → KM → Option Z) : Option Z := match C with
  | none => none
  | some q => G q.1 q.2
def kMx {Z : Type} (a b : Int) (G : Int → Option Z) : Option Z := if kin a ∧ kin b then G (if a < b then b else a) else none
def kMn {Z : Type} (a b : Int) (G : Int → Option Z) : Option Z := if kin a ∧ kin b then G (if b < a then b else a) else none
def kCp (σ : KM) (c0 c1 : Nat) (sp dp n : Int) : KM := fun c i => if c = c1 ∧ dp ≤ i ∧ i < dp + n then σ c0 (sp + (i - dp)) else σ c i
def kCpy {Z : Type} (σ : KM) (c0 : Nat) (N0 sp : Int) (c1 : Nat) (N1 dp n : Int) (G : KM → Option Z) : Option Z := if (0 ≤ sp ∧ 0 ≤ dp ∧ 0 ≤ n) ∧ (sp + n ≤ N0 ∧ dp + n ≤ N1) then G (kCp σ c0 c1 sp dp n) else none
def kAnd {Z : Type} (a b : Int) (G : Int → Option Z) : Option Z := if b = 255 ∨ b = 63 ∨ b = 1 then G (a % (b + 1)) else none
def kShr {Z : Type} (a b : Int) (G : Int → Option Z) : Option Z := if kin a ∧ 0 ≤ b ∧ b < 32 then G (a / 2 ^ b.toNat) else none
def kUsh {Z : Type} (a b : Int) (G : Int → Option Z) : Option Z := if 0 ≤ b ∧ b < 32 then G ((a % 4294967296) / 2 ^ b.toNat) else none
def kcmp (a b : Int) : Int := if b < a then 1 else if a = b then 0 else -1
def kI2b (a : Int) : Int := (a + 128) % 256 - 128
def kRetI (r : Int) (σ : KM) : Option (Int × KM) := some (r, σ)
def kRetZ (r : Int) (σ : KM) : Option (Int × KM) := if r = 0 ∨ r = 1 then some (r, σ) else none
def kRetC (r : Int) (σ : KM) : Option (Int × KM) := if 0 ≤ r ∧ r < 256 then some (r, σ) else none
def kSw {Z : Type} (x lo : Int) (Fs : List (Option Z)) (E : Option Z) : Option Z := if kin x then (if lo ≤ x ∧ x < lo + (Fs.length : Int) then Fs.getD (x - lo).toNat none else E) else none
def kIter {S R : Type} (f : S → Option (S ⊕ R)) : Nat → S → Option R
  | 0, _ => none
  | n + 1, s => match f s with
    | none => none
    | some (.inl s') => kIter f n s'
    | some (.inr r) => some r
def kExit {S R : Type} (F : Option R) : Option (S ⊕ R) := match F with
  | none => none
  | some r => some (.inr r)
def kF : Nat := 4000
/-! ===== rows ===== -/
section KR
variable {X : KC} {d n : Nat} {cc : ByteArray} {own : String} {pc : Nat} {L : List (Option KV)} {st : List KV} {σ : KM} {Z : Type} {F : Option Z} {Θ : Z → Prop}
theorem kJ.to {pc2 : Nat} {L2 : List (Option KV)} {st2 : List KV} {σ2 : KM} (f : kW X pc2 L2 st2 σ2 → kW X pc L st σ) (h : kJ X pc2 L2 st2 σ2 F Θ) : kJ X pc L st σ F Θ := fun z hF hz => f (h z hF hz)
theorem k_iadd (hX : kOk X d cc n own) {a b : Int} (hd : decode cc pc = .ok (.iadd, 1)) (h : kJ X (pc + 1) L (ki (a + b) :: st) σ F Θ) : kJ X pc L (ki b :: ki a :: st) σ F Θ := by
  obtain ⟨⟨p, l, e, R⟩, ⟨s, m, args, below⟩, ⟨meth, c⟩, ⟨D, K, α, A⟩, ⟨Q, cells, slots, nL⟩⟩ := X
  obtain ⟨hx, hb, hml, hnl, hown, hts, hR, hK, hA, hAc, hinj, hE⟩ := hX
  intro z hF hz H locs ls hP hS hL
  have k := h z hF hz H locs ls hP hS hL
  refine lv_iadd hx hb hd ?_
  rw [← c32_add]
  exact k
theorem k_isub (hX : kOk X d cc n own) {a b : Int} (hd : decode cc pc = .ok (.isub, 1)) (h : kJ X (pc + 1) L (ki (a - b) :: st) σ F Θ) : kJ X pc L (ki b :: ki a :: st) σ F Θ := by
  obtain ⟨⟨p, l, e, R⟩, ⟨s, m, args, below⟩, ⟨meth, c⟩, ⟨D, K, α, A⟩, ⟨Q, cells, slots, nL⟩⟩ := X
  obtain ⟨hx, hb, hml, hnl, hown, hts, hR, hK, hA, hAc, hinj, hE⟩ := hX
  intro z hF hz H locs ls hP hS hL
  have k := h z hF hz H locs ls hP hS hL
  refine lv_isub hx hb hd ?_
  rw [← c32_sub]
  exact k
theorem k_imul (hX : kOk X d cc n own) {a b : Int} (hd : decode cc pc = .ok (.imul, 1)) (h : kJ X (pc + 1) L (ki (a * b) :: st) σ F Θ) : kJ X pc L (ki b :: ki a :: st) σ F Θ := by
  obtain ⟨⟨p, l, e, R⟩, ⟨s, m, args, below⟩, ⟨meth, c⟩, ⟨D, K, α, A⟩, ⟨Q, cells, slots, nL⟩⟩ := X
  obtain ⟨hx, hb, hml, hnl, hown, hts, hR, hK, hA, hAc, hinj, hE⟩ := hX
  intro z hF hz H locs ls hP hS hL
  have k := h z hF hz H locs ls hP hS hL
  refine lv_imul hx hb hd ?_
  rw [← c32_mul]
  exact k
theorem k_ineg (hX : kOk X d cc n own) {a : Int} (hd : decode cc pc = .ok (.ineg, 1)) (h : kJ X (pc + 1) L (ki (-a) :: st) σ F Θ) : kJ X pc L (ki a :: st) σ F Θ := by
  obtain ⟨⟨p, l, e, R⟩, ⟨s, m, args, below⟩, ⟨meth, c⟩, ⟨D, K, α, A⟩, ⟨Q, cells, slots, nL⟩⟩ := X
  obtain ⟨hx, hb, hml, hnl, hown, hts, hR, hK, hA, hAc, hinj, hE⟩ := hX
  intro z hF hz H locs ls hP hS hL
  have k := h z hF hz H locs ls hP hS hL
  refine lv_ineg hx hb hd ?_
  rw [← c32_neg]
  exact k
theorem k_iconst (hX : kOk X d cc n own) {v : Int} (hd : decode cc pc = .ok (.iconst v, 1)) (h : kJ X (pc + 1) L (ki v :: st) σ F Θ) : kJ X pc L (st) σ F Θ := by
  obtain ⟨⟨p, l, e, R⟩, ⟨s, m, args, below⟩, ⟨meth, c⟩, ⟨D, K, α, A⟩, ⟨Q, cells, slots, nL⟩⟩ := X
  obtain ⟨hx, hb, hml, hnl, hown, hts, hR, hK, hA, hAc, hinj, hE⟩ := hX
  intro z hF hz H locs ls hP hS hL
  have k := h z hF hz H locs ls hP hS hL
  exact lv_iconst hx hb hd (v := c32 v) rfl k
theorem k_bipush (hX : kOk X d cc n own) {v : Int} (hd : decode cc pc = .ok (.bipush v, 2)) (hv : (Int8.ofInt v).toInt32 = c32 v) (h : kJ X (pc + 2) L (ki v :: st) σ F Θ) : kJ X pc L (st) σ F Θ := by
  obtain ⟨⟨p, l, e, R⟩, ⟨s, m, args, below⟩, ⟨meth, c⟩, ⟨D, K, α, A⟩, ⟨Q, cells, slots, nL⟩⟩ := X
  obtain ⟨hx, hb, hml, hnl, hown, hts, hR, hK, hA, hAc, hinj, hE⟩ := hX
  intro z hF hz H locs ls hP hS hL
  have k := h z hF hz H locs ls hP hS hL
  exact lv_bipush hx hb hd (v := c32 v) hv k
theorem k_sipush (hX : kOk X d cc n own) {v : Int} (hd : decode cc pc = .ok (.sipush v, 3)) (hv : (Int16.ofInt v).toInt32 = c32 v) (h : kJ X (pc + 3) L (ki v :: st) σ F Θ) : kJ X pc L (st) σ F Θ := by
  obtain ⟨⟨p, l, e, R⟩, ⟨s, m, args, below⟩, ⟨meth, c⟩, ⟨D, K, α, A⟩, ⟨Q, cells, slots, nL⟩⟩ := X
  obtain ⟨hx, hb, hml, hnl, hown, hts, hR, hK, hA, hAc, hinj, hE⟩ := hX
  intro z hF hz H locs ls hP hS hL
  have k := h z hF hz H locs ls hP hS hL
  exact lv_sipush hx hb hd (v := c32 v) hv k
theorem k_ldc (hX : kOk X d cc n own) {v : Int} {w : Int32} {index : Nat} (hd : decode cc pc = .ok (.ldc index, 2)) (hw : Cond.constant own index (c32 v) ∈ k_Tg) (h : kJ X (pc + 2) L (ki v :: st) σ F Θ) : kJ X pc L (st) σ F Θ := by
  obtain ⟨⟨p, l, e, R⟩, ⟨s, m, args, below⟩, ⟨meth, c⟩, ⟨D, K, α, A⟩, ⟨Q, cells, slots, nL⟩⟩ := X
  obtain ⟨hx, hb, hml, hnl, hown, hts, hR, hK, hA, hAc, hinj, hE⟩ := hX
  intro z hF hz H locs ls hP hS hL
  have k := h z hF hz H locs ls hP hS hL
  exact lv_ldc hx hb (v := c32 v) hown (hts _ hw) hd k
theorem k_ldcw (hX : kOk X d cc n own) {v : Int} {w : Int32} {index : Nat} (hd : decode cc pc = .ok (.ldc_w index, 3)) (hw : Cond.constant own index (c32 v) ∈ k_Tg) (h : kJ X (pc + 3) L (ki v :: st) σ F Θ) : kJ X pc L (st) σ F Θ := by
  obtain ⟨⟨p, l, e, R⟩, ⟨s, m, args, below⟩, ⟨meth, c⟩, ⟨D, K, α, A⟩, ⟨Q, cells, slots, nL⟩⟩ := X
  obtain ⟨hx, hb, hml, hnl, hown, hts, hR, hK, hA, hAc, hinj, hE⟩ := hX
  intro z hF hz H locs ls hP hS hL
  have k := h z hF hz H locs ls hP hS hL
  exact lv_ldcw hx hb (v := c32 v) hown (hts _ hw) hd k
theorem k_ldc2 (hX : kOk X d cc n own) {v : Int} {index : Nat} (hd : decode cc pc = .ok (.ldc2_w index, 3)) (hw : Cond.constantLong own index (c64 v) ∈ k_Tg) (h : kJ X (pc + 3) L (kl v :: st) σ F Θ) : kJ X pc L (st) σ F Θ := by
  obtain ⟨⟨p, l, e, R⟩, ⟨s, m, args, below⟩, ⟨meth, c⟩, ⟨D, K, α, A⟩, ⟨Q, cells, slots, nL⟩⟩ := X
  obtain ⟨hx, hb, hml, hnl, hown, hts, hR, hK, hA, hAc, hinj, hE⟩ := hX
  intro z hF hz H locs ls hP hS hL
  have k := h z hF hz H locs ls hP hS hL
  exact lv_ldc2 hx hb (v := c64 v) hown (hts _ hw) hd k
theorem k_lconst0 (hX : kOk X d cc n own) (hd : decode cc pc = .ok (.lconst 0, 1)) (h : kJ X (pc + 1) L (kl 0 :: st) σ F Θ) : kJ X pc L (st) σ F Θ := by
  obtain ⟨⟨p, l, e, R⟩, ⟨s, m, args, below⟩, ⟨meth, c⟩, ⟨D, K, α, A⟩, ⟨Q, cells, slots, nL⟩⟩ := X
  obtain ⟨hx, hb, hml, hnl, hown, hts, hR, hK, hA, hAc, hinj, hE⟩ := hX
  intro z hF hz H locs ls hP hS hL
  have k := h z hF hz H locs ls hP hS hL
  exact lv_lconst hx hb hd (v := c64 0) (by decide) k
theorem k_lconst1 (hX : kOk X d cc n own) (hd : decode cc pc = .ok (.lconst 1, 1)) (h : kJ X (pc + 1) L (kl 1 :: st) σ F Θ) : kJ X pc L (st) σ F Θ := by
  obtain ⟨⟨p, l, e, R⟩, ⟨s, m, args, below⟩, ⟨meth, c⟩, ⟨D, K, α, A⟩, ⟨Q, cells, slots, nL⟩⟩ := X
  obtain ⟨hx, hb, hml, hnl, hown, hts, hR, hK, hA, hAc, hinj, hE⟩ := hX
  intro z hF hz H locs ls hP hS hL
  have k := h z hF hz H locs ls hP hS hL
  exact lv_lconst hx hb hd (v := c64 1) (by decide) k
theorem k_iload_n (hX : kOk X d cc n own) {j : Fin 4} {v : Int} (hd : decode cc pc = .ok (.iload_n j, 1)) (hl : L[(j : Nat)]? = some (some (ki v))) (h : kJ X (pc + 1) L (ki v :: st) σ F Θ) : kJ X pc L (st) σ F Θ := by
  obtain ⟨⟨p, l, e, R⟩, ⟨s, m, args, below⟩, ⟨meth, c⟩, ⟨D, K, α, A⟩, ⟨Q, cells, slots, nL⟩⟩ := X
  obtain ⟨hx, hb, hml, hnl, hown, hts, hR, hK, hA, hAc, hinj, hE⟩ := hX
  intro z hF hz H locs ls hP hS hL
  have k := h z hF hz H locs ls hP hS hL
  exact lv_iload_n hx hb hd rfl (hL.2.2.2 _ _ hl) k
theorem k_iload (hX : kOk X d cc n own) {j : Nat} {v : Int} (hd : decode cc pc = .ok (.iload j, 2)) (hl : L[j]? = some (some (ki v))) (h : kJ X (pc + 2) L (ki v :: st) σ F Θ) : kJ X pc L (st) σ F Θ := by
  obtain ⟨⟨p, l, e, R⟩, ⟨s, m, args, below⟩, ⟨meth, c⟩, ⟨D, K, α, A⟩, ⟨Q, cells, slots, nL⟩⟩ := X
  obtain ⟨hx, hb, hml, hnl, hown, hts, hR, hK, hA, hAc, hinj, hE⟩ := hX
  intro z hF hz H locs ls hP hS hL
  have k := h z hF hz H locs ls hP hS hL
  exact lv_iload hx hb hd (hL.2.2.2 _ _ hl) k
theorem k_lload_n (hX : kOk X d cc n own) {j : Fin 4} {v : Int} (hd : decode cc pc = .ok (.lload_n j, 1)) (hl : L[(j : Nat)]? = some (some (kl v))) (h : kJ X (pc + 1) L (kl v :: st) σ F Θ) : kJ X pc L (st) σ F Θ := by
  obtain ⟨⟨p, l, e, R⟩, ⟨s, m, args, below⟩, ⟨meth, c⟩, ⟨D, K, α, A⟩, ⟨Q, cells, slots, nL⟩⟩ := X
  obtain ⟨hx, hb, hml, hnl, hown, hts, hR, hK, hA, hAc, hinj, hE⟩ := hX
  intro z hF hz H locs ls hP hS hL
  have k := h z hF hz H locs ls hP hS hL
  exact lv_lload_n hx hb hd rfl (hL.2.2.2 _ _ hl) k
theorem k_lload (hX : kOk X d cc n own) {j : Nat} {v : Int} (hd : decode cc pc = .ok (.lload j, 2)) (hl : L[j]? = some (some (kl v))) (h : kJ X (pc + 2) L (kl v :: st) σ F Θ) : kJ X pc L (st) σ F Θ := by
  obtain ⟨⟨p, l, e, R⟩, ⟨s, m, args, below⟩, ⟨meth, c⟩, ⟨D, K, α, A⟩, ⟨Q, cells, slots, nL⟩⟩ := X
  obtain ⟨hx, hb, hml, hnl, hown, hts, hR, hK, hA, hAc, hinj, hE⟩ := hX
  intro z hF hz H locs ls hP hS hL
  have k := h z hF hz H locs ls hP hS hL
  exact lv_lload hx hb hd (hL.2.2.2 _ _ hl) k
theorem k_aload_n (hX : kOk X d cc n own) {j : Fin 4} {v : Nat} (hd : decode cc pc = .ok (.aload_n j, 1)) (hl : L[(j : Nat)]? = some (some (kr v))) (h : kJ X (pc + 1) L (kr v :: st) σ F Θ) : kJ X pc L (st) σ F Θ := by
  obtain ⟨⟨p, l, e, R⟩, ⟨s, m, args, below⟩, ⟨meth, c⟩, ⟨D, K, α, A⟩, ⟨Q, cells, slots, nL⟩⟩ := X
  obtain ⟨hx, hb, hml, hnl, hown, hts, hR, hK, hA, hAc, hinj, hE⟩ := hX
  intro z hF hz H locs ls hP hS hL
  have k := h z hF hz H locs ls hP hS hL
  exact lv_aload_n hx hb hd rfl (hL.2.2.2 _ _ hl) k
theorem k_aload (hX : kOk X d cc n own) {j : Nat} {v : Nat} (hd : decode cc pc = .ok (.aload j, 2)) (hl : L[j]? = some (some (kr v))) (h : kJ X (pc + 2) L (kr v :: st) σ F Θ) : kJ X pc L (st) σ F Θ := by
  obtain ⟨⟨p, l, e, R⟩, ⟨s, m, args, below⟩, ⟨meth, c⟩, ⟨D, K, α, A⟩, ⟨Q, cells, slots, nL⟩⟩ := X
  obtain ⟨hx, hb, hml, hnl, hown, hts, hR, hK, hA, hAc, hinj, hE⟩ := hX
  intro z hF hz H locs ls hP hS hL
  have k := h z hF hz H locs ls hP hS hL
  exact lv_aload hx hb hd (hL.2.2.2 _ _ hl) k
theorem k_lmul (hX : kOk X d cc n own) {a b : Int} (hd : decode cc pc = .ok (.lmul, 1)) (h : kJ X (pc + 1) L (kl (a * b) :: st) σ F Θ) : kJ X pc L (kl b :: kl a :: st) σ F Θ := by
  obtain ⟨⟨p, l, e, R⟩, ⟨s, m, args, below⟩, ⟨meth, c⟩, ⟨D, K, α, A⟩, ⟨Q, cells, slots, nL⟩⟩ := X
  obtain ⟨hx, hb, hml, hnl, hown, hts, hR, hK, hA, hAc, hinj, hE⟩ := hX
  intro z hF hz H locs ls hP hS hL
  have k := h z hF hz H locs ls hP hS hL
  refine lv_lmul hx hb hd ?_
  rw [← c64_mul]
  exact k
theorem k_l2i (hX : kOk X d cc n own) {a : Int} (hd : decode cc pc = .ok (.l2i, 1)) (h : kJ X (pc + 1) L (ki a :: st) σ F Θ) : kJ X pc L (kl a :: st) σ F Θ := by
  obtain ⟨⟨p, l, e, R⟩, ⟨s, m, args, below⟩, ⟨meth, c⟩, ⟨D, K, α, A⟩, ⟨Q, cells, slots, nL⟩⟩ := X
  obtain ⟨hx, hb, hml, hnl, hown, hts, hR, hK, hA, hAc, hinj, hE⟩ := hX
  intro z hF hz H locs ls hP hS hL
  have k := h z hF hz H locs ls hP hS hL
  exact lv_l2i hx hb hd (c64_i a) k
theorem k_dup (hX : kOk X d cc n own) {a : Int} (hd : decode cc pc = .ok (.dup, 1)) (h : kJ X (pc + 1) L (ki a :: ki a :: st) σ F Θ) : kJ X pc L (ki a :: st) σ F Θ := by
  obtain ⟨⟨p, l, e, R⟩, ⟨s, m, args, below⟩, ⟨meth, c⟩, ⟨D, K, α, A⟩, ⟨Q, cells, slots, nL⟩⟩ := X
  obtain ⟨hx, hb, hml, hnl, hown, hts, hR, hK, hA, hAc, hinj, hE⟩ := hX
  intro z hF hz H locs ls hP hS hL
  have k := h z hF hz H locs ls hP hS hL
  exact lv_dup hx hb hd rfl k
theorem k_dupr (hX : kOk X d cc n own) {a : Nat} (hd : decode cc pc = .ok (.dup, 1)) (h : kJ X (pc + 1) L (kr a :: kr a :: st) σ F Θ) : kJ X pc L (kr a :: st) σ F Θ := by
  obtain ⟨⟨p, l, e, R⟩, ⟨s, m, args, below⟩, ⟨meth, c⟩, ⟨D, K, α, A⟩, ⟨Q, cells, slots, nL⟩⟩ := X
  obtain ⟨hx, hb, hml, hnl, hown, hts, hR, hK, hA, hAc, hinj, hE⟩ := hX
  intro z hF hz H locs ls hP hS hL
  have k := h z hF hz H locs ls hP hS hL
  exact lv_dup hx hb hd rfl k
theorem k_dup2 (hX : kOk X d cc n own) {a : Int} {b : Nat} (hd : decode cc pc = .ok (.dup2, 1)) (h : kJ X (pc + 1) L (ki a :: kr b :: ki a :: kr b :: st) σ F Θ) : kJ X pc L (ki a :: kr b :: st) σ F Θ := by
  obtain ⟨⟨p, l, e, R⟩, ⟨s, m, args, below⟩, ⟨meth, c⟩, ⟨D, K, α, A⟩, ⟨Q, cells, slots, nL⟩⟩ := X
  obtain ⟨hx, hb, hml, hnl, hown, hts, hR, hK, hA, hAc, hinj, hE⟩ := hX
  intro z hF hz H locs ls hP hS hL
  have k := h z hF hz H locs ls hP hS hL
  exact lv_dup2_11 hx hb hd rfl rfl k
theorem k_pop (hX : kOk X d cc n own) {a : Int} (hd : decode cc pc = .ok (.pop, 1)) (h : kJ X (pc + 1) L (st) σ F Θ) : kJ X pc L (ki a :: st) σ F Θ := by
  obtain ⟨⟨p, l, e, R⟩, ⟨s, m, args, below⟩, ⟨meth, c⟩, ⟨D, K, α, A⟩, ⟨Q, cells, slots, nL⟩⟩ := X
  obtain ⟨hx, hb, hml, hnl, hown, hts, hR, hK, hA, hAc, hinj, hE⟩ := hX
  intro z hF hz H locs ls hP hS hL
  have k := h z hF hz H locs ls hP hS hL
  exact lv_pop hx hb hd rfl k
theorem k_i2l (hX : kOk X d cc n own) {a : Int} (hd : decode cc pc = .ok (.i2l, 1)) (h : kJ X (pc + 1) L (kl a :: st) σ F Θ) : kJ X pc L (ki a :: st) σ (kCk a F) Θ := by
  obtain ⟨⟨p, l, e, R⟩, ⟨s, m, args, below⟩, ⟨meth, c⟩, ⟨D, K, α, A⟩, ⟨Q, cells, slots, nL⟩⟩ := X
  obtain ⟨hx, hb, hml, hnl, hown, hts, hR, hK, hA, hAc, hinj, hE⟩ := hX
  intro z hF hz H locs ls hP hS hL
  unfold kCk at hF
  split at hF
  · rename_i hc
    exact lv_i2l hx hb hd (c32_l hc) (h z hF hz H locs ls hP hS hL)
  · cases hF
theorem k_lcmp (hX : kOk X d cc n own) {a b : Int} (hd : decode cc pc = .ok (.lcmp, 1)) (h : kJ X (pc + 1) L (ki (kcmp a b) :: st) σ F Θ) : kJ X pc L (kl b :: kl a :: st) σ (kCk6 a b F) Θ := by
  obtain ⟨⟨p, l, e, R⟩, ⟨s, m, args, below⟩, ⟨meth, c⟩, ⟨D, K, α, A⟩, ⟨Q, cells, slots, nL⟩⟩ := X
  obtain ⟨hx, hb, hml, hnl, hown, hts, hR, hK, hA, hAc, hinj, hE⟩ := hX
  intro z hF hz H locs ls hP hS hL
  unfold kCk6 at hF
  split at hF
  · rename_i hc
    have e9 : lg_cmp (c64 a) (c64 b) = c32 (kcmp a b) := by
      unfold lg_cmp kcmp
      simp only [GT.gt, c64_lt hc.2 hc.1, c64_eq hc.1 hc.2]
      split
      · decide
      · split <;> decide
    refine W.lcmp hx hb hd ?_
    rw [e9]
    exact h z hF hz H locs ls hP hS hL
  · cases hF
theorem k_idiv (hX : kOk X d cc n own) {a b : Int} {G : Int → Option Z} (hd : decode cc pc = .ok (.idiv, 1)) (h : ∀ r, kJ X (pc + 1) L (ki r :: st) σ (G r) Θ) : kJ X pc L (ki b :: ki a :: st) σ (kDv a b G) Θ := by
  obtain ⟨⟨p, l, e, R⟩, ⟨s, m, args, below⟩, ⟨meth, c⟩, ⟨D, K, α, A⟩, ⟨Q, cells, slots, nL⟩⟩ := X
  obtain ⟨hx, hb, hml, hnl, hown, hts, hR, hK, hA, hAc, hinj, hE⟩ := hX
  intro z hF hz H locs ls hP hS hL
  unfold kDv at hF
  split at hF
  · rename_i hc
    refine lv_idiv hx hb hd (c32_ne0 hc.2.1 hc.2.2) ?_
    rw [← c32_div hc.1 hc.2.1]
    exact h _ z hF hz H locs ls hP hS hL
  · cases hF
theorem k_irem (hX : kOk X d cc n own) {a b : Int} {G : Int → Option Z} (hd : decode cc pc = .ok (.irem, 1)) (h : ∀ r, kJ X (pc + 1) L (ki r :: st) σ (G r) Θ) : kJ X pc L (ki b :: ki a :: st) σ (kRm a b G) Θ := by
  obtain ⟨⟨p, l, e, R⟩, ⟨s, m, args, below⟩, ⟨meth, c⟩, ⟨D, K, α, A⟩, ⟨Q, cells, slots, nL⟩⟩ := X
  obtain ⟨hx, hb, hml, hnl, hown, hts, hR, hK, hA, hAc, hinj, hE⟩ := hX
  intro z hF hz H locs ls hP hS hL
  unfold kRm at hF
  split at hF
  · rename_i hc
    refine lv_irem hx hb hd (c32_ne0 hc.2.1 hc.2.2) ?_
    rw [← c32_rem hc.1 hc.2.1]
    exact h _ z hF hz H locs ls hP hS hL
  · cases hF
theorem k_ldiv (hX : kOk X d cc n own) {a b : Int} {G : Int → Option Z} (hd : decode cc pc = .ok (.ldiv, 1)) (h : ∀ r, kJ X (pc + 1) L (kl r :: st) σ (G r) Θ) : kJ X pc L (kl b :: kl a :: st) σ (kDv6 a b G) Θ := by
  obtain ⟨⟨p, l, e, R⟩, ⟨s, m, args, below⟩, ⟨meth, c⟩, ⟨D, K, α, A⟩, ⟨Q, cells, slots, nL⟩⟩ := X
  obtain ⟨hx, hb, hml, hnl, hown, hts, hR, hK, hA, hAc, hinj, hE⟩ := hX
  intro z hF hz H locs ls hP hS hL
  unfold kDv6 at hF
  split at hF
  · rename_i hc
    have hb0 : ¬ c64 b = 0 := by
      rw [show (0 : Int64) = c64 0 by decide, c64_eq hc.2.1 (by decide)]
      exact hc.2.2
    refine lv_ldiv hx hb hd hb0 ?_
    rw [← c64_div hc.1 hc.2.1]
    exact h _ z hF hz H locs ls hP hS hL
  · cases hF
theorem k_icmp_lt (hX : kOk X d cc n own) {a b : Int} {T E : Option Z} {off : Int} {tgt : Nat} (hd : decode cc pc = .ok (.if_icmp .lt off, 3)) (ht : (pc : Int) + off = (tgt : Int)) (h1 : kJ X tgt L st σ T Θ) (h2 : kJ X (pc + 3) L st σ E Θ) : kJ X pc L (ki b :: ki a :: st) σ (kLt a b T E) Θ := by
  obtain ⟨⟨p, l, e, R⟩, ⟨s, m, args, below⟩, ⟨meth, c⟩, ⟨D, K, α, A⟩, ⟨Q, cells, slots, nL⟩⟩ := X
  obtain ⟨hx, hb, hml, hnl, hown, hts, hR, hK, hA, hAc, hinj, hE⟩ := hX
  intro z hF hz H locs ls hP hS hL
  unfold kLt at hF
  split at hF
  · rename_i hc
    split at hF
    · rename_i hp
      have q9 := (c32_lt hc.1 hc.2).mpr hp
      exact lv_icmp_lt hx hb hd ht (fun _ => (h1 z hF hz H locs ls hP hS hL)) (fun q => absurd q9 q)
    · rename_i hp
      have q9 := fun q => hp ((c32_lt hc.1 hc.2).mp q)
      exact lv_icmp_lt hx hb hd ht (fun q => absurd q q9) (fun _ => (h2 z hF hz H locs ls hP hS hL))
  · cases hF
theorem k_if_lt (hX : kOk X d cc n own) {a : Int} {T E : Option Z} {off : Int} {tgt : Nat} (hd : decode cc pc = .ok (.ifCond .lt off, 3)) (ht : (pc : Int) + off = (tgt : Int)) (h1 : kJ X tgt L st σ T Θ) (h2 : kJ X (pc + 3) L st σ E Θ) : kJ X pc L (ki a :: st) σ (kLt a 0 T E) Θ := by
  obtain ⟨⟨p, l, e, R⟩, ⟨s, m, args, below⟩, ⟨meth, c⟩, ⟨D, K, α, A⟩, ⟨Q, cells, slots, nL⟩⟩ := X
  obtain ⟨hx, hb, hml, hnl, hown, hts, hR, hK, hA, hAc, hinj, hE⟩ := hX
  intro z hF hz H locs ls hP hS hL
  unfold kLt at hF
  split at hF
  · rename_i hc
    have hz0 : kin 0 := by decide
    have e9 : (0 : Int32) = c32 0 := c32_0.symm
    split at hF
    · rename_i hp
      have q9 := (c32_lt hc.1 hc.2).mpr hp
      rw [c32_0] at q9
      exact lv_if_lt hx hb hd ht (fun _ => (h1 z hF hz H locs ls hP hS hL)) (fun q => absurd q9 q)
    · rename_i hp
      have q9 := fun q => hp ((c32_lt hc.1 hc.2).mp q)
      rw [c32_0] at q9
      exact lv_if_lt hx hb hd ht (fun q => absurd q q9) (fun _ => (h2 z hF hz H locs ls hP hS hL))
  · cases hF
theorem k_icmp_ge (hX : kOk X d cc n own) {a b : Int} {T E : Option Z} {off : Int} {tgt : Nat} (hd : decode cc pc = .ok (.if_icmp .ge off, 3)) (ht : (pc : Int) + off = (tgt : Int)) (h1 : kJ X tgt L st σ T Θ) (h2 : kJ X (pc + 3) L st σ E Θ) : kJ X pc L (ki b :: ki a :: st) σ (kLt a b E T) Θ := by
  obtain ⟨⟨p, l, e, R⟩, ⟨s, m, args, below⟩, ⟨meth, c⟩, ⟨D, K, α, A⟩, ⟨Q, cells, slots, nL⟩⟩ := X
  obtain ⟨hx, hb, hml, hnl, hown, hts, hR, hK, hA, hAc, hinj, hE⟩ := hX
  intro z hF hz H locs ls hP hS hL
  unfold kLt at hF
  split at hF
  · rename_i hc
    split at hF
    · rename_i hp
      have q9 := (c32_lt hc.1 hc.2).mpr hp
      exact lv_icmp_ge hx hb hd ht (fun q => absurd q9 (Int32.not_lt.mpr q)) (fun _ => (h2 z hF hz H locs ls hP hS hL))
    · rename_i hp
      have q9 := Int32.not_lt.mp (fun q => hp ((c32_lt hc.1 hc.2).mp q))
      exact lv_icmp_ge hx hb hd ht (fun _ => (h1 z hF hz H locs ls hP hS hL)) (fun q => absurd q9 q)
  · cases hF
theorem k_if_ge (hX : kOk X d cc n own) {a : Int} {T E : Option Z} {off : Int} {tgt : Nat} (hd : decode cc pc = .ok (.ifCond .ge off, 3)) (ht : (pc : Int) + off = (tgt : Int)) (h1 : kJ X tgt L st σ T Θ) (h2 : kJ X (pc + 3) L st σ E Θ) : kJ X pc L (ki a :: st) σ (kLt a 0 E T) Θ := by
  obtain ⟨⟨p, l, e, R⟩, ⟨s, m, args, below⟩, ⟨meth, c⟩, ⟨D, K, α, A⟩, ⟨Q, cells, slots, nL⟩⟩ := X
  obtain ⟨hx, hb, hml, hnl, hown, hts, hR, hK, hA, hAc, hinj, hE⟩ := hX
  intro z hF hz H locs ls hP hS hL
  unfold kLt at hF
  split at hF
  · rename_i hc
    have hz0 : kin 0 := by decide
    have e9 : (0 : Int32) = c32 0 := c32_0.symm
    split at hF
    · rename_i hp
      have q9 := (c32_lt hc.1 hc.2).mpr hp
      rw [c32_0] at q9
      exact lv_if_ge hx hb hd ht (fun q => absurd q9 (Int32.not_lt.mpr q)) (fun _ => (h2 z hF hz H locs ls hP hS hL))
    · rename_i hp
      have q9 := Int32.not_lt.mp (fun q => hp ((c32_lt hc.1 hc.2).mp q))
      rw [c32_0] at q9
      exact lv_if_ge hx hb hd ht (fun _ => (h1 z hF hz H locs ls hP hS hL)) (fun q => absurd q9 q)
  · cases hF
theorem k_icmp_gt (hX : kOk X d cc n own) {a b : Int} {T E : Option Z} {off : Int} {tgt : Nat} (hd : decode cc pc = .ok (.if_icmp .gt off, 3)) (ht : (pc : Int) + off = (tgt : Int)) (h1 : kJ X tgt L st σ T Θ) (h2 : kJ X (pc + 3) L st σ E Θ) : kJ X pc L (ki b :: ki a :: st) σ (kLt b a T E) Θ := by
  obtain ⟨⟨p, l, e, R⟩, ⟨s, m, args, below⟩, ⟨meth, c⟩, ⟨D, K, α, A⟩, ⟨Q, cells, slots, nL⟩⟩ := X
  obtain ⟨hx, hb, hml, hnl, hown, hts, hR, hK, hA, hAc, hinj, hE⟩ := hX
  intro z hF hz H locs ls hP hS hL
  unfold kLt at hF
  split at hF
  · rename_i hc
    split at hF
    · rename_i hp
      have q9 := (c32_lt hc.1 hc.2).mpr hp
      exact lv_icmp_gt hx hb hd ht (fun _ => (h1 z hF hz H locs ls hP hS hL)) (fun q => absurd q9 q)
    · rename_i hp
      have q9 := fun q => hp ((c32_lt hc.1 hc.2).mp q)
      exact lv_icmp_gt hx hb hd ht (fun q => absurd q q9) (fun _ => (h2 z hF hz H locs ls hP hS hL))
  · cases hF
theorem k_if_gt (hX : kOk X d cc n own) {a : Int} {T E : Option Z} {off : Int} {tgt : Nat} (hd : decode cc pc = .ok (.ifCond .gt off, 3)) (ht : (pc : Int) + off = (tgt : Int)) (h1 : kJ X tgt L st σ T Θ) (h2 : kJ X (pc + 3) L st σ E Θ) : kJ X pc L (ki a :: st) σ (kLt 0 a T E) Θ := by
  obtain ⟨⟨p, l, e, R⟩, ⟨s, m, args, below⟩, ⟨meth, c⟩, ⟨D, K, α, A⟩, ⟨Q, cells, slots, nL⟩⟩ := X
  obtain ⟨hx, hb, hml, hnl, hown, hts, hR, hK, hA, hAc, hinj, hE⟩ := hX
  intro z hF hz H locs ls hP hS hL
  unfold kLt at hF
  split at hF
  · rename_i hc
    have hz0 : kin 0 := by decide
    have e9 : (0 : Int32) = c32 0 := c32_0.symm
    split at hF
    · rename_i hp
      have q9 := (c32_lt hc.1 hc.2).mpr hp
      rw [c32_0] at q9
      exact lv_if_gt hx hb hd ht (fun _ => (h1 z hF hz H locs ls hP hS hL)) (fun q => absurd q9 q)
    · rename_i hp
      have q9 := fun q => hp ((c32_lt hc.1 hc.2).mp q)
      rw [c32_0] at q9
      exact lv_if_gt hx hb hd ht (fun q => absurd q q9) (fun _ => (h2 z hF hz H locs ls hP hS hL))
  · cases hF
theorem k_icmp_le (hX : kOk X d cc n own) {a b : Int} {T E : Option Z} {off : Int} {tgt : Nat} (hd : decode cc pc = .ok (.if_icmp .le off, 3)) (ht : (pc : Int) + off = (tgt : Int)) (h1 : kJ X tgt L st σ T Θ) (h2 : kJ X (pc + 3) L st σ E Θ) : kJ X pc L (ki b :: ki a :: st) σ (kLt b a E T) Θ := by
  obtain ⟨⟨p, l, e, R⟩, ⟨s, m, args, below⟩, ⟨meth, c⟩, ⟨D, K, α, A⟩, ⟨Q, cells, slots, nL⟩⟩ := X
  obtain ⟨hx, hb, hml, hnl, hown, hts, hR, hK, hA, hAc, hinj, hE⟩ := hX
  intro z hF hz H locs ls hP hS hL
  unfold kLt at hF
  split at hF
  · rename_i hc
    split at hF
    · rename_i hp
      have q9 := (c32_lt hc.1 hc.2).mpr hp
      exact lv_icmp_le hx hb hd ht (fun q => absurd q9 (Int32.not_lt.mpr q)) (fun _ => (h2 z hF hz H locs ls hP hS hL))
    · rename_i hp
      have q9 := Int32.not_lt.mp (fun q => hp ((c32_lt hc.1 hc.2).mp q))
      exact lv_icmp_le hx hb hd ht (fun _ => (h1 z hF hz H locs ls hP hS hL)) (fun q => absurd q9 q)
  · cases hF
theorem k_if_le (hX : kOk X d cc n own) {a : Int} {T E : Option Z} {off : Int} {tgt : Nat} (hd : decode cc pc = .ok (.ifCond .le off, 3)) (ht : (pc : Int) + off = (tgt : Int)) (h1 : kJ X tgt L st σ T Θ) (h2 : kJ X (pc + 3) L st σ E Θ) : kJ X pc L (ki a :: st) σ (kLt 0 a E T) Θ := by
  obtain ⟨⟨p, l, e, R⟩, ⟨s, m, args, below⟩, ⟨meth, c⟩, ⟨D, K, α, A⟩, ⟨Q, cells, slots, nL⟩⟩ := X
  obtain ⟨hx, hb, hml, hnl, hown, hts, hR, hK, hA, hAc, hinj, hE⟩ := hX
  intro z hF hz H locs ls hP hS hL
  unfold kLt at hF
  split at hF
  · rename_i hc
    have hz0 : kin 0 := by decide
    have e9 : (0 : Int32) = c32 0 := c32_0.symm
    split at hF
    · rename_i hp
      have q9 := (c32_lt hc.1 hc.2).mpr hp
      rw [c32_0] at q9
      exact lv_if_le hx hb hd ht (fun q => absurd q9 (Int32.not_lt.mpr q)) (fun _ => (h2 z hF hz H locs ls hP hS hL))
    · rename_i hp
      have q9 := Int32.not_lt.mp (fun q => hp ((c32_lt hc.1 hc.2).mp q))
      rw [c32_0] at q9
      exact lv_if_le hx hb hd ht (fun _ => (h1 z hF hz H locs ls hP hS hL)) (fun q => absurd q9 q)
  · cases hF
theorem k_icmp_eq (hX : kOk X d cc n own) {a b : Int} {T E : Option Z} {off : Int} {tgt : Nat} (hd : decode cc pc = .ok (.if_icmp .eq off, 3)) (ht : (pc : Int) + off = (tgt : Int)) (h1 : kJ X tgt L st σ T Θ) (h2 : kJ X (pc + 3) L st σ E Θ) : kJ X pc L (ki b :: ki a :: st) σ (kEq a b T E) Θ := by
  obtain ⟨⟨p, l, e, R⟩, ⟨s, m, args, below⟩, ⟨meth, c⟩, ⟨D, K, α, A⟩, ⟨Q, cells, slots, nL⟩⟩ := X
  obtain ⟨hx, hb, hml, hnl, hown, hts, hR, hK, hA, hAc, hinj, hE⟩ := hX
  intro z hF hz H locs ls hP hS hL
  unfold kEq at hF
  split at hF
  · rename_i hc
    split at hF
    · rename_i hp
      have q9 := (c32_eq hc.1 hc.2).mpr hp
      exact lv_icmp_eq hx hb hd ht (fun _ => (h1 z hF hz H locs ls hP hS hL)) (fun q => absurd q9 q)
    · rename_i hp
      have q9 := fun q => hp ((c32_eq hc.1 hc.2).mp q)
      exact lv_icmp_eq hx hb hd ht (fun q => absurd q q9) (fun _ => (h2 z hF hz H locs ls hP hS hL))
  · cases hF
theorem k_if_eq (hX : kOk X d cc n own) {a : Int} {T E : Option Z} {off : Int} {tgt : Nat} (hd : decode cc pc = .ok (.ifCond .eq off, 3)) (ht : (pc : Int) + off = (tgt : Int)) (h1 : kJ X tgt L st σ T Θ) (h2 : kJ X (pc + 3) L st σ E Θ) : kJ X pc L (ki a :: st) σ (kEq a 0 T E) Θ := by
  obtain ⟨⟨p, l, e, R⟩, ⟨s, m, args, below⟩, ⟨meth, c⟩, ⟨D, K, α, A⟩, ⟨Q, cells, slots, nL⟩⟩ := X
  obtain ⟨hx, hb, hml, hnl, hown, hts, hR, hK, hA, hAc, hinj, hE⟩ := hX
  intro z hF hz H locs ls hP hS hL
  unfold kEq at hF
  split at hF
  · rename_i hc
    have hz0 : kin 0 := by decide
    have e9 : (0 : Int32) = c32 0 := c32_0.symm
    split at hF
    · rename_i hp
      have q9 := (c32_eq hc.1 hc.2).mpr hp
      rw [c32_0] at q9
      exact lv_if_eq hx hb hd ht (fun _ => (h1 z hF hz H locs ls hP hS hL)) (fun q => absurd q9 q)
    · rename_i hp
      have q9 := fun q => hp ((c32_eq hc.1 hc.2).mp q)
      rw [c32_0] at q9
      exact lv_if_eq hx hb hd ht (fun q => absurd q q9) (fun _ => (h2 z hF hz H locs ls hP hS hL))
  · cases hF
theorem k_icmp_ne (hX : kOk X d cc n own) {a b : Int} {T E : Option Z} {off : Int} {tgt : Nat} (hd : decode cc pc = .ok (.if_icmp .ne off, 3)) (ht : (pc : Int) + off = (tgt : Int)) (h1 : kJ X tgt L st σ T Θ) (h2 : kJ X (pc + 3) L st σ E Θ) : kJ X pc L (ki b :: ki a :: st) σ (kEq a b E T) Θ := by
  obtain ⟨⟨p, l, e, R⟩, ⟨s, m, args, below⟩, ⟨meth, c⟩, ⟨D, K, α, A⟩, ⟨Q, cells, slots, nL⟩⟩ := X
  obtain ⟨hx, hb, hml, hnl, hown, hts, hR, hK, hA, hAc, hinj, hE⟩ := hX
  intro z hF hz H locs ls hP hS hL
  unfold kEq at hF
  split at hF
  · rename_i hc
    split at hF
    · rename_i hp
      have q9 := (c32_eq hc.1 hc.2).mpr hp
      exact lv_icmp_ne hx hb hd ht (fun q => absurd q9 q) (fun _ => (h2 z hF hz H locs ls hP hS hL))
    · rename_i hp
      have q9 := fun q => hp ((c32_eq hc.1 hc.2).mp q)
      exact lv_icmp_ne hx hb hd ht (fun _ => (h1 z hF hz H locs ls hP hS hL)) (fun q => absurd q q9)
  · cases hF
theorem k_if_ne (hX : kOk X d cc n own) {a : Int} {T E : Option Z} {off : Int} {tgt : Nat} (hd : decode cc pc = .ok (.ifCond .ne off, 3)) (ht : (pc : Int) + off = (tgt : Int)) (h1 : kJ X tgt L st σ T Θ) (h2 : kJ X (pc + 3) L st σ E Θ) : kJ X pc L (ki a :: st) σ (kEq a 0 E T) Θ := by
  obtain ⟨⟨p, l, e, R⟩, ⟨s, m, args, below⟩, ⟨meth, c⟩, ⟨D, K, α, A⟩, ⟨Q, cells, slots, nL⟩⟩ := X
  obtain ⟨hx, hb, hml, hnl, hown, hts, hR, hK, hA, hAc, hinj, hE⟩ := hX
  intro z hF hz H locs ls hP hS hL
  unfold kEq at hF
  split at hF
  · rename_i hc
    have hz0 : kin 0 := by decide
    have e9 : (0 : Int32) = c32 0 := c32_0.symm
    split at hF
    · rename_i hp
      have q9 := (c32_eq hc.1 hc.2).mpr hp
      rw [c32_0] at q9
      exact lv_if_ne hx hb hd ht (fun q => absurd q9 q) (fun _ => (h2 z hF hz H locs ls hP hS hL))
    · rename_i hp
      have q9 := fun q => hp ((c32_eq hc.1 hc.2).mp q)
      rw [c32_0] at q9
      exact lv_if_ne hx hb hd ht (fun _ => (h1 z hF hz H locs ls hP hS hL)) (fun q => absurd q q9)
  · cases hF
theorem k_goto (hX : kOk X d cc n own) {off : Int} {tgt : Nat} (hd : decode cc pc = .ok (.goto off, 3)) (ht : (pc : Int) + off = (tgt : Int)) (h : kJ X tgt L st σ F Θ) : kJ X pc L st σ F Θ := by
  obtain ⟨⟨p, l, e, R⟩, ⟨s, m, args, below⟩, ⟨meth, c⟩, ⟨D, K, α, A⟩, ⟨Q, cells, slots, nL⟩⟩ := X
  obtain ⟨hx, hb, hml, hnl, hown, hts, hR, hK, hA, hAc, hinj, hE⟩ := hX
  intro z hF hz H locs ls hP hS hL
  exact lv_goto hx hb hd ht (h z hF hz H locs ls hP hS hL)
end KR
end
section
/-! ===== what is stored into a place of the frame ===== -/
def k_pairs (α : Nat → Nat) : Nat → List (Option KV) → List (Nat × Value)
  | _, [] => []
  | i, none :: r => k_pairs α (i + 1) r
  | i, some v :: r => (i, k_tr α v) :: k_pairs α (i + 1) r
theorem k_pairs_mem (α : Nat → Nat) : ∀ (L : List (Option KV)) (i : Nat) (q : Nat × Value), q ∈ k_pairs α i L → ∃ v, i ≤ q.1 ∧ L[q.1 - i]? = some (some v) ∧ q.2 = k_tr α v
  | [], i, q, h => by simp [k_pairs] at h
  | none :: r, i, q, h => by
    obtain ⟨v, h1, h2, h3⟩ := k_pairs_mem α r (i + 1) q h
    refine ⟨v, by omega, ?_, h3⟩
    rw [show q.1 - i = (q.1 - (i + 1)) + 1 by omega]
    simpa using h2
  | some w :: r, i, q, h => by
    rcases List.mem_cons.mp h with h | h
    · subst h
      exact ⟨w, Nat.le_refl i, by simp, rfl⟩
    · obtain ⟨v, h1, h2, h3⟩ := k_pairs_mem α r (i + 1) q h
      refine ⟨v, by omega, ?_, h3⟩
      rw [show q.1 - i = (q.1 - (i + 1)) + 1 by omega]
      simpa using h2
theorem k_pairs_in (α : Nat → Nat) : ∀ (L : List (Option KV)) (i j : Nat) (v : KV), L[j]? = some (some v) → (i + j, k_tr α v) ∈ k_pairs α i L
  | [], i, j, v, h => by simp at h
  | none :: r, i, 0, v, h => by simp at h
  | none :: r, i, j + 1, v, h => by
    have := k_pairs_in α r (i + 1) j v (by simpa using h)
    rw [show i + (j + 1) = i + 1 + j by omega]
    exact this
  | some w :: r, i, 0, v, h => by
    simp at h
    subst h
    exact List.mem_cons_self
  | some w :: r, i, j + 1, v, h => by
    have := k_pairs_in α r (i + 1) j v (by simpa using h)
    rw [show i + (j + 1) = i + 1 + j by omega]
    exact List.mem_cons_of_mem _ this
def k_nol (L : List (Option KV)) : Bool := L.all (fun o => match o with
  | some (.inr (.inl _)) => false
  | _ => true)
theorem k_lv.has {α : Nat → Nat} {nL : Nat} {ls : Array Slot} {L : List (Option KV)} (h : k_lv α nL ls L) : lv_has ls nL (k_pairs α 0 L) := by
  refine ⟨h.1, h.2.1, fun q hq => ?_⟩
  obtain ⟨v, -, h2, h3⟩ := k_pairs_mem α L 0 q hq
  rw [h3]
  exact h.2.2.2 q.1 v (by simpa using h2)
theorem k_lv.set {α : Nat → Nat} {nL : Nat} {ls' : Array Slot} {L : List (Option KV)} {i : Nat} {v : KV} (hlen : L.length = nL) (hq : k_nol L = true) (h : lv_has ls' nL ((i, k_tr α v) :: (k_pairs α 0 L).filter (fun q => !(q.1 == i) && !(q.1 + 1 == i && q.2.category == 2)))) : k_lv α nL ls' (L.set i (some v)) := by
  refine ⟨h.1, h.2.1, by simpa using hlen, fun j w hw => ?_⟩
  by_cases hj : j = i
  · subst hj
    have hl : j < L.length := by
      have := (List.getElem?_eq_some_iff.mp hw).1
      simpa using this
    rw [List.getElem?_set_self hl] at hw
    cases hw
    exact h.2.2 (j, k_tr α v) List.mem_cons_self
  · rw [List.getElem?_set_ne (Ne.symm hj)] at hw
    have hm := k_pairs_in α L 0 j w hw
    rw [Nat.zero_add] at hm
    refine h.2.2 (j, k_tr α w) (List.mem_cons_of_mem _ (List.mem_filter.mpr ⟨hm, ?_⟩))
    have hc : (k_tr α w).category ≠ 2 := by
      have h1 := List.all_eq_true.mp hq (some w) (List.mem_of_getElem? hw)
      cases w with
      | inl x => simp [k_tr, Value.category]
      | inr x =>
        cases x with
        | inl y => simp at h1
        | inr y => simp [k_tr, Value.category]
    simp [hj, hc]
section KS
variable {X : KC} {d n : Nat} {cc : ByteArray} {own : String} {pc : Nat} {L : List (Option KV)} {st : List KV} {σ : KM} {Z : Type} {F : Option Z} {Θ : Z → Prop}
theorem k_istore_n (hX : kOk X d cc n own) {j : Fin 4} {a : Int} {L' : List (Option KV)} (hd : decode cc pc = .ok (.istore_n j, 1)) (hq : k_nol L = true) (hn : (j : Nat) < n) (he : L.set (j : Nat) (some (ki a)) = L') (h : kJ X (pc + 1) L' st σ F Θ) : kJ X pc L (ki a :: st) σ F Θ := by
  obtain ⟨⟨p, l, e, R⟩, ⟨s, m, args, below⟩, ⟨meth, c⟩, ⟨D, K, α, A⟩, ⟨Q, cells, slots, nL⟩⟩ := X
  obtain ⟨hx, hb, hml, hnl, hown, hts, hR, hK, hA, hAc, hinj, hE⟩ := hX
  intro z hF hz H locs ls hP hS hL
  subst he
  exact lv_istore_n hx hb hd rfl hL.has (by omega) rfl (fun ls' h' => h z hF hz H locs ls' hP hS (k_lv.set hL.2.2.1 hq h'))
theorem k_istore (hX : kOk X d cc n own) {j : Nat} {a : Int} {L' : List (Option KV)} (hd : decode cc pc = .ok (.istore j, 2)) (hq : k_nol L = true) (hn : j < n) (he : L.set j (some (ki a)) = L') (h : kJ X (pc + 2) L' st σ F Θ) : kJ X pc L (ki a :: st) σ F Θ := by
  obtain ⟨⟨p, l, e, R⟩, ⟨s, m, args, below⟩, ⟨meth, c⟩, ⟨D, K, α, A⟩, ⟨Q, cells, slots, nL⟩⟩ := X
  obtain ⟨hx, hb, hml, hnl, hown, hts, hR, hK, hA, hAc, hinj, hE⟩ := hX
  intro z hF hz H locs ls hP hS hL
  subst he
  exact lv_istore hx hb hd hL.has (by omega) rfl (fun ls' h' => h z hF hz H locs ls' hP hS (k_lv.set hL.2.2.1 hq h'))
theorem k_iinc (hX : kOk X d cc n own) {j : Nat} {a b : Int} {L' : List (Option KV)} (hd : decode cc pc = .ok (.iinc j b, 3)) (hq : k_nol L = true) (hn : j < n) (hl : L[j]? = some (some (ki a))) (he : L.set j (some (ki (a + b))) = L') (h : kJ X (pc + 3) L' st σ F Θ) : kJ X pc L st σ F Θ := by
  obtain ⟨⟨p, l, e, R⟩, ⟨s, m, args, below⟩, ⟨meth, c⟩, ⟨D, K, α, A⟩, ⟨Q, cells, slots, nL⟩⟩ := X
  obtain ⟨hx, hb, hml, hnl, hown, hts, hR, hK, hA, hAc, hinj, hE⟩ := hX
  intro z hF hz H locs ls hP hS hL
  subst he
  have hm := k_pairs_in α L 0 j (ki a) hl
  rw [Nat.zero_add] at hm
  obtain ⟨q, hq9⟩ := List.getElem?_of_mem hm
  exact lv_iinc hx hb hd hL.has hq9 (v := c32 (a + b)) (by rw [c32_add]; rfl) (by omega) rfl (fun ls' h' => h z hF hz H locs ls' hP hS (k_lv.set (v := ki (a + b)) hL.2.2.1 hq h'))
theorem k_istoreL_n (hX : kOk X d cc n own) {j : Fin 4} {a : Int} {G : Int → Option Z} {Lf : Int → List (Option KV)} (hd : decode cc pc = .ok (.istore_n j, 1)) (hq : k_nol L = true) (hn : (j : Nat) < n) (he : ∀ y, L.set (j : Nat) (some (ki y)) = Lf y) (h : ∀ y, kJ X (pc + 1) (Lf y) st σ (G y) Θ) : kJ X pc L (ki a :: st) σ (kLet a G) Θ := k_istore_n hX hd hq hn (he a) (h a)
theorem k_istoreL (hX : kOk X d cc n own) {j : Nat} {a : Int} {G : Int → Option Z} {Lf : Int → List (Option KV)} (hd : decode cc pc = .ok (.istore j, 2)) (hq : k_nol L = true) (hn : j < n) (he : ∀ y, L.set j (some (ki y)) = Lf y) (h : ∀ y, kJ X (pc + 2) (Lf y) st σ (G y) Θ) : kJ X pc L (ki a :: st) σ (kLet a G) Θ := k_istore hX hd hq hn (he a) (h a)
theorem k_iincL (hX : kOk X d cc n own) {j : Nat} {a b : Int} {G : Int → Option Z} {Lf : Int → List (Option KV)} (hd : decode cc pc = .ok (.iinc j b, 3)) (hq : k_nol L = true) (hn : j < n) (hl : L[j]? = some (some (ki a))) (he : ∀ y, L.set j (some (ki y)) = Lf y) (h : ∀ y, kJ X (pc + 3) (Lf y) st σ (G y) Θ) : kJ X pc L st σ (kLet (a + b) G) Θ := k_iinc hX hd hq hn hl (he (a + b)) (h (a + b))
theorem k_let {a : Int} {G : Int → Option Z} (h : kJ X pc L st σ (G a) Θ) : kJ X pc L st σ (kLet a G) Θ := h
/-- fewer places of the frame are told -/
def k_mask : List Bool → List (Option KV) → List (Option KV)
  | [], L => L
  | _, [] => []
  | b :: bs, x :: r => (if b = true then x else none) :: k_mask bs r
theorem k_mask_len : ∀ (bs : List Bool) (L : List (Option KV)), (k_mask bs L).length = L.length
  | [], L => by simp [k_mask]
  | b :: bs, [] => by simp [k_mask]
  | b :: bs, x :: r => by simp [k_mask, k_mask_len bs r]
theorem k_mask_at : ∀ (bs : List Bool) (L : List (Option KV)) (i : Nat) (v : KV), (k_mask bs L)[i]? = some (some v) → L[i]? = some (some v)
  | [], L, i, v, h => by simpa [k_mask] using h
  | b :: bs, [], i, v, h => by simp [k_mask] at h
  | b :: bs, x :: r, 0, v, h => by
    cases b
    · simp [k_mask] at h
    · simpa [k_mask] using h
  | b :: bs, x :: r, i + 1, v, h => by
    have := k_mask_at bs r i v (by simpa [k_mask] using h)
    simpa using this
theorem k_less (bs : List Bool) {L' : List (Option KV)} (he : k_mask bs L = L') (h : kJ X pc L' st σ F Θ) : kJ X pc L st σ F Θ := by
  obtain ⟨⟨p, l, e, R⟩, ⟨s, m, args, below⟩, ⟨meth, c⟩, ⟨D, K, α, A⟩, ⟨Q, cells, slots, nL⟩⟩ := X
  intro z hF hz H locs ls hP hS hL
  subst he
  exact h z hF hz H locs ls hP hS ⟨hL.1, hL.2.1, by rw [k_mask_len]; exact hL.2.2.1, fun i v hi => hL.2.2.2 i v (k_mask_at bs L i v hi)⟩
/-! loops, exits -/
def k_th {S R : Type} (X : KC) (pc : Nat) (Lf : S → List (Option KV)) (mf : S → KM) (Θ : R → Prop) : S ⊕ R → Prop
  | .inl s => kW X pc (Lf s) [] (mf s)
  | .inr r => Θ r
theorem k_iter {S R : Type} {f : S → Option (S ⊕ R)} {Lf : S → List (Option KV)} {mf : S → KM} {Θ : R → Prop} (h : ∀ s : S, kJ X pc (Lf s) [] (mf s) (f s) (k_th X pc Lf mf Θ)) : ∀ (k : Nat) (s : S), kJ X pc (Lf s) [] (mf s) (kIter f k s) Θ := by
  intro k
  induction k with
  | zero => intro s z hF; cases hF
  | succ k ih =>
    intro s z hF hz
    unfold kIter at hF
    split at hF
    · cases hF
    · rename_i s' hs
      exact h s (.inl s') hs (ih s' z hF hz)
    · rename_i r hs
      cases hF
      exact h s (.inr z) hs hz
theorem k_exit {S R : Type} {G : Option R} {Θ : S ⊕ R → Prop} (h : kJ X pc L st σ G (fun r => Θ (.inr r))) : kJ X pc L st σ (kExit (S := S) G) Θ := by
  intro z hF hz
  unfold kExit at hF
  split at hF
  · cases hF
  · rename_i r
    cases hF
    exact h r rfl hz
theorem k_back {S R : Type} {s' : S} {Θ : S ⊕ R → Prop} (h : Θ (.inl s') → kW X pc L st σ) : kJ X pc L st σ (some (Sum.inl s')) Θ := by
  intro z hF hz
  cases hF
  exact h hz
end KS
end
section
/-! ===== fields, rows of numbers ===== -/
theorem k_cats (α : Nat → Nat) : ∀ st : List KV, (st.map (fun v => (k_tr α v).category)).sum = (st.map (fun v => (k_tr (fun _ => 0) v).category)).sum
  | [] => rfl
  | v :: st => by
    have := k_cats α st
    simp only [List.map_cons, List.sum_cons, this]
    rcases v with x | x | x <;> rfl
section KH
variable {X : KC} {d n : Nat} {cc : ByteArray} {own : String} {pc : Nat} {L : List (Option KV)} {st : List KV} {σ : KM} {Z : Type} {F : Option Z} {Θ : Z → Prop}
theorem k_getI (hX : kOk X d cc n own) (c k : Nat) {ci N index : Nat} {C : String} {T : u_T} (hc : c < k_NC) (h0 : k_ty c = 0) (hf : (k_fs c)[k]? = some none) (hci : k_ci c = ci) (hcl : k_cls[ci]? = some (C, T, N)) (hin : ∀ w ∈ u_ws C T N, w ∈ k_Tg) (hk : k < N) (hT : (T k).1 = C) (hw : Cond.fieldLink own index C (T k).2.1 (T k).2.2.1 ∈ k_Tg) (hd : decode cc pc = .ok (.getfield index, 3)) {kI : Int} (hkI : (k : Int) = kI) (h : kJ X (pc + 3) L (ki (σ c kI) :: st) σ F Θ) : kJ X pc L (kr c :: st) σ F Θ := by
  obtain ⟨⟨p, l, e, R⟩, ⟨s, m, args, below⟩, ⟨meth, cd⟩, ⟨D, K, α, A⟩, ⟨Q, cells, slots, nL⟩⟩ := X
  obtain ⟨hx, hb, hml, hnl, hown, hts, hR, hK, hA, hAc, hinj, hE⟩ := hX
  intro z hF hz H locs ls hP hS hL
  subst hci
  subst hkI
  have hg := k_fl_i α (fun k => σ c (k : Int)) (k_fs c) 0 k hf
  rw [Nat.zero_add] at hg
  exact va_get (ref := C) hx hb hts hin hown hK hP c (k_ao hc h0) hcl k hk (hts _ hw) (by rw [hT]; exact fun _ h9 => h9) hg hd (h z hF hz H locs ls hP hS hL)
theorem k_getR (hX : kOk X d cc n own) (c k : Nat) {ci N index q : Nat} {C : String} {T : u_T} (hc : c < k_NC) (h0 : k_ty c = 0) (hf : (k_fs c)[k]? = some (some q)) (hci : k_ci c = ci) (hcl : k_cls[ci]? = some (C, T, N)) (hin : ∀ w ∈ u_ws C T N, w ∈ k_Tg) (hk : k < N) (hT : (T k).1 = C) (hw : Cond.fieldLink own index C (T k).2.1 (T k).2.2.1 ∈ k_Tg) (hd : decode cc pc = .ok (.getfield index, 3)) (h : kJ X (pc + 3) L (kr q :: st) σ F Θ) : kJ X pc L (kr c :: st) σ F Θ := by
  obtain ⟨⟨p, l, e, R⟩, ⟨s, m, args, below⟩, ⟨meth, cd⟩, ⟨D, K, α, A⟩, ⟨Q, cells, slots, nL⟩⟩ := X
  obtain ⟨hx, hb, hml, hnl, hown, hts, hR, hK, hA, hAc, hinj, hE⟩ := hX
  intro z hF hz H locs ls hP hS hL
  subst hci
  have hg := k_fl_r α (fun k => σ c (k : Int)) (k_fs c) 0 k _ hf
  exact va_get (ref := C) hx hb hts hin hown hK hP c (k_ao hc h0) hcl k hk (hts _ hw) (by rw [hT]; exact fun _ h9 => h9) hg hd (h z hF hz H locs ls hP hS hL)
theorem k_putI (hX : kOk X d cc n own) (c k : Nat) {ci N index : Nat} {a : Int} {C : String} {T : u_T} {ty0 : Nat → FieldType} {G : KM → Option Z} (hc : c < k_NC) (h0 : k_ty c = 0) (hf : (k_fs c)[k]? = some none) (hci : k_ci c = ci) (hcl : k_cls[ci]? = some (C, T, N)) (hin : ∀ w ∈ u_ws C T N, w ∈ k_Tg) (hty : ∀ k, k < N → parseFieldDescriptor (T k).2.2.1 = some (ty0 k)) (hnm : ∀ a, a < N → ∀ b, b < N → a ≠ b → (T a).2.1 ≠ (T b).2.1) (hk : k < N) (hT : (T k).1 = C) (hfin : (T k).2.2.2 = false) (hti : ty0 k = .int) (hw : Cond.fieldLink own index C (T k).2.1 (T k).2.2.1 ∈ k_Tg) (hd : decode cc pc = .ok (.putfield index, 3)) {kI : Int} (hkI : (k : Int) = kI) (h : ∀ τ, kJ X (pc + 3) L st τ (G τ) Θ) : kJ X pc L (ki a :: kr c :: st) σ (kWf σ c kI a G) Θ := by
  obtain ⟨⟨p, l, e, R⟩, ⟨s, m, args, below⟩, ⟨meth, cd⟩, ⟨D, K, α, A⟩, ⟨Q, cells, slots, nL⟩⟩ := X
  obtain ⟨hx, hb, hml, hnl, hown, hts, hR, hK, hA, hAc, hinj, hE⟩ := hX
  intro z hF hz H locs ls hP hS hL
  subst hci
  subst hkI
  have hlt : k < (k_fl α (fun k => σ c (k : Int)) 0 (k_fs c)).length := by rw [k_fl_len]; exact (List.getElem?_eq_some_iff.mp hf).1
  refine va_put (ref := C) (ty := .int) (v := .int (c32 a)) hx hb hts hin ty0 hty hnm hown hK hP (k_wd_D hinj hAc) hS c (k_ao hc h0) hcl k hk (hts _ hw) (by rw [hT]; exact fun _ h9 => h9) hfin (by rw [← hti]; exact hty k hk) rfl rfl hlt hd (fun H1 locs1 hP1 hD1 hS1 => ?_)
  rw [k_wd_obj hc h0 hf] at hP1
  exact h _ z hF hz H1 locs1 ls hP1 hS1 hL
theorem k_putZ (hX : kOk X d cc n own) (c k : Nat) {ci N index : Nat} {a : Int} {C : String} {T : u_T} {ty0 : Nat → FieldType} {G : KM → Option Z} (hc : c < k_NC) (h0 : k_ty c = 0) (hf : (k_fs c)[k]? = some none) (hci : k_ci c = ci) (hcl : k_cls[ci]? = some (C, T, N)) (hin : ∀ w ∈ u_ws C T N, w ∈ k_Tg) (hty : ∀ k, k < N → parseFieldDescriptor (T k).2.2.1 = some (ty0 k)) (hnm : ∀ a, a < N → ∀ b, b < N → a ≠ b → (T a).2.1 ≠ (T b).2.1) (hk : k < N) (hT : (T k).1 = C) (hfin : (T k).2.2.2 = false) (hti : ty0 k = .boolean) (hw : Cond.fieldLink own index C (T k).2.1 (T k).2.2.1 ∈ k_Tg) (hd : decode cc pc = .ok (.putfield index, 3)) {kI : Int} (hkI : (k : Int) = kI) (h : ∀ τ, kJ X (pc + 3) L st τ (G τ) Θ) : kJ X pc L (ki a :: kr c :: st) σ (kWfz σ c kI a G) Θ := by
  obtain ⟨⟨p, l, e, R⟩, ⟨s, m, args, below⟩, ⟨meth, cd⟩, ⟨D, K, α, A⟩, ⟨Q, cells, slots, nL⟩⟩ := X
  obtain ⟨hx, hb, hml, hnl, hown, hts, hR, hK, hA, hAc, hinj, hE⟩ := hX
  intro z hF hz H locs ls hP hS hL
  subst hci
  subst hkI
  unfold kWfz at hF
  split at hF
  · rename_i hz01
    have hlt : k < (k_fl α (fun k => σ c (k : Int)) 0 (k_fs c)).length := by rw [k_fl_len]; exact (List.getElem?_eq_some_iff.mp hf).1
    refine va_put (ref := C) (ty := .boolean) (v := .int (c32 a)) hx hb hts hin ty0 hty hnm hown hK hP (k_wd_D hinj hAc) hS c (k_ao hc h0) hcl k hk (hts _ hw) (by rw [hT]; exact fun _ h9 => h9) hfin (by rw [← hti]; exact hty k hk) (by rcases hz01 with rfl | rfl <;> decide) (by rcases hz01 with rfl | rfl <;> decide) hlt hd (fun H1 locs1 hP1 hD1 hS1 => ?_)
    rw [k_wd_obj hc h0 hf] at hP1
    exact h _ z hF hz H1 locs1 ls hP1 hS1 hL
  · cases hF
theorem k_ln_lt (c : Nat) : k_ln c < 2147483648 := by
  by_cases h : c < 68
  · have : ∀ c, c < 68 → k_ln c < 2147483648 := by decide
    exact this c h
  · unfold k_ln
    rw [List.getD_eq_getElem?_getD, List.getElem?_eq_none (by show 68 ≤ c; omega)]
    decide
theorem k_iald (hX : kOk X d cc n own) {c : Nat} {i : Int} {G : Int → Option Z} (hc : c < k_NC) (h1 : k_ty c = 1) (hd : decode cc pc = .ok (.iaload, 1)) {N : Int} (hN : (k_ln c : Int) = N) (h : ∀ r, kJ X (pc + 1) L (ki r :: st) σ (G r) Θ) : kJ X pc L (ki i :: kr c :: st) σ (kRd σ c N i G) Θ := by
  obtain ⟨⟨p, l, e, R⟩, ⟨s, m, args, below⟩, ⟨meth, cd⟩, ⟨D, K, α, A⟩, ⟨Q, cells, slots, nL⟩⟩ := X
  obtain ⟨hx, hb, hml, hnl, hown, hts, hR, hK, hA, hAc, hinj, hE⟩ := hX
  intro z hF hz H locs ls hP hS hL
  subst hN
  unfold kRd at hF
  split at hF
  · rename_i hi
    have hln := k_ln_lt c
    refine va_iald hx hb hK hP c 1 (k_aa hc (by rw [h1]; decide)) (by rw [h1]; rfl) (c32_in hi.1 hi.2 hln) hd ?_
    rw [c32_clamp hi.1 (by omega)]
    have e7 : ((i.toNat : Nat) : Int) = i := by omega
    rw [e7]
    exact h _ z hF hz H locs ls hP hS hL
  · cases hF
theorem k_bald (hX : kOk X d cc n own) {c : Nat} {i : Int} {G : Int → Option Z} (hc : c < k_NC) (h1 : k_ty c = 2) (hd : decode cc pc = .ok (.baload, 1)) {N : Int} (hN : (k_ln c : Int) = N) (h : ∀ r, kJ X (pc + 1) L (ki r :: st) σ (G r) Θ) : kJ X pc L (ki i :: kr c :: st) σ (kRd σ c N i G) Θ := by
  obtain ⟨⟨p, l, e, R⟩, ⟨s, m, args, below⟩, ⟨meth, cd⟩, ⟨D, K, α, A⟩, ⟨Q, cells, slots, nL⟩⟩ := X
  obtain ⟨hx, hb, hml, hnl, hown, hts, hR, hK, hA, hAc, hinj, hE⟩ := hX
  intro z hF hz H locs ls hP hS hL
  subst hN
  unfold kRd at hF
  split at hF
  · rename_i hi
    have hln := k_ln_lt c
    refine va_bald hx hb hK hP c 2 (k_aa hc (by rw [h1]; decide)) (by rw [h1]; rfl) (c32_in hi.1 hi.2 hln) hd ?_
    rw [c32_clamp hi.1 (by omega)]
    have e7 : ((i.toNat : Nat) : Int) = i := by omega
    rw [e7]
    exact h _ z hF hz H locs ls hP hS hL
  · cases hF
theorem k_zald (hX : kOk X d cc n own) {c : Nat} {i : Int} {G : Int → Option Z} (hc : c < k_NC) (h1 : k_ty c = 3) (hd : decode cc pc = .ok (.baload, 1)) {N : Int} (hN : (k_ln c : Int) = N) (h : ∀ r, kJ X (pc + 1) L (ki r :: st) σ (G r) Θ) : kJ X pc L (ki i :: kr c :: st) σ (kRd σ c N i G) Θ := by
  obtain ⟨⟨p, l, e, R⟩, ⟨s, m, args, below⟩, ⟨meth, cd⟩, ⟨D, K, α, A⟩, ⟨Q, cells, slots, nL⟩⟩ := X
  obtain ⟨hx, hb, hml, hnl, hown, hts, hR, hK, hA, hAc, hinj, hE⟩ := hX
  intro z hF hz H locs ls hP hS hL
  subst hN
  unfold kRd at hF
  split at hF
  · rename_i hi
    have hln := k_ln_lt c
    refine va_zald hx hb hK hP c 3 (k_aa hc (by rw [h1]; decide)) (by rw [h1]; rfl) (c32_in hi.1 hi.2 hln) hd ?_
    rw [c32_clamp hi.1 (by omega)]
    have e7 : ((i.toNat : Nat) : Int) = i := by omega
    rw [e7]
    exact h _ z hF hz H locs ls hP hS hL
  · cases hF
theorem k_iast (hX : kOk X d cc n own) {c : Nat} {i a : Int} {G : KM → Option Z} (hc : c < k_NC) (h1 : k_ty c = 1) (hd : decode cc pc = .ok (.iastore, 1)) {N : Int} (hN : (k_ln c : Int) = N) (h : ∀ τ, kJ X (pc + 1) L st τ (G τ) Θ) : kJ X pc L (ki a :: ki i :: kr c :: st) σ (kWr σ c N i a G) Θ := by
  obtain ⟨⟨p, l, e, R⟩, ⟨s, m, args, below⟩, ⟨meth, cd⟩, ⟨D, K, α, A⟩, ⟨Q, cells, slots, nL⟩⟩ := X
  obtain ⟨hx, hb, hml, hnl, hown, hts, hR, hK, hA, hAc, hinj, hE⟩ := hX
  intro z hF hz H locs ls hP hS hL
  subst hN
  unfold kWr at hF
  split at hF
  · rename_i hi
    have hln := k_ln_lt c
    have h9 : k_ty c ≠ 0 := by rw [h1]; decide
    refine va_iast hx hb hK hP (k_wd_D hinj hAc) hS c 1 (k_aa hc h9) (by rw [h1]; rfl) (c32_in hi.1 hi.2 hln) hd (fun H1 locs1 hP1 hD1 hS1 => ?_)
    rw [c32_clamp hi.1 (by have := hi.2; omega), k_wd_arr hc h9 (by omega)] at hP1
    exact h _ z hF hz H1 locs1 ls hP1 hS1 hL
  · cases hF
theorem k_zast (hX : kOk X d cc n own) {c : Nat} {i a : Int} {G : KM → Option Z} (hc : c < k_NC) (h1 : k_ty c = 3) (hd : decode cc pc = .ok (.bastore, 1)) {N : Int} (hN : (k_ln c : Int) = N) (h : ∀ τ, kJ X (pc + 1) L st τ (G τ) Θ) : kJ X pc L (ki a :: ki i :: kr c :: st) σ (kWz σ c N i a G) Θ := by
  obtain ⟨⟨p, l, e, R⟩, ⟨s, m, args, below⟩, ⟨meth, cd⟩, ⟨D, K, α, A⟩, ⟨Q, cells, slots, nL⟩⟩ := X
  obtain ⟨hx, hb, hml, hnl, hown, hts, hR, hK, hA, hAc, hinj, hE⟩ := hX
  intro z hF hz H locs ls hP hS hL
  subst hN
  unfold kWz at hF
  split at hF
  · rename_i hi
    have hln := k_ln_lt c
    have h9 : k_ty c ≠ 0 := by rw [h1]; decide
    refine va_zast hx hb hK hP (k_wd_D hinj hAc) hS c 3 (k_aa hc h9) (by rw [h1]; rfl) (c32_in hi.1.1 hi.1.2 hln) hd (fun H1 locs1 hP1 hD1 hS1 => ?_)
    have e8 : vp_nar .boolean (c32 a) = c32 a := by rcases hi.2 with rfl | rfl <;> decide
    rw [e8] at hP1
    rw [c32_clamp hi.1.1 (by have := hi.1.2; omega), k_wd_arr hc h9 (by omega)] at hP1
    exact h _ z hF hz H1 locs1 ls hP1 hS1 hL
  · cases hF
theorem k_bast (hX : kOk X d cc n own) {c : Nat} {i a : Int} {G : KM → Option Z} (hc : c < k_NC) (h1 : k_ty c = 2) (hd : decode cc pc = .ok (.bastore, 1)) {N : Int} (hN : (k_ln c : Int) = N) (h : ∀ τ, kJ X (pc + 1) L st τ (G τ) Θ) : kJ X pc L (ki a :: ki i :: kr c :: st) σ (kWb σ c N i a G) Θ := by
  obtain ⟨⟨p, l, e, R⟩, ⟨s, m, args, below⟩, ⟨meth, cd⟩, ⟨D, K, α, A⟩, ⟨Q, cells, slots, nL⟩⟩ := X
  obtain ⟨hx, hb, hml, hnl, hown, hts, hR, hK, hA, hAc, hinj, hE⟩ := hX
  intro z hF hz H locs ls hP hS hL
  subst hN
  unfold kWb at hF
  split at hF
  · rename_i hi
    have hln := k_ln_lt c
    have h9 : k_ty c ≠ 0 := by rw [h1]; decide
    refine va_bast hx hb hK hP (k_wd_D hinj hAc) hS c 2 (k_aa hc h9) (by rw [h1]; rfl) (c32_in hi.1.1 hi.1.2 hln) hd (fun H1 locs1 hP1 hD1 hS1 => ?_)
    have e8 : vp_nar .byte (c32 a) = c32 a := by
      rw [vp_nar_byte]
      refine Int32.toInt_inj.mp ?_
      rw [Int8.toInt_toInt32, Int32.toInt_toInt8, c32_toInt ⟨by omega, by omega⟩]
      refine Int.bmod_eq_of_le ?_ ?_ <;> omega
    rw [e8] at hP1
    rw [c32_clamp hi.1.1 (by have := hi.1.2; omega), k_wd_arr hc h9 (by omega)] at hP1
    exact h _ z hF hz H1 locs1 ls hP1 hS1 hL
  · cases hF
theorem k_gets (hX : kOk X d cc n own) (i : Nat) {index : Nat} (hi : i < 6) (hw : Cond.fieldLink own index "KeyPath" (k_sn i) "[I" ∈ k_Tg) (hd : decode cc pc = .ok (.getstatic index, 3)) (h : kJ X (pc + 3) L (kr (100 + i) :: st) σ F Θ) : kJ X pc L st σ F Θ := by
  obtain ⟨⟨p, l, e, R⟩, ⟨s, m, args, below⟩, ⟨meth, cd⟩, ⟨D, K, α, A⟩, ⟨Q, cells, slots, nL⟩⟩ := X
  obtain ⟨hx, hb, hml, hnl, hown, hts, hR, hK, hA, hAc, hinj, hE⟩ := hX
  intro z hF hz H locs ls hP hS hL
  exact va_gets hx hb (hE.2.1 i hi).1 hS hown (hts _ hw) (fun _ h9 => h9) hd (h z hF hz H locs ls hP hS hL)
theorem k_getsN (hX : kOk X d cc n own) (i : Nat) {index : Nat} (hi : i < 6) (hw : Cond.fieldLinkNest own index "KeyPath" (k_sn i) "[I" "KeyPath" ∈ k_nest) (hd : decode cc pc = .ok (.getstatic index, 3)) (h : kJ X (pc + 3) L (kr (100 + i) :: st) σ F Θ) : kJ X pc L st σ F Θ := by
  obtain ⟨⟨p, l, e, R⟩, ⟨s, m, args, below⟩, ⟨meth, cd⟩, ⟨D, K, α, A⟩, ⟨Q, cells, slots, nL⟩⟩ := X
  obtain ⟨hx, hb, hml, hnl, hown, hts, hR, hK, hA, hAc, hinj, hE⟩ := hX
  intro z hF hz H locs ls hP hS hL
  exact va_getsN hx hb (hE.2.1 i hi).1 hS hown (va_Nw.use rfl (hE.1 _ hw)) (fun _ h9 => h9) hd (h z hF hz H locs ls hP hS hL)
theorem k_sald (hX : kOk X d cc n own) {c : Nat} {i : Int} {G : Int → Option Z} (hc : c < 6) (hd : decode cc pc = .ok (.iaload, 1)) {N : Int} (hN : (k_sl c : Int) = N) (h : ∀ r, kJ X (pc + 1) L (ki r :: st) σ (G r) Θ) : kJ X pc L (ki i :: kr (100 + c) :: st) σ (kRs c N i G) Θ := by
  obtain ⟨⟨p, l, e, R⟩, ⟨s, m, args, below⟩, ⟨meth, cd⟩, ⟨D, K, α, A⟩, ⟨Q, cells, slots, nL⟩⟩ := X
  obtain ⟨hx, hb, hml, hnl, hown, hts, hR, hK, hA, hAc, hinj, hE⟩ := hX
  intro z hF hz H locs ls hP hS hL
  subst hN
  unfold kRs at hF
  split at hF
  · rename_i hi
    have hln : k_sl c < 2147483648 := by
      have : ∀ c, c < 6 → k_sl c < 2147483648 := by decide
      exact this c hc
    refine va_ti hx hb (hE.2.1 c hc).2 hS (c32_in hi.1 hi.2 hln) (v := .int (c32 (k_sv c i.toNat))) (by rw [c32_clamp hi.1 (by omega)]) hd ?_
    exact h _ z hF hz H locs ls hP hS hL
  · cases hF
theorem k_mmax (hX : kOk X d cc n own) {a b : Int} {index : Nat} {G : Int → Option Z} (hd1 : 1 ≤ d) (hst : (st.map (fun v => (k_tr (fun _ => 0) v).category)).sum ≤ 8) (h1 : Cond.methodLink own index Lib.Math.max.name ∈ k_Tg) (h2 : Cond.static Lib.Math.max.name ∈ k_Tg) (h3 : Cond.initialized "java/lang/Math" ∈ k_Tg) (h4 : Cond.code Lib.Math.max.name Lib.Math.max.code 2 (some .int) ∈ k_Tg) (hd : decode cc pc = .ok (.invokestatic index, 3)) (h : ∀ r, kJ X (pc + 3) L (ki r :: st) σ (G r) Θ) : kJ X pc L (ki b :: ki a :: st) σ (kMx a b G) Θ := by
  obtain ⟨⟨p, l, e, R⟩, ⟨s, m, args, below⟩, ⟨meth, cd⟩, ⟨D, K, α, A⟩, ⟨Q, cells, slots, nL⟩⟩ := X
  obtain ⟨hx, hb, hml, hnl, hown, hts, hR, hK, hA, hAc, hinj, hE⟩ := hX
  intro z hF hz H locs ls hP hS hL
  unfold kMx at hF
  split at hF
  · rename_i hi
    refine va_mmax hx hb (by rw [hml]; exact hL.1.symm) hown (hts _ h1) (hts _ h2) (hts _ h3) (hts _ h4) (by omega) (by have := k_cats α st; simp only [List.map_map]; simp only [Function.comp_def]; omega) hR.2.2.1 hR.2.2.2 hd ?_
    have hr := h _ z hF hz H locs ls hP hS hL
    simp only [List.map_cons, k_tr] at hr
    simp only [GT.gt, c32_lt hi.1 hi.2, c32_lt hi.2 hi.1]
    split
    · rename_i hq
      rw [if_pos hq] at hr
      exact hr
    · rename_i hq
      rw [if_neg hq] at hr
      exact hr
  · cases hF
theorem k_mmin (hX : kOk X d cc n own) {a b : Int} {index : Nat} {G : Int → Option Z} (hd1 : 1 ≤ d) (hst : (st.map (fun v => (k_tr (fun _ => 0) v).category)).sum ≤ 8) (h1 : Cond.methodLink own index Lib.Math.min.name ∈ k_Tg) (h2 : Cond.static Lib.Math.min.name ∈ k_Tg) (h3 : Cond.initialized "java/lang/Math" ∈ k_Tg) (h4 : Cond.code Lib.Math.min.name Lib.Math.min.code 2 (some .int) ∈ k_Tg) (hd : decode cc pc = .ok (.invokestatic index, 3)) (h : ∀ r, kJ X (pc + 3) L (ki r :: st) σ (G r) Θ) : kJ X pc L (ki b :: ki a :: st) σ (kMn a b G) Θ := by
  obtain ⟨⟨p, l, e, R⟩, ⟨s, m, args, below⟩, ⟨meth, cd⟩, ⟨D, K, α, A⟩, ⟨Q, cells, slots, nL⟩⟩ := X
  obtain ⟨hx, hb, hml, hnl, hown, hts, hR, hK, hA, hAc, hinj, hE⟩ := hX
  intro z hF hz H locs ls hP hS hL
  unfold kMn at hF
  split at hF
  · rename_i hi
    refine va_mmin hx hb (by rw [hml]; exact hL.1.symm) hown (hts _ h1) (hts _ h2) (hts _ h3) (hts _ h4) (by omega) (by have := k_cats α st; simp only [List.map_map]; simp only [Function.comp_def]; omega) hR.2.2.1 hR.2.2.2 hd ?_
    have hr := h _ z hF hz H locs ls hP hS hL
    simp only [List.map_cons, k_tr] at hr
    simp only [GT.gt, c32_lt hi.1 hi.2, c32_lt hi.2 hi.1]
    split
    · rename_i hq
      rw [if_pos hq] at hr
      exact hr
    · rename_i hq
      rw [if_neg hq] at hr
      exact hr
  · cases hF
end KH
end
section
/-! ===== arraycopy, switches, ends, calls ===== -/
def k_cat (st : List KV) : Nat := (st.map (fun v => (k_tr (fun _ => 0) v).category)).sum
theorem k_cat_eq (α : Nat → Nat) (st : List KV) : ((st.map (k_tr α)).map (fun v => v.category)).sum = k_cat st := by
  rw [List.map_map]
  exact k_cats α st
theorem k_wd_cp {α : Nat → Nat} {K : Nat → ClassId} {σ : KM} {c0 c1 : Nat} {sp dp n : Int} (h : c1 < k_NC) (h0 : k_ty c1 ≠ 0) (g1 : 0 ≤ sp) (g2 : 0 ≤ dp) (g3 : 0 ≤ n) : (k_wd α K σ).set c1 (α c1, .inl (K (k_ty c1), k_ln c1, .inl (va_cpy (fun j => c32 (σ c0 (j : Int))) (fun j => c32 (σ c1 (j : Int))) sp.toNat dp.toNat n.toNat))) = k_wd α K (kCp σ c0 c1 sp dp n) := by
  refine k_wd_set h ?_ (fun c' hc => by funext j; simp [kCp, hc])
  simp only [k_ent, h0, if_false]
  congr 4
  funext j
  simp only [va_cpy, kCp, true_and]
  by_cases hj : dp ≤ (j : Int) ∧ (j : Int) < dp + n
  · rw [if_pos hj, if_pos (by omega)]
    congr 2
    omega
  · rw [if_neg hj, if_neg (by omega)]
section KC
variable {X : KC} {d n : Nat} {cc : ByteArray} {own : String} {pc : Nat} {L : List (Option KV)} {st : List KV} {σ : KM} {Z : Type} {F : Option Z} {Θ : Z → Prop}
theorem k_copy (hX : kOk X d cc n own) {c0 c1 index : Nat} {sp dp m : Int} {G : KM → Option Z} (hd1 : 1 ≤ d) (hst : k_cat st ≤ 8) (h0 : c0 < k_NC) (h1 : c1 < k_NC) (t0 : k_ty c0 = 1) (t1 : k_ty c1 = 1) (w1 : Cond.methodLink own index arraycopyName ∈ k_Tg) (w2 : Cond.native arraycopyName ∈ k_Tg) (w3 : Cond.static arraycopyName ∈ k_Tg) (w4 : Cond.initialized "java/lang/System" ∈ k_Tg) (hd : decode cc pc = .ok (.invokestatic index, 3)) {N0 N1 : Int} (hN0 : (k_ln c0 : Int) = N0) (hN1 : (k_ln c1 : Int) = N1) (h : ∀ τ, kJ X (pc + 3) L st τ (G τ) Θ) : kJ X pc L (ki m :: ki dp :: kr c1 :: ki sp :: kr c0 :: st) σ (kCpy σ c0 N0 sp c1 N1 dp m G) Θ := by
  obtain ⟨⟨p, l, e, R⟩, ⟨s, mi, args, below⟩, ⟨meth, cd⟩, ⟨D, K, α, A⟩, ⟨Q, cells, slots, nL⟩⟩ := X
  obtain ⟨hx, hb, hml, hnl, hown, hts, hR, hK, hA, hAc, hinj, hE⟩ := hX
  intro z hF hz H locs ls hP hS hL
  subst hN0
  subst hN1
  unfold kCpy at hF
  split at hF
  · rename_i hi
    have l0 := k_ln_lt c0
    have l1 := k_ln_lt c1
    have g0 : ∀ x : Int, 0 ≤ x → x < 2147483648 → ¬ c32 x < 0 := by
      intro x h1 h2 h3
      rw [← c32_0, c32_lt ⟨by omega, h2⟩ (by decide)] at h3
      omega
    have e1 : (c32 sp).toNatClampNeg = sp.toNat := c32_clamp hi.1.1 (by omega)
    have e2 : (c32 dp).toNatClampNeg = dp.toNat := c32_clamp hi.1.2.1 (by omega)
    have e3 : (c32 m).toNatClampNeg = m.toNat := c32_clamp hi.1.2.2 (by omega)
    refine va_copyi hx hb (by rw [hml]; exact hL.1.symm) hown (hts _ w1) (hts _ w2) (hts _ w3) (hts _ w4) hK hP (k_wd_D hinj hAc) hS c0 c1 1 1 (ty := .int) (k_aa h0 (by rw [t0]; decide)) (k_aa h1 (by rw [t1]; decide)) (by rw [t0]; rfl) (by rw [t1]; rfl) rfl (g0 _ hi.1.1 (by omega)) (g0 _ hi.1.2.1 (by omega)) (g0 _ hi.1.2.2 (by omega)) (by rw [e1, e3]; omega) (by rw [e2, e3]; omega) (fun i _ => rfl) (by omega) (by
      rw [k_cat_eq]
      have : nativeFrameWords "java/lang/System" "arraycopy" 5 + 11 ≤ 32 := by decide +kernel
      omega) hd (fun H1 locs1 hP1 hD1 hS1 => ?_)
    rw [e1, e2, e3, k_wd_cp h1 (by rw [t1]; decide) hi.1.1 hi.1.2.1 hi.1.2.2] at hP1
    exact h _ z hF hz H1 locs1 ls hP1 hS1 hL
  · cases hF
def k_ts (X : KC) (L : List (Option KV)) (st : List KV) (σ : KM) (Θ : Z → Prop) : List Nat → List (Option Z) → Prop
  | t :: ts, f :: fs => kJ X t L st σ f Θ ∧ k_ts X L st σ Θ ts fs
  | [], [] => True
  | _, _ => False
theorem k_ts_at : ∀ (ts : List Nat) (fs : List (Option Z)) (i : Nat), k_ts X L st σ Θ ts fs → i < fs.length → kJ X (ts.getD i 0) L st σ (fs.getD i none) Θ
  | [], [], i, _, h => by simp at h
  | t :: ts, f :: fs, 0, h, _ => h.1
  | t :: ts, f :: fs, i + 1, h, hi => by
    have := k_ts_at ts fs i h.2 (by simpa using hi)
    simpa using this
theorem k_ts_n : k_ts X L st σ Θ [] [] := trivial
theorem k_ts_c {t : Nat} {f : Option Z} {ts : List Nat} {fs : List (Option Z)} (a : kJ X t L st σ f Θ) (b : k_ts X L st σ Θ ts fs) : k_ts X L st σ Θ (t :: ts) (f :: fs) := ⟨a, b⟩
theorem k_none : kJ X pc L st σ (none : Option Z) Θ := fun z h => by cases h
theorem k_tsw (hX : kOk X d cc n own) {x : Int} {dflt lo hi : Int} {offs : Array Int} {len : Nat} {Fs : List (Option Z)} {E : Option Z} {ts : List Nat} {te : Nat} (hd : decode cc pc = .ok (.tableswitch dflt lo hi offs, len)) (hr : hi = lo + (ts.length : Int) - 1) (ho : offs.toList = ts.map (fun (t : Nat) => (t : Int) - (pc : Int))) (hl : ts.length = Fs.length) (he : (pc : Int) + dflt = (te : Int)) (h1 : k_ts X L st σ Θ ts Fs) (h2 : kJ X te L st σ E Θ) : kJ X pc L (ki x :: st) σ (kSw x lo Fs E) Θ := by
  obtain ⟨⟨p, l, e, R⟩, ⟨s, m, args, below⟩, ⟨meth, cd⟩, ⟨D, K, α, A⟩, ⟨Q, cells, slots, nL⟩⟩ := X
  obtain ⟨hx, hb, hml, hnl, hown, hts, hR, hK, hA, hAc, hinj, hE⟩ := hX
  intro z hF hz H locs ls hP hS hL
  unfold kSw at hF
  split at hF
  · rename_i hk
    have e0 := c32_toInt hk
    split at hF
    · rename_i hc
      have hi' : (x - lo).toNat < Fs.length := by omega
      have e1 : offs[(x - lo).toNat]? = some ((ts.getD (x - lo).toNat 0 : Nat) - (pc : Int)) := by
        rw [← Array.getElem?_toList, ho, List.getElem?_map, List.getElem?_eq_getElem (by omega)]
        simp [List.getD, List.getElem?_eq_getElem (show (x - lo).toNat < ts.length by omega)]
      refine lv_tableIn hx hb hd (by rw [e0]; omega) (by rw [e0]; omega) (by rw [e0]; exact e1) (tgt := ts.getD (x - lo).toNat 0) (by omega) ?_
      exact k_ts_at ts Fs _ h1 hi' z hF hz H locs ls hP hS hL
    · rename_i hc
      exact lv_tableOut hx hb hd (by rw [e0]; omega) he (h2 z hF hz H locs ls hP hS hL)
  · cases hF
theorem k_alen (hX : kOk X d cc n own) {c N : Nat} (hc : c < k_NC) (h1 : k_ty c ≠ 0) (hN : k_ln c = N) (hd : decode cc pc = .ok (.arraylength, 1)) (h : kJ X (pc + 1) L (ki (N : Int) :: st) σ F Θ) : kJ X pc L (kr c :: st) σ F Θ := by
  obtain ⟨⟨p, l, e, R⟩, ⟨s, m, args, below⟩, ⟨meth, cd⟩, ⟨D, K, α, A⟩, ⟨Q, cells, slots, nL⟩⟩ := X
  obtain ⟨hx, hb, hml, hnl, hown, hts, hR, hK, hA, hAc, hinj, hE⟩ := hX
  intro z hF hz H locs ls hP hS hL
  have ht : ∃ ty, (k_tys K)[k_ty c]? = some (K (k_ty c), ty) := by
    have h9 : k_ty c < 4 := by
      have : ∀ c, c < 68 → k_ty c < 4 := by decide
      exact this c hc
    rcases (show k_ty c = 1 ∨ k_ty c = 2 ∨ k_ty c = 3 by omega) with h | h | h <;> rw [h] <;> exact ⟨_, rfl⟩
  obtain ⟨ty, ht⟩ := ht
  refine va_alen hx hb hK hP c _ (k_aa hc h1) ht (v := c32 (N : Int)) ?_ hd (h z hF hz H locs ls hP hS hL)
  show Int32.ofNat (k_ln c) = _
  rw [hN]
  exact Int32.ofInt_eq_ofNat.symm
/-! ends -/
def k_rv (ret : Option FieldType) (r : Int) : Option Value := match ret with
  | none => none
  | some _ => some (.int (c32 r))
def k_Q (ret : Option FieldType) (r : Int) (τ : KM) (D : va_G) (K : Nat → ClassId) (α : Nat → Nat) (sz : Nat) : Array Value → State → Outcome → State → Prop := fun _ s0 oc t => oc = .returned (k_rv ret r) ∧ va_P D k_cls (k_wd α K τ) t.heap ∧ va_F (k_AA α sz) s0 t
def kRet : KC → Option FieldType → Int × KM → Prop
  | ((p, l, e, R), (s, m, args, below), (meth, c), (D, K, α, A), (Q, cells, slots, nL)), ret, q => meth.sig.returnType = ret ∧ meth.locks = false ∧ A = k_AA α s.heap.size ∧ cells = 0 ∧ slots = 0 ∧ Q = MQ below (k_Q ret q.1 q.2 D K α s.heap.size) args s 0 0 A
theorem k_iret (hX : kOk X d cc n own) {r : Int} {q : Int × KM} (hR9 : kRet X (some .int) q) {Θ : Int × KM → Prop} (hT : ∀ z, Θ z → z = q) (hd : decode cc pc = .ok (.ireturn, 1)) : kJ X pc L [ki r] σ (kRetI r σ) Θ := by
  obtain ⟨⟨p, l, e, R⟩, ⟨s, m, args, below⟩, ⟨meth, cd⟩, ⟨D, K, α, A⟩, ⟨Q, cells, slots, nL⟩⟩ := X
  obtain ⟨hx, hb, hml, hnl, hown, hts, hR, hK, hA, hAc, hinj, hE⟩ := hX
  intro z hF hz H locs ls hP hS hL
  obtain ⟨r1, r2, r3, r4, r5, r6⟩ := hR9
  have hz := hT _ hz
  cases hF
  subst hz r3 r4 r5 r6
  exact W.iret (v := c32 r) hx hb r1 (fun t ht hW => ⟨rfl, by rw [ht]; exact hP, hS.F ht⟩) hS.2.2 hd r2
theorem k_vret (hX : kOk X d cc n own) {q : Int × KM} (hR9 : kRet X none q) {Θ : Int × KM → Prop} (hT : ∀ z, Θ z → z = q) (hd : decode cc pc = .ok (.return_, 1)) : kJ X pc L [] σ (kRetI 0 σ) Θ := by
  obtain ⟨⟨p, l, e, R⟩, ⟨s, m, args, below⟩, ⟨meth, cd⟩, ⟨D, K, α, A⟩, ⟨Q, cells, slots, nL⟩⟩ := X
  obtain ⟨hx, hb, hml, hnl, hown, hts, hR, hK, hA, hAc, hinj, hE⟩ := hX
  intro z hF hz H locs ls hP hS hL
  obtain ⟨r1, r2, r3, r4, r5, r6⟩ := hR9
  have hz := hT _ hz
  cases hF
  subst hz r3 r4 r5 r6
  exact W.vret hx hb r1 (fun t ht hW => ⟨rfl, by rw [ht]; exact hP, hS.F ht⟩) hS.2.2 hd r2
theorem k_zret (hX : kOk X d cc n own) {r : Int} {q : Int × KM} (hR9 : kRet X (some .boolean) q) {Θ : Int × KM → Prop} (hT : ∀ z, Θ z → z = q) (hd : decode cc pc = .ok (.ireturn, 1)) : kJ X pc L [ki r] σ (kRetZ r σ) Θ := by
  obtain ⟨⟨p, l, e, R⟩, ⟨s, m, args, below⟩, ⟨meth, cd⟩, ⟨D, K, α, A⟩, ⟨Q, cells, slots, nL⟩⟩ := X
  obtain ⟨hx, hb, hml, hnl, hown, hts, hR, hK, hA, hAc, hinj, hE⟩ := hX
  intro z hF hz H locs ls hP hS hL
  obtain ⟨r1, r2, r3, r4, r5, r6⟩ := hR9
  have hz := hT _ hz
  unfold kRetZ at hF
  split at hF
  · rename_i h01
    cases hF
    subst hz r3 r4 r5 r6
    exact W.zret (v := c32 r) hx hb r1 (by rcases h01 with rfl | rfl <;> decide) (fun t ht hW => ⟨rfl, by rw [ht]; exact hP, hS.F ht⟩) hS.2.2 hd r2
  · cases hF
theorem k_cret (hX : kOk X d cc n own) {r : Int} {q : Int × KM} (hR9 : kRet X (some .char) q) {Θ : Int × KM → Prop} (hT : ∀ z, Θ z → z = q) (hd : decode cc pc = .ok (.ireturn, 1)) : kJ X pc L [ki r] σ (kRetC r σ) Θ := by
  obtain ⟨⟨p, l, e, R⟩, ⟨s, m, args, below⟩, ⟨meth, cd⟩, ⟨D, K, α, A⟩, ⟨Q, cells, slots, nL⟩⟩ := X
  obtain ⟨hx, hb, hml, hnl, hown, hts, hR, hK, hA, hAc, hinj, hE⟩ := hX
  intro z hF hz H locs ls hP hS hL
  obtain ⟨r1, r2, r3, r4, r5, r6⟩ := hR9
  have hz := hT _ hz
  unfold kRetC at hF
  split at hF
  · rename_i h01
    cases hF
    subst hz r3 r4 r5 r6
    have e9 : narrow .char (.int (c32 r)) = .int (c32 r) := by
      have h9 : ∀ k : Fin 256, narrow .char (.int (c32 (k.val : Int))) = .int (c32 (k.val : Int)) := by decide +kernel
      have h8 := h9 ⟨r.toNat, by omega⟩
      rw [show (((⟨r.toNat, by omega⟩ : Fin 256).val : Nat) : Int) = r by show (r.toNat : Int) = r; omega] at h8
      exact h8
    exact W.zret (v := c32 r) hx hb r1 e9 (fun t ht hW => ⟨rfl, by rw [ht]; exact hP, hS.F ht⟩) hS.2.2 hd r2
  · cases hF
end KC
end
section
/-! ===== bits ===== -/
theorem c32_nat (a : Int) : (c32 a).toBitVec.toNat = (a % 4294967296).toNat := by
  show (BitVec.ofInt 32 a).toNat = _
  rw [BitVec.toNat_ofInt]
  rfl
theorem c32_bv {x y : Int32} (h : x.toBitVec.toNat = y.toBitVec.toNat) : x = y := Int32.toBitVec_inj.mp (BitVec.eq_of_toNat_eq h)
theorem c32_and {a b : Int} (h : b = 255 ∨ b = 63 ∨ b = 1) : c32 a &&& c32 b = c32 (a % (b + 1)) := by
  refine c32_bv ?_
  rw [c32_nat, Int32.toBitVec_and, BitVec.toNat_and, c32_nat]
  rcases h with rfl | rfl | rfl
  · rw [show (c32 255).toBitVec.toNat = 2 ^ 8 - 1 by decide, Nat.and_two_pow_sub_one_eq_mod]
    omega
  · rw [show (c32 63).toBitVec.toNat = 2 ^ 6 - 1 by decide, Nat.and_two_pow_sub_one_eq_mod]
    omega
  · rw [show (c32 1).toBitVec.toNat = 2 ^ 1 - 1 by decide, Nat.and_two_pow_sub_one_eq_mod]
    omega
theorem c32_shr {a b : Int} (ha : kin a) (h0 : 0 ≤ b) (h1 : b < 32) : c32 a >>> (c32 b &&& 31) = c32 (a / 2 ^ b.toNat) := by
  have h9 : ∀ k : Fin 32, ((c32 (k.val : Int) &&& 31).toBitVec.smod 32).toNat = k.val := by decide +kernel
  have h8 := h9 ⟨b.toNat, by omega⟩
  rw [show (((⟨b.toNat, by omega⟩ : Fin 32).val : Nat) : Int) = b by show (b.toNat : Int) = b; omega] at h8
  have hp : (0 : Int) < 2 ^ b.toNat := Int.pow_pos (by decide)
  have hd : kin (a / 2 ^ b.toNat) := by
    have e1 : (1 : Int) ≤ 2 ^ b.toNat := hp
    constructor
    · have h2 := ha.1
      rw [Int.le_ediv_iff_mul_le hp]
      have : (-2147483648 : Int) * 2 ^ b.toNat ≤ -2147483648 * 1 := Int.mul_le_mul_of_nonpos_left (by decide) e1
      omega
    · have h2 := ha.2
      rw [Int.ediv_lt_iff_lt_mul hp]
      have : (2147483648 : Int) * 1 ≤ 2147483648 * 2 ^ b.toNat := Int.mul_le_mul_of_nonneg_left e1 (by decide)
      omega
  refine Int32.toInt_inj.mp ?_
  rw [c32_toInt hd]
  show (BitVec.sshiftRight (c32 a).toBitVec ((c32 b &&& 31).toBitVec.smod 32).toNat).toInt = _
  rw [h8, BitVec.toInt_sshiftRight]
  show (c32 a).toInt >>> b.toNat = _
  rw [c32_toInt ha, Int.shiftRight_eq_div_pow]
  norm_cast
theorem c32_ush {a b : Int} (h0 : 0 ≤ b) (h1 : b < 32) : ((c32 a).toUInt32 >>> ((c32 b).toUInt32 &&& Int32.toUInt32 31)).toInt32 = c32 ((a % 4294967296) / 2 ^ b.toNat) := by
  have h9 : ∀ k : Fin 32, (((c32 (k.val : Int)).toUInt32 &&& Int32.toUInt32 31).toBitVec % 32).toNat = k.val := by decide +kernel
  have h8 := h9 ⟨b.toNat, by omega⟩
  rw [show (((⟨b.toNat, by omega⟩ : Fin 32).val : Nat) : Int) = b by show (b.toNat : Int) = b; omega] at h8
  refine c32_bv ?_
  rw [c32_nat]
  show ((c32 a).toUInt32 >>> ((c32 b).toUInt32 &&& Int32.toUInt32 31)).toBitVec.toNat = _
  rw [UInt32.toBitVec_shiftRight, BitVec.ushiftRight_eq', h8, BitVec.toNat_ushiftRight]
  show (c32 a).toBitVec.toNat >>> b.toNat = _
  rw [c32_nat, Nat.shiftRight_eq_div_pow]
  have hp : (0 : Int) < 2 ^ b.toNat := Int.pow_pos (by decide)
  have e1 : (1 : Int) ≤ 2 ^ b.toNat := hp
  have h2 : 0 ≤ a % 4294967296 := Int.emod_nonneg _ (by decide)
  have h3 : a % 4294967296 < 4294967296 := Int.emod_lt_of_pos _ (by decide)
  generalize a % 4294967296 = x at h2 h3
  obtain ⟨y, rfl⟩ := Int.eq_ofNat_of_zero_le h2
  rw [Int.emod_eq_of_lt (Int.ediv_nonneg h2 (by omega))]
  · have e7 : ((y : Int) / 2 ^ b.toNat) = ((y / 2 ^ b.toNat : Nat) : Int) := by
      rw [Int.natCast_ediv, Int.natCast_pow]
      rfl
    rw [e7, Int.toNat_natCast, Int.toNat_natCast]
  · rw [Int.ediv_lt_iff_lt_mul hp]
    have : (4294967296 : Int) * 1 ≤ 4294967296 * 2 ^ b.toNat := Int.mul_le_mul_of_nonneg_left e1 (by decide)
    omega
theorem c32_i2b (a : Int) : (c32 a).toInt8.toInt32 = c32 (kI2b a) := by
  refine Int32.toInt_inj.mp ?_
  have hk : kin (kI2b a) := by unfold kI2b kin; omega
  rw [Int8.toInt_toInt32, Int32.toInt_toInt8, c32_toInt hk]
  show ((c32 a).toInt).bmod 256 = _
  rw [show (c32 a).toInt = a.bmod 4294967296 from Int32.toInt_ofInt, Int.bmod_def, Int.bmod_def]
  unfold kI2b
  split <;> split <;> omega
section KB
variable {X : KC} {d n : Nat} {cc : ByteArray} {own : String} {pc : Nat} {L : List (Option KV)} {st : List KV} {σ : KM} {Z : Type} {F : Option Z} {Θ : Z → Prop}
theorem k_i2b (hX : kOk X d cc n own) {a : Int} (hd : decode cc pc = .ok (.i2b, 1)) (h : kJ X (pc + 1) L (ki (kI2b a) :: st) σ F Θ) : kJ X pc L (ki a :: st) σ F Θ := by
  obtain ⟨⟨p, l, e, R⟩, ⟨s, m, args, below⟩, ⟨meth, cd⟩, ⟨D, K, α, A⟩, ⟨Q, cells, slots, nL⟩⟩ := X
  obtain ⟨hx, hb, hml, hnl, hown, hts, hR, hK, hA, hAc, hinj, hE⟩ := hX
  intro z hF hz H locs ls hP hS hL
  exact lv_i2b hx hb hd (c32_i2b a) (h z hF hz H locs ls hP hS hL)
theorem k_iand (hX : kOk X d cc n own) {a b : Int} {G : Int → Option Z} (hd : decode cc pc = .ok (.iand, 1)) (h : ∀ r, kJ X (pc + 1) L (ki r :: st) σ (G r) Θ) : kJ X pc L (ki b :: ki a :: st) σ (kAnd a b G) Θ := by
  obtain ⟨⟨p, l, e, R⟩, ⟨s, m, args, below⟩, ⟨meth, cd⟩, ⟨D, K, α, A⟩, ⟨Q, cells, slots, nL⟩⟩ := X
  obtain ⟨hx, hb, hml, hnl, hown, hts, hR, hK, hA, hAc, hinj, hE⟩ := hX
  intro z hF hz H locs ls hP hS hL
  unfold kAnd at hF
  split at hF
  · rename_i hc
    refine lv_iand hx hb hd ?_
    rw [c32_and hc]
    exact h _ z hF hz H locs ls hP hS hL
  · cases hF
theorem k_ishr (hX : kOk X d cc n own) {a b : Int} {G : Int → Option Z} (hd : decode cc pc = .ok (.ishr, 1)) (h : ∀ r, kJ X (pc + 1) L (ki r :: st) σ (G r) Θ) : kJ X pc L (ki b :: ki a :: st) σ (kShr a b G) Θ := by
  obtain ⟨⟨p, l, e, R⟩, ⟨s, m, args, below⟩, ⟨meth, cd⟩, ⟨D, K, α, A⟩, ⟨Q, cells, slots, nL⟩⟩ := X
  obtain ⟨hx, hb, hml, hnl, hown, hts, hR, hK, hA, hAc, hinj, hE⟩ := hX
  intro z hF hz H locs ls hP hS hL
  unfold kShr at hF
  split at hF
  · rename_i hc
    refine lv_ishr hx hb hd ?_
    rw [c32_shr hc.1 hc.2.1 hc.2.2]
    exact h _ z hF hz H locs ls hP hS hL
  · cases hF
theorem k_iushr (hX : kOk X d cc n own) {a b : Int} {G : Int → Option Z} (hd : decode cc pc = .ok (.iushr, 1)) (h : ∀ r, kJ X (pc + 1) L (ki r :: st) σ (G r) Θ) : kJ X pc L (ki b :: ki a :: st) σ (kUsh a b G) Θ := by
  obtain ⟨⟨p, l, e, R⟩, ⟨s, m, args, below⟩, ⟨meth, cd⟩, ⟨D, K, α, A⟩, ⟨Q, cells, slots, nL⟩⟩ := X
  obtain ⟨hx, hb, hml, hnl, hown, hts, hR, hK, hA, hAc, hinj, hE⟩ := hX
  intro z hF hz H locs ls hP hS hL
  unfold kUsh at hF
  split at hF
  · rename_i hc
    refine lv_iushr hx hb hd (c32_ush hc.1 hc.2) ?_
    exact h _ z hF hz H locs ls hP hS hL
  · cases hF
end KB
end
section
/-! ===== what a method does, told by a pure function; calls ===== -/
def k_rm (d : Nat) : Room := { frames := d, cells := 0, slots := 0, locals := 40 * d }
def k_Pre (D : va_G) (K : Nat → ClassId) (α : Nat → Nat) (sz : Nat) (σ : KM) (U : State) : Prop := U.heap.size = sz ∧ va_K D k_cls (k_tys K) U ∧ va_P D k_cls (k_wd α K σ) U.heap ∧ k_inj α ∧ k_ext α (k_AA α sz) U U.heap
def kSem (d : Nat) (y : MethodName) (cc : ByteArray) (nL : Nat) (ret : Option FieldType) (av : List KV) (σ : KM) (G : Option (Int × KM)) : Prop :=
  ∀ (r : Int) (τ : KM), G = some (r, τ) → ∀ (l : Launch) (D : va_G) (K : Nat → ClassId) (α : Nat → Nat) (sz : Nat), Met l y (.code y cc nL ret :: k_Tg) (k_rm d) (va_Pc (av.map (k_tr α)) (k_Pre D K α sz σ)) (k_Q ret r τ D K α sz) 0 0 (k_AA α sz)
def k_e1 : List KV → List (Option KV)
  | [] => []
  | .inr (.inl v) :: r => some (kl v) :: none :: k_e1 r
  | .inl v :: r => some (ki v) :: k_e1 r
  | .inr (.inr c) :: r => some (kr c) :: k_e1 r
def k_e0 (n : Nat) (av : List KV) : List (Option KV) := k_e1 av ++ List.replicate (n - (k_e1 av).length) none
theorem k_lgl (x : Int64) (w : List Value) : (lg_sl (.long x :: w)).length = (lg_sl w).length + 2 := by
  show ([Slot.val (.long x), Slot.second] ++ lg_sl w).length = _
  simp
theorem k_lgi (x : Int32) (w : List Value) : (lg_sl (.int x :: w)).length = (lg_sl w).length + 1 := by
  show ([Slot.val (.int x)] ++ lg_sl w).length = _
  simp
theorem k_lgr (x : Nat) (w : List Value) : (lg_sl (.ref x :: w)).length = (lg_sl w).length + 1 := by
  show ([Slot.val (.ref x)] ++ lg_sl w).length = _
  simp
theorem k_e1_len (α : Nat → Nat) : ∀ av : List KV, (lg_sl (av.map (k_tr α))).length = (k_e1 av).length
  | [] => rfl
  | .inr (.inl v) :: r => by
    have := k_e1_len α r
    rw [List.map_cons]
    simp only [k_tr, k_lgl, k_e1, List.length_cons, this]
  | .inl v :: r => by
    have := k_e1_len α r
    rw [List.map_cons]
    simp only [k_tr, k_lgi, k_e1, List.length_cons, this]
  | .inr (.inr c) :: r => by
    have := k_e1_len α r
    rw [List.map_cons]
    simp only [k_tr, k_lgr, k_e1, List.length_cons, this]
theorem k_e1_at (α : Nat → Nat) : ∀ (av : List KV) (b i : Nat) (v : KV), (k_e1 av)[i]? = some (some v) → (b + i, k_tr α v) ∈ lv_args b (av.map (k_tr α))
  | [], b, i, v, h => by simp [k_e1] at h
  | .inr (.inl w) :: r, b, 0, v, h => by
    simp [k_e1] at h
    subst h
    exact List.mem_cons_self
  | .inr (.inl w) :: r, b, 1, v, h => by simp [k_e1] at h
  | .inr (.inl w) :: r, b, i + 2, v, h => by
    have := k_e1_at α r (b + 2) i v (by simpa [k_e1] using h)
    rw [show b + (i + 2) = b + 2 + i by omega]
    exact List.mem_cons_of_mem _ this
  | .inl w :: r, b, 0, v, h => by
    simp [k_e1] at h
    subst h
    exact List.mem_cons_self
  | .inl w :: r, b, i + 1, v, h => by
    have := k_e1_at α r (b + 1) i v (by simpa [k_e1] using h)
    rw [show b + (i + 1) = b + 1 + i by omega]
    exact List.mem_cons_of_mem _ this
  | .inr (.inr w) :: r, b, 0, v, h => by
    simp [k_e1] at h
    subst h
    exact List.mem_cons_self
  | .inr (.inr w) :: r, b, i + 1, v, h => by
    have := k_e1_at α r (b + 1) i v (by simpa [k_e1] using h)
    rw [show b + (i + 1) = b + 1 + i by omega]
    exact List.mem_cons_of_mem _ this
theorem kSem.of {d nL : Nat} {y : MethodName} {cc : ByteArray} {ret : Option FieldType} {av : List KV} {σ : KM} {G : Option (Int × KM)} {L0 : List (Option KV)} (hy : plainName y.cls = true) (hl : (k_e1 av).length ≤ nL) (hL0 : k_e0 nL av = L0) (h : ∀ (X : KC) (q : Int × KM), kOk X d cc nL y.cls → kRet X ret q → kJ X 0 L0 [] σ G (fun z => z = q)) : kSem d y cc nL ret av σ G := by
  intro r τ hG l D K α sz
  refine Met.ofW (cc := cc) (maxL := nL) (ret := ret) hy rfl ?_
  intro p e s m args below meth c s₁ B hml hv
  obtain ⟨rfl, hsz, hK, hP, hinj, hE⟩ := hv
  have hts := atoms_spec (ws := .code y cc nL ret :: k_Tg) B.pre
  have hown : s.vm.findClass y.cls = some m.cls := findClass_of_methodNamed B.named
  subst hsz
  have hlen := k_e1_len α av
  have hle := lv_entry (av.map (k_tr α)) (n := nL) (by rw [hlen]; exact hl)
  rw [lg_entry_eq]
  generalize (lg_sl (av.map (k_tr α)) ++ List.replicate (nL - (lg_sl (av.map (k_tr α))).length) Slot.unset).toArray = ls at hle ⊢
  have hX : kOk ((p, l, e, (headSpec (.code y cc nL ret :: k_Tg) (k_rm d)).room), (s, m, (av.map (k_tr α)).toArray, below), (meth, c), (D, K, α, k_AA α s.heap.size), (MQ below (k_Q ret r τ D K α s.heap.size) (av.map (k_tr α)).toArray s 0 0 (k_AA α s.heap.size), 0, 0, nL)) d cc nL y.cls :=
    ⟨B.exec, B.bytes, hml, rfl, hown, fun w hw => hts w (List.mem_cons_of_mem _ hw), ⟨Nat.le_refl _, Nat.le_refl _, Nat.zero_le _, Nat.zero_le _⟩, hK, fun q hq => Or.inr hq, fun c hc => Or.inl ⟨c, hc, rfl⟩, hinj, hE⟩
  refine h _ (r, τ) hX ⟨B.returns, B.notSynchronized, rfl, rfl, rfl, rfl⟩ (r, τ) hG rfl s.heap [] ls hP va_S.rf ⟨hle.1, hle.2.1, ?_, fun i v hi => ?_⟩
  · rw [← hL0]
    simp only [k_e0, List.length_append, List.length_replicate]
    omega
  · refine hle.2.2 (i, k_tr α v) ?_
    have := k_e1_at α av 0 i v (by
      rw [← hL0] at hi
      unfold k_e0 at hi
      by_cases hlt : i < (k_e1 av).length
      · rwa [List.getElem?_append_left hlt] at hi
      · rw [List.getElem?_append_right (by omega)] at hi
        have := (List.mem_of_getElem? hi)
        simp at this)
    rwa [Nat.zero_add] at this
/-! a call, behind which the frame goes on -/
def k_push (ret : Option FieldType) (r : Int) (st : List KV) : List KV := match ret with
  | none => st
  | some _ => ki r :: st
theorem k_push_tr (α : Nat → Nat) (ret : Option FieldType) (r : Int) (st : List KV) : (k_rv ret r).toList ++ st.map (k_tr α) = (k_push ret r st).map (k_tr α) := by
  cases ret <;> rfl
theorem k_goodIn {ws : List Cond} (h : ∀ w ∈ ws, w ∈ k_Tg) : GoodIn k_Tg ws := fun w hw => ⟨h w hw, good_of_word (List.mem_filter.mp (h w hw)).2⟩
theorem k_blind {av : List Value} {D : va_G} {K : Nat → ClassId} {α : Nat → Nat} {sz : Nat} {σ : KM} : FrameBlind (va_Pc av (k_Pre D K α sz σ)) := by
  intro a U g mk q
  obtain ⟨q0, q1, q2, q3, q4, q5⟩ := q
  exact ⟨q0, q1, va_K.moved (u := U) (U := U.calling g mk a) (Vm.Alike.refl U.vm) q2, q3, q4, q5.same (s := U) (U := U.calling g mk a) rfl⟩
section KCL
variable {p : Program} {l : Launch} {e : Env} {R : Room} {s : State} {m : MethodId} {args : Array Value} {below : List Frame} {meth : Method} {c : Code} {H : Heap} {locs : List Loc} {cells slots : Nat} {Q : State → Prop}
theorem k_run {pc : Nat} {ls : Array Slot} {st0 rest : List Value} {ret : Option FieldType} {r : Int} {τ : KM} {D : va_G} {K : Nat → ClassId} {α : Nat → Nat} {A : Nat → Prop} {a : Array Value} (hr : va_Run p l e R s m args below meth c H locs cells slots 0 0 (F0 m pc ls st0) rest (k_Q ret r τ D K α H.size a) (k_AA α H.size)) (hS : va_S A s.heap H locs) (hA : ∀ q, k_AA α H.size q → A q)
    (kk : ∀ (H1 : Heap) (locs1 : List Loc), va_P D k_cls (k_wd α K τ) H1 → va_S A s.heap H1 locs1 → W p l e R s m args below meth c H1 locs1 cells slots Q (F0 m (pc + 3) ls ((k_rv ret r).toList ++ rest))) : W p l e R s m args below meth c H locs cells slots Q (F0 m pc ls st0) := by
  intro T hT X
  obtain ⟨v, st₀, t, T', L, h0, X', hL, e1, e2, ⟨hv, hp, hz, hk⟩, st⟩ := hr T hT X
  have hv : v = k_rv ret r := Outcome.returned.inj hv
  subst hv
  rw [h0] at hz hk
  obtain ⟨t2, a1, b1⟩ := kk T'.heap (locs ++ L) (by rw [e1]; exact hp)
    ⟨Nat.le_trans hS.1 (by rw [e1]; exact hz), fun q h1 h2 => by rw [e1, hk q (Nat.lt_of_lt_of_le h1 hS.1) (fun z => h2 (hA q z))]; exact hS.2.1 q h1 h2, fun q hq => by
      rcases List.mem_append.mp hq with h | h
      · exact hS.2.2 q h
      · exact hA _ (hL q h)⟩ T' rfl X'
  exact ⟨t2, st t2 a1, b1⟩
end KCL
section KCM
variable {X : KC} {d n : Nat} {cc : ByteArray} {own : String} {pc : Nat} {L : List (Option KV)} {st : List KV} {σ : KM} {Z : Type} {Θ : Z → Prop}
variable {d' maxL index np : Nat} {y : MethodName} {bytes : ByteArray} {ret : Option FieldType} {av : List KV} {C : Option (Int × KM)} {G : Int → KM → Option Z}
/-- what a callee's words and room need -/
def k_cal (d d' maxL np : Nat) (y : MethodName) (bytes : ByteArray) (ret : Option FieldType) : Prop := (d' + 1 ≤ d ∧ maxL ≤ 21) ∧ Cond.code y bytes maxL ret ∈ k_Tg ∧ Cond.initialized y.cls ∈ k_Tg ∧ (y.cls ≠ "java/lang/invoke/MethodHandle" ∧ y.cls ≠ "java/lang/invoke/VarHandle" ∧ (parseMethodDescriptor y.desc).map (fun q => q.parameters.length) = some np)
theorem k_AA_sub {α : Nat → Nat} {A : Nat → Prop} {sz0 sz : Nat} (h1 : ∀ q, sz0 ≤ q → A q) (h2 : ∀ c, c < k_NC → A (α c)) (h : sz0 ≤ sz) : ∀ q, k_AA α sz q → A q := by
  intro q hq
  rcases hq with ⟨c, hc, rfl⟩ | hq
  · exact h2 c hc
  · exact h1 q (by omega)
theorem k_callS (hX : kOk X d cc n own) (hS9 : kSem d' y bytes maxL ret av σ C) (hc : k_cal d d' maxL np y bytes ret) (hn : av.length = np) (w1 : Cond.methodLink own index y ∈ k_Tg) (w2 : Cond.static y ∈ k_Tg) (hst : k_cat st ≤ 8) (hd : decode cc pc = .ok (.invokestatic index, 3)) (h : ∀ r τ, kJ X (pc + 3) L (k_push ret r st) τ (G r τ) Θ) : kJ X pc L (av.reverse ++ st) σ (kCall C G) Θ := by
  obtain ⟨⟨p, l, e, R⟩, ⟨s, m, args, below⟩, ⟨meth, cd⟩, ⟨D, K, α, A⟩, ⟨Q, cells, slots, nL⟩⟩ := X
  obtain ⟨hx, hb, hml, hnl, hown, hts, hR, hK, hA, hAc, hinj, hE⟩ := hX
  intro z hF hz H locs ls hP hS hL
  unfold kCall at hF
  split at hF
  · cases hF
  · rename_i q
    obtain ⟨r, τ⟩ := q
    have hsub := k_AA_sub (α := α) hA hAc hS.1
    have hM := hS9 r τ rfl l D K α H.size
    refine k_run (va_runS (As := av.map (k_tr α)) (rest := st.map (k_tr α)) (n := np) ⟨hx, hb, hml, hown, hts⟩ hM ⟨callB_of np hts (k_goodIn (fun w hw => ?_)) rfl rfl rfl (hts _ hc.2.2.1) (hts _ w1) hc.2.2.2 ⟨?_, ?_⟩, hts _ w2⟩ ⟨k_blind, fun U hU hW => ⟨rfl, by rw [hU], va_K.moved hW.alike hK, by rw [hU]; exact hP, hinj, by rw [hU]; exact k_ext.warm hW hsub hS.2.1 hE⟩⟩ rfl (by simpa using hn) hL.1 (by simp) ?_ hd ⟨hR.2.2.1, hR.2.2.2⟩) hS hsub (fun H1 locs1 hP1 hS1 => ?_)
    · rcases List.mem_cons.mp hw with rfl | hw
      · exact hc.2.1
      · exact hw
    · show d' + 1 ≤ _
      exact Nat.le_trans hc.1.1 hR.1
    · show 8 + (maxL + 11) + 40 * d' ≤ _
      have := hc.1
      have := hR.2.1
      omega
    · show 2 * 0 + _ ≤ 8
      rw [k_cat_eq]
      omega
    · rw [k_push_tr]
      exact h r τ z hF hz H1 locs1 ls hP1 hS1 hL
theorem k_callSN (hX : kOk X d cc n own) (hS9 : kSem d' y bytes maxL ret av σ C) (hc : k_cal d d' maxL np y bytes ret) (hn : av.length = np) (w1 : Cond.methodLinkNest own index y "KeyPath" ∈ k_nest) (w2 : Cond.static y ∈ k_Tg) (hst : k_cat st ≤ 8) (hd : decode cc pc = .ok (.invokestatic index, 3)) (h : ∀ r τ, kJ X (pc + 3) L (k_push ret r st) τ (G r τ) Θ) : kJ X pc L (av.reverse ++ st) σ (kCall C G) Θ := by
  obtain ⟨⟨p, l, e, R⟩, ⟨s, m, args, below⟩, ⟨meth, cd⟩, ⟨D, K, α, A⟩, ⟨Q, cells, slots, nL⟩⟩ := X
  obtain ⟨hx, hb, hml, hnl, hown, hts, hR, hK, hA, hAc, hinj, hE⟩ := hX
  intro z hF hz H locs ls hP hS hL
  unfold kCall at hF
  split at hF
  · cases hF
  · rename_i q
    obtain ⟨r, τ⟩ := q
    have hsub := k_AA_sub (α := α) hA hAc hS.1
    have hM := hS9 r τ rfl l D K α H.size
    refine k_run (va_runSN (As := av.map (k_tr α)) (rest := st.map (k_tr α)) (n := np) ⟨hx, hb, hml, hown, hts⟩ hM ⟨va_cnB np hts (k_goodIn (fun w hw => ?_)) rfl rfl rfl (hE.1 _ w1) (hts _ hc.2.2.1) hc.2.2.2 ⟨?_, ?_⟩, hts _ w2, trivial⟩ ⟨k_blind, fun U hU hW => ⟨rfl, by rw [hU], va_K.moved hW.alike hK, by rw [hU]; exact hP, hinj, by rw [hU]; exact k_ext.warm hW hsub hS.2.1 hE⟩⟩ rfl (by simpa using hn) hL.1 (by simp) ?_ hd ⟨hR.2.2.1, hR.2.2.2⟩) hS hsub (fun H1 locs1 hP1 hS1 => ?_)
    · rcases List.mem_cons.mp hw with rfl | hw
      · exact hc.2.1
      · exact hw
    · show d' + 1 ≤ _
      exact Nat.le_trans hc.1.1 hR.1
    · show 8 + (maxL + 11) + 40 * d' ≤ _
      have := hc.1
      have := hR.2.1
      omega
    · show 2 * 0 + _ ≤ 8
      rw [k_cat_eq]
      omega
    · rw [k_push_tr]
      exact h r τ z hF hz H1 locs1 ls hP1 hS1 hL
theorem k_callV (hX : kOk X d cc n own) {q0 : Nat} (h0 : q0 < k_NC) (ht : k_ty q0 = 0) {vc : vw_C} (hcl : k_cls[k_ci q0]? = some vc) (hyc : vc.1 = y.cls) (hS9 : kSem d' y bytes maxL ret (kr q0 :: av) σ C) (hc : k_cal d d' maxL np y bytes ret) (hn : av.length = np) (w1 : Cond.methodLink own index y ∈ k_Tg) (w2 : Cond.instanceMethod y ∈ k_Tg) (w3 : Cond.selects y.cls y y ∈ k_Tg) (hst : k_cat st ≤ 8) (hd : decode cc pc = .ok (.invokevirtual index, 3)) (h : ∀ r τ, kJ X (pc + 3) L (k_push ret r st) τ (G r τ) Θ) : kJ X pc L (av.reverse ++ kr q0 :: st) σ (kCall C G) Θ := by
  obtain ⟨⟨p, l, e, R⟩, ⟨s, m, args, below⟩, ⟨meth, cd⟩, ⟨D, K, α, A⟩, ⟨Q, cells, slots, nL⟩⟩ := X
  obtain ⟨hx, hb, hml, hnl, hown, hts, hR, hK, hA, hAc, hinj, hE⟩ := hX
  intro z hF hz H locs ls hP hS hL
  unfold kCall at hF
  split at hF
  · cases hF
  · rename_i q
    obtain ⟨r, τ⟩ := q
    have hsub := k_AA_sub (α := α) hA hAc hS.1
    have hM := hS9 r τ rfl l D K α H.size
    have hrec := va_recv hK hP hcl (k_ao h0 ht)
    rw [hyc] at hrec
    refine k_run (va_runV (As := av.map (k_tr α)) (rest := st.map (k_tr α)) (n := np) (C := y.cls) (b := α q0) ⟨hx, hb, hml, hown, hts⟩ hM ⟨callB_of np hts (k_goodIn (fun w hw => ?_)) rfl rfl rfl (hts _ hc.2.2.1) (hts _ w1) hc.2.2.2 ⟨?_, ?_⟩, hts _ w2, hts _ w3⟩ ⟨k_blind, hrec, fun U hU hW => ⟨rfl, by rw [hU], va_K.moved hW.alike hK, by rw [hU]; exact hP, hinj, by rw [hU]; exact k_ext.warm hW hsub hS.2.1 hE⟩⟩ rfl (by simpa using hn) hL.1 (by simp [k_tr]) ?_ hd ⟨hR.2.2.1, hR.2.2.2⟩) hS hsub (fun H1 locs1 hP1 hS1 => ?_)
    · rcases List.mem_cons.mp hw with rfl | hw
      · exact hc.2.1
      · exact hw
    · show d' + 1 ≤ _
      exact Nat.le_trans hc.1.1 hR.1
    · show 8 + (maxL + 11) + 40 * d' ≤ _
      have := hc.1
      have := hR.2.1
      omega
    · show 2 * 0 + _ ≤ 8
      rw [k_cat_eq]
      omega
    · rw [k_push_tr]
      exact h r τ z hF hz H1 locs1 ls hP1 hS1 hL
end KCM
end
section
/-! ===== the methods as pure functions: by program ===== -/
def kChr {Z : Type} (t : Nat) (i : Int) (G : Int → Option Z) : Option Z := if 0 ≤ i ∧ i < 12 then G (if t = 0 then ([99, 99, 100, 100, 101, 102, 102, 103, 103, 97, 97, 98] : List Int).getD i.toNat 0 else ([32, 35, 32, 35, 32, 32, 35, 32, 35, 32, 35, 32] : List Int).getD i.toNat 0) else none
def fNo_end_J36 (x1 : Int) (σ : KM) : Option (Int × KM) :=
  kRetI x1 σ
def fNo_end_B4 (x1 x2 : Int) (σ : KM) : Option ((Int × Int × KM) ⊕ (Int × KM)) :=
  kLt x2 (σ 3 3)
    (kRd σ 16 100 x2 fun y1 =>
     kRd σ 17 100 x2 fun y2 =>
     kMx x1 (y1 + y2) fun y3 =>
     kLet (x2 + 1) fun y4 =>
     some (.inl (y3, y4, σ)))
    (kExit (fNo_end_J36 x1 σ))
def fNo_end_L4 (x1 x2 : Int) (σ : KM) : Option (Int × KM) := kIter (fun s => fNo_end_B4 s.1 s.2.1 s.2.2) kF (x1, x2, σ)
def fNo_end (σ : KM) : Option (Int × KM) :=
  fNo_end_L4 0 0 σ
def fWi_beginsAhead_J16 (t0 : Int) (σ : KM) : Option (Int × KM) :=
  kRetI t0 σ
def fWi_beginsAhead (x0 x1 : Int) (σ : KM) : Option (Int × KM) :=
  kLt x1 1
    (fWi_beginsAhead_J16 0 σ)
    (kDv ((x0 + x1) - 1) x1 fun y1 =>
     fWi_beginsAhead_J16 y1 σ)
def fAr_rangeCheck (x0 x1 x2 : Int) (σ : KM) : Option (Int × KM) :=
  kLt x2 x1
    (none)
    (kLt x1 0
       (none)
       (kLt x0 x2
          (none)
          (kRetI 0 σ)))
def fAr_fill4_24_J27 (σ : KM) : Option (Int × KM) :=
  kRetI 0 σ
def fAr_fill4_24_B10 (x2 x3 x4 : Int) (σ : KM) : Option ((Int × KM) ⊕ (Int × KM)) :=
  kLt x4 x2
    (kWr σ 24 588 x4 x3 fun τ1 =>
     kLet (x4 + 1) fun y2 =>
     some (.inl (y2, τ1)))
    (kExit (fAr_fill4_24_J27 σ))
def fAr_fill4_24_L10 (x2 x3 x4 : Int) (σ : KM) : Option (Int × KM) := kIter (fun s => fAr_fill4_24_B10 x2 x3 s.1 s.2) kF (x4, σ)
def fAr_fill4_24 (x1 x2 x3 : Int) (σ : KM) : Option (Int × KM) :=
  kCall (fAr_rangeCheck 588 x1 x2 σ) fun _ τ1 =>
  fAr_fill4_24_L10 x2 x3 x1 τ1
def fWi_countSpan_J127 (σ : KM) : Option (Int × KM) :=
  kRetI 0 σ
def fWi_countSpan_J121 (x2 x3 x4 x5 : Int) (σ : KM) : Option ((Int × KM) ⊕ (Int × KM)) :=
  kLet (x5 + 1) fun y1 =>
  some (.inl (y1, σ))
def fWi_countSpan_B28 (x2 x3 x4 x5 : Int) (σ : KM) : Option ((Int × KM) ⊕ (Int × KM)) :=
  kLt x5 (σ 3 3)
    (kRd σ 16 100 x5 fun y1 =>
     kMx x3 y1 fun y2 =>
     kRd σ 16 100 x5 fun y3 =>
     kRd σ 17 100 x5 fun y4 =>
     kMn x4 (y3 + y4) fun y5 =>
     kLt y2 y5
       (kRd σ 18 100 x5 fun y6 =>
        kRm y6 12 fun y7 =>
        kRd σ 24 588 ((x2 * 12) + y7) fun y8 =>
        kWr σ 24 588 ((x2 * 12) + y7) (y8 + (y5 - y2)) fun τ9 =>
        kRd τ9 25 49 x2 fun y10 =>
        kWr τ9 25 49 x2 (y10 + (y5 - y2)) fun τ11 =>
        fWi_countSpan_J121 x2 x3 x4 x5 τ11)
       (fWi_countSpan_J121 x2 x3 x4 x5 σ))
    (kExit (fWi_countSpan_J127 σ))
def fWi_countSpan_L28 (x2 x3 x4 x5 : Int) (σ : KM) : Option (Int × KM) := kIter (fun s => fWi_countSpan_B28 x2 x3 x4 s.1 s.2) kF (x5, σ)
def fWi_countSpan (x2 x3 x4 : Int) (σ : KM) : Option (Int × KM) :=
  kCall (fAr_fill4_24 (x2 * 12) ((x2 + 1) * 12) 0 σ) fun _ τ1 =>
  kWr τ1 25 49 x2 0 fun τ2 =>
  fWi_countSpan_L28 x2 x3 x4 0 τ2
def fP_toneOf_J33 (t0 t1 : Int) (σ : KM) : Option (Int × KM) :=
  kRm (t1 + t0) 12 fun y1 =>
  kRetI y1 σ
def fP_toneOf (x0 x1 : Int) (σ : KM) : Option (Int × KM) :=
  kDv x0 3 fun y1 =>
  kEq x1 0
    (kRetI y1 σ)
    (kEq x1 1
       (kRm x0 3 fun y4 =>
        kRs 2 3 y4 fun y5 =>
        fP_toneOf_J33 y5 y1 σ)
       (kRm x0 3 fun y2 =>
        kRs 3 3 y2 fun y3 =>
        fP_toneOf_J33 y3 y1 σ))
def fWi_fullestTriad_J83 (x2 : Int) (σ : KM) : Option (Int × KM) :=
  kRetI x2 σ
def fWi_fullestTriad_J77 (x1 x2 x3 x4 : Int) (σ : KM) : Option ((Int × Int × Int × KM) ⊕ (Int × KM)) :=
  kLet (x4 + 1) fun y1 =>
  some (.inl (x2, x3, y1, σ))
def fWi_fullestTriad_J65 (x1 x2 x3 x4 x5 : Int) (σ : KM) : Option ((Int × Int × Int × KM) ⊕ (Int × KM)) :=
  kLt x3 x5
    (fWi_fullestTriad_J77 x1 x4 x5 x4 σ)
    (fWi_fullestTriad_J77 x1 x2 x3 x4 σ)
def fWi_fullestTriad_B31 (x1 x2 x3 x4 x5 x6 : Int) (σ : KM) : Option ((Int × Int × KM) ⊕ ((Int × Int × Int × KM) ⊕ (Int × KM))) :=
  kLt x6 3
    (kCall (fP_toneOf x4 x6 σ) fun r2 τ1 =>
     kRd τ1 24 588 ((x1 * 12) + r2) fun y3 =>
     kLet (x5 + y3) fun y4 =>
     kLet (x6 + 1) fun y5 =>
     some (.inl (y4, y5, τ1)))
    (kExit (fWi_fullestTriad_J65 x1 x2 x3 x4 x5 σ))
def fWi_fullestTriad_L31 (x1 x2 x3 x4 x5 x6 : Int) (σ : KM) : Option ((Int × Int × Int × KM) ⊕ (Int × KM)) := kIter (fun s => fWi_fullestTriad_B31 x1 x2 x3 x4 s.1 s.2.1 s.2.2) kF (x5, x6, σ)
def fWi_fullestTriad_B18 (x1 x2 x3 x4 : Int) (σ : KM) : Option ((Int × Int × Int × KM) ⊕ (Int × KM)) :=
  kLt x4 36
    (fWi_fullestTriad_L31 x1 x2 x3 x4 0 0 σ)
    (kExit (fWi_fullestTriad_J83 x2 σ))
def fWi_fullestTriad_L18 (x1 x2 x3 x4 : Int) (σ : KM) : Option (Int × KM) := kIter (fun s => fWi_fullestTriad_B18 x1 s.1 s.2.1 s.2.2.1 s.2.2.2) kF (x2, x3, x4, σ)
def fWi_fullestTriad (x1 : Int) (σ : KM) : Option (Int × KM) :=
  kRd σ 25 49 x1 fun y1 =>
  kEq y1 0
    (kRetI (-1) σ)
    (fWi_fullestTriad_L18 x1 (-1) (-1) 0 σ)
def fWi_recount_J72 (x2 : Int) (σ : KM) : Option (Int × KM) :=
  kCall (fWi_countSpan 48 0 x2 σ) fun _ τ1 =>
  kWfz τ1 5 6 0 fun τ2 =>
  kRetI 0 τ2
def fWi_recount_B24 (x2 x3 : Int) (σ : KM) : Option ((Int × KM) ⊕ (Int × KM)) :=
  kLt x3 (σ 5 2)
    (kCall (fWi_countSpan x3 (x3 * (σ 5 1)) ((x3 * (σ 5 1)) + (σ 5 0)) σ) fun _ τ1 =>
     kCall (fWi_fullestTriad x3 τ1) fun r3 τ2 =>
     kWr τ2 26 48 x3 r3 fun τ4 =>
     kLet (x3 + 1) fun y5 =>
     some (.inl (y5, τ4)))
    (kExit (fWi_recount_J72 x2 σ))
def fWi_recount_L24 (x2 x3 : Int) (σ : KM) : Option (Int × KM) := kIter (fun s => fWi_recount_B24 x2 s.1 s.2) kF (x3, σ)
def fWi_recount (σ : KM) : Option (Int × KM) :=
  kCall (fNo_end σ) fun r2 τ1 =>
  kCall (fWi_beginsAhead r2 (τ1 5 1) τ1) fun r4 τ3 =>
  kMn 48 r4 fun y5 =>
  kWf τ3 5 2 y5 fun τ6 =>
  fWi_recount_L24 r2 0 τ6
def fP_freshWindows_J21 (σ : KM) : Option (Int × KM) :=
  kRetI 0 σ
def fP_freshWindows (σ : KM) : Option (Int × KM) :=
  kEq (σ 5 6) 0
    (fP_freshWindows_J21 σ)
    (kCall (fWi_recount σ) fun _ τ1 =>
     fP_freshWindows_J21 τ1)
def fP_noWindow_J24 (t0 : Int) (σ : KM) : Option (Int × KM) :=
  kRetZ t0 σ
def fP_noWindow_J19 (σ : KM) : Option (Int × KM) :=
  fP_noWindow_J24 1 σ
def fP_noWindow (x1 : Int) (σ : KM) : Option (Int × KM) :=
  kCall (fP_freshWindows σ) fun _ τ1 =>
  kLt x1 0
    (fP_noWindow_J19 τ1)
    (kLt x1 (τ1 5 2)
       (fP_noWindow_J24 0 τ1)
       (fP_noWindow_J19 τ1))
def fP_chord_J22 (t0 : Int) (σ : KM) : Option (Int × KM) :=
  kRetI t0 σ
def fP_chord (x1 : Int) (σ : KM) : Option (Int × KM) :=
  kCall (fP_noWindow x1 σ) fun r2 τ1 =>
  kEq r2 0
    (kRd τ1 26 48 x1 fun y3 =>
     fP_chord_J22 y3 τ1)
    (fP_chord_J22 (-2) τ1)
def fP_modeOf_J11 (t0 : Int) (σ : KM) : Option (Int × KM) :=
  kRetI t0 σ
def fP_modeOf (x0 : Int) (σ : KM) : Option (Int × KM) :=
  kLt x0 12
    (fP_modeOf_J11 0 σ)
    (fP_modeOf_J11 1 σ)
def fPr_weigh_J61 (x5 : Int) (σ : KM) : Option (Int × KM) :=
  kRetI x5 σ
def fPr_weigh_B15 (x2 x3 x4 x5 x6 : Int) (σ : KM) : Option ((Int × Int × KM) ⊕ (Int × KM)) :=
  kLt x6 12
    (kRd σ 27 24 (x4 + x6) fun y1 =>
     kRm (x3 + x6) 12 fun y2 =>
     kRd σ 24 588 ((x2 * 12) + y2) fun y3 =>
     kLet (x5 + (y1 * y3)) fun y4 =>
     kLet (x6 + 1) fun y5 =>
     some (.inl (y4, y5, σ)))
    (kExit (fPr_weigh_J61 x5 σ))
def fPr_weigh_L15 (x2 x3 x4 x5 x6 : Int) (σ : KM) : Option (Int × KM) := kIter (fun s => fPr_weigh_B15 x2 x3 x4 s.1 s.2.1 s.2.2) kF (x5, x6, σ)
def fPr_weigh (x2 x3 : Int) (σ : KM) : Option (Int × KM) :=
  kCall (fP_modeOf x3 σ) fun r2 τ1 =>
  kLet (r2 * 12) fun y3 =>
  fPr_weigh_L15 x2 x3 y3 0 0 τ1
def fPr_judgeRow_J84 (σ : KM) : Option (Int × KM) :=
  kRetI 0 σ
def fPr_judgeRow_J45 (x2 x3 x4 t0 : Int) (σ : KM) : Option ((Int × KM) ⊕ (Int × KM)) :=
  kWr σ 28 1176 ((x2 * 24) + x4) t0 fun τ1 =>
  kRd τ1 29 49 x2 fun y2 =>
  kMx y2 t0 fun y3 =>
  kWr τ1 29 49 x2 y3 fun τ4 =>
  kLet (x4 + 1) fun y5 =>
  some (.inl (y5, τ4))
def fPr_judgeRow_B17 (x2 x3 x4 : Int) (σ : KM) : Option ((Int × KM) ⊕ (Int × KM)) :=
  kLt x4 24
    (kEq x3 0
       (fPr_judgeRow_J45 x2 x3 x4 0 σ)
       (kCall (fPr_weigh x2 x4 σ) fun r2 τ1 =>
        kDv (100 * r2) x3 fun y3 =>
        fPr_judgeRow_J45 x2 x3 x4 y3 τ1))
    (kExit (fPr_judgeRow_J84 σ))
def fPr_judgeRow_L17 (x2 x3 x4 : Int) (σ : KM) : Option (Int × KM) := kIter (fun s => fPr_judgeRow_B17 x2 x3 s.1 s.2) kF (x4, σ)
def fPr_judgeRow (x2 : Int) (σ : KM) : Option (Int × KM) :=
  kRd σ 25 49 x2 fun y1 =>
  kWr σ 29 49 x2 0 fun τ2 =>
  fPr_judgeRow_L17 x2 y1 0 τ2
def fPr_judge_J22 (σ : KM) : Option (Int × KM) :=
  kCall (fPr_judgeRow 48 σ) fun _ τ1 =>
  kWfz τ1 6 3 0 fun τ2 =>
  kRetI 0 τ2
def fPr_judge_B2 (x2 : Int) (σ : KM) : Option ((Int × KM) ⊕ (Int × KM)) :=
  kLt x2 (σ 5 2)
    (kCall (fPr_judgeRow x2 σ) fun _ τ1 =>
     kLet (x2 + 1) fun y2 =>
     some (.inl (y2, τ1)))
    (kExit (fPr_judge_J22 σ))
def fPr_judge_L2 (x2 : Int) (σ : KM) : Option (Int × KM) := kIter (fun s => fPr_judge_B2 s.1 s.2) kF (x2, σ)
def fPr_judge (σ : KM) : Option (Int × KM) :=
  fPr_judge_L2 0 σ
def fP_freshFits_J25 (σ : KM) : Option (Int × KM) :=
  kRetI 0 σ
def fP_freshFits (σ : KM) : Option (Int × KM) :=
  kCall (fP_freshWindows σ) fun _ τ1 =>
  kEq (τ1 6 3) 0
    (fP_freshFits_J25 τ1)
    (kCall (fPr_judge τ1) fun _ τ2 =>
     fP_freshFits_J25 τ2)
def fAr_fill2_32_J20 (σ : KM) : Option (Int × KM) :=
  kRetI 0 σ
def fAr_fill2_32_B5 (x1 x3 x2 : Int) (σ : KM) : Option ((Int × KM) ⊕ (Int × KM)) :=
  kLt x2 x3
    (kWr σ 32 24 x2 x1 fun τ1 =>
     kLet (x2 + 1) fun y2 =>
     some (.inl (y2, τ1)))
    (kExit (fAr_fill2_32_J20 σ))
def fAr_fill2_32_L5 (x1 x3 x2 : Int) (σ : KM) : Option (Int × KM) := kIter (fun s => fAr_fill2_32_B5 x1 x3 s.1 s.2) kF (x2, σ)
def fAr_fill2_32 (x1 : Int) (σ : KM) : Option (Int × KM) :=
  fAr_fill2_32_L5 x1 24 0 σ
def fNe_raised (x0 x1 x2 : Int) (σ : KM) : Option (Int × KM) :=
  kRm (x0 + x1) 12 fun y1 =>
  kRetI ((x2 * 12) + y1) σ
def fNe_neighbour_J45 (x2 t0 t1 : Int) (σ : KM) : Option (Int × KM) :=
  kCall (fNe_raised t1 t0 (1 - x2) σ) fun r2 τ1 =>
  kRetI r2 τ1
def fNe_neighbour (x0 x1 : Int) (σ : KM) : Option (Int × KM) :=
  kCall (fP_modeOf x0 σ) fun r2 τ1 =>
  kEq x1 0
    (kCall (fNe_raised x0 7 r2 τ1) fun r8 τ7 =>
     kRetI r8 τ7)
    (kEq x1 1
       (kCall (fNe_raised x0 5 r2 τ1) fun r6 τ5 =>
        kRetI r6 τ5)
       (kEq x1 2
          (kEq r2 0
             (fNe_neighbour_J45 r2 9 x0 τ1)
             (fNe_neighbour_J45 r2 3 x0 τ1))
          (kCall (fNe_raised x0 0 (1 - r2) τ1) fun r4 τ3 =>
           kRetI r4 τ3)))
def fNe_rankOfStep_J32 (x2 : Int) (σ : KM) : Option (Int × KM) :=
  kRetI ((64 * x2) + 1) σ
def fNe_rankOfStep_J14 (σ : KM) : Option (Int × KM) :=
  kLet (σ 7 0) fun y1 =>
  fNe_rankOfStep_J32 y1 σ
def fNe_rankOfStep (x1 : Int) (σ : KM) : Option (Int × KM) :=
  kLet (σ 7 2) fun y1 =>
  kEq x1 0
    (fNe_rankOfStep_J14 σ)
    (kEq x1 1
       (fNe_rankOfStep_J14 σ)
       (kEq x1 2
          (kLet (σ 7 1) fun y2 =>
           fNe_rankOfStep_J32 y2 σ)
          (fNe_rankOfStep_J32 y1 σ)))
def fNe_reachFrom_J117 (σ : KM) : Option (Int × KM) :=
  kRetI 0 σ
def fNe_reachFrom_J111 (x2 x3 : Int) (σ : KM) : Option ((Int × Int × KM) ⊕ (Int × KM)) :=
  kLet (x3 + 1) fun y1 =>
  some (.inl (x2, y1, σ))
def fNe_reachFrom_J105 (x2 x3 x4 : Int) (σ : KM) : Option ((Int × Int × KM) ⊕ ((Int × Int × KM) ⊕ (Int × KM))) :=
  kLet (x4 + 1) fun y1 =>
  some (.inl (x2, y1, σ))
def fNe_reachFrom_J99 (x2 x3 x4 x5 : Int) (σ : KM) : Option ((Int × Int × KM) ⊕ ((Int × Int × KM) ⊕ ((Int × Int × KM) ⊕ (Int × KM)))) :=
  kLet (x5 + 1) fun y1 =>
  some (.inl (x2, y1, σ))
def fNe_reachFrom_B45 (x3 x4 x2 x5 : Int) (σ : KM) : Option ((Int × Int × KM) ⊕ ((Int × Int × KM) ⊕ ((Int × Int × KM) ⊕ (Int × KM)))) :=
  kLt x5 4
    (kCall (fNe_neighbour x4 x5 σ) fun r2 τ1 =>
     kRd τ1 32 24 x4 fun y3 =>
     kCall (fNe_rankOfStep x5 τ1) fun r5 τ4 =>
     kLet (y3 + r5) fun y6 =>
     kRd τ4 32 24 r2 fun y7 =>
     kLt y6 y7
       (kWr τ4 32 24 r2 y6 fun τ8 =>
        fNe_reachFrom_J99 1 x3 x4 x5 τ8)
       (fNe_reachFrom_J99 x2 x3 x4 x5 τ4))
    (kExit (fNe_reachFrom_J105 x2 x3 x4 σ))
def fNe_reachFrom_L45 (x3 x4 x2 x5 : Int) (σ : KM) : Option ((Int × Int × KM) ⊕ ((Int × Int × KM) ⊕ (Int × KM))) := kIter (fun s => fNe_reachFrom_B45 x3 x4 s.1 s.2.1 s.2.2) kF (x2, x5, σ)
def fNe_reachFrom_B35 (x3 x2 x4 : Int) (σ : KM) : Option ((Int × Int × KM) ⊕ ((Int × Int × KM) ⊕ (Int × KM))) :=
  kLt x4 24
    (fNe_reachFrom_L45 x3 x4 x2 0 σ)
    (kExit (fNe_reachFrom_J111 x2 x3 σ))
def fNe_reachFrom_L35 (x3 x2 x4 : Int) (σ : KM) : Option ((Int × Int × KM) ⊕ (Int × KM)) := kIter (fun s => fNe_reachFrom_B35 x3 s.1 s.2.1 s.2.2) kF (x2, x4, σ)
def fNe_reachFrom_B20 (x2 x3 : Int) (σ : KM) : Option ((Int × Int × KM) ⊕ (Int × KM)) :=
  kLt x3 24
    (kEq x2 0
       (kExit (fNe_reachFrom_J117 σ))
       (fNe_reachFrom_L35 x3 0 0 σ))
    (kExit (fNe_reachFrom_J117 σ))
def fNe_reachFrom_L20 (x2 x3 : Int) (σ : KM) : Option (Int × KM) := kIter (fun s => fNe_reachFrom_B20 s.1 s.2.1 s.2.2) kF (x2, x3, σ)
def fNe_reachFrom (x1 : Int) (σ : KM) : Option (Int × KM) :=
  kCall (fAr_fill2_32 1000000000 σ) fun _ τ1 =>
  kWr τ1 32 24 x1 0 fun τ2 =>
  fNe_reachFrom_L20 1 0 τ2
def fNe_copyRow_J59 (σ : KM) : Option (Int × KM) :=
  kRetI 0 σ
def fNe_copyRow_B2 (x1 x2 x3 : Int) (σ : KM) : Option ((Int × KM) ⊕ (Int × KM)) :=
  kLt x3 24
    (kCall (fP_modeOf x3 σ) fun r2 τ1 =>
     kCall (fNe_raised x3 x2 r2 τ1) fun r4 τ3 =>
     kLet ((x1 * 24) + r4) fun y5 =>
     kRd τ3 32 24 x3 fun y6 =>
     kWr τ3 31 576 y5 y6 fun τ7 =>
     kRd τ7 32 24 x3 fun y8 =>
     kDv y8 64 fun y9 =>
     kWr τ7 30 576 y5 y9 fun τ10 =>
     kLet (x3 + 1) fun y11 =>
     some (.inl (y11, τ10)))
    (kExit (fNe_copyRow_J59 σ))
def fNe_copyRow_L2 (x1 x2 x3 : Int) (σ : KM) : Option (Int × KM) := kIter (fun s => fNe_copyRow_B2 x1 x2 s.1 s.2) kF (x3, σ)
def fNe_copyRow (x1 x2 : Int) (σ : KM) : Option (Int × KM) :=
  fNe_copyRow_L2 x1 x2 0 σ
def fNe_refresh_J54 (σ : KM) : Option (Int × KM) :=
  kWfz σ 7 4 0 fun τ1 =>
  kRetI 0 τ1
def fNe_refresh_J48 (x1 : Int) (σ : KM) : Option ((Int × KM) ⊕ (Int × KM)) :=
  kLet (x1 + 1) fun y1 =>
  some (.inl (y1, σ))
def fNe_refresh_B25 (x1 x2 : Int) (σ : KM) : Option ((Int × KM) ⊕ ((Int × KM) ⊕ (Int × KM))) :=
  kLt x2 12
    (kCall (fNe_copyRow ((x1 * 12) + x2) x2 σ) fun _ τ1 =>
     kLet (x2 + 1) fun y2 =>
     some (.inl (y2, τ1)))
    (kExit (fNe_refresh_J48 x1 σ))
def fNe_refresh_L25 (x1 x2 : Int) (σ : KM) : Option ((Int × KM) ⊕ (Int × KM)) := kIter (fun s => fNe_refresh_B25 x1 s.1 s.2) kF (x2, σ)
def fNe_refresh_B10 (x1 : Int) (σ : KM) : Option ((Int × KM) ⊕ (Int × KM)) :=
  kLt x1 2
    (kCall (fNe_reachFrom (x1 * 12) σ) fun _ τ1 =>
     fNe_refresh_L25 x1 0 τ1)
    (kExit (fNe_refresh_J54 σ))
def fNe_refresh_L10 (x1 : Int) (σ : KM) : Option (Int × KM) := kIter (fun s => fNe_refresh_B10 s.1 s.2) kF (x1, σ)
def fNe_refresh (σ : KM) : Option (Int × KM) :=
  kEq (σ 7 4) 0
    (kRetI 0 σ)
    (fNe_refresh_L10 0 σ)
def fFi_judge_J132 (σ : KM) : Option (Int × KM) :=
  kRetI 0 σ
def fFi_judge_J126 (x3 : Int) (σ : KM) : Option ((Int × KM) ⊕ (Int × KM)) :=
  kLet (x3 + 1) fun y1 =>
  some (.inl (y1, σ))
def fFi_judge_J119 (x3 x4 t0 t1 : Int) (σ : KM) : Option ((Int × KM) ⊕ ((Int × KM) ⊕ (Int × KM))) :=
  kWr σ 34 1152 t1 t0 fun τ1 =>
  kLet (x4 + 1) fun y2 =>
  some (.inl (y2, τ1))
def fFi_judge_J87 (x3 x4 x5 t0 : Int) (σ : KM) : Option ((Int × KM) ⊕ ((Int × KM) ⊕ (Int × KM))) :=
  kEq t0 0
    (fFi_judge_J119 x3 x4 1000000000 x5 σ)
    (kRd σ 29 49 x3 fun y1 =>
     kRd σ 28 1176 x5 fun y2 =>
     fFi_judge_J119 x3 x4 (y1 - y2) x5 σ)
def fFi_judge_J82 (x3 x4 x5 : Int) (σ : KM) : Option ((Int × KM) ⊕ ((Int × KM) ⊕ (Int × KM))) :=
  fFi_judge_J87 x3 x4 x5 1 σ
def fFi_judge_B45 (x3 x4 : Int) (σ : KM) : Option ((Int × KM) ⊕ ((Int × KM) ⊕ (Int × KM))) :=
  kLt x4 24
    (kLet ((x3 * 24) + x4) fun y1 =>
     kRd σ 33 48 x3 fun y2 =>
     kEq y2 (-1)
       (fFi_judge_J82 x3 x4 y1 σ)
       (kRd σ 33 48 x3 fun y3 =>
        kEq y3 x4
          (fFi_judge_J82 x3 x4 y1 σ)
          (fFi_judge_J87 x3 x4 y1 0 σ)))
    (kExit (fFi_judge_J126 x3 σ))
def fFi_judge_L45 (x3 x4 : Int) (σ : KM) : Option ((Int × KM) ⊕ (Int × KM)) := kIter (fun s => fFi_judge_B45 x3 s.1 s.2) kF (x4, σ)
def fFi_judge_J41 (x3 t0 t1 : Int) (σ : KM) : Option ((Int × KM) ⊕ (Int × KM)) :=
  kWz σ 35 48 t1 t0 fun τ1 =>
  fFi_judge_L45 x3 0 τ1
def fFi_judge_J40 (x3 t0 : Int) (σ : KM) : Option ((Int × KM) ⊕ (Int × KM)) :=
  fFi_judge_J41 x3 0 t0 σ
def fFi_judge_B10 (x3 : Int) (σ : KM) : Option ((Int × KM) ⊕ (Int × KM)) :=
  kLt x3 (σ 8 1)
    (kLt 0 x3
       (kRd σ 25 49 x3 fun y1 =>
        kEq y1 0
          (fFi_judge_J41 x3 1 x3 σ)
          (fFi_judge_J40 x3 x3 σ))
       (fFi_judge_J40 x3 x3 σ))
    (kExit (fFi_judge_J132 σ))
def fFi_judge_L10 (x3 : Int) (σ : KM) : Option (Int × KM) := kIter (fun s => fFi_judge_B10 s.1 s.2) kF (x3, σ)
def fFi_judge (σ : KM) : Option (Int × KM) :=
  kWf σ 8 1 (σ 5 2) fun τ1 =>
  fFi_judge_L10 0 τ1
def fFi_findLeast_J138 (t0 : Int) (σ : KM) : Option (Int × KM) :=
  kWfz σ 8 7 t0 fun τ1 =>
  kRetI 0 τ1
def fFi_findLeast_J123 (σ : KM) : Option (Int × KM) :=
  kLt (σ 8 8) 1000000000
    (fFi_findLeast_J138 1 σ)
    (fFi_findLeast_J138 0 σ)
def fFi_findLeast_J117 (x1 : Int) (σ : KM) : Option ((Int × KM) ⊕ (Int × KM)) :=
  kLet (x1 + 1) fun y1 =>
  some (.inl (y1, σ))
def fFi_findLeast_B35 (x1 : Int) (σ : KM) : Option ((Int × KM) ⊕ (Int × KM)) :=
  kLt x1 24
    (kLt 0 (σ 8 1)
       (kRd σ 37 1152 x1 fun y1 =>
        kLt y1 (σ 8 8)
          (kRd σ 37 1152 x1 fun y6 =>
           kWf σ 8 8 y6 fun τ7 =>
           kRd τ7 38 1152 x1 fun y8 =>
           kWf τ7 8 9 y8 fun τ9 =>
           fFi_findLeast_J117 x1 τ9)
          (kRd σ 37 1152 x1 fun y2 =>
           kEq y2 (σ 8 8)
             (kRd σ 38 1152 x1 fun y3 =>
              kMn 1000000 ((σ 8 9) + y3) fun y4 =>
              kWf σ 8 9 y4 fun τ5 =>
              fFi_findLeast_J117 x1 τ5)
             (fFi_findLeast_J117 x1 σ)))
       (kExit (fFi_findLeast_J123 σ)))
    (kExit (fFi_findLeast_J123 σ))
def fFi_findLeast_L35 (x1 : Int) (σ : KM) : Option (Int × KM) := kIter (fun s => fFi_findLeast_B35 s.1 s.2) kF (x1, σ)
def fFi_findLeast_J30 (t0 : Int) (σ : KM) : Option (Int × KM) :=
  kWf σ 8 9 t0 fun τ1 =>
  fFi_findLeast_L35 0 τ1
def fFi_findLeast_J14 (t0 : Int) (σ : KM) : Option (Int × KM) :=
  kWf σ 8 8 t0 fun τ1 =>
  kEq (τ1 8 1) 0
    (fFi_findLeast_J30 1 τ1)
    (fFi_findLeast_J30 0 τ1)
def fFi_findLeast (σ : KM) : Option (Int × KM) :=
  kEq (σ 8 1) 0
    (fFi_findLeast_J14 0 σ)
    (fFi_findLeast_J14 1000000000 σ)
def fFi_splitSegments_J69 (σ : KM) : Option (Int × KM) :=
  kRetI 0 σ
def fFi_splitSegments_J63 (x1 : Int) (σ : KM) : Option ((Int × KM) ⊕ (Int × KM)) :=
  kLet (x1 + 1) fun y1 =>
  some (.inl (y1, σ))
def fFi_splitSegments_J43 (x1 : Int) (σ : KM) : Option ((Int × KM) ⊕ (Int × KM)) :=
  kWr σ 40 48 (σ 8 12) x1 fun τ1 =>
  kWf τ1 8 12 ((τ1 8 12) + 1) fun τ2 =>
  fFi_splitSegments_J63 x1 τ2
def fFi_splitSegments_B7 (x1 : Int) (σ : KM) : Option ((Int × KM) ⊕ (Int × KM)) :=
  kLt x1 (σ 8 1)
    (kEq (σ 8 7) 0
       (kExit (fFi_splitSegments_J69 σ))
       (kEq x1 0
          (fFi_splitSegments_J43 x1 σ)
          (kRd σ 39 48 x1 fun y1 =>
           kRd σ 39 48 (x1 - 1) fun y2 =>
           kEq y1 y2
             (fFi_splitSegments_J63 x1 σ)
             (fFi_splitSegments_J43 x1 σ))))
    (kExit (fFi_splitSegments_J69 σ))
def fFi_splitSegments_L7 (x1 : Int) (σ : KM) : Option (Int × KM) := kIter (fun s => fFi_splitSegments_B7 s.1 s.2) kF (x1, σ)
def fFi_splitSegments (σ : KM) : Option (Int × KM) :=
  kWf σ 8 12 0 fun τ1 =>
  fFi_splitSegments_L7 0 τ1
def fFi_nextKey_J93 (x2 : Int) (σ : KM) : Option (Int × KM) :=
  kRetI x2 σ
def fFi_nextKey_J84 (x5 : Int) (σ : KM) : Option (Int × KM) :=
  kRetI x5 σ
def fFi_nextKey_B47 (x1 x2 x4 x5 : Int) (σ : KM) : Option ((Int × KM) ⊕ (Int × KM)) :=
  kLt x5 24
    (kRd σ 37 1152 ((x1 * 24) + x5) fun y1 =>
     kRd σ 36 576 ((x2 * 24) + x5) fun y2 =>
     kEq (y1 + y2) x4
       (kExit (fFi_nextKey_J84 x5 σ))
       (kLet (x5 + 1) fun y3 =>
        some (.inl (y3, σ))))
    (kExit (fFi_nextKey_J93 x2 σ))
def fFi_nextKey_L47 (x1 x2 x4 x5 : Int) (σ : KM) : Option (Int × KM) := kIter (fun s => fFi_nextKey_B47 x1 x2 x4 s.1 s.2) kF (x5, σ)
def fFi_nextKey (x1 : Int) (σ : KM) : Option (Int × KM) :=
  kRd σ 39 48 (x1 - 1) fun y1 =>
  kRd σ 35 48 x1 fun y2 =>
  kEq y2 0
    (kLet (((x1 - 1) * 24) + y1) fun y3 =>
     kRd σ 37 1152 y3 fun y4 =>
     kRd σ 34 1152 y3 fun y5 =>
     kLet (y4 - y5) fun y6 =>
     fFi_nextKey_L47 x1 y1 y6 0 σ)
    (kRetI y1 σ)
def fFi_firstKey_J29 (σ : KM) : Option (Int × KM) :=
  kRetI 0 σ
def fFi_firstKey_J21 (x1 : Int) (σ : KM) : Option (Int × KM) :=
  kRetI x1 σ
def fFi_firstKey_B2 (x1 : Int) (σ : KM) : Option ((Int × KM) ⊕ (Int × KM)) :=
  kLt x1 24
    (kRd σ 37 1152 x1 fun y1 =>
     kEq y1 (σ 8 8)
       (kExit (fFi_firstKey_J21 x1 σ))
       (kLet (x1 + 1) fun y2 =>
        some (.inl (y2, σ))))
    (kExit (fFi_firstKey_J29 σ))
def fFi_firstKey_L2 (x1 : Int) (σ : KM) : Option (Int × KM) := kIter (fun s => fFi_firstKey_B2 s.1 s.2) kF (x1, σ)
def fFi_firstKey (σ : KM) : Option (Int × KM) :=
  fFi_firstKey_L2 0 σ
def fFi_follow_J38 (σ : KM) : Option (Int × KM) :=
  kRetI 0 σ
def fFi_follow_J31 (x1 t0 t1 : Int) (σ : KM) : Option ((Int × KM) ⊕ (Int × KM)) :=
  kWr σ 39 48 t1 t0 fun τ1 =>
  kLet (x1 + 1) fun y2 =>
  some (.inl (y2, τ1))
def fFi_follow_B2 (x1 : Int) (σ : KM) : Option ((Int × KM) ⊕ (Int × KM)) :=
  kLt x1 (σ 8 1)
    (kEq x1 0
       (kCall (fFi_firstKey σ) fun r4 τ3 =>
        fFi_follow_J31 x1 r4 x1 τ3)
       (kCall (fFi_nextKey x1 σ) fun r2 τ1 =>
        fFi_follow_J31 x1 r2 x1 τ1))
    (kExit (fFi_follow_J38 σ))
def fFi_follow_L2 (x1 : Int) (σ : KM) : Option (Int × KM) := kIter (fun s => fFi_follow_B2 s.1 s.2) kF (x1, σ)
def fFi_follow (σ : KM) : Option (Int × KM) :=
  fFi_follow_L2 0 σ
def fP_plus (x0 x1 : Int) (σ : KM) : Option (Int × KM) :=
  kMn 1000000000 (x0 + x1) fun y1 =>
  kRetI y1 σ
def fFi_lookBehind_J47 (σ : KM) : Option (Int × KM) :=
  kRetI 0 σ
def fFi_lookBehind_J208 (x3 x5 x6 : Int) (σ : KM) : Option (Int × KM) :=
  kRd σ 34 1152 x3 fun y1 =>
  kCall (fP_plus y1 x5 σ) fun r3 τ2 =>
  kWr τ2 37 1152 x3 r3 fun τ4 =>
  kWr τ4 38 1152 x3 x6 fun τ5 =>
  kRetI 0 τ5
def fFi_lookBehind_J202 (x2 x3 x4 x5 x6 x7 : Int) (σ : KM) : Option ((Int × Int × Int × KM) ⊕ (Int × KM)) :=
  kLet (x7 + 1) fun y1 =>
  some (.inl (x5, x6, y1, σ))
def fFi_lookBehind_B117 (x2 x3 x4 x5 x6 x7 : Int) (σ : KM) : Option ((Int × Int × Int × KM) ⊕ (Int × KM)) :=
  kLt x7 24
    (kRd σ 37 1152 (x4 + x7) fun y1 =>
     kRd σ 36 576 ((x2 * 24) + x7) fun y2 =>
     kLet (y1 + y2) fun y3 =>
     kLt y3 x5
       (kRd σ 38 1152 (x4 + x7) fun y6 =>
        fFi_lookBehind_J202 x2 x3 x4 y3 y6 x7 σ)
       (kEq y3 x5
          (kRd σ 38 1152 (x4 + x7) fun y4 =>
           kMn 1000000 (x6 + y4) fun y5 =>
           fFi_lookBehind_J202 x2 x3 x4 x5 y5 x7 σ)
          (fFi_lookBehind_J202 x2 x3 x4 x5 x6 x7 σ)))
    (kExit (fFi_lookBehind_J208 x3 x5 x6 σ))
def fFi_lookBehind_L117 (x2 x3 x4 x5 x6 x7 : Int) (σ : KM) : Option (Int × KM) := kIter (fun s => fFi_lookBehind_B117 x2 x3 x4 s.1 s.2.1 s.2.2.1 s.2.2.2) kF (x5, x6, x7, σ)
def fFi_lookBehind (x1 x2 : Int) (σ : KM) : Option (Int × KM) :=
  kLet ((x1 * 24) + x2) fun y1 =>
  kRd σ 34 1152 y1 fun y2 =>
  kWr σ 37 1152 y1 y2 fun τ3 =>
  kWr τ3 38 1152 y1 1 fun τ4 =>
  kRd τ4 34 1152 y1 fun y5 =>
  kLt y5 1000000000
    (kEq x1 ((τ4 8 1) - 1)
       (fFi_lookBehind_J47 τ4)
       (kRd τ4 35 48 (x1 + 1) fun y6 =>
        kEq y6 0
          (kLet ((x1 + 1) * 24) fun y7 =>
           fFi_lookBehind_L117 x2 y1 y7 1000000000 0 0 τ4)
          (kRd τ4 34 1152 y1 fun y8 =>
           kRd τ4 37 1152 (y1 + 24) fun y9 =>
           kCall (fP_plus y8 y9 τ4) fun r11 τ10 =>
           kWr τ10 37 1152 y1 r11 fun τ12 =>
           kRd τ12 38 1152 (y1 + 24) fun y13 =>
           kWr τ12 38 1152 y1 y13 fun τ14 =>
           kRetI 0 τ14)))
    (fFi_lookBehind_J47 τ4)
def fFi_solve_J84 (σ : KM) : Option (Int × KM) :=
  kCall (fFi_splitSegments σ) fun _ τ1 =>
  kRetI 0 τ1
def fFi_solve_J69 (σ : KM) : Option (Int × KM) :=
  kCall (fFi_findLeast σ) fun _ τ1 =>
  kEq (τ1 8 7) 0
    (fFi_solve_J84 τ1)
    (kCall (fFi_follow τ1) fun _ τ2 =>
     fFi_solve_J84 τ2)
def fFi_solve_J63 (x3 : Int) (σ : KM) : Option ((Int × KM) ⊕ (Int × KM)) :=
  kLet (x3 + (-1)) fun y1 =>
  some (.inl (y1, σ))
def fFi_solve_B43 (x3 x4 : Int) (σ : KM) : Option ((Int × KM) ⊕ ((Int × KM) ⊕ (Int × KM))) :=
  kLt x4 24
    (kCall (fFi_lookBehind x3 x4 σ) fun _ τ1 =>
     kLet (x4 + 1) fun y2 =>
     some (.inl (y2, τ1)))
    (kExit (fFi_solve_J63 x3 σ))
def fFi_solve_L43 (x3 x4 : Int) (σ : KM) : Option ((Int × KM) ⊕ (Int × KM)) := kIter (fun s => fFi_solve_B43 x3 s.1 s.2) kF (x4, σ)
def fFi_solve_B36 (x3 : Int) (σ : KM) : Option ((Int × KM) ⊕ (Int × KM)) :=
  kLt x3 0
    (kExit (fFi_solve_J69 σ))
    (fFi_solve_L43 x3 0 σ)
def fFi_solve_L36 (x3 : Int) (σ : KM) : Option (Int × KM) := kIter (fun s => fFi_solve_B36 s.1 s.2) kF (x3, σ)
def fFi_solve_J29 (σ : KM) : Option (Int × KM) :=
  kLet ((σ 8 1) - 1) fun y1 =>
  fFi_solve_L36 y1 σ
def fFi_solve_B2 (x2 x3 : Int) (σ : KM) : Option ((Int × KM) ⊕ (Int × KM)) :=
  kLt x3 576
    (kRd σ 30 576 x3 fun y1 =>
     kWr σ 36 576 x3 (x2 * y1) fun τ2 =>
     kLet (x3 + 1) fun y3 =>
     some (.inl (y3, τ2)))
    (kExit (fFi_solve_J29 σ))
def fFi_solve_L2 (x2 x3 : Int) (σ : KM) : Option (Int × KM) := kIter (fun s => fFi_solve_B2 x2 s.1 s.2) kF (x3, σ)
def fFi_solve (x2 : Int) (σ : KM) : Option (Int × KM) :=
  fFi_solve_L2 x2 0 σ
def fDe_forget (σ : KM) : Option (Int × KM) :=
  kWfz σ 9 1 0 fun τ1 =>
  kWfz τ1 9 4 0 fun τ2 =>
  kRetI 0 τ2
def fP_noPath_J92 (t0 : Int) (σ : KM) : Option (Int × KM) :=
  kRetZ t0 σ
def fP_noPath_J77 (σ : KM) : Option (Int × KM) :=
  kEq (σ 8 7) 0
    (fP_noPath_J92 1 σ)
    (fP_noPath_J92 0 σ)
def fP_noPath (σ : KM) : Option (Int × KM) :=
  kEq (σ 8 13) 0
    (fP_noPath_J77 σ)
    (kCall (fP_freshFits σ) fun _ τ1 =>
     kCall (fNe_refresh τ1) fun _ τ2 =>
     kCall (fFi_judge τ2) fun _ τ3 =>
     kCall (fFi_solve (τ3 7 3) τ3) fun _ τ4 =>
     kWfz τ4 8 13 0 fun τ5 =>
     kWfz τ5 8 14 0 fun τ6 =>
     kCall (fDe_forget τ6) fun _ τ7 =>
     fP_noPath_J77 τ7)
def fWi_lastSounding_J27 (x1 : Int) (σ : KM) : Option (Int × KM) :=
  kRetI x1 σ
def fWi_lastSounding_B7 (x1 : Int) (σ : KM) : Option ((Int × KM) ⊕ (Int × KM)) :=
  kLt x1 0
    (kExit (fWi_lastSounding_J27 x1 σ))
    (kRd σ 26 48 x1 fun y1 =>
     kEq y1 (-1)
       (kLet (x1 + (-1)) fun y2 =>
        some (.inl (y2, σ)))
       (kExit (fWi_lastSounding_J27 x1 σ)))
def fWi_lastSounding_L7 (x1 : Int) (σ : KM) : Option (Int × KM) := kIter (fun s => fWi_lastSounding_B7 s.1 s.2) kF (x1, σ)
def fWi_lastSounding (σ : KM) : Option (Int × KM) :=
  kLet ((σ 5 2) - 1) fun y1 =>
  fWi_lastSounding_L7 y1 σ
def fP_degreeOn_J48 (σ : KM) : Option (Int × KM) :=
  kRetI (-1) σ
def fP_degreeOn_J38 (x3 : Int) (σ : KM) : Option (Int × KM) :=
  kRetI (x3 + 1) σ
def fP_degreeOn_B15 (x1 x2 x3 : Int) (σ : KM) : Option ((Int × KM) ⊕ (Int × KM)) :=
  kLt x3 7
    (kCall (fP_modeOf x1 σ) fun r2 τ1 =>
     kRs 0 14 ((r2 * 7) + x3) fun y3 =>
     kEq y3 x2
       (kExit (fP_degreeOn_J38 x3 τ1))
       (kLet (x3 + 1) fun y4 =>
        some (.inl (y4, τ1))))
    (kExit (fP_degreeOn_J48 σ))
def fP_degreeOn_L15 (x1 x2 x3 : Int) (σ : KM) : Option (Int × KM) := kIter (fun s => fP_degreeOn_B15 x1 x2 s.1 s.2) kF (x3, σ)
def fP_degreeOn (x0 x1 : Int) (σ : KM) : Option (Int × KM) :=
  kRm x1 12 fun y1 =>
  kRm ((x0 + 12) - y1) 12 fun y2 =>
  fP_degreeOn_L15 x1 y2 0 σ
def fP_degreeOf_J72 (t0 : Int) (σ : KM) : Option (Int × KM) :=
  kRetI t0 σ
def fP_degreeOf_J67 (x3 : Int) (σ : KM) : Option (Int × KM) :=
  fP_degreeOf_J72 x3 σ
def fP_degreeOf_J41 (x1 x2 x3 t0 : Int) (σ : KM) : Option (Int × KM) :=
  kEq t0 0
    (kCall (fP_modeOf x1 σ) fun r2 τ1 =>
     kRs 1 14 (((r2 * 7) + x3) - 1) fun y3 =>
     kEq y3 x2
       (fP_degreeOf_J67 x3 τ1)
       (fP_degreeOf_J72 (-1) τ1))
    (fP_degreeOf_J67 x3 σ)
def fP_degreeOf_J40 (x1 x2 x3 : Int) (σ : KM) : Option (Int × KM) :=
  fP_degreeOf_J41 x1 x2 x3 0 σ
def fP_degreeOf (x0 x1 : Int) (σ : KM) : Option (Int × KM) :=
  kRm x0 3 fun y1 =>
  kDv x0 3 fun y2 =>
  kCall (fP_degreeOn y2 x1 σ) fun r4 τ3 =>
  kEq r4 (-1)
    (kRetI (-1) τ3)
    (kCall (fP_modeOf x1 τ3) fun r6 τ5 =>
     kEq r6 1
       (kEq r4 5
          (kEq y1 0
             (fP_degreeOf_J41 x1 y1 r4 1 τ5)
             (fP_degreeOf_J40 x1 y1 r4 τ5))
          (fP_degreeOf_J40 x1 y1 r4 τ5))
       (fP_degreeOf_J40 x1 y1 r4 τ5))
def fP_romanOf_J32 (t0 : Int) (σ : KM) : Option (Int × KM) :=
  kRetI t0 σ
def fP_romanOf (x1 : Int) (σ : KM) : Option (Int × KM) :=
  kRd σ 26 48 x1 fun y1 =>
  kEq y1 (-1)
    (fP_romanOf_J32 (-1) σ)
    (kRd σ 39 48 x1 fun y2 =>
     kCall (fP_degreeOf y1 y2 σ) fun r4 τ3 =>
     fP_romanOf_J32 r4 τ3)
def fWi_otherChordAhead_J42 (σ : KM) : Option (Int × KM) :=
  kRetI (-1) σ
def fWi_otherChordAhead_J36 (x1 x2 x3 : Int) (σ : KM) : Option ((Int × KM) ⊕ (Int × KM)) :=
  kLet (x3 + (-1)) fun y1 =>
  some (.inl (y1, σ))
def fWi_otherChordAhead_J34 (x3 : Int) (σ : KM) : Option (Int × KM) :=
  kRetI x3 σ
def fWi_otherChordAhead_B4 (x1 x2 x3 : Int) (σ : KM) : Option ((Int × KM) ⊕ (Int × KM)) :=
  kLt x3 x2
    (kExit (fWi_otherChordAhead_J42 σ))
    (kRd σ 26 48 x3 fun y1 =>
     kEq y1 (-1)
       (fWi_otherChordAhead_J36 x1 x2 x3 σ)
       (kRd σ 26 48 x3 fun y2 =>
        kRd σ 26 48 x1 fun y3 =>
        kEq y2 y3
          (fWi_otherChordAhead_J36 x1 x2 x3 σ)
          (kExit (fWi_otherChordAhead_J34 x3 σ))))
def fWi_otherChordAhead_L4 (x1 x2 x3 : Int) (σ : KM) : Option (Int × KM) := kIter (fun s => fWi_otherChordAhead_B4 x1 x2 s.1 s.2) kF (x3, σ)
def fWi_otherChordAhead (x1 x2 : Int) (σ : KM) : Option (Int × KM) :=
  kLet (x1 - 1) fun y1 =>
  fWi_otherChordAhead_L4 x1 x2 y1 σ
def fP_close_J58 (σ : KM) : Option (Int × KM) :=
  kRetI 0 σ
def fP_close_J90 (t0 : Int) (σ : KM) : Option (Int × KM) :=
  kRetI t0 σ
def fP_close (σ : KM) : Option (Int × KM) :=
  kCall (fP_noPath σ) fun r2 τ1 =>
  kEq r2 0
    (kCall (fWi_lastSounding τ1) fun r4 τ3 =>
     kEq r4 (-1)
       (kRetI (-1) τ3)
       (kCall (fP_romanOf r4 τ3) fun r6 τ5 =>
        kEq r6 5
          (kRetI 1 τ5)
          (kCall (fWi_otherChordAhead r4 0 τ5) fun r8 τ7 =>
           kEq r6 1
             (kEq r8 (-1)
                (fP_close_J58 τ7)
                (kRd τ7 26 48 r8 fun y9 =>
                 kRd τ7 39 48 r4 fun y10 =>
                 kCall (fP_degreeOf y9 y10 τ7) fun r12 τ11 =>
                 kEq r12 5
                   (fP_close_J90 2 τ11)
                   (fP_close_J90 0 τ11)))
             (fP_close_J58 τ7))))
    (kRetI (-5) τ1)
def fFi_lastOf_J29 (t0 : Int) (σ : KM) : Option (Int × KM) :=
  kRetI t0 σ
def fFi_lastOf (x1 : Int) (σ : KM) : Option (Int × KM) :=
  kLt (x1 + 1) (σ 8 12)
    (kRd σ 40 48 (x1 + 1) fun y1 =>
     fFi_lastOf_J29 (y1 - 1) σ)
    (fFi_lastOf_J29 ((σ 8 1) - 1) σ)
def fP_confirmed_J25 (σ : KM) : Option (Int × KM) :=
  kRetI (-2) σ
def fP_confirmed_J103 (σ : KM) : Option (Int × KM) :=
  kRetI (-1) σ
def fP_confirmed_J97 (x2 x3 x4 : Int) (σ : KM) : Option ((Int × KM) ⊕ (Int × KM)) :=
  kLet (x4 + 1) fun y1 =>
  some (.inl (y1, σ))
def fP_confirmed_J94 (x4 : Int) (σ : KM) : Option (Int × KM) :=
  kRetI x4 σ
def fP_confirmed_B50 (x2 x3 x4 : Int) (σ : KM) : Option ((Int × KM) ⊕ (Int × KM)) :=
  kLt x3 x4
    (kExit (fP_confirmed_J103 σ))
    (kCall (fWi_otherChordAhead x4 x2 σ) fun r2 τ1 =>
     kCall (fP_romanOf x4 τ1) fun r4 τ3 =>
     kEq r4 1
       (kEq r2 (-1)
          (fP_confirmed_J97 x2 x3 x4 τ3)
          (kCall (fP_romanOf r2 τ3) fun r6 τ5 =>
           kEq r6 5
             (kExit (fP_confirmed_J94 x4 τ5))
             (fP_confirmed_J97 x2 x3 x4 τ5)))
       (fP_confirmed_J97 x2 x3 x4 τ3))
def fP_confirmed_L50 (x2 x3 x4 : Int) (σ : KM) : Option (Int × KM) := kIter (fun s => fP_confirmed_B50 x2 x3 s.1 s.2) kF (x4, σ)
def fP_confirmed (x1 : Int) (σ : KM) : Option (Int × KM) :=
  kCall (fP_noPath σ) fun r2 τ1 =>
  kEq r2 0
    (kLt x1 0
       (fP_confirmed_J25 τ1)
       (kLt x1 (τ1 8 12)
          (kRd τ1 40 48 x1 fun y3 =>
           kCall (fFi_lastOf x1 τ1) fun r5 τ4 =>
           fP_confirmed_L50 y3 r5 y3 τ4)
          (fP_confirmed_J25 τ1)))
    (kRetI (-5) τ1)
def fP_cost_J19 (t0 : Int) (σ : KM) : Option (Int × KM) :=
  kRetI t0 σ
def fP_cost (σ : KM) : Option (Int × KM) :=
  kCall (fP_noPath σ) fun r2 τ1 =>
  kEq r2 0
    (fP_cost_J19 (τ1 8 8) τ1)
    (fP_cost_J19 (-5) τ1)
def fWi_silentOnes_J30 (x1 : Int) (σ : KM) : Option (Int × KM) :=
  kRetI x1 σ
def fWi_silentOnes_J24 (x1 x2 : Int) (σ : KM) : Option ((Int × Int × KM) ⊕ (Int × KM)) :=
  kLet (x2 + 1) fun y1 =>
  some (.inl (x1, y1, σ))
def fWi_silentOnes_B4 (x1 x2 : Int) (σ : KM) : Option ((Int × Int × KM) ⊕ (Int × KM)) :=
  kLt x2 (σ 5 2)
    (kRd σ 25 49 x2 fun y1 =>
     kEq y1 0
       (kLet (x1 + 1) fun y2 =>
        fWi_silentOnes_J24 y2 x2 σ)
       (fWi_silentOnes_J24 x1 x2 σ))
    (kExit (fWi_silentOnes_J30 x1 σ))
def fWi_silentOnes_L4 (x1 x2 : Int) (σ : KM) : Option (Int × KM) := kIter (fun s => fWi_silentOnes_B4 s.1 s.2.1 s.2.2) kF (x1, x2, σ)
def fWi_silentOnes (σ : KM) : Option (Int × KM) :=
  fWi_silentOnes_L4 0 0 σ
def fP_count (x1 : Int) (σ : KM) : Option (Int × KM) :=
  kCall (fP_freshWindows σ) fun _ τ1 =>
  kSw x1 0 [
    kRetI (τ1 3 3) τ1,
    kRetI (τ1 5 2) τ1,
    kCall (fNo_end τ1) fun r3 τ2 =>
    kRetI r3 τ2,
    kRetI (τ1 4 5) τ1,
    kRetI (τ1 1 1) τ1,
    kRetI (τ1 5 0) τ1,
    kRetI (τ1 5 1) τ1,
    kCall (fWi_silentOnes τ1) fun r5 τ4 =>
    kRetI r5 τ4,
    kRetI (τ1 7 0) τ1,
    kRetI (τ1 7 1) τ1,
    kRetI (τ1 7 2) τ1,
    kRetI (τ1 7 3) τ1
    ]
    (kRetI (-1) τ1)
def fP_outOf_J15 (t0 : Int) (σ : KM) : Option (Int × KM) :=
  kRetZ t0 σ
def fP_outOf_J10 (σ : KM) : Option (Int × KM) :=
  fP_outOf_J15 1 σ
def fP_outOf (x0 x1 x2 : Int) (σ : KM) : Option (Int × KM) :=
  kLt x2 x0
    (fP_outOf_J10 σ)
    (kLt x1 x2
       (fP_outOf_J10 σ)
       (fP_outOf_J15 0 σ))
def fP_noKey (x0 : Int) (σ : KM) : Option (Int × KM) :=
  kCall (fP_outOf 0 23 x0 σ) fun r2 τ1 =>
  kRetZ r2 τ1
def fP_degree_J17 (σ : KM) : Option (Int × KM) :=
  kRetI (-2) σ
def fP_degree (x1 x2 : Int) (σ : KM) : Option (Int × KM) :=
  kCall (fP_outOf 0 35 x1 σ) fun r2 τ1 =>
  kEq r2 0
    (kCall (fP_noKey x2 τ1) fun r4 τ3 =>
     kEq r4 0
       (kCall (fP_degreeOf x1 x2 τ3) fun r6 τ5 =>
        kRetI r6 τ5)
       (fP_degree_J17 τ3))
    (fP_degree_J17 τ1)
def fP_distance_J14 (σ : KM) : Option (Int × KM) :=
  kRetI (-2) σ
def fP_distance (x1 x2 : Int) (σ : KM) : Option (Int × KM) :=
  kCall (fP_noKey x1 σ) fun r2 τ1 =>
  kEq r2 0
    (kCall (fP_noKey x2 τ1) fun r4 τ3 =>
     kEq r4 0
       (kCall (fNe_refresh τ3) fun _ τ5 =>
        kRd τ5 30 576 ((x1 * 24) + x2) fun y6 =>
        kRetI ((τ5 7 3) * y6) τ5)
       (fP_distance_J14 τ3))
    (fP_distance_J14 τ1)
def fHi_forgetOldest (σ : KM) : Option (Int × KM) :=
  kWf σ 4 5 9 fun τ1 =>
  kCpy τ1 19 10 1 19 10 0 (τ1 4 5) fun τ2 =>
  kCpy τ2 20 10 1 20 10 0 (τ2 4 5) fun τ3 =>
  kCpy τ3 21 10 1 21 10 0 (τ3 4 5) fun τ4 =>
  kCpy τ4 22 10 1 22 10 0 (τ4 4 5) fun τ5 =>
  kCpy τ5 23 10 1 23 10 0 (τ5 4 5) fun τ6 =>
  kRetI 0 τ6
def fHi_remember_J13 (x1 x2 x3 x4 x5 : Int) (σ : KM) : Option (Int × KM) :=
  kWr σ 19 10 (σ 4 5) x1 fun τ1 =>
  kWr τ1 20 10 (τ1 4 5) x2 fun τ2 =>
  kWr τ2 21 10 (τ2 4 5) x3 fun τ3 =>
  kWr τ3 22 10 (τ3 4 5) x4 fun τ4 =>
  kWr τ4 23 10 (τ4 4 5) x5 fun τ5 =>
  kWf τ5 4 5 ((τ5 4 5) + 1) fun τ6 =>
  kRetI 0 τ6
def fHi_remember (x1 x2 x3 x4 x5 : Int) (σ : KM) : Option (Int × KM) :=
  kLt (σ 4 5) 10
    (fHi_remember_J13 x1 x2 x3 x4 x5 σ)
    (kCall (fHi_forgetOldest σ) fun _ τ1 =>
     fHi_remember_J13 x1 x2 x3 x4 x5 τ1)
def fNo_remove_J12 (σ : KM) : Option (Int × KM) :=
  kRetI 0 σ
def fNo_remove (x1 : Int) (σ : KM) : Option (Int × KM) :=
  kLt x1 0
    (fNo_remove_J12 σ)
    (kLt x1 (σ 3 3)
       (kLet (((σ 3 3) - x1) - 1) fun y1 =>
        kCpy σ 16 100 (x1 + 1) 16 100 x1 y1 fun τ2 =>
        kCpy τ2 17 100 (x1 + 1) 17 100 x1 y1 fun τ3 =>
        kCpy τ3 18 100 (x1 + 1) 18 100 x1 y1 fun τ4 =>
        kWf τ4 3 3 ((τ4 3 3) - 1) fun τ5 =>
        kRetI 0 τ5)
       (fNo_remove_J12 σ))
def fP_pathChanged (σ : KM) : Option (Int × KM) :=
  kWfz σ 8 13 1 fun τ1 =>
  kRetI 0 τ1
def fP_weightsChanged (σ : KM) : Option (Int × KM) :=
  kWfz σ 6 3 1 fun τ1 =>
  kCall (fP_pathChanged τ1) fun _ τ2 =>
  kRetI 0 τ2
def fP_notesChanged (σ : KM) : Option (Int × KM) :=
  kWfz σ 5 6 1 fun τ1 =>
  kCall (fP_weightsChanged τ1) fun _ τ2 =>
  kRetI 0 τ2
def fP_drop_J15 (σ : KM) : Option (Int × KM) :=
  kRetI (-2) σ
def fP_drop (x1 : Int) (σ : KM) : Option (Int × KM) :=
  kLt x1 0
    (fP_drop_J15 σ)
    (kLt x1 (σ 3 3)
       (kRd σ 16 100 x1 fun y1 =>
        kRd σ 17 100 x1 fun y2 =>
        kRd σ 18 100 x1 fun y3 =>
        kCall (fHi_remember 1 x1 y1 y2 y3 σ) fun _ τ4 =>
        kCall (fNo_remove x1 τ4) fun _ τ5 =>
        kCall (fP_notesChanged τ5) fun _ τ6 =>
        kRetI (τ6 3 3) τ6)
       (fP_drop_J15 σ))
def fP_fault_J28 (t0 : Int) (σ : KM) : Option (Int × KM) :=
  kRetI t0 σ
def fP_fault (x1 : Int) (σ : KM) : Option (Int × KM) :=
  kEq x1 0
    (kRetI (σ 1 3) σ)
    (kEq x1 1
       (fP_fault_J28 (σ 1 4) σ)
       (fP_fault_J28 (-1) σ))
def fTR_append_J49 (σ : KM) : Option (Int × KM) :=
  kRetI 0 σ
def fTR_append_B3 (x1 x2 : Int) (σ : KM) : Option ((Int × KM) ⊕ (Int × KM)) :=
  kLt x2 0
    (kExit (fTR_append_J49 σ))
    (kLt (σ 1 1) 700
       (kUsh x1 x2 fun y1 =>
        kAnd y1 255 fun y2 =>
        kWr σ 11 700 (σ 1 1) y2 fun τ3 =>
        kWf τ3 1 1 ((τ3 1 1) + 1) fun τ4 =>
        kLet (x2 + (-8)) fun y5 =>
        some (.inl (y5, τ4)))
       (kExit (fTR_append_J49 σ)))
def fTR_append_L3 (x1 x2 : Int) (σ : KM) : Option (Int × KM) := kIter (fun s => fTR_append_B3 x1 s.1 s.2) kF (x2, σ)
def fTR_append (x1 : Int) (σ : KM) : Option (Int × KM) :=
  fTR_append_L3 x1 24 σ
def fP_feed (x1 x2 x3 x4 x5 : Int) (σ : KM) : Option (Int × KM) :=
  kLt 680 (σ 1 1)
    (kRetI (-4) σ)
    (kCall (fTR_append x1 σ) fun _ τ1 =>
     kCall (fTR_append x2 τ1) fun _ τ2 =>
     kCall (fTR_append x3 τ2) fun _ τ3 =>
     kCall (fTR_append x4 τ3) fun _ τ4 =>
     kCall (fTR_append x5 τ4) fun _ τ5 =>
     kRetI (τ5 1 1) τ5)
def fFi_isFirm_J19 (t0 : Int) (σ : KM) : Option (Int × KM) :=
  kRetZ t0 σ
def fFi_isFirm (x2 : Int) (σ : KM) : Option (Int × KM) :=
  kCall (fFi_solve x2 σ) fun _ τ1 =>
  kLt (τ1 8 12) 2
    (fFi_isFirm_J19 1 τ1)
    (fFi_isFirm_J19 0 τ1)
def fFi_searchFirm_J66 (x3 : Int) (σ : KM) : Option (Int × KM) :=
  kRetI x3 σ
def fFi_searchFirm_J60 (x2 x3 x4 : Int) (σ : KM) : Option ((Int × Int × Int × KM) ⊕ (Int × KM)) :=
  kLet (x4 + 1) fun y1 =>
  some (.inl (x2, x3, y1, σ))
def fFi_searchFirm_B20 (x2 x3 x4 : Int) (σ : KM) : Option ((Int × Int × Int × KM) ⊕ (Int × KM)) :=
  kLt x4 8
    (kLt x2 x3
       (kDv (x2 + x3) 2 fun y1 =>
        kCall (fFi_isFirm y1 σ) fun r3 τ2 =>
        kEq r3 0
          (kLet (y1 + 1) fun y4 =>
           fFi_searchFirm_J60 y4 x3 x4 τ2)
          (fFi_searchFirm_J60 x2 y1 x4 τ2))
       (kExit (fFi_searchFirm_J66 x3 σ)))
    (kExit (fFi_searchFirm_J66 x3 σ))
def fFi_searchFirm_L20 (x2 x3 x4 : Int) (σ : KM) : Option (Int × KM) := kIter (fun s => fFi_searchFirm_B20 s.1 s.2.1 s.2.2.1 s.2.2.2) kF (x2, x3, x4, σ)
def fFi_searchFirm (σ : KM) : Option (Int × KM) :=
  kCall (fFi_isFirm 100 σ) fun r2 τ1 =>
  kEq r2 0
    (kRetI (-1) τ1)
    (fFi_searchFirm_L20 0 100 0 τ1)
def fFi_firmFactor_J30 (σ : KM) : Option (Int × KM) :=
  kRetI (σ 8 15) σ
def fFi_firmFactor (σ : KM) : Option (Int × KM) :=
  kEq (σ 8 14) 0
    (kCall (fFi_searchFirm σ) fun r2 τ1 =>
     kWf τ1 8 15 r2 fun τ3 =>
     kWfz τ3 8 14 1 fun τ4 =>
     kCall (fFi_solve (τ4 7 3) τ4) fun _ τ5 =>
     fFi_firmFactor_J30 τ5)
    (fFi_firmFactor_J30 σ)
def fP_firm_J23 (t0 : Int) (σ : KM) : Option (Int × KM) :=
  kRetI t0 σ
def fP_firm (σ : KM) : Option (Int × KM) :=
  kCall (fP_noPath σ) fun r2 τ1 =>
  kEq r2 0
    (kCall (fFi_firmFactor τ1) fun r4 τ3 =>
     fP_firm_J23 r4 τ3)
    (fP_firm_J23 (-5) τ1)
def fP_fit_J15 (σ : KM) : Option (Int × KM) :=
  kRetI (-2) σ
def fP_fit (x1 x2 : Int) (σ : KM) : Option (Int × KM) :=
  kCall (fP_noWindow x1 σ) fun r2 τ1 =>
  kEq r2 0
    (kCall (fP_noKey x2 τ1) fun r4 τ3 =>
     kEq r4 0
       (kCall (fP_freshFits τ3) fun _ τ5 =>
        kRd τ5 28 1176 ((x1 * 24) + x2) fun y6 =>
        kRetI y6 τ5)
       (fP_fit_J15 τ3))
    (fP_fit_J15 τ1)
def fP_foreign_J15 (σ : KM) : Option (Int × KM) :=
  kRetI (-2) σ
def fP_foreign_J64 (x3 : Int) (σ : KM) : Option (Int × KM) :=
  kRetI x3 σ
def fP_foreign_J58 (x1 x2 x3 x4 : Int) (σ : KM) : Option ((Int × Int × KM) ⊕ (Int × KM)) :=
  kLet (x4 + 1) fun y1 =>
  some (.inl (x3, y1, σ))
def fP_foreign_B23 (x1 x2 x3 x4 : Int) (σ : KM) : Option ((Int × Int × KM) ⊕ (Int × KM)) :=
  kLt x4 12
    (kCall (fP_degreeOn x4 x2 σ) fun r2 τ1 =>
     kEq r2 (-1)
       (kRd τ1 24 588 ((x1 * 12) + x4) fun y3 =>
        kLet (x3 + y3) fun y4 =>
        fP_foreign_J58 x1 x2 y4 x4 τ1)
       (fP_foreign_J58 x1 x2 x3 x4 τ1))
    (kExit (fP_foreign_J64 x3 σ))
def fP_foreign_L23 (x1 x2 x3 x4 : Int) (σ : KM) : Option (Int × KM) := kIter (fun s => fP_foreign_B23 x1 x2 s.1 s.2.1 s.2.2) kF (x3, x4, σ)
def fP_foreign (x1 x2 : Int) (σ : KM) : Option (Int × KM) :=
  kCall (fP_noWindow x1 σ) fun r2 τ1 =>
  kEq r2 0
    (kCall (fP_noKey x2 τ1) fun r4 τ3 =>
     kEq r4 0
       (fP_foreign_L23 x1 x2 0 0 τ3)
       (fP_foreign_J15 τ3))
    (fP_foreign_J15 τ1)
def fP_key_J32 (t0 : Int) (σ : KM) : Option (Int × KM) :=
  kRetI t0 σ
def fP_key (x1 : Int) (σ : KM) : Option (Int × KM) :=
  kCall (fP_noWindow x1 σ) fun r2 τ1 =>
  kEq r2 0
    (kCall (fP_noPath τ1) fun r4 τ3 =>
     kEq r4 0
       (kRd τ3 39 48 x1 fun y5 =>
        fP_key_J32 y5 τ3)
       (fP_key_J32 (-5) τ3))
    (kRetI (-2) τ1)
def fDe_leastOf_44_J27 (x2 : Int) (σ : KM) : Option (Int × KM) :=
  kRetI x2 σ
def fDe_leastOf_44_B5 (x1 x2 x3 : Int) (σ : KM) : Option ((Int × Int × KM) ⊕ (Int × KM)) :=
  kLt x3 24
    (kRd σ 44 1152 (x1 + x3) fun y1 =>
     kMn x2 y1 fun y2 =>
     kLet (x3 + 1) fun y3 =>
     some (.inl (y2, y3, σ)))
    (kExit (fDe_leastOf_44_J27 x2 σ))
def fDe_leastOf_44_L5 (x1 x2 x3 : Int) (σ : KM) : Option (Int × KM) := kIter (fun s => fDe_leastOf_44_B5 x1 s.1 s.2.1 s.2.2) kF (x2, x3, σ)
def fDe_leastOf_44 (x1 : Int) (σ : KM) : Option (Int × KM) :=
  fDe_leastOf_44_L5 x1 1000000000 0 σ
def fDe_cheapestMove_44_J46 (x4 : Int) (σ : KM) : Option (Int × KM) :=
  kRetI x4 σ
def fDe_cheapestMove_44_B7 (x2 x3 x4 x5 : Int) (σ : KM) : Option ((Int × Int × KM) ⊕ (Int × KM)) :=
  kLt x5 24
    (kRd σ 44 1152 (x2 + x5) fun y1 =>
     kRd σ 36 576 ((x5 * 24) + x3) fun y2 =>
     kMn x4 (y1 + y2) fun y3 =>
     kLet (x5 + 1) fun y4 =>
     some (.inl (y3, y4, σ)))
    (kExit (fDe_cheapestMove_44_J46 x4 σ))
def fDe_cheapestMove_44_L7 (x2 x3 x4 x5 : Int) (σ : KM) : Option (Int × KM) := kIter (fun s => fDe_cheapestMove_44_B7 x2 x3 s.1 s.2.1 s.2.2) kF (x4, x5, σ)
def fDe_cheapestMove_44 (x2 x3 : Int) (σ : KM) : Option (Int × KM) :=
  fDe_cheapestMove_44_L7 x2 x3 1000000000 0 σ
def fDe_settle_J132 (x6 x8 : Int) (σ : KM) : Option (Int × KM) :=
  kMn x6 x8 fun y1 =>
  kRetI y1 σ
def fDe_settle_B100 (x3 x4 x6 x8 x9 : Int) (σ : KM) : Option ((Int × Int × KM) ⊕ (Int × KM)) :=
  kLt x3 x9
    (kExit (fDe_settle_J132 x6 x8 σ))
    (kRd σ 34 1152 ((x9 * 24) + x4) fun y1 =>
     kCall (fP_plus x8 y1 σ) fun r3 τ2 =>
     kLet (x9 + 1) fun y4 =>
     some (.inl (r3, y4, τ2)))
def fDe_settle_L100 (x3 x4 x6 x8 x9 : Int) (σ : KM) : Option (Int × KM) := kIter (fun s => fDe_settle_B100 x3 x4 x6 s.1 s.2.1 s.2.2) kF (x8, x9, σ)
def fDe_settle_J96 (x3 x4 x6 x7 x8 : Int) (σ : KM) : Option (Int × KM) :=
  fDe_settle_L100 x3 x4 x6 x8 x7 σ
def fDe_settle_J94 (x3 x4 x6 x7 t0 : Int) (σ : KM) : Option (Int × KM) :=
  fDe_settle_J96 x3 x4 x6 x7 t0 σ
def fDe_settle_J39 (x2 x3 x4 x6 : Int) (σ : KM) : Option (Int × KM) :=
  kLet ((x3 - x2) + 1) fun y1 =>
  kLt y1 0
    (kRetI x6 σ)
    (kLt 0 y1
       (kRd σ 35 48 y1 fun y2 =>
        kEq y2 0
          (kCall (fDe_cheapestMove_44 ((y1 - 1) * 24) x4 σ) fun r4 τ3 =>
           fDe_settle_J94 x3 x4 x6 y1 r4 τ3)
          (fDe_settle_J94 x3 x4 x6 y1 1000000000 σ))
       (fDe_settle_J96 x3 x4 x6 y1 0 σ))
def fDe_settle (x2 x3 x4 : Int) (σ : KM) : Option (Int × KM) :=
  kLet ((x3 * 24) + x4) fun y1 =>
  kLt 0 x3
    (kRd σ 44 1152 (y1 - 24) fun y2 =>
     kRd σ 34 1152 y1 fun y3 =>
     kCall (fP_plus y2 y3 σ) fun r5 τ4 =>
     fDe_settle_J39 x2 x3 x4 r5 τ4)
    (fDe_settle_J39 x2 x3 x4 1000000000 σ)
def fDe_leastLasting_J62 (σ : KM) : Option (Int × KM) :=
  kCall (fDe_leastOf_44 (((σ 8 1) - 1) * 24) σ) fun r2 τ1 =>
  kRetI r2 τ1
def fDe_leastLasting_J56 (x2 x3 : Int) (σ : KM) : Option ((Int × KM) ⊕ (Int × KM)) :=
  kLet (x3 + 1) fun y1 =>
  some (.inl (y1, σ))
def fDe_leastLasting_B22 (x2 x3 x4 : Int) (σ : KM) : Option ((Int × KM) ⊕ ((Int × KM) ⊕ (Int × KM))) :=
  kLt x4 24
    (kCall (fDe_settle x2 x3 x4 σ) fun r2 τ1 =>
     kWr τ1 44 1152 ((x3 * 24) + x4) r2 fun τ3 =>
     kLet (x4 + 1) fun y4 =>
     some (.inl (y4, τ3)))
    (kExit (fDe_leastLasting_J56 x2 x3 σ))
def fDe_leastLasting_L22 (x2 x3 x4 : Int) (σ : KM) : Option ((Int × KM) ⊕ (Int × KM)) := kIter (fun s => fDe_leastLasting_B22 x2 x3 s.1 s.2) kF (x4, σ)
def fDe_leastLasting_B11 (x2 x3 : Int) (σ : KM) : Option ((Int × KM) ⊕ (Int × KM)) :=
  kLt x3 (σ 8 1)
    (fDe_leastLasting_L22 x2 x3 0 σ)
    (kExit (fDe_leastLasting_J62 σ))
def fDe_leastLasting_L11 (x2 x3 : Int) (σ : KM) : Option (Int × KM) := kIter (fun s => fDe_leastLasting_B11 x2 s.1 s.2) kF (x3, σ)
def fDe_leastLasting (x2 : Int) (σ : KM) : Option (Int × KM) :=
  kEq (σ 8 1) 0
    (kRetI 0 σ)
    (fDe_leastLasting_L11 x2 0 σ)
def fP_toldCost_J12 (t0 : Int) (σ : KM) : Option (Int × KM) :=
  kRetI t0 σ
def fP_toldCost (x0 : Int) (σ : KM) : Option (Int × KM) :=
  kLt x0 1000000000
    (fP_toldCost_J12 x0 σ)
    (fP_toldCost_J12 (-1) σ)
def fP_lasting_J40 (t0 : Int) (σ : KM) : Option (Int × KM) :=
  kRetI t0 σ
def fP_lasting (x1 : Int) (σ : KM) : Option (Int × KM) :=
  kCall (fP_outOf 1 16 x1 σ) fun r2 τ1 =>
  kEq r2 0
    (kCall (fP_noPath τ1) fun r4 τ3 =>
     kEq r4 0
       (kCall (fDe_leastLasting x1 τ3) fun r6 τ5 =>
        kCall (fP_toldCost r6 τ5) fun r8 τ7 =>
        fP_lasting_J40 r8 τ7)
       (fP_lasting_J40 (-5) τ3))
    (kRetI (-3) τ1)
def fP_noMode (x0 : Int) (σ : KM) : Option (Int × KM) :=
  kCall (fP_outOf 0 1 x0 σ) fun r2 τ1 =>
  kRetZ r2 τ1
def fP_noTone (x0 : Int) (σ : KM) : Option (Int × KM) :=
  kCall (fP_outOf 0 11 x0 σ) fun r2 τ1 =>
  kRetZ r2 τ1
def fP_learnt_J14 (σ : KM) : Option (Int × KM) :=
  kRetI (-2) σ
def fP_learnt_J129 (t0 : Int) (σ : KM) : Option (Int × KM) :=
  kRetI t0 σ
def fP_learnt_J113 (x3 x4 : Int) (σ : KM) : Option (Int × KM) :=
  kEq x4 0
    (fP_learnt_J129 (-1) σ)
    (kDv (100 * x3) x4 fun y1 =>
     fP_learnt_J129 y1 σ)
def fP_learnt_J107 (x1 x2 x3 x4 x5 : Int) (σ : KM) : Option ((Int × Int × Int × KM) ⊕ (Int × KM)) :=
  kLet (x5 + 1) fun y1 =>
  some (.inl (x3, x4, y1, σ))
def fP_learnt_B35 (x1 x2 x3 x4 x5 : Int) (σ : KM) : Option ((Int × Int × Int × KM) ⊕ (Int × KM)) :=
  kLt x5 (σ 5 2)
    (kRd σ 39 48 x5 fun y1 =>
     kCall (fP_modeOf y1 σ) fun r3 τ2 =>
     kEq r3 x1
       (kRm (y1 + x2) 12 fun y4 =>
        kRd τ2 24 588 ((x5 * 12) + y4) fun y5 =>
        kLet (x3 + y5) fun y6 =>
        kRd τ2 25 49 x5 fun y7 =>
        kLet (x4 + y7) fun y8 =>
        fP_learnt_J107 x1 x2 y6 y8 x5 τ2)
       (fP_learnt_J107 x1 x2 x3 x4 x5 τ2))
    (kExit (fP_learnt_J113 x3 x4 σ))
def fP_learnt_L35 (x1 x2 x3 x4 x5 : Int) (σ : KM) : Option (Int × KM) := kIter (fun s => fP_learnt_B35 x1 x2 s.1 s.2.1 s.2.2.1 s.2.2.2) kF (x3, x4, x5, σ)
def fP_learnt (x1 x2 : Int) (σ : KM) : Option (Int × KM) :=
  kCall (fP_noMode x1 σ) fun r2 τ1 =>
  kEq r2 0
    (kCall (fP_noTone x2 τ1) fun r4 τ3 =>
     kEq r4 0
       (kCall (fP_noPath τ3) fun r6 τ5 =>
        kEq r6 0
          (fP_learnt_L35 x1 x2 0 0 0 τ5)
          (kRetI (-5) τ5))
       (fP_learnt_J14 τ3))
    (fP_learnt_J14 τ1)
def fTR_next_J62 (t0 : Int) (σ : KM) : Option (Int × KM) :=
  kRetI t0 σ
def fTR_next_J38 (σ : KM) : Option (Int × KM) :=
  kLt (σ 1 6) (σ 1 5)
    (kRd σ 11 700 (σ 1 6) fun y1 =>
     fTR_next_J62 y1 σ)
    (fTR_next_J62 (-1) σ)
def fTR_next_B0 (σ : KM) : Option ((KM) ⊕ (Int × KM)) :=
  kLt (σ 1 6) (σ 1 5)
    (kRd σ 11 700 (σ 1 6) fun y1 =>
     kEq y1 32
       (kWf σ 1 6 ((σ 1 6) + 1) fun τ2 =>
        some (.inl (τ2)))
       (kExit (fTR_next_J38 σ)))
    (kExit (fTR_next_J38 σ))
def fTR_next_L0 (σ : KM) : Option (Int × KM) := kIter (fun s => fTR_next_B0 s) kF (σ)
def fTR_next (σ : KM) : Option (Int × KM) :=
  fTR_next_L0 σ
def fTR_isLetter_J17 (t0 : Int) (σ : KM) : Option (Int × KM) :=
  kRetZ t0 σ
def fTR_isLetter_J16 (σ : KM) : Option (Int × KM) :=
  fTR_isLetter_J17 0 σ
def fTR_isLetter (x0 : Int) (σ : KM) : Option (Int × KM) :=
  kLt x0 97
    (fTR_isLetter_J16 σ)
    (kLt 103 x0
       (fTR_isLetter_J16 σ)
       (fTR_isLetter_J17 1 σ))
def fTR_fail_J17 (σ : KM) : Option (Int × KM) :=
  kRetI 0 σ
def fTR_fail (x1 x2 : Int) (σ : KM) : Option (Int × KM) :=
  kEq (σ 1 3) 0
    (kWf σ 1 3 x1 fun τ1 =>
     kWf τ1 1 4 x2 fun τ2 =>
     fTR_fail_J17 τ2)
    (fTR_fail_J17 σ)
def fTR_readAccidental_J40 (t0 : Int) (σ : KM) : Option (Int × KM) :=
  kRetI t0 σ
def fTR_readAccidental_J19 (x1 : Int) (σ : KM) : Option (Int × KM) :=
  kWf σ 1 6 ((σ 1 6) + 1) fun τ1 =>
  kEq x1 35
    (fTR_readAccidental_J40 1 τ1)
    (fTR_readAccidental_J40 (-1) τ1)
def fTR_readAccidental (σ : KM) : Option (Int × KM) :=
  kCall (fTR_next σ) fun r2 τ1 =>
  kEq r2 35
    (fTR_readAccidental_J19 r2 τ1)
    (kEq r2 33
       (fTR_readAccidental_J19 r2 τ1)
       (kRetI 0 τ1))
def fTR_isDigit_J17 (t0 : Int) (σ : KM) : Option (Int × KM) :=
  kRetZ t0 σ
def fTR_isDigit_J16 (σ : KM) : Option (Int × KM) :=
  fTR_isDigit_J17 0 σ
def fTR_isDigit (x0 : Int) (σ : KM) : Option (Int × KM) :=
  kLt x0 48
    (fTR_isDigit_J16 σ)
    (kLt 57 x0
       (fTR_isDigit_J16 σ)
       (fTR_isDigit_J17 1 σ))
def fTR_isNamed_J28 (σ : KM) : Option (Int × KM) :=
  kRetZ 0 σ
def fTR_isNamed_J20 (σ : KM) : Option (Int × KM) :=
  kRetZ 1 σ
def fTR_isNamed_B2 (x1 x2 : Int) (σ : KM) : Option ((Int × KM) ⊕ (Int × KM)) :=
  kLt x2 (σ 1 9)
    (kRd σ 12 6 x2 fun y1 =>
     kEq y1 x1
       (kExit (fTR_isNamed_J20 σ))
       (kLet (x2 + 1) fun y2 =>
        some (.inl (y2, σ))))
    (kExit (fTR_isNamed_J28 σ))
def fTR_isNamed_L2 (x1 x2 : Int) (σ : KM) : Option (Int × KM) := kIter (fun s => fTR_isNamed_B2 x1 s.1 s.2) kF (x2, σ)
def fTR_isNamed (x1 : Int) (σ : KM) : Option (Int × KM) :=
  fTR_isNamed_L2 x1 0 σ
def fTR_readName_J50 (x2 : Int) (σ : KM) : Option (Int × KM) :=
  kCall (fTR_fail 3 x2 σ) fun _ τ1 =>
  kRetI 0 τ1
def fTR_readName_J146 (x2 : Int) (σ : KM) : Option (Int × KM) :=
  kCall (fTR_fail 3 x2 σ) fun _ τ1 =>
  kRetI 0 τ1
def fTR_readName (σ : KM) : Option (Int × KM) :=
  kCall (fTR_next σ) fun r2 τ1 =>
  kLet (τ1 1 6) fun y3 =>
  kCall (fTR_isLetter r2 τ1) fun r5 τ4 =>
  kEq r5 0
    (kCall (fTR_fail 1 y3 τ4) fun _ τ24 =>
     kRetI 0 τ24)
    (kLt (τ4 1 9) 6
       (kLt ((τ4 2 3) + (τ4 1 9)) 100
          (kWf τ4 1 6 ((τ4 1 6) + 1) fun τ6 =>
           kRs 4 7 (r2 - 97) fun y7 =>
           kCall (fTR_readAccidental τ6) fun r9 τ8 =>
           kLet (y7 + r9) fun y10 =>
           kCall (fTR_next τ8) fun r12 τ11 =>
           kCall (fTR_isDigit r12 τ11) fun r14 τ13 =>
           kEq r14 0
             (kCall (fTR_fail 1 (τ13 1 6) τ13) fun _ τ23 =>
              kRetI 0 τ23)
             (kWf τ13 1 6 ((τ13 1 6) + 1) fun τ15 =>
              kLet (y10 + (12 * ((r12 - 48) + 1))) fun y16 =>
              kCall (fP_outOf 0 127 y16 τ15) fun r18 τ17 =>
              kEq r18 0
                (kCall (fTR_isNamed y16 τ17) fun r20 τ19 =>
                 kEq r20 0
                   (kWr τ19 12 6 (τ19 1 9) y16 fun τ21 =>
                    kWf τ21 1 9 ((τ21 1 9) + 1) fun τ22 =>
                    kRetI 0 τ22)
                   (fTR_readName_J146 y3 τ19))
                (fTR_readName_J146 y3 τ17)))
          (fTR_readName_J50 y3 τ4))
       (fTR_readName_J50 y3 τ4))
def fTR_readNumber_J65 (x1 : Int) (σ : KM) : Option (Int × KM) :=
  kRetI x1 σ
def fTR_readNumber_B2 (x1 : Int) (σ : KM) : Option ((Int × KM) ⊕ (Int × KM)) :=
  kLt (σ 1 6) (σ 1 5)
    (kRd σ 11 700 (σ 1 6) fun y1 =>
     kCall (fTR_isDigit y1 σ) fun r3 τ2 =>
     kEq r3 0
       (kExit (fTR_readNumber_J65 x1 τ2))
       (kRd τ2 11 700 (τ2 1 6) fun y4 =>
        kMn 1000 (((x1 * 10) + y4) - 48) fun y5 =>
        kWf τ2 1 6 ((τ2 1 6) + 1) fun τ6 =>
        some (.inl (y5, τ6))))
    (kExit (fTR_readNumber_J65 x1 σ))
def fTR_readNumber_L2 (x1 : Int) (σ : KM) : Option (Int × KM) := kIter (fun s => fTR_readNumber_B2 s.1 s.2) kF (x1, σ)
def fTR_readNumber (σ : KM) : Option (Int × KM) :=
  fTR_readNumber_L2 0 σ
def fNo_isBehindF_J69 (t0 : Int) (σ : KM) : Option (Int × KM) :=
  kRetZ t0 σ
def fNo_isBehindF_J53 (t0 : Int) (σ : KM) : Option (Int × KM) :=
  kRetZ t0 σ
def fNo_isBehindF_J25 (t0 : Int) (σ : KM) : Option (Int × KM) :=
  kRetZ t0 σ
def fNo_isBehindF (x1 x2 x3 x4 : Int) (σ : KM) : Option (Int × KM) :=
  kRd σ 13 100 x1 fun y1 =>
  kEq y1 x2
    (kRd σ 15 100 x1 fun y2 =>
     kEq y2 x4
       (kRd σ 14 100 x1 fun y3 =>
        kLt x3 y3
          (fNo_isBehindF_J69 1 σ)
          (fNo_isBehindF_J69 0 σ))
       (kRd σ 15 100 x1 fun y4 =>
        kLt x4 y4
          (fNo_isBehindF_J53 1 σ)
          (fNo_isBehindF_J53 0 σ)))
    (kRd σ 13 100 x1 fun y5 =>
     kLt x2 y5
       (fNo_isBehindF_J25 1 σ)
       (fNo_isBehindF_J25 0 σ))
def fNo_placeForF_J31 (x4 : Int) (σ : KM) : Option (Int × KM) :=
  kRetI x4 σ
def fNo_placeForF_B6 (x1 x2 x3 x4 : Int) (σ : KM) : Option ((Int × KM) ⊕ (Int × KM)) :=
  kLt 0 x4
    (kCall (fNo_isBehindF (x4 - 1) x1 x2 x3 σ) fun r2 τ1 =>
     kEq r2 0
       (kExit (fNo_placeForF_J31 x4 τ1))
       (kLet (x4 + (-1)) fun y3 =>
        some (.inl (y3, τ1))))
    (kExit (fNo_placeForF_J31 x4 σ))
def fNo_placeForF_L6 (x1 x2 x3 x4 : Int) (σ : KM) : Option (Int × KM) := kIter (fun s => fNo_placeForF_B6 x1 x2 x3 s.1 s.2) kF (x4, σ)
def fNo_placeForF (x1 x2 x3 : Int) (σ : KM) : Option (Int × KM) :=
  kLet (σ 2 3) fun y1 =>
  fNo_placeForF_L6 x1 x2 x3 y1 σ
def fNo_insertF_J21 (σ : KM) : Option (Int × KM) :=
  kRetI 0 σ
def fNo_insertF (x1 x2 x3 x4 : Int) (σ : KM) : Option (Int × KM) :=
  kLt (σ 2 3) 100
    (kLt x1 0
       (fNo_insertF_J21 σ)
       (kLt (σ 2 3) x1
          (fNo_insertF_J21 σ)
          (kLet ((σ 2 3) - x1) fun y1 =>
           kCpy σ 13 100 x1 13 100 (x1 + 1) y1 fun τ2 =>
           kCpy τ2 14 100 x1 14 100 (x1 + 1) y1 fun τ3 =>
           kCpy τ3 15 100 x1 15 100 (x1 + 1) y1 fun τ4 =>
           kWr τ4 13 100 x1 x2 fun τ5 =>
           kWr τ5 14 100 x1 x3 fun τ6 =>
           kWr τ6 15 100 x1 x4 fun τ7 =>
           kWf τ7 2 3 ((τ7 2 3) + 1) fun τ8 =>
           kRetI 0 τ8)))
    (fNo_insertF_J21 σ)
def fTR_soundNamed_J52 (σ : KM) : Option (Int × KM) :=
  kRetI 0 σ
def fTR_soundNamed_B2 (x1 x2 : Int) (σ : KM) : Option ((Int × KM) ⊕ (Int × KM)) :=
  kLt x2 (σ 1 9)
    (kRd σ 12 6 x2 fun y1 =>
     kCall (fNo_placeForF (σ 1 7) x1 y1 σ) fun r3 τ2 =>
     kRd τ2 12 6 x2 fun y4 =>
     kCall (fNo_insertF r3 (τ2 1 7) x1 y4 τ2) fun _ τ5 =>
     kLet (x2 + 1) fun y6 =>
     some (.inl (y6, τ5)))
    (kExit (fTR_soundNamed_J52 σ))
def fTR_soundNamed_L2 (x1 x2 : Int) (σ : KM) : Option (Int × KM) := kIter (fun s => fTR_soundNamed_B2 x1 s.1 s.2) kF (x2, σ)
def fTR_soundNamed (x1 : Int) (σ : KM) : Option (Int × KM) :=
  fTR_soundNamed_L2 x1 0 σ
def fTR_readLength_J132 (σ : KM) : Option (Int × KM) :=
  kRetI 0 σ
def fTR_readLength_J87 (x1 : Int) (σ : KM) : Option (Int × KM) :=
  kCall (fTR_fail 2 x1 σ) fun _ τ1 =>
  fTR_readLength_J132 τ1
def fTR_readLength (σ : KM) : Option (Int × KM) :=
  kEq (σ 1 3) 0
    (kCall (fTR_next σ) fun r2 τ1 =>
     kEq r2 58
       (kWf τ1 1 6 ((τ1 1 6) + 1) fun τ3 =>
        kCall (fTR_next τ3) fun r5 τ4 =>
        kCall (fTR_isDigit r5 τ4) fun r7 τ6 =>
        kEq r7 0
          (kCall (fTR_fail 1 (τ6 1 6) τ6) fun _ τ16 =>
           kRetI 0 τ16)
          (kLet (τ6 1 6) fun y8 =>
           kCall (fTR_readNumber τ6) fun r10 τ9 =>
           kLt 2 ((τ9 1 6) - y8)
             (fTR_readLength_J87 y8 τ9)
             (kCall (fP_outOf 1 64 r10 τ9) fun r12 τ11 =>
              kEq r12 0
                (kLt 512 ((τ11 1 7) + r10)
                   (kCall (fTR_fail 4 y8 τ11) fun _ τ15 =>
                    fTR_readLength_J132 τ15)
                   (kCall (fTR_soundNamed r10 τ11) fun _ τ13 =>
                    kWf τ13 1 7 ((τ13 1 7) + r10) fun τ14 =>
                    fTR_readLength_J132 τ14))
                (fTR_readLength_J87 y8 τ11))))
       (kCall (fTR_fail 1 (τ1 1 6) τ1) fun _ τ17 =>
        kRetI 0 τ17))
    (kRetI 0 σ)
def fTR_readNames_J54 (σ : KM) : Option (Int × KM) :=
  kRetI 0 σ
def fTR_readNames_J44 (x1 : Int) (σ : KM) : Option ((Int × KM) ⊕ (Int × KM)) :=
  kCall (fTR_readName σ) fun _ τ1 =>
  kLet (x1 + 1) fun y2 =>
  some (.inl (y2, τ1))
def fTR_readNames_J33 (σ : KM) : Option (Int × KM) :=
  kWf σ 1 6 ((σ 1 6) + 1) fun τ1 =>
  kRetI 0 τ1
def fTR_readNames_B2 (x1 : Int) (σ : KM) : Option ((Int × KM) ⊕ (Int × KM)) :=
  kLt 6 x1
    (kExit (fTR_readNames_J54 σ))
    (kEq (σ 1 3) 0
       (kCall (fTR_next σ) fun r2 τ1 =>
        kEq r2 41
          (kLt 0 (τ1 1 9)
             (kExit (fTR_readNames_J33 τ1))
             (fTR_readNames_J44 x1 τ1))
          (fTR_readNames_J44 x1 τ1))
       (kExit (fTR_readNames_J54 σ)))
def fTR_readNames_L2 (x1 : Int) (σ : KM) : Option (Int × KM) := kIter (fun s => fTR_readNames_B2 s.1 s.2) kF (x1, σ)
def fTR_readNames (σ : KM) : Option (Int × KM) :=
  fTR_readNames_L2 0 σ
def fTR_readPart_J106 (σ : KM) : Option (Int × KM) :=
  kRetI 0 σ
def fTR_readPart (σ : KM) : Option (Int × KM) :=
  kCall (fTR_next σ) fun r2 τ1 =>
  kWf τ1 1 9 0 fun τ3 =>
  kEq r2 124
    (kWf τ3 1 6 ((τ3 1 6) + 1) fun τ14 =>
     fTR_readPart_J106 τ14)
    (kEq r2 45
       (kWf τ3 1 6 ((τ3 1 6) + 1) fun τ12 =>
        kCall (fTR_readLength τ12) fun _ τ13 =>
        fTR_readPart_J106 τ13)
       (kEq r2 40
          (kWf τ3 1 6 ((τ3 1 6) + 1) fun τ9 =>
           kCall (fTR_readNames τ9) fun _ τ10 =>
           kCall (fTR_readLength τ10) fun _ τ11 =>
           fTR_readPart_J106 τ11)
          (kCall (fTR_isLetter r2 τ3) fun r5 τ4 =>
           kEq r5 0
             (kCall (fTR_fail 1 (τ4 1 6) τ4) fun _ τ6 =>
              fTR_readPart_J106 τ6)
             (kCall (fTR_readName τ4) fun _ τ7 =>
              kCall (fTR_readLength τ7) fun _ τ8 =>
              fTR_readPart_J106 τ8))))
def fTR_read_J78 (σ : KM) : Option (Int × KM) :=
  kWf σ 1 1 0 fun τ1 =>
  kRetI 0 τ1
def fTR_read_J65 (σ : KM) : Option (Int × KM) :=
  fTR_read_J78 σ
def fTR_read_B42 (x2 : Int) (σ : KM) : Option ((Int × KM) ⊕ (Int × KM)) :=
  kLt (σ 1 5) x2
    (kExit (fTR_read_J78 σ))
    (kEq (σ 1 3) 0
       (kCall (fTR_next σ) fun r2 τ1 =>
        kEq r2 (-1)
          (kExit (fTR_read_J65 τ1))
          (kCall (fTR_readPart τ1) fun _ τ3 =>
           kLet (x2 + 1) fun y4 =>
           some (.inl (y4, τ3))))
       (kExit (fTR_read_J78 σ)))
def fTR_read_L42 (x2 : Int) (σ : KM) : Option (Int × KM) := kIter (fun s => fTR_read_B42 s.1 s.2) kF (x2, σ)
def fTR_read (x1 : Int) (σ : KM) : Option (Int × KM) :=
  kMn x1 (σ 1 1) fun y1 =>
  kWf σ 1 5 y1 fun τ2 =>
  kWf τ2 1 6 0 fun τ3 =>
  kWf τ3 1 7 0 fun τ4 =>
  kWf τ4 1 3 0 fun τ5 =>
  kWf τ5 1 4 (-1) fun τ6 =>
  kWf τ6 2 3 0 fun τ7 =>
  fTR_read_L42 0 τ7
def fNo_become (σ : KM) : Option (Int × KM) :=
  kCpy σ 13 100 0 16 100 0 100 fun τ1 =>
  kCpy τ1 14 100 0 17 100 0 100 fun τ2 =>
  kCpy τ2 15 100 0 18 100 0 100 fun τ3 =>
  kWf τ3 3 3 (τ3 2 3) fun τ4 =>
  kRetI 0 τ4
def fHi_forget (σ : KM) : Option (Int × KM) :=
  kWf σ 4 5 0 fun τ1 =>
  kRetI 0 τ1
def fP_load_J15 (σ : KM) : Option (Int × KM) :=
  kRetI (-3) σ
def fP_load (x1 : Int) (σ : KM) : Option (Int × KM) :=
  kLt x1 0
    (fP_load_J15 σ)
    (kLt (σ 1 1) x1
       (fP_load_J15 σ)
       (kCall (fTR_read x1 σ) fun _ τ1 =>
        kEq (τ1 1 3) 0
          (kCall (fNo_become τ1) fun _ τ2 =>
           kCall (fHi_forget τ2) fun _ τ3 =>
           kCall (fP_notesChanged τ3) fun _ τ4 =>
           kRetI (τ4 3 3) τ4)
          (kRetI ((-30) - (τ1 1 3)) τ1)))
def fP_commonDivisor_J34 (x2 : Int) (σ : KM) : Option (Int × KM) :=
  kRetI x2 σ
def fP_commonDivisor_B7 (x2 x3 x4 : Int) (σ : KM) : Option ((Int × Int × Int × KM) ⊕ (Int × KM)) :=
  kLt x4 64
    (kEq x3 0
       (kExit (fP_commonDivisor_J34 x2 σ))
       (kRm x2 x3 fun y1 =>
        kLet (x4 + 1) fun y2 =>
        some (.inl (x3, y1, y2, σ))))
    (kExit (fP_commonDivisor_J34 x2 σ))
def fP_commonDivisor_L7 (x2 x3 x4 : Int) (σ : KM) : Option (Int × KM) := kIter (fun s => fP_commonDivisor_B7 s.1 s.2.1 s.2.2.1 s.2.2.2) kF (x2, x3, x4, σ)
def fP_commonDivisor (x0 x1 : Int) (σ : KM) : Option (Int × KM) :=
  fP_commonDivisor_L7 x0 x1 0 σ
def fP_match_J24 (σ : KM) : Option (Int × KM) :=
  kRetI (-2) σ
def fP_match_J94 (t0 : Int) (σ : KM) : Option (Int × KM) :=
  kRetI t0 σ
def fP_match (x1 x2 x3 : Int) (σ : KM) : Option (Int × KM) :=
  kCall (fP_noWindow x1 σ) fun r2 τ1 =>
  kEq r2 0
    (kCall (fP_noKey x2 τ1) fun r4 τ3 =>
     kEq r4 0
       (kCall (fP_outOf 0 1 x3 τ3) fun r6 τ5 =>
        kEq r6 0
          (kRd τ5 25 49 x1 fun y7 =>
           kEq y7 0
             (kRetI x3 τ5)
             (kCall (fPr_weigh x1 x2 τ5) fun r9 τ8 =>
              kCall (fP_commonDivisor r9 y7 τ8) fun r11 τ10 =>
              kLt r11 1
                (kRetI x3 τ10)
                (kEq x3 0
                   (kDv r9 r11 fun y13 =>
                    fP_match_J94 y13 τ10)
                   (kDv y7 r11 fun y12 =>
                    fP_match_J94 y12 τ10))))
          (fP_match_J24 τ5))
       (fP_match_J24 τ3))
    (fP_match_J24 τ1)
def fP_name_J78 (t0 : Int) (σ : KM) : Option (Int × KM) :=
  kRetI t0 σ
def fP_name_J77 (σ : KM) : Option (Int × KM) :=
  fP_name_J78 (-1) σ
def fP_name_J51 (x1 x2 x3 : Int) (σ : KM) : Option (Int × KM) :=
  kLt x2 x3
    (kRetI 35 σ)
    (kEq x2 x3
       (kCall (fP_modeOf x1 σ) fun r2 τ1 =>
        kEq r2 1
          (fP_name_J78 109 τ1)
          (fP_name_J77 τ1))
       (fP_name_J77 σ))
def fP_name (x1 x2 : Int) (σ : KM) : Option (Int × KM) :=
  kCall (fP_noKey x1 σ) fun r2 τ1 =>
  kEq r2 0
    (kLt x2 0
       (kRetI (-3) τ1)
       (kEq x2 0
          (kRm x1 12 fun y5 =>
           kChr 0 y5 fun y6 =>
           kRetI y6 τ1)
          (kRm x1 12 fun y3 =>
           kChr 1 y3 fun y4 =>
           kEq y4 35
             (fP_name_J51 x1 x2 2 τ1)
             (fP_name_J51 x1 x2 1 τ1))))
    (kRetI (-2) τ1)
def fP_net_J44 (σ : KM) : Option (Int × KM) :=
  kRetI (-3) σ
def fP_net (x1 x2 x3 x4 : Int) (σ : KM) : Option (Int × KM) :=
  kCall (fP_outOf 0 999 x1 σ) fun r2 τ1 =>
  kEq r2 0
    (kCall (fP_outOf 0 999 x2 τ1) fun r4 τ3 =>
     kEq r4 0
       (kCall (fP_outOf 0 999 x3 τ3) fun r6 τ5 =>
        kEq r6 0
          (kCall (fP_outOf 0 100 x4 τ5) fun r8 τ7 =>
           kEq r8 0
             (kLet (τ7 7 3) fun y9 =>
              kWf τ7 7 0 x1 fun τ10 =>
              kWf τ10 7 1 x2 fun τ11 =>
              kWf τ11 7 2 x3 fun τ12 =>
              kWf τ12 7 3 x4 fun τ13 =>
              kWfz τ13 7 4 1 fun τ14 =>
              kCall (fP_pathChanged τ14) fun _ τ15 =>
              kRetI y9 τ15)
             (fP_net_J44 τ7))
          (fP_net_J44 τ5))
       (fP_net_J44 τ3))
    (fP_net_J44 τ1)
def fP_note_J15 (σ : KM) : Option (Int × KM) :=
  kRetI (-2) σ
def fP_note (x1 x2 : Int) (σ : KM) : Option (Int × KM) :=
  kLt x1 0
    (fP_note_J15 σ)
    (kLt x1 (σ 3 3)
       (kSw x2 0 [
          kRd σ 16 100 x1 fun y1 =>
          kRetI y1 σ,
          kRd σ 17 100 x1 fun y2 =>
          kRetI y2 σ,
          kRd σ 18 100 x1 fun y3 =>
          kRetI y3 σ,
          kRd σ 18 100 x1 fun y4 =>
          kRm y4 12 fun y5 =>
          kRetI y5 σ
          ]
          (kRetI (-2) σ))
       (fP_note_J15 σ))
def fP_outside_J56 (x1 : Int) (σ : KM) : Option (Int × KM) :=
  kRetI x1 σ
def fP_outside_J50 (x1 x2 : Int) (σ : KM) : Option ((Int × Int × KM) ⊕ (Int × KM)) :=
  kLet (x2 + 1) fun y1 =>
  some (.inl (x1, y1, σ))
def fP_outside_B14 (x1 x2 : Int) (σ : KM) : Option ((Int × Int × KM) ⊕ (Int × KM)) :=
  kLt x2 (σ 5 2)
    (kRd σ 26 48 x2 fun y1 =>
     kEq y1 (-1)
       (fP_outside_J50 x1 x2 σ)
       (kCall (fP_romanOf x2 σ) fun r3 τ2 =>
        kEq r3 (-1)
          (kLet (x1 + 1) fun y4 =>
           fP_outside_J50 y4 x2 τ2)
          (fP_outside_J50 x1 x2 τ2)))
    (kExit (fP_outside_J56 x1 σ))
def fP_outside_L14 (x1 x2 : Int) (σ : KM) : Option (Int × KM) := kIter (fun s => fP_outside_B14 s.1 s.2.1 s.2.2) kF (x1, x2, σ)
def fP_outside (σ : KM) : Option (Int × KM) :=
  kCall (fP_noPath σ) fun r2 τ1 =>
  kEq r2 0
    (fP_outside_L14 0 0 τ1)
    (kRetI (-5) τ1)
def fPr_betterThan_J66 (x4 : Int) (σ : KM) : Option (Int × KM) :=
  kRetI x4 σ
def fPr_betterThan_J60 (x1 x2 x3 x4 x5 : Int) (σ : KM) : Option ((Int × Int × KM) ⊕ (Int × KM)) :=
  kLet (x5 + 1) fun y1 =>
  some (.inl (x4, y1, σ))
def fPr_betterThan_J57 (x1 x2 x3 x4 x5 : Int) (σ : KM) : Option ((Int × Int × KM) ⊕ (Int × KM)) :=
  kLet (x4 + 1) fun y1 =>
  fPr_betterThan_J60 x1 x2 x3 y1 x5 σ
def fPr_betterThan_B18 (x1 x2 x3 x4 x5 : Int) (σ : KM) : Option ((Int × Int × KM) ⊕ (Int × KM)) :=
  kLt x5 24
    (kRd σ 28 1176 ((x1 * 24) + x5) fun y1 =>
     kLt x3 y1
       (fPr_betterThan_J57 x1 x2 x3 x4 x5 σ)
       (kEq y1 x3
          (kLt x5 x2
             (fPr_betterThan_J57 x1 x2 x3 x4 x5 σ)
             (fPr_betterThan_J60 x1 x2 x3 x4 x5 σ))
          (fPr_betterThan_J60 x1 x2 x3 x4 x5 σ)))
    (kExit (fPr_betterThan_J66 x4 σ))
def fPr_betterThan_L18 (x1 x2 x3 x4 x5 : Int) (σ : KM) : Option (Int × KM) := kIter (fun s => fPr_betterThan_B18 x1 x2 x3 s.1 s.2.1 s.2.2) kF (x4, x5, σ)
def fPr_betterThan (x1 x2 : Int) (σ : KM) : Option (Int × KM) :=
  kRd σ 28 1176 ((x1 * 24) + x2) fun y1 =>
  fPr_betterThan_L18 x1 x2 y1 0 0 σ
def fPr_keyOfRank_J26 (σ : KM) : Option (Int × KM) :=
  kRetI (-1) σ
def fPr_keyOfRank_J18 (x3 : Int) (σ : KM) : Option (Int × KM) :=
  kRetI x3 σ
def fPr_keyOfRank_B2 (x1 x2 x3 : Int) (σ : KM) : Option ((Int × KM) ⊕ (Int × KM)) :=
  kLt x3 24
    (kCall (fPr_betterThan x1 x3 σ) fun r2 τ1 =>
     kEq r2 x2
       (kExit (fPr_keyOfRank_J18 x3 τ1))
       (kLet (x3 + 1) fun y3 =>
        some (.inl (y3, τ1))))
    (kExit (fPr_keyOfRank_J26 σ))
def fPr_keyOfRank_L2 (x1 x2 x3 : Int) (σ : KM) : Option (Int × KM) := kIter (fun s => fPr_keyOfRank_B2 x1 x2 s.1 s.2) kF (x3, σ)
def fPr_keyOfRank (x1 x2 : Int) (σ : KM) : Option (Int × KM) :=
  fPr_keyOfRank_L2 x1 x2 0 σ
def fP_overall (x1 : Int) (σ : KM) : Option (Int × KM) :=
  kCall (fP_noKey x1 σ) fun r2 τ1 =>
  kEq r2 0
    (kCall (fP_freshFits τ1) fun _ τ3 =>
     kCall (fPr_keyOfRank 48 x1 τ3) fun r5 τ4 =>
     kRetI r5 τ4)
    (kRetI (-3) τ1)
def fP_pin_J22 (σ : KM) : Option (Int × KM) :=
  kRetI (-2) σ
def fP_pin_J25 (x1 x2 : Int) (σ : KM) : Option (Int × KM) :=
  kRd σ 33 48 x1 fun y1 =>
  kWr σ 33 48 x1 x2 fun τ2 =>
  kCall (fP_pathChanged τ2) fun _ τ3 =>
  kRetI y1 τ3
def fP_pin (x1 x2 : Int) (σ : KM) : Option (Int × KM) :=
  kCall (fP_outOf 0 47 x1 σ) fun r2 τ1 =>
  kEq r2 0
    (kEq x2 (-1)
       (fP_pin_J25 x1 x2 τ1)
       (kCall (fP_noKey x2 τ1) fun r4 τ3 =>
        kEq r4 0
          (fP_pin_J25 x1 x2 τ3)
          (fP_pin_J22 τ3)))
    (fP_pin_J22 τ1)
def fWi_sound_J62 (x3 : Int) (σ : KM) : Option (Int × KM) :=
  kRetI x3 σ
def fWi_sound_B6 (x1 x2 x3 x4 : Int) (σ : KM) : Option ((Int × Int × KM) ⊕ (Int × KM)) :=
  kLt x4 3
    (kCall (fP_toneOf x2 x4 σ) fun r2 τ1 =>
     kRd τ1 24 588 ((x1 * 12) + r2) fun y3 =>
     kRd τ1 24 588 (((x1 + 1) * 12) + r2) fun y4 =>
     kLet (y3 + y4) fun y5 =>
     kMn x3 y5 fun y6 =>
     kLet (x4 + 1) fun y7 =>
     some (.inl (y6, y7, τ1)))
    (kExit (fWi_sound_J62 x3 σ))
def fWi_sound_L6 (x1 x2 x3 x4 : Int) (σ : KM) : Option (Int × KM) := kIter (fun s => fWi_sound_B6 x1 x2 s.1 s.2.1 s.2.2) kF (x3, x4, σ)
def fWi_sound (x1 x2 : Int) (σ : KM) : Option (Int × KM) :=
  fWi_sound_L6 x1 x2 1000000000 0 σ
def fWi_pivotTriad_J69 (x4 : Int) (σ : KM) : Option (Int × KM) :=
  kRetI x4 σ
def fWi_pivotTriad_J63 (x1 x2 x3 x4 x5 x6 : Int) (σ : KM) : Option ((Int × Int × Int × KM) ⊕ (Int × KM)) :=
  kLet (x6 + 1) fun y1 =>
  some (.inl (x4, x5, y1, σ))
def fWi_pivotTriad_B9 (x1 x2 x3 x4 x5 x6 : Int) (σ : KM) : Option ((Int × Int × Int × KM) ⊕ (Int × KM)) :=
  kLt x6 36
    (kCall (fP_degreeOf x6 x2 σ) fun r2 τ1 =>
     kEq r2 (-1)
       (fWi_pivotTriad_J63 x1 x2 x3 x4 x5 x6 τ1)
       (kCall (fP_degreeOf x6 x3 τ1) fun r4 τ3 =>
        kEq r4 (-1)
          (fWi_pivotTriad_J63 x1 x2 x3 x4 x5 x6 τ3)
          (kCall (fWi_sound x1 x6 τ3) fun r6 τ5 =>
           kLt x5 r6
             (fWi_pivotTriad_J63 x1 x2 x3 x6 r6 x6 τ5)
             (fWi_pivotTriad_J63 x1 x2 x3 x4 x5 x6 τ5))))
    (kExit (fWi_pivotTriad_J69 x4 σ))
def fWi_pivotTriad_L9 (x1 x2 x3 x4 x5 x6 : Int) (σ : KM) : Option (Int × KM) := kIter (fun s => fWi_pivotTriad_B9 x1 x2 x3 s.1 s.2.1 s.2.2.1 s.2.2.2) kF (x4, x5, x6, σ)
def fWi_pivotTriad (x1 x2 x3 : Int) (σ : KM) : Option (Int × KM) :=
  fWi_pivotTriad_L9 x1 x2 x3 (-1) 0 0 σ
def fP_pivot_J36 (σ : KM) : Option (Int × KM) :=
  kRetI (-2) σ
def fP_pivot (x1 x2 : Int) (σ : KM) : Option (Int × KM) :=
  kCall (fP_noPath σ) fun r2 τ1 =>
  kEq r2 0
    (kLt x1 0
       (fP_pivot_J36 τ1)
       (kLt x1 ((τ1 8 12) - 1)
          (kCall (fP_outOf 0 3 x2 τ1) fun r4 τ3 =>
           kEq r4 0
             (kCall (fFi_lastOf x1 τ3) fun r6 τ5 =>
              kRd τ5 39 48 r6 fun y7 =>
              kRd τ5 39 48 (r6 + 1) fun y8 =>
              kCall (fWi_pivotTriad r6 y7 y8 τ5) fun r10 τ9 =>
              kEq r10 (-1)
                (kRetI (-1) τ9)
                (kSw x2 0 [
                   kRetI r10 τ9,
                   kCall (fP_degreeOf r10 y7 τ9) fun r12 τ11 =>
                   kRetI r12 τ11,
                   kCall (fP_degreeOf r10 y8 τ9) fun r14 τ13 =>
                   kRetI r14 τ13
                   ]
                   (kCall (fWi_sound r6 r10 τ9) fun r16 τ15 =>
                    kRetI r16 τ15)))
             (fP_pivot_J36 τ3))
          (fP_pivot_J36 τ1)))
    (kRetI (-5) τ1)
def fP_progression_J88 (t0 : Int) (σ : KM) : Option (Int × KM) :=
  kRetI t0 σ
def fP_progression_J78 (x1 x2 : Int) (σ : KM) : Option (Int × KM) :=
  kEq x1 (-1)
    (fP_progression_J88 x2 σ)
    (fP_progression_J88 (-1) σ)
def fP_progression_J72 (x1 x2 x3 x4 : Int) (σ : KM) : Option ((Int × Int × Int × KM) ⊕ (Int × KM)) :=
  kLet (x4 + 1) fun y1 =>
  some (.inl (x2, x3, y1, σ))
def fP_progression_J63 (x5 : Int) (σ : KM) : Option (Int × KM) :=
  kRetI x5 σ
def fP_progression_B19 (x1 x2 x3 x4 : Int) (σ : KM) : Option ((Int × Int × Int × KM) ⊕ (Int × KM)) :=
  kLt x4 (σ 5 2)
    (kRd σ 26 48 x4 fun y1 =>
     kEq y1 (-1)
       (fP_progression_J72 x1 x2 x3 x4 σ)
       (kEq y1 x3
          (fP_progression_J72 x1 x2 x3 x4 σ)
          (kEq x2 x1
             (kExit (fP_progression_J63 y1 σ))
             (kLet (x2 + 1) fun y2 =>
              fP_progression_J72 x1 y2 y1 x4 σ))))
    (kExit (fP_progression_J78 x1 x2 σ))
def fP_progression_L19 (x1 x2 x3 x4 : Int) (σ : KM) : Option (Int × KM) := kIter (fun s => fP_progression_B19 x1 s.1 s.2.1 s.2.2.1 s.2.2.2) kF (x2, x3, x4, σ)
def fP_progression (x1 : Int) (σ : KM) : Option (Int × KM) :=
  kLt x1 (-1)
    (kRetI (-3) σ)
    (kCall (fP_freshWindows σ) fun _ τ1 =>
     fP_progression_L19 x1 0 (-1) 0 τ1)
def fNo_canBe_J46 (t0 : Int) (σ : KM) : Option (Int × KM) :=
  kRetZ t0 σ
def fNo_canBe_J45 (σ : KM) : Option (Int × KM) :=
  fNo_canBe_J46 0 σ
def fNo_canBe (x0 x1 x2 : Int) (σ : KM) : Option (Int × KM) :=
  kLt x0 0
    (fNo_canBe_J45 σ)
    (kLt x0 512
       (kLt x1 1
          (fNo_canBe_J45 σ)
          (kLt 64 x1
             (fNo_canBe_J45 σ)
             (kLt x2 0
                (fNo_canBe_J45 σ)
                (kLt 127 x2
                   (fNo_canBe_J45 σ)
                   (kLt 512 (x0 + x1)
                      (fNo_canBe_J45 σ)
                      (fNo_canBe_J46 1 σ))))))
       (fNo_canBe_J45 σ))
def fNo_isBehind_J69 (t0 : Int) (σ : KM) : Option (Int × KM) :=
  kRetZ t0 σ
def fNo_isBehind_J53 (t0 : Int) (σ : KM) : Option (Int × KM) :=
  kRetZ t0 σ
def fNo_isBehind_J25 (t0 : Int) (σ : KM) : Option (Int × KM) :=
  kRetZ t0 σ
def fNo_isBehind (x1 x2 x3 x4 : Int) (σ : KM) : Option (Int × KM) :=
  kRd σ 16 100 x1 fun y1 =>
  kEq y1 x2
    (kRd σ 18 100 x1 fun y2 =>
     kEq y2 x4
       (kRd σ 17 100 x1 fun y3 =>
        kLt x3 y3
          (fNo_isBehind_J69 1 σ)
          (fNo_isBehind_J69 0 σ))
       (kRd σ 18 100 x1 fun y4 =>
        kLt x4 y4
          (fNo_isBehind_J53 1 σ)
          (fNo_isBehind_J53 0 σ)))
    (kRd σ 16 100 x1 fun y5 =>
     kLt x2 y5
       (fNo_isBehind_J25 1 σ)
       (fNo_isBehind_J25 0 σ))
def fNo_placeFor_J31 (x4 : Int) (σ : KM) : Option (Int × KM) :=
  kRetI x4 σ
def fNo_placeFor_B6 (x1 x2 x3 x4 : Int) (σ : KM) : Option ((Int × KM) ⊕ (Int × KM)) :=
  kLt 0 x4
    (kCall (fNo_isBehind (x4 - 1) x1 x2 x3 σ) fun r2 τ1 =>
     kEq r2 0
       (kExit (fNo_placeFor_J31 x4 τ1))
       (kLet (x4 + (-1)) fun y3 =>
        some (.inl (y3, τ1))))
    (kExit (fNo_placeFor_J31 x4 σ))
def fNo_placeFor_L6 (x1 x2 x3 x4 : Int) (σ : KM) : Option (Int × KM) := kIter (fun s => fNo_placeFor_B6 x1 x2 x3 s.1 s.2) kF (x4, σ)
def fNo_placeFor (x1 x2 x3 : Int) (σ : KM) : Option (Int × KM) :=
  kLet (σ 3 3) fun y1 =>
  fNo_placeFor_L6 x1 x2 x3 y1 σ
def fNo_insert_J21 (σ : KM) : Option (Int × KM) :=
  kRetI 0 σ
def fNo_insert (x1 x2 x3 x4 : Int) (σ : KM) : Option (Int × KM) :=
  kLt (σ 3 3) 100
    (kLt x1 0
       (fNo_insert_J21 σ)
       (kLt (σ 3 3) x1
          (fNo_insert_J21 σ)
          (kLet ((σ 3 3) - x1) fun y1 =>
           kCpy σ 16 100 x1 16 100 (x1 + 1) y1 fun τ2 =>
           kCpy τ2 17 100 x1 17 100 (x1 + 1) y1 fun τ3 =>
           kCpy τ3 18 100 x1 18 100 (x1 + 1) y1 fun τ4 =>
           kWr τ4 16 100 x1 x2 fun τ5 =>
           kWr τ5 17 100 x1 x3 fun τ6 =>
           kWr τ6 18 100 x1 x4 fun τ7 =>
           kWf τ7 3 3 ((τ7 3 3) + 1) fun τ8 =>
           kRetI 0 τ8)))
    (fNo_insert_J21 σ)
def fP_put (x1 x2 x3 : Int) (σ : KM) : Option (Int × KM) :=
  kCall (fNo_canBe x1 x2 x3 σ) fun r2 τ1 =>
  kEq r2 0
    (kRetI (-3) τ1)
    (kLt (τ1 3 3) 100
       (kCall (fNo_placeFor x1 x2 x3 τ1) fun r4 τ3 =>
        kCall (fNo_insert r4 x1 x2 x3 τ3) fun _ τ5 =>
        kCall (fHi_remember 0 r4 0 0 0 τ5) fun _ τ6 =>
        kCall (fP_notesChanged τ6) fun _ τ7 =>
        kRetI r4 τ7)
       (kRetI (-4) τ1))
def fP_ranked (x1 x2 : Int) (σ : KM) : Option (Int × KM) :=
  kCall (fP_noWindow x1 σ) fun r2 τ1 =>
  kEq r2 0
    (kCall (fP_noKey x2 τ1) fun r4 τ3 =>
     kEq r4 0
       (kCall (fP_freshFits τ3) fun _ τ5 =>
        kCall (fPr_keyOfRank x1 x2 τ5) fun r7 τ6 =>
        kRetI r7 τ6)
       (kRetI (-3) τ3))
    (kRetI (-2) τ1)
def fP_roman_J28 (t0 : Int) (σ : KM) : Option (Int × KM) :=
  kRetI t0 σ
def fP_roman (x1 : Int) (σ : KM) : Option (Int × KM) :=
  kCall (fP_noWindow x1 σ) fun r2 τ1 =>
  kEq r2 0
    (kCall (fP_noPath τ1) fun r4 τ3 =>
     kEq r4 0
       (kCall (fP_romanOf x1 τ3) fun r6 τ5 =>
        fP_roman_J28 r6 τ5)
       (fP_roman_J28 (-5) τ3))
    (kRetI (-2) τ1)
def fDe_cheapestMove_41_J46 (x4 : Int) (σ : KM) : Option (Int × KM) :=
  kRetI x4 σ
def fDe_cheapestMove_41_B7 (x2 x3 x4 x5 : Int) (σ : KM) : Option ((Int × Int × KM) ⊕ (Int × KM)) :=
  kLt x5 24
    (kRd σ 41 1152 (x2 + x5) fun y1 =>
     kRd σ 36 576 ((x5 * 24) + x3) fun y2 =>
     kMn x4 (y1 + y2) fun y3 =>
     kLet (x5 + 1) fun y4 =>
     some (.inl (y3, y4, σ)))
    (kExit (fDe_cheapestMove_41_J46 x4 σ))
def fDe_cheapestMove_41_L7 (x2 x3 x4 x5 : Int) (σ : KM) : Option (Int × KM) := kIter (fun s => fDe_cheapestMove_41_B7 x2 x3 s.1 s.2.1 s.2.2) kF (x4, x5, σ)
def fDe_cheapestMove_41 (x2 x3 : Int) (σ : KM) : Option (Int × KM) :=
  fDe_cheapestMove_41_L7 x2 x3 1000000000 0 σ
def fDe_lookAhead_J113 (σ : KM) : Option (Int × KM) :=
  kWfz σ 9 1 1 fun τ1 =>
  kRetI 0 τ1
def fDe_lookAhead_J107 (x2 : Int) (σ : KM) : Option ((Int × KM) ⊕ (Int × KM)) :=
  kLet (x2 + 1) fun y1 =>
  some (.inl (y1, σ))
def fDe_lookAhead_J82 (x2 x3 x4 x5 : Int) (σ : KM) : Option ((Int × KM) ⊕ ((Int × KM) ⊕ (Int × KM))) :=
  kRd σ 34 1152 x4 fun y1 =>
  kCall (fP_plus y1 x5 σ) fun r3 τ2 =>
  kWr τ2 41 1152 x4 r3 fun τ4 =>
  kLet (x3 + 1) fun y5 =>
  some (.inl (y5, τ4))
def fDe_lookAhead_B20 (x2 x3 : Int) (σ : KM) : Option ((Int × KM) ⊕ ((Int × KM) ⊕ (Int × KM))) :=
  kLt x3 24
    (kLet ((x2 * 24) + x3) fun y1 =>
     kRd σ 35 48 x2 fun y2 =>
     kEq y2 0
       (kLt 0 x2
          (kCall (fDe_cheapestMove_41 ((x2 - 1) * 24) x3 σ) fun r4 τ3 =>
           fDe_lookAhead_J82 x2 x3 y1 r4 τ3)
          (fDe_lookAhead_J82 x2 x3 y1 0 σ))
       (kRd σ 41 1152 (y1 - 24) fun y5 =>
        fDe_lookAhead_J82 x2 x3 y1 y5 σ))
    (kExit (fDe_lookAhead_J107 x2 σ))
def fDe_lookAhead_L20 (x2 x3 : Int) (σ : KM) : Option ((Int × KM) ⊕ (Int × KM)) := kIter (fun s => fDe_lookAhead_B20 x2 s.1 s.2) kF (x3, σ)
def fDe_lookAhead_B10 (x2 : Int) (σ : KM) : Option ((Int × KM) ⊕ (Int × KM)) :=
  kLt x2 (σ 8 1)
    (fDe_lookAhead_L20 x2 0 σ)
    (kExit (fDe_lookAhead_J113 σ))
def fDe_lookAhead_L10 (x2 : Int) (σ : KM) : Option (Int × KM) := kIter (fun s => fDe_lookAhead_B10 s.1 s.2) kF (x2, σ)
def fDe_lookAhead (σ : KM) : Option (Int × KM) :=
  kEq (σ 9 1) 0
    (fDe_lookAhead_L10 0 σ)
    (kRetI 0 σ)
def fDe_costThrough_J32 (σ : KM) : Option (Int × KM) :=
  kRetI 1000000000 σ
def fDe_costThrough (x2 x3 : Int) (σ : KM) : Option (Int × KM) :=
  kLet ((x2 * 24) + x3) fun y1 =>
  kRd σ 41 1152 y1 fun y2 =>
  kLt y2 1000000000
    (kRd σ 37 1152 y1 fun y3 =>
     kLt y3 1000000000
       (kRd σ 41 1152 y1 fun y4 =>
        kRd σ 37 1152 y1 fun y5 =>
        kRd σ 34 1152 y1 fun y6 =>
        kRetI ((y4 + y5) - y6) σ)
       (fDe_costThrough_J32 σ))
    (fDe_costThrough_J32 σ)
def fDe_leastAside_J43 (x3 : Int) (σ : KM) : Option (Int × KM) :=
  kRetI x3 σ
def fDe_leastAside_J37 (x2 x3 x4 : Int) (σ : KM) : Option ((Int × Int × KM) ⊕ (Int × KM)) :=
  kLet (x4 + 1) fun y1 =>
  some (.inl (x3, y1, σ))
def fDe_leastAside_B6 (x2 x3 x4 : Int) (σ : KM) : Option ((Int × Int × KM) ⊕ (Int × KM)) :=
  kLt x4 24
    (kRd σ 39 48 x2 fun y1 =>
     kEq x4 y1
       (fDe_leastAside_J37 x2 x3 x4 σ)
       (kCall (fDe_costThrough x2 x4 σ) fun r3 τ2 =>
        kMn x3 r3 fun y4 =>
        fDe_leastAside_J37 x2 y4 x4 τ2))
    (kExit (fDe_leastAside_J43 x3 σ))
def fDe_leastAside_L6 (x2 x3 x4 : Int) (σ : KM) : Option (Int × KM) := kIter (fun s => fDe_leastAside_B6 x2 s.1 s.2.1 s.2.2) kF (x3, x4, σ)
def fDe_leastAside (x2 : Int) (σ : KM) : Option (Int × KM) :=
  fDe_leastAside_L6 x2 1000000000 0 σ
def fP_second_J99 (t0 : Int) (σ : KM) : Option (Int × KM) :=
  kRetI t0 σ
def fP_second_J87 (x1 x2 x3 : Int) (σ : KM) : Option (Int × KM) :=
  kEq x1 0
    (kCall (fP_toldCost x2 σ) fun r2 τ1 =>
     fP_second_J99 r2 τ1)
    (fP_second_J99 x3 σ)
def fP_second_J81 (x1 x2 x3 x4 : Int) (σ : KM) : Option ((Int × Int × Int × KM) ⊕ (Int × KM)) :=
  kLet (x4 + 1) fun y1 =>
  some (.inl (x2, x3, y1, σ))
def fP_second_B42 (x1 x2 x3 x4 : Int) (σ : KM) : Option ((Int × Int × Int × KM) ⊕ (Int × KM)) :=
  kLt x4 (σ 8 1)
    (kCall (fDe_leastAside x4 σ) fun r2 τ1 =>
     kLt r2 x2
       (fP_second_J81 x1 r2 x4 x4 τ1)
       (fP_second_J81 x1 x2 x3 x4 τ1))
    (kExit (fP_second_J87 x1 x2 x3 σ))
def fP_second_L42 (x1 x2 x3 x4 : Int) (σ : KM) : Option (Int × KM) := kIter (fun s => fP_second_B42 x1 s.1 s.2.1 s.2.2.1 s.2.2.2) kF (x2, x3, x4, σ)
def fP_second (x1 : Int) (σ : KM) : Option (Int × KM) :=
  kCall (fP_outOf 0 1 x1 σ) fun r2 τ1 =>
  kEq r2 0
    (kCall (fP_noPath τ1) fun r4 τ3 =>
     kEq r4 0
       (kCall (fDe_lookAhead τ3) fun _ τ5 =>
        fP_second_L42 x1 1000000000 (-1) 0 τ5)
       (kRetI (-5) τ3))
    (kRetI (-2) τ1)
def fP_segment_J25 (σ : KM) : Option (Int × KM) :=
  kRetI (-2) σ
def fP_segment (x1 x2 : Int) (σ : KM) : Option (Int × KM) :=
  kCall (fP_noPath σ) fun r2 τ1 =>
  kEq r2 0
    (kLt x1 0
       (fP_segment_J25 τ1)
       (kLt x1 (τ1 8 12)
          (kRd τ1 40 48 x1 fun y3 =>
           kSw x2 0 [
             kRetI y3 τ1,
             kCall (fFi_lastOf x1 τ1) fun r5 τ4 =>
             kRetI r5 τ4,
             kRd τ1 39 48 y3 fun y6 =>
             kRetI y6 τ1,
             kRetI (y3 * (τ1 5 1)) τ1
             ]
             (kRetI (-2) τ1))
          (fP_segment_J25 τ1)))
    (kRetI (-5) τ1)
def fP_segments_J19 (t0 : Int) (σ : KM) : Option (Int × KM) :=
  kRetI t0 σ
def fP_segments (σ : KM) : Option (Int × KM) :=
  kCall (fP_noPath σ) fun r2 τ1 =>
  kEq r2 0
    (fP_segments_J19 (τ1 8 12) τ1)
    (fP_segments_J19 (-5) τ1)
def fNo_canMove_J35 (σ : KM) : Option (Int × KM) :=
  kRetZ 1 σ
def fNo_canMove_J27 (σ : KM) : Option (Int × KM) :=
  kRetZ 0 σ
def fNo_canMove_B2 (x1 x2 : Int) (σ : KM) : Option ((Int × KM) ⊕ (Int × KM)) :=
  kLt x2 (σ 3 3)
    (kRd σ 18 100 x2 fun y1 =>
     kCall (fP_outOf 0 127 (y1 + x1) σ) fun r3 τ2 =>
     kEq r3 0
       (kLet (x2 + 1) fun y4 =>
        some (.inl (y4, τ2)))
       (kExit (fNo_canMove_J27 τ2)))
    (kExit (fNo_canMove_J35 σ))
def fNo_canMove_L2 (x1 x2 : Int) (σ : KM) : Option (Int × KM) := kIter (fun s => fNo_canMove_B2 x1 s.1 s.2) kF (x2, σ)
def fNo_canMove (x1 : Int) (σ : KM) : Option (Int × KM) :=
  fNo_canMove_L2 x1 0 σ
def fNo_move_J26 (σ : KM) : Option (Int × KM) :=
  kRetI 0 σ
def fNo_move_B2 (x1 x2 : Int) (σ : KM) : Option ((Int × KM) ⊕ (Int × KM)) :=
  kLt x2 (σ 3 3)
    (kRd σ 18 100 x2 fun y1 =>
     kWr σ 18 100 x2 (y1 + x1) fun τ2 =>
     kLet (x2 + 1) fun y3 =>
     some (.inl (y3, τ2)))
    (kExit (fNo_move_J26 σ))
def fNo_move_L2 (x1 x2 : Int) (σ : KM) : Option (Int × KM) := kIter (fun s => fNo_move_B2 x1 s.1 s.2) kF (x2, σ)
def fNo_move (x1 : Int) (σ : KM) : Option (Int × KM) :=
  fNo_move_L2 x1 0 σ
def fP_shift_J23 (σ : KM) : Option (Int × KM) :=
  kRetI (-3) σ
def fP_shift (x1 : Int) (σ : KM) : Option (Int × KM) :=
  kLt x1 (-127)
    (fP_shift_J23 σ)
    (kLt 127 x1
       (fP_shift_J23 σ)
       (kCall (fNo_canMove x1 σ) fun r2 τ1 =>
        kEq r2 0
          (fP_shift_J23 τ1)
          (kCall (fNo_move x1 τ1) fun _ τ3 =>
           kCall (fHi_remember 2 0 0 0 x1 τ3) fun _ τ4 =>
           kCall (fP_notesChanged τ4) fun _ τ5 =>
           kRetI (τ5 3 3) τ5)))
def fP_through_J15 (σ : KM) : Option (Int × KM) :=
  kRetI (-2) σ
def fP_through (x1 x2 : Int) (σ : KM) : Option (Int × KM) :=
  kCall (fP_noWindow x1 σ) fun r2 τ1 =>
  kEq r2 0
    (kCall (fP_noKey x2 τ1) fun r4 τ3 =>
     kEq r4 0
       (kCall (fP_noPath τ3) fun r6 τ5 =>
        kEq r6 0
          (kCall (fDe_lookAhead τ5) fun _ τ7 =>
           kCall (fDe_costThrough x1 x2 τ7) fun r9 τ8 =>
           kCall (fP_toldCost r9 τ8) fun r11 τ10 =>
           kRetI r11 τ10)
          (kRetI (-5) τ5))
       (fP_through_J15 τ3))
    (fP_through_J15 τ1)
def fP_ties_J19 (t0 : Int) (σ : KM) : Option (Int × KM) :=
  kRetI t0 σ
def fP_ties (σ : KM) : Option (Int × KM) :=
  kCall (fP_noPath σ) fun r2 τ1 =>
  kEq r2 0
    (fP_ties_J19 (τ1 8 9) τ1)
    (fP_ties_J19 (-5) τ1)
def fP_tones_J52 (t0 : Int) (σ : KM) : Option (Int × KM) :=
  kRetI t0 σ
def fP_tones (x1 x2 : Int) (σ : KM) : Option (Int × KM) :=
  kCall (fP_noWindow x1 σ) fun r2 τ1 =>
  kEq r2 0
    (kEq x2 (-1)
       (kRd τ1 25 49 x1 fun y6 =>
        kRetI y6 τ1)
       (kCall (fP_noTone x2 τ1) fun r4 τ3 =>
        kEq r4 0
          (kRd τ3 24 588 ((x1 * 12) + x2) fun y5 =>
           fP_tones_J52 y5 τ3)
          (fP_tones_J52 (-3) τ3)))
    (kRetI (-2) τ1)
def fHi_takeBack_J117 (σ : KM) : Option (Int × KM) :=
  kRetI 0 σ
def fHi_takeBack (σ : KM) : Option (Int × KM) :=
  kLt (σ 4 5) 1
    (kRetI 0 σ)
    (kWf σ 4 5 ((σ 4 5) - 1) fun τ1 =>
     kRd τ1 19 10 (τ1 4 5) fun y2 =>
     kEq y2 0
       (kRd τ1 20 10 (τ1 4 5) fun y11 =>
        kCall (fNo_remove y11 τ1) fun _ τ12 =>
        fHi_takeBack_J117 τ12)
       (kRd τ1 19 10 (τ1 4 5) fun y3 =>
        kEq y3 1
          (kRd τ1 20 10 (τ1 4 5) fun y6 =>
           kRd τ1 21 10 (τ1 4 5) fun y7 =>
           kRd τ1 22 10 (τ1 4 5) fun y8 =>
           kRd τ1 23 10 (τ1 4 5) fun y9 =>
           kCall (fNo_insert y6 y7 y8 y9 τ1) fun _ τ10 =>
           fHi_takeBack_J117 τ10)
          (kRd τ1 23 10 (τ1 4 5) fun y4 =>
           kCall (fNo_move (-y4) τ1) fun _ τ5 =>
           fHi_takeBack_J117 τ5)))
def fP_undo (σ : KM) : Option (Int × KM) :=
  kEq (σ 4 5) 0
    (kRetI (-5) σ)
    (kCall (fHi_takeBack σ) fun _ τ1 =>
     kCall (fP_notesChanged τ1) fun _ τ2 =>
     kRetI (τ2 4 5) τ2)
def fDe_keysUpTo_J34 (x4 : Int) (σ : KM) : Option (Int × KM) :=
  kRetI x4 σ
def fDe_keysUpTo_J28 (x2 x3 x4 x5 : Int) (σ : KM) : Option ((Int × Int × KM) ⊕ (Int × KM)) :=
  kLet (x5 + 1) fun y1 =>
  some (.inl (x4, y1, σ))
def fDe_keysUpTo_B6 (x2 x3 x4 x5 : Int) (σ : KM) : Option ((Int × Int × KM) ⊕ (Int × KM)) :=
  kLt x5 24
    (kCall (fDe_costThrough x2 x5 σ) fun r2 τ1 =>
     kLt x3 r2
       (fDe_keysUpTo_J28 x2 x3 x4 x5 τ1)
       (kLet (x4 + 1) fun y3 =>
        fDe_keysUpTo_J28 x2 x3 y3 x5 τ1))
    (kExit (fDe_keysUpTo_J34 x4 σ))
def fDe_keysUpTo_L6 (x2 x3 x4 x5 : Int) (σ : KM) : Option (Int × KM) := kIter (fun s => fDe_keysUpTo_B6 x2 x3 s.1 s.2.1 s.2.2) kF (x4, x5, σ)
def fDe_keysUpTo (x2 x3 : Int) (σ : KM) : Option (Int × KM) :=
  fDe_keysUpTo_L6 x2 x3 0 0 σ
def fP_unsure (x1 x2 : Int) (σ : KM) : Option (Int × KM) :=
  kCall (fP_noWindow x1 σ) fun r2 τ1 =>
  kEq r2 0
    (kCall (fP_outOf 0 9999 x2 τ1) fun r4 τ3 =>
     kEq r4 0
       (kCall (fP_noPath τ3) fun r6 τ5 =>
        kEq r6 0
          (kCall (fDe_lookAhead τ5) fun _ τ7 =>
           kCall (fDe_keysUpTo x1 ((τ7 8 8) + x2) τ7) fun r9 τ8 =>
           kRetI r9 τ8)
          (kRetI (-5) τ5))
       (kRetI (-3) τ3))
    (kRetI (-2) τ1)
def fNe_nextOnWay_J77 (t0 : Int) (σ : KM) : Option (Int × KM) :=
  kRetI t0 σ
def fNe_nextOnWay_J66 (x2 x3 : Int) (σ : KM) : Option (Int × KM) :=
  kLt x3 24
    (fNe_nextOnWay_J77 x3 σ)
    (fNe_nextOnWay_J77 x2 σ)
def fNe_nextOnWay_J60 (x1 x2 x3 x4 : Int) (σ : KM) : Option ((Int × Int × KM) ⊕ (Int × KM)) :=
  kLet (x4 + 1) fun y1 =>
  some (.inl (x3, y1, σ))
def fNe_nextOnWay_B6 (x1 x2 x3 x4 : Int) (σ : KM) : Option ((Int × Int × KM) ⊕ (Int × KM)) :=
  kLt x4 4
    (kCall (fNe_neighbour x1 x4 σ) fun r2 τ1 =>
     kRd τ1 31 576 ((x1 * 24) + x2) fun y3 =>
     kCall (fNe_rankOfStep x4 τ1) fun r5 τ4 =>
     kRd τ4 31 576 ((r2 * 24) + x2) fun y6 =>
     kEq y3 (r5 + y6)
       (kMn x3 r2 fun y7 =>
        fNe_nextOnWay_J60 x1 x2 y7 x4 τ4)
       (fNe_nextOnWay_J60 x1 x2 x3 x4 τ4))
    (kExit (fNe_nextOnWay_J66 x2 x3 σ))
def fNe_nextOnWay_L6 (x1 x2 x3 x4 : Int) (σ : KM) : Option (Int × KM) := kIter (fun s => fNe_nextOnWay_B6 x1 x2 s.1 s.2.1 s.2.2) kF (x3, x4, σ)
def fNe_nextOnWay (x1 x2 : Int) (σ : KM) : Option (Int × KM) :=
  fNe_nextOnWay_L6 x1 x2 24 0 σ
def fNe_keyOnWay_J43 (x4 : Int) (σ : KM) : Option (Int × KM) :=
  kRetI x4 σ
def fNe_keyOnWay_J26 (σ : KM) : Option (Int × KM) :=
  kRetI (-1) σ
def fNe_keyOnWay_B14 (x2 x3 x4 x5 : Int) (σ : KM) : Option ((Int × Int × KM) ⊕ (Int × KM)) :=
  kLt x5 x3
    (kEq x4 x2
       (kExit (fNe_keyOnWay_J26 σ))
       (kCall (fNe_nextOnWay x4 x2 σ) fun r2 τ1 =>
        kLet (x5 + 1) fun y3 =>
        some (.inl (r2, y3, τ1))))
    (kExit (fNe_keyOnWay_J43 x4 σ))
def fNe_keyOnWay_L14 (x2 x3 x4 x5 : Int) (σ : KM) : Option (Int × KM) := kIter (fun s => fNe_keyOnWay_B14 x2 x3 s.1 s.2.1 s.2.2) kF (x4, x5, σ)
def fNe_keyOnWay (x1 x2 x3 : Int) (σ : KM) : Option (Int × KM) :=
  kLt x3 24
    (fNe_keyOnWay_L14 x2 x3 x1 0 σ)
    (kRetI (-1) σ)
def fP_way_J14 (σ : KM) : Option (Int × KM) :=
  kRetI (-2) σ
def fP_way (x1 x2 x3 : Int) (σ : KM) : Option (Int × KM) :=
  kCall (fP_noKey x1 σ) fun r2 τ1 =>
  kEq r2 0
    (kCall (fP_noKey x2 τ1) fun r4 τ3 =>
     kEq r4 0
       (kLt x3 0
          (kRetI (-3) τ3)
          (kCall (fNe_refresh τ3) fun _ τ5 =>
           kCall (fNe_keyOnWay x1 x2 x3 τ5) fun r7 τ6 =>
           kRetI r7 τ6))
       (fP_way_J14 τ3))
    (fP_way_J14 τ1)
def fP_weight_J14 (σ : KM) : Option (Int × KM) :=
  kRetI (-2) σ
def fP_weight (x1 x2 x3 : Int) (σ : KM) : Option (Int × KM) :=
  kCall (fP_noMode x1 σ) fun r2 τ1 =>
  kEq r2 0
    (kCall (fP_noTone x2 τ1) fun r4 τ3 =>
     kEq r4 0
       (kCall (fP_outOf 0 99 x3 τ3) fun r6 τ5 =>
        kEq r6 0
          (kRd τ5 27 24 ((x1 * 12) + x2) fun y7 =>
           kWr τ5 27 24 ((x1 * 12) + x2) x3 fun τ8 =>
           kCall (fP_weightsChanged τ8) fun _ τ9 =>
           kRetI y7 τ9)
          (kRetI (-3) τ5))
       (fP_weight_J14 τ3))
    (fP_weight_J14 τ1)
def fP_windows_J22 (σ : KM) : Option (Int × KM) :=
  kRetI (-3) σ
def fP_windows (x1 x2 : Int) (σ : KM) : Option (Int × KM) :=
  kCall (fP_outOf 4 128 x1 σ) fun r2 τ1 =>
  kEq r2 0
    (kCall (fP_outOf 4 128 x2 τ1) fun r4 τ3 =>
     kEq r4 0
       (kCall (fNo_end τ3) fun r6 τ5 =>
        kCall (fWi_beginsAhead r6 x2 τ5) fun r8 τ7 =>
        kLt 48 r8
          (kRetI (-4) τ7)
          (kWf τ7 5 0 x1 fun τ9 =>
           kWf τ9 5 1 x2 fun τ10 =>
           kCall (fP_notesChanged τ10) fun _ τ11 =>
           kCall (fP_freshWindows τ11) fun _ τ12 =>
           kRetI (τ12 5 2) τ12))
       (fP_windows_J22 τ3))
    (fP_windows_J22 τ1)
def fFi_moves (σ : KM) : Option (Int × KM) :=
  kMx 0 ((σ 8 12) - 1) fun y1 =>
  kRetI y1 σ
def fDe_leastOf_42_J27 (x2 : Int) (σ : KM) : Option (Int × KM) :=
  kRetI x2 σ
def fDe_leastOf_42_B5 (x1 x2 x3 : Int) (σ : KM) : Option ((Int × Int × KM) ⊕ (Int × KM)) :=
  kLt x3 24
    (kRd σ 42 1152 (x1 + x3) fun y1 =>
     kMn x2 y1 fun y2 =>
     kLet (x3 + 1) fun y3 =>
     some (.inl (y2, y3, σ)))
    (kExit (fDe_leastOf_42_J27 x2 σ))
def fDe_leastOf_42_L5 (x1 x2 x3 : Int) (σ : KM) : Option (Int × KM) := kIter (fun s => fDe_leastOf_42_B5 x1 s.1 s.2.1 s.2.2) kF (x2, x3, σ)
def fDe_leastOf_42 (x1 : Int) (σ : KM) : Option (Int × KM) :=
  fDe_leastOf_42_L5 x1 1000000000 0 σ
def fDe_cheapestMove_42_J46 (x4 : Int) (σ : KM) : Option (Int × KM) :=
  kRetI x4 σ
def fDe_cheapestMove_42_B7 (x2 x3 x4 x5 : Int) (σ : KM) : Option ((Int × Int × KM) ⊕ (Int × KM)) :=
  kLt x5 24
    (kRd σ 42 1152 (x2 + x5) fun y1 =>
     kRd σ 36 576 ((x5 * 24) + x3) fun y2 =>
     kMn x4 (y1 + y2) fun y3 =>
     kLet (x5 + 1) fun y4 =>
     some (.inl (y3, y4, σ)))
    (kExit (fDe_cheapestMove_42_J46 x4 σ))
def fDe_cheapestMove_42_L7 (x2 x3 x4 x5 : Int) (σ : KM) : Option (Int × KM) := kIter (fun s => fDe_cheapestMove_42_B7 x2 x3 s.1 s.2.1 s.2.2) kF (x4, x5, σ)
def fDe_cheapestMove_42 (x2 x3 : Int) (σ : KM) : Option (Int × KM) :=
  fDe_cheapestMove_42_L7 x2 x3 1000000000 0 σ
def fDe_goOn_J96 (σ : KM) : Option (Int × KM) :=
  kRetI 0 σ
def fDe_goOn_J66 (x2 x3 x4 x5 x6 : Int) (σ : KM) : Option ((Int × KM) ⊕ (Int × KM)) :=
  kRd σ 34 1152 ((x2 * 24) + x4) fun y1 =>
  kCall (fP_plus y1 x6 σ) fun r3 τ2 =>
  kWr τ2 42 1152 x5 r3 fun τ4 =>
  kLet (x4 + 1) fun y5 =>
  some (.inl (y5, τ4))
def fDe_goOn_B3 (x2 x3 x4 : Int) (σ : KM) : Option ((Int × KM) ⊕ (Int × KM)) :=
  kLt x4 24
    (kLet ((x3 * 24) + x4) fun y1 =>
     kRd σ 42 1152 y1 fun y2 =>
     kLt 0 x3
       (kRd σ 35 48 x2 fun y3 =>
        kEq y3 0
          (kCall (fDe_cheapestMove_42 ((y1 - x4) - 24) x4 σ) fun r5 τ4 =>
           kMn y2 r5 fun y6 =>
           fDe_goOn_J66 x2 x3 x4 y1 y6 τ4)
          (fDe_goOn_J66 x2 x3 x4 y1 y2 σ))
       (fDe_goOn_J66 x2 x3 x4 y1 y2 σ))
    (kExit (fDe_goOn_J96 σ))
def fDe_goOn_L3 (x2 x3 x4 : Int) (σ : KM) : Option (Int × KM) := kIter (fun s => fDe_goOn_B3 x2 x3 s.1 s.2) kF (x4, σ)
def fDe_goOn (x2 x3 : Int) (σ : KM) : Option (Int × KM) :=
  fDe_goOn_L3 x2 x3 0 σ
def fDe_countMoves_J119 (σ : KM) : Option (Int × KM) :=
  kWfz σ 9 4 1 fun τ1 =>
  kRetI 0 τ1
def fDe_countMoves_B91 (x2 x3 : Int) (σ : KM) : Option ((Int × KM) ⊕ (Int × KM)) :=
  kLt x3 x2
    (kCall (fDe_leastOf_42 (x3 * 24) σ) fun r2 τ1 =>
     kWr τ1 43 48 x3 r2 fun τ3 =>
     kLet (x3 + 1) fun y4 =>
     some (.inl (y4, τ3)))
    (kExit (fDe_countMoves_J119 σ))
def fDe_countMoves_L91 (x2 x3 : Int) (σ : KM) : Option (Int × KM) := kIter (fun s => fDe_countMoves_B91 x2 s.1 s.2) kF (x3, σ)
def fDe_countMoves_J89 (x2 : Int) (σ : KM) : Option (Int × KM) :=
  fDe_countMoves_L91 x2 0 σ
def fDe_countMoves_J83 (x2 x3 : Int) (σ : KM) : Option ((Int × KM) ⊕ (Int × KM)) :=
  kLet (x3 + 1) fun y1 =>
  some (.inl (y1, σ))
def fDe_countMoves_B64 (x2 x3 x4 : Int) (σ : KM) : Option ((Int × KM) ⊕ ((Int × KM) ⊕ (Int × KM))) :=
  kLt x4 0
    (kExit (fDe_countMoves_J83 x2 x3 σ))
    (kCall (fDe_goOn x3 x4 σ) fun _ τ1 =>
     kLet (x4 + (-1)) fun y2 =>
     some (.inl (y2, τ1)))
def fDe_countMoves_L64 (x2 x3 x4 : Int) (σ : KM) : Option ((Int × KM) ⊕ (Int × KM)) := kIter (fun s => fDe_countMoves_B64 x2 x3 s.1 s.2) kF (x4, σ)
def fDe_countMoves_B51 (x2 x3 : Int) (σ : KM) : Option ((Int × KM) ⊕ (Int × KM)) :=
  kLt x3 (σ 8 1)
    (kLet (x2 - 1) fun y1 =>
     fDe_countMoves_L64 x2 x3 y1 σ)
    (kExit (fDe_countMoves_J89 x2 σ))
def fDe_countMoves_L51 (x2 x3 : Int) (σ : KM) : Option (Int × KM) := kIter (fun s => fDe_countMoves_B51 x2 s.1 s.2) kF (x3, σ)
def fDe_countMoves_J49 (x2 : Int) (σ : KM) : Option (Int × KM) :=
  fDe_countMoves_L51 x2 1 σ
def fDe_countMoves_B20 (x2 x3 : Int) (σ : KM) : Option ((Int × KM) ⊕ (Int × KM)) :=
  kLt x3 (x2 * 24)
    (kRm x3 24 fun y1 =>
     kRd σ 34 1152 y1 fun y2 =>
     kWr σ 42 1152 x3 y2 fun τ3 =>
     kLet (x3 + 1) fun y4 =>
     some (.inl (y4, τ3)))
    (kExit (fDe_countMoves_J49 x2 σ))
def fDe_countMoves_L20 (x2 x3 : Int) (σ : KM) : Option (Int × KM) := kIter (fun s => fDe_countMoves_B20 x2 s.1 s.2) kF (x3, σ)
def fDe_countMoves (σ : KM) : Option (Int × KM) :=
  kEq (σ 9 4) 0
    (kCall (fFi_moves σ) fun r2 τ1 =>
     kMn 48 r2 fun y3 =>
     fDe_countMoves_L20 y3 0 τ1)
    (kRetI 0 σ)
def fP_within (x1 : Int) (σ : KM) : Option (Int × KM) :=
  kCall (fP_outOf 0 47 x1 σ) fun r2 τ1 =>
  kEq r2 0
    (kCall (fP_noPath τ1) fun r4 τ3 =>
     kEq r4 0
       (kCall (fFi_moves τ3) fun r6 τ5 =>
        kLt x1 r6
          (kCall (fDe_countMoves τ5) fun _ τ7 =>
           kRd τ7 43 48 x1 fun y8 =>
           kCall (fP_toldCost y8 τ7) fun r10 τ9 =>
           kRetI r10 τ9)
          (kRetI (τ5 8 8) τ5))
       (kRetI (-5) τ3))
    (kRetI (-3) τ1)
def fM_theEnd_J53 (x1 : Int) (σ : KM) : Option (Int × KM) :=
  kRetI x1 σ
def fM_theEnd_J46 (x2 t0 : Int) (σ : KM) : Option ((Int × Int × KM) ⊕ (Int × KM)) :=
  kLet (x2 + 1) fun y1 =>
  some (.inl (t0, y1, σ))
def fM_theEnd_B4 (x1 x2 : Int) (σ : KM) : Option ((Int × Int × KM) ⊕ (Int × KM)) :=
  kLt x2 (σ 10 7)
    (kRd σ 45 100 x2 fun y1 =>
     kRd σ 46 100 x2 fun y2 =>
     kLt x1 (y1 + y2)
       (kRd σ 45 100 x2 fun y3 =>
        kRd σ 46 100 x2 fun y4 =>
        fM_theEnd_J46 x2 (y3 + y4) σ)
       (fM_theEnd_J46 x2 x1 σ))
    (kExit (fM_theEnd_J53 x1 σ))
def fM_theEnd_L4 (x1 x2 : Int) (σ : KM) : Option (Int × KM) := kIter (fun s => fM_theEnd_B4 s.1 s.2.1 s.2.2) kF (x1, x2, σ)
def fM_theEnd (σ : KM) : Option (Int × KM) :=
  fM_theEnd_L4 0 0 σ
def fM_windowsBy (x1 : Int) (σ : KM) : Option (Int × KM) :=
  kCall (fM_theEnd σ) fun r2 τ1 =>
  kDv ((r2 + x1) - 1) x1 fun y3 =>
  kRetI y3 τ1
def fM_windowMany_J21 (t0 : Int) (σ : KM) : Option (Int × KM) :=
  kRetI t0 σ
def fM_windowMany (σ : KM) : Option (Int × KM) :=
  kCall (fM_windowsBy (σ 10 12) σ) fun r2 τ1 =>
  kLt 48 r2
    (fM_windowMany_J21 48 τ1)
    (fM_windowMany_J21 r2 τ1)
def fM_isIn_J18 (t0 : Int) (σ : KM) : Option (Int × KM) :=
  kRetZ t0 σ
def fM_isIn_J17 (σ : KM) : Option (Int × KM) :=
  fM_isIn_J18 0 σ
def fM_isIn (x0 x2 x4 : Int) (σ : KM) : Option (Int × KM) :=
  kCk6 x0 x2 <|
  kLt (kcmp x0 x2) 0
    (fM_isIn_J17 σ)
    (kCk6 x0 x4 <|
     kLt 0 (kcmp x0 x4)
       (fM_isIn_J17 σ)
       (fM_isIn_J18 1 σ))
def fM_isWindow (x1 : Int) (σ : KM) : Option (Int × KM) :=
  kCk x1 <|
  kCall (fM_windowMany σ) fun r2 τ1 =>
  kCk (r2 - 1) <|
  kCall (fM_isIn x1 0 (r2 - 1) τ1) fun r4 τ3 =>
  kRetZ r4 τ3
def fM_counted_J146 (σ : KM) : Option (Int × KM) :=
  kRetI 0 σ
def fM_counted_J140 (x1 x2 x3 : Int) (σ : KM) : Option ((Int × KM) ⊕ (Int × KM)) :=
  kLet (x3 + 1) fun y1 =>
  some (.inl (y1, σ))
def fM_counted_J92 (x1 x2 x3 x4 t0 : Int) (σ : KM) : Option ((Int × KM) ⊕ (Int × KM)) :=
  kLt x4 t0
    (kRd σ 47 100 x3 fun y1 =>
     kRm y1 12 fun y2 =>
     kRd σ 55 12 y2 fun y3 =>
     kWr σ 55 12 y2 (y3 + (t0 - x4)) fun τ4 =>
     kWf τ4 10 27 ((τ4 10 27) + (t0 - x4)) fun τ5 =>
     fM_counted_J140 x1 x2 x3 τ5)
    (fM_counted_J140 x1 x2 x3 σ)
def fM_counted_J56 (x1 x2 x3 t0 : Int) (σ : KM) : Option ((Int × KM) ⊕ (Int × KM)) :=
  kRd σ 45 100 x3 fun y1 =>
  kRd σ 46 100 x3 fun y2 =>
  kLt (y1 + y2) x2
    (kRd σ 45 100 x3 fun y3 =>
     kRd σ 46 100 x3 fun y4 =>
     fM_counted_J92 x1 x2 x3 t0 (y3 + y4) σ)
    (fM_counted_J92 x1 x2 x3 t0 x2 σ)
def fM_counted_B28 (x1 x2 x3 : Int) (σ : KM) : Option ((Int × KM) ⊕ (Int × KM)) :=
  kLt x3 (σ 10 7)
    (kRd σ 45 100 x3 fun y1 =>
     kLt x1 y1
       (kRd σ 45 100 x3 fun y2 =>
        fM_counted_J56 x1 x2 x3 y2 σ)
       (fM_counted_J56 x1 x2 x3 x1 σ))
    (kExit (fM_counted_J146 σ))
def fM_counted_L28 (x1 x2 x3 : Int) (σ : KM) : Option (Int × KM) := kIter (fun s => fM_counted_B28 x1 x2 s.1 s.2) kF (x3, σ)
def fM_counted_J26 (x1 x2 : Int) (σ : KM) : Option (Int × KM) :=
  fM_counted_L28 x1 x2 0 σ
def fM_counted_B7 (x1 x2 x3 : Int) (σ : KM) : Option ((Int × KM) ⊕ (Int × KM)) :=
  kLt x3 12
    (kWr σ 55 12 x3 0 fun τ1 =>
     kLet (x3 + 1) fun y2 =>
     some (.inl (y2, τ1)))
    (kExit (fM_counted_J26 x1 x2 σ))
def fM_counted_L7 (x1 x2 x3 : Int) (σ : KM) : Option (Int × KM) := kIter (fun s => fM_counted_B7 x1 x2 s.1 s.2) kF (x3, σ)
def fM_counted (x1 x2 : Int) (σ : KM) : Option (Int × KM) :=
  kWf σ 10 27 0 fun τ1 =>
  fM_counted_L7 x1 x2 0 τ1
def fM_countedIn (x1 : Int) (σ : KM) : Option (Int × KM) :=
  kCall (fM_counted ((σ 10 12) * x1) (((σ 10 12) * x1) + (σ 10 11)) σ) fun _ τ1 =>
  kRetI 0 τ1
def fM_toneOf_J41 (x0 t0 : Int) (σ : KM) : Option (Int × KM) :=
  kDv x0 3 fun y1 =>
  kRm (y1 + t0) 12 fun y2 =>
  kRetI y2 σ
def fM_toneOf (x0 x1 : Int) (σ : KM) : Option (Int × KM) :=
  kRm x0 3 fun y1 =>
  kEq x1 0
    (fM_toneOf_J41 x0 0 σ)
    (kEq x1 1
       (kEq y1 0
          (fM_toneOf_J41 x0 4 σ)
          (fM_toneOf_J41 x0 3 σ))
       (kEq y1 2
          (fM_toneOf_J41 x0 6 σ)
          (fM_toneOf_J41 x0 7 σ)))
def fM_chordNow_J75 (x1 : Int) (σ : KM) : Option (Int × KM) :=
  kRetI x1 σ
def fM_chordNow_J69 (x1 x2 x3 : Int) (σ : KM) : Option ((Int × Int × Int × KM) ⊕ (Int × KM)) :=
  kLet (x3 + 1) fun y1 =>
  some (.inl (x1, x2, y1, σ))
def fM_chordNow_B15 (x1 x2 x3 : Int) (σ : KM) : Option ((Int × Int × Int × KM) ⊕ (Int × KM)) :=
  kLt x3 36
    (kCall (fM_toneOf x3 0 σ) fun r2 τ1 =>
     kRd τ1 55 12 r2 fun y3 =>
     kCall (fM_toneOf x3 1 τ1) fun r5 τ4 =>
     kRd τ4 55 12 r5 fun y6 =>
     kCall (fM_toneOf x3 2 τ4) fun r8 τ7 =>
     kRd τ7 55 12 r8 fun y9 =>
     kLet ((y3 + y6) + y9) fun y10 =>
     kLt x2 y10
       (fM_chordNow_J69 x3 y10 x3 τ7)
       (fM_chordNow_J69 x1 x2 x3 τ7))
    (kExit (fM_chordNow_J75 x1 σ))
def fM_chordNow_L15 (x1 x2 x3 : Int) (σ : KM) : Option (Int × KM) := kIter (fun s => fM_chordNow_B15 s.1 s.2.1 s.2.2.1 s.2.2.2) kF (x1, x2, x3, σ)
def fM_chordNow (σ : KM) : Option (Int × KM) :=
  kEq (σ 10 27) 0
    (kRetI (-1) σ)
    (fM_chordNow_L15 0 (-1) 0 σ)
def fM_chord (x1 : Int) (σ : KM) : Option (Int × KM) :=
  kWf σ 10 0 0 fun τ1 =>
  kCall (fM_isWindow x1 τ1) fun r3 τ2 =>
  kEq r3 0
    (kRetI (-2) τ2)
    (kCall (fM_countedIn x1 τ2) fun _ τ4 =>
     kCall (fM_chordNow τ4) fun r6 τ5 =>
     kRetI r6 τ5)
def fM_next_J61 (t0 t1 : Int) (σ : KM) : Option (Int × KM) :=
  kRetI (t1 + t0) σ
def fM_next_J79 (t0 t1 : Int) (σ : KM) : Option (Int × KM) :=
  kRetI (t1 + t0) σ
def fM_next_J104 (t0 : Int) (σ : KM) : Option (Int × KM) :=
  kRetI t0 σ
def fM_next_J117 (t0 : Int) (σ : KM) : Option (Int × KM) :=
  kRetI t0 σ
def fM_next_J16 (x0 x1 x2 t0 : Int) (σ : KM) : Option (Int × KM) :=
  kSw x1 0 [
    kRm (x2 + 7) 12 fun y1 =>
    kEq t0 0
      (fM_next_J61 0 y1 σ)
      (fM_next_J61 12 y1 σ),
    kRm (x2 + 5) 12 fun y2 =>
    kEq t0 0
      (fM_next_J79 0 y2 σ)
      (fM_next_J79 12 y2 σ),
    kEq t0 0
      (kRm (x2 + 9) 12 fun y3 =>
       fM_next_J104 (y3 + 12) σ)
      (kRm (x2 + 3) 12 fun y4 =>
       fM_next_J104 y4 σ)
    ]
    (kEq t0 0
       (fM_next_J117 (x0 + 12) σ)
       (fM_next_J117 x2 σ))
def fM_next (x0 x1 : Int) (σ : KM) : Option (Int × KM) :=
  kRm x0 12 fun y1 =>
  kLt x0 12
    (fM_next_J16 x0 x1 y1 0 σ)
    (fM_next_J16 x0 x1 y1 1 σ)
def fM_costs_J28 (t0 : Int) (σ : KM) : Option (Int × KM) :=
  kRetI t0 σ
def fM_costs (x1 : Int) (σ : KM) : Option (Int × KM) :=
  kLt x1 2
    (fM_costs_J28 (σ 10 13) σ)
    (kEq x1 2
       (fM_costs_J28 (σ 10 14) σ)
       (fM_costs_J28 (σ 10 15) σ))
def fM_laysFar_J183 (σ : KM) : Option (Int × KM) :=
  kRetI 0 σ
def fM_laysFar_J180 (x2 : Int) (σ : KM) : Option ((Int × KM) ⊕ (Int × KM)) :=
  some (.inl (x2, σ))
def fM_laysFar_J174 (x2 x3 : Int) (σ : KM) : Option ((Int × Int × KM) ⊕ ((Int × KM) ⊕ (Int × KM))) :=
  kLet (x3 + 1) fun y1 =>
  some (.inl (x2, y1, σ))
def fM_laysFar_J168 (x2 x3 x4 : Int) (σ : KM) : Option ((Int × Int × KM) ⊕ ((Int × Int × KM) ⊕ ((Int × KM) ⊕ (Int × KM)))) :=
  kLet (x4 + 1) fun y1 =>
  some (.inl (x2, y1, σ))
def fM_laysFar_J143 (x3 x4 x5 x6 : Int) (σ : KM) : Option ((Int × Int × KM) ⊕ ((Int × Int × KM) ⊕ ((Int × KM) ⊕ (Int × KM)))) :=
  kWr σ 56 24 x3 x6 fun τ1 =>
  kRd τ1 57 24 x5 fun y2 =>
  kWr τ1 57 24 x3 (y2 + 1) fun τ3 =>
  fM_laysFar_J168 1 x3 x4 τ3
def fM_laysFar_B55 (x3 x2 x4 : Int) (σ : KM) : Option ((Int × Int × KM) ⊕ ((Int × Int × KM) ⊕ ((Int × KM) ⊕ (Int × KM)))) :=
  kLt x4 4
    (kCall (fM_next x3 x4 σ) fun r2 τ1 =>
     kRd τ1 56 24 r2 fun y3 =>
     kEq y3 1000000000
       (fM_laysFar_J168 x2 x3 x4 τ1)
       (kRd τ1 56 24 r2 fun y4 =>
        kCall (fM_costs x4 τ1) fun r6 τ5 =>
        kLet (y4 + r6) fun y7 =>
        kRd τ5 56 24 x3 fun y8 =>
        kLt y8 y7
          (fM_laysFar_J168 x2 x3 x4 τ5)
          (kRd τ5 56 24 x3 fun y9 =>
           kEq y7 y9
             (kRd τ5 57 24 r2 fun y10 =>
              kRd τ5 57 24 x3 fun y11 =>
              kLt (y10 + 1) y11
                (fM_laysFar_J143 x3 x4 r2 y7 τ5)
                (fM_laysFar_J168 x2 x3 x4 τ5))
             (fM_laysFar_J143 x3 x4 r2 y7 τ5))))
    (kExit (fM_laysFar_J174 x2 x3 σ))
def fM_laysFar_L55 (x3 x2 x4 : Int) (σ : KM) : Option ((Int × Int × KM) ⊕ ((Int × KM) ⊕ (Int × KM))) := kIter (fun s => fM_laysFar_B55 x3 s.1 s.2.1 s.2.2) kF (x2, x4, σ)
def fM_laysFar_B46 (x2 x3 : Int) (σ : KM) : Option ((Int × Int × KM) ⊕ ((Int × KM) ⊕ (Int × KM))) :=
  kLt x3 24
    (fM_laysFar_L55 x3 x2 0 σ)
    (kExit (fM_laysFar_J180 x2 σ))
def fM_laysFar_L46 (x2 x3 : Int) (σ : KM) : Option ((Int × KM) ⊕ (Int × KM)) := kIter (fun s => fM_laysFar_B46 s.1 s.2.1 s.2.2) kF (x2, x3, σ)
def fM_laysFar_B38 (x2 : Int) (σ : KM) : Option ((Int × KM) ⊕ (Int × KM)) :=
  kEq x2 0
    (kExit (fM_laysFar_J183 σ))
    (fM_laysFar_L46 0 0 σ)
def fM_laysFar_L38 (x2 : Int) (σ : KM) : Option (Int × KM) := kIter (fun s => fM_laysFar_B38 s.1 s.2) kF (x2, σ)
def fM_laysFar_J22 (x1 : Int) (σ : KM) : Option (Int × KM) :=
  kWr σ 56 24 x1 0 fun τ1 =>
  kWr τ1 57 24 x1 0 fun τ2 =>
  fM_laysFar_L38 1 τ2
def fM_laysFar_B2 (x1 x2 : Int) (σ : KM) : Option ((Int × KM) ⊕ (Int × KM)) :=
  kLt x2 24
    (kWr σ 56 24 x2 1000000000 fun τ1 =>
     kLet (x2 + 1) fun y2 =>
     some (.inl (y2, τ1)))
    (kExit (fM_laysFar_J22 x1 σ))
def fM_laysFar_L2 (x1 x2 : Int) (σ : KM) : Option (Int × KM) := kIter (fun s => fM_laysFar_B2 x1 s.1 s.2) kF (x2, σ)
def fM_laysFar (x1 : Int) (σ : KM) : Option (Int × KM) :=
  fM_laysFar_L2 x1 0 σ
def fM_laysNet_J50 (σ : KM) : Option (Int × KM) :=
  kRetI 0 σ
def fM_laysNet_J44 (x1 : Int) (σ : KM) : Option ((Int × KM) ⊕ (Int × KM)) :=
  kLet (x1 + 1) fun y1 =>
  some (.inl (y1, σ))
def fM_laysNet_B15 (x1 x2 : Int) (σ : KM) : Option ((Int × KM) ⊕ ((Int × KM) ⊕ (Int × KM))) :=
  kLt x2 24
    (kRd σ 56 24 x2 fun y1 =>
     kWr σ 58 576 ((24 * x2) + x1) y1 fun τ2 =>
     kLet (x2 + 1) fun y3 =>
     some (.inl (y3, τ2)))
    (kExit (fM_laysNet_J44 x1 σ))
def fM_laysNet_L15 (x1 x2 : Int) (σ : KM) : Option ((Int × KM) ⊕ (Int × KM)) := kIter (fun s => fM_laysNet_B15 x1 s.1 s.2) kF (x2, σ)
def fM_laysNet_B2 (x1 : Int) (σ : KM) : Option ((Int × KM) ⊕ (Int × KM)) :=
  kLt x1 24
    (kCall (fM_laysFar x1 σ) fun _ τ1 =>
     fM_laysNet_L15 x1 0 τ1)
    (kExit (fM_laysNet_J50 σ))
def fM_laysNet_L2 (x1 : Int) (σ : KM) : Option (Int × KM) := kIter (fun s => fM_laysNet_B2 s.1 s.2) kF (x1, σ)
def fM_laysNet (σ : KM) : Option (Int × KM) :=
  fM_laysNet_L2 0 σ
def fM_matched_J51 (x2 : Int) (σ : KM) : Option (Int × KM) :=
  kRetI x2 σ
def fM_matched_B4 (x1 x2 x3 : Int) (σ : KM) : Option ((Int × Int × KM) ⊕ (Int × KM)) :=
  kLt x3 12
    (kRd σ 55 12 x3 fun y1 =>
     kDv x1 12 fun y2 =>
     kRm x1 12 fun y3 =>
     kRm ((x3 - y3) + 12) 12 fun y4 =>
     kRd σ 52 24 ((y2 * 12) + y4) fun y5 =>
     kLet (x2 + (y1 * y5)) fun y6 =>
     kLet (x3 + 1) fun y7 =>
     some (.inl (y6, y7, σ)))
    (kExit (fM_matched_J51 x2 σ))
def fM_matched_L4 (x1 x2 x3 : Int) (σ : KM) : Option (Int × KM) := kIter (fun s => fM_matched_B4 x1 s.1 s.2.1 s.2.2) kF (x2, x3, σ)
def fM_matched (x1 : Int) (σ : KM) : Option (Int × KM) :=
  fM_matched_L4 x1 0 0 σ
def fM_fitted_J24 (t0 : Int) (σ : KM) : Option (Int × KM) :=
  kRetI t0 σ
def fM_fitted (x1 : Int) (σ : KM) : Option (Int × KM) :=
  kEq (σ 10 27) 0
    (fM_fitted_J24 0 σ)
    (kCall (fM_matched x1 σ) fun r2 τ1 =>
     kDv (100 * r2) (τ1 10 27) fun y3 =>
     fM_fitted_J24 y3 τ1)
def fM_laysOwn_J143 (σ : KM) : Option (Int × KM) :=
  kRetI 0 σ
def fM_laysOwn_J137 (x1 : Int) (σ : KM) : Option ((Int × KM) ⊕ (Int × KM)) :=
  kLet (x1 + 1) fun y1 =>
  some (.inl (y1, σ))
def fM_laysOwn_J130 (x1 x2 x3 t0 t1 : Int) (σ : KM) : Option ((Int × KM) ⊕ ((Int × KM) ⊕ (Int × KM))) :=
  kWr σ 59 1152 t1 t0 fun τ1 =>
  kLet (x3 + 1) fun y2 =>
  some (.inl (y2, τ1))
def fM_laysOwn_J123 (x1 x2 x3 t0 : Int) (σ : KM) : Option ((Int × KM) ⊕ ((Int × KM) ⊕ (Int × KM))) :=
  kCall (fM_fitted x3 σ) fun r2 τ1 =>
  fM_laysOwn_J130 x1 x2 x3 (x2 - r2) t0 τ1
def fM_laysOwn_B82 (x1 x2 x3 : Int) (σ : KM) : Option ((Int × KM) ⊕ ((Int × KM) ⊕ (Int × KM))) :=
  kLt x3 24
    (kRd σ 53 48 x1 fun y1 =>
     kEq y1 (-1)
       (fM_laysOwn_J123 x1 x2 x3 ((24 * x1) + x3) σ)
       (kRd σ 53 48 x1 fun y2 =>
        kEq y2 x3
          (fM_laysOwn_J123 x1 x2 x3 ((24 * x1) + x3) σ)
          (fM_laysOwn_J130 x1 x2 x3 1000000000 ((24 * x1) + x3) σ)))
    (kExit (fM_laysOwn_J137 x1 σ))
def fM_laysOwn_L82 (x1 x2 x3 : Int) (σ : KM) : Option ((Int × KM) ⊕ (Int × KM)) := kIter (fun s => fM_laysOwn_B82 x1 x2 s.1 s.2) kF (x3, σ)
def fM_laysOwn_J80 (x1 x2 : Int) (σ : KM) : Option ((Int × KM) ⊕ (Int × KM)) :=
  fM_laysOwn_L82 x1 x2 0 σ
def fM_laysOwn_J73 (x1 x3 t0 : Int) (σ : KM) : Option ((Int × Int × KM) ⊕ ((Int × KM) ⊕ (Int × KM))) :=
  kLet (x3 + 1) fun y1 =>
  some (.inl (t0, y1, σ))
def fM_laysOwn_B49 (x1 x2 x3 : Int) (σ : KM) : Option ((Int × Int × KM) ⊕ ((Int × KM) ⊕ (Int × KM))) :=
  kLt x3 24
    (kCall (fM_fitted x3 σ) fun r2 τ1 =>
     kLt x2 r2
       (kCall (fM_fitted x3 τ1) fun r4 τ3 =>
        fM_laysOwn_J73 x1 x3 r4 τ3)
       (fM_laysOwn_J73 x1 x3 x2 τ1))
    (kExit (fM_laysOwn_J80 x1 x2 σ))
def fM_laysOwn_L49 (x1 x2 x3 : Int) (σ : KM) : Option ((Int × KM) ⊕ (Int × KM)) := kIter (fun s => fM_laysOwn_B49 x1 s.1 s.2.1 s.2.2) kF (x2, x3, σ)
def fM_laysOwn_J44 (x1 t0 t1 : Int) (σ : KM) : Option ((Int × KM) ⊕ (Int × KM)) :=
  kWz σ 64 48 t1 t0 fun τ1 =>
  fM_laysOwn_L49 x1 0 0 τ1
def fM_laysOwn_B14 (x1 : Int) (σ : KM) : Option ((Int × KM) ⊕ (Int × KM)) :=
  kLt x1 (σ 10 37)
    (kCall (fM_countedIn x1 σ) fun _ τ1 =>
     kEq (τ1 10 27) 0
       (fM_laysOwn_J44 x1 1 x1 τ1)
       (fM_laysOwn_J44 x1 0 x1 τ1))
    (kExit (fM_laysOwn_J143 σ))
def fM_laysOwn_L14 (x1 : Int) (σ : KM) : Option (Int × KM) := kIter (fun s => fM_laysOwn_B14 s.1 s.2) kF (x1, σ)
def fM_laysOwn (σ : KM) : Option (Int × KM) :=
  kCall (fM_laysNet σ) fun _ τ1 =>
  kCall (fM_windowMany τ1) fun r3 τ2 =>
  kWf τ2 10 37 r3 fun τ4 =>
  fM_laysOwn_L14 0 τ4
def fM_moves_J33 (t0 : Int) (σ : KM) : Option (Int × KM) :=
  kRetI t0 σ
def fM_moves_J19 (x1 x2 x4 : Int) (σ : KM) : Option (Int × KM) :=
  kRd σ 58 576 ((24 * x1) + x2) fun y1 =>
  fM_moves_J33 (y1 * x4) σ
def fM_moves (x1 x2 x3 x4 : Int) (σ : KM) : Option (Int × KM) :=
  kRd σ 64 48 x3 fun y1 =>
  kEq y1 0
    (fM_moves_J19 x1 x2 x4 σ)
    (kEq x1 x2
       (fM_moves_J19 x1 x2 x4 σ)
       (fM_moves_J33 1000000000 σ))
def fM_added_J20 (t0 : Int) (σ : KM) : Option (Int × KM) :=
  kRetI t0 σ
def fM_added_J12 (σ : KM) : Option (Int × KM) :=
  fM_added_J20 1000000000 σ
def fM_added (x0 x1 : Int) (σ : KM) : Option (Int × KM) :=
  kLt x0 1000000000
    (kLt x1 1000000000
       (fM_added_J20 (x0 + x1) σ)
       (fM_added_J12 σ))
    (fM_added_J12 σ)
def fM_laysPath_J426 (σ : KM) : Option (Int × KM) :=
  kRetZ 1 σ
def fM_laysPath_J386 (x1 x3 x4 : Int) (σ : KM) : Option ((Int × Int × KM) ⊕ (Int × KM)) :=
  kWr σ 63 48 x3 x4 fun τ1 =>
  kRd τ1 61 1152 ((24 * x3) + x4) fun y2 =>
  kRd τ1 59 1152 ((24 * x3) + x4) fun y3 =>
  kLet (y2 - y3) fun y4 =>
  kLet (x3 + 1) fun y5 =>
  some (.inl (y4, y5, τ1))
def fM_laysPath_J361 (x1 x2 x3 x4 t0 : Int) (σ : KM) : Option ((Int × KM) ⊕ ((Int × Int × KM) ⊕ (Int × KM))) :=
  kRd σ 61 1152 ((24 * x3) + x4) fun y1 =>
  kCall (fM_added t0 y1 σ) fun r3 τ2 =>
  kEq r3 x2
    (kExit (fM_laysPath_J386 x1 x3 x4 τ2))
    (kLet (x4 + 1) fun y4 =>
     some (.inl (y4, τ2)))
def fM_laysPath_B337 (x1 x2 x3 x4 : Int) (σ : KM) : Option ((Int × KM) ⊕ ((Int × Int × KM) ⊕ (Int × KM))) :=
  kEq x3 0
    (fM_laysPath_J361 x1 x2 x3 x4 0 σ)
    (kRd σ 63 48 (x3 - 1) fun y1 =>
     kCall (fM_moves y1 x4 x3 x1 σ) fun r3 τ2 =>
     fM_laysPath_J361 x1 x2 x3 x4 r3 τ2)
def fM_laysPath_L337 (x1 x2 x3 x4 : Int) (σ : KM) : Option ((Int × Int × KM) ⊕ (Int × KM)) := kIter (fun s => fM_laysPath_B337 x1 x2 x3 s.1 s.2) kF (x4, σ)
def fM_laysPath_B326 (x1 x2 x3 : Int) (σ : KM) : Option ((Int × Int × KM) ⊕ (Int × KM)) :=
  kLt x3 (σ 10 37)
    (fM_laysPath_L337 x1 x2 x3 0 σ)
    (kExit (fM_laysPath_J426 σ))
def fM_laysPath_L326 (x1 x2 x3 : Int) (σ : KM) : Option (Int × KM) := kIter (fun s => fM_laysPath_B326 x1 s.1 s.2.1 s.2.2) kF (x2, x3, σ)
def fM_laysPath_J308 (x1 : Int) (σ : KM) : Option (Int × KM) :=
  kLt (σ 10 38) 1000000000
    (kLet (σ 10 38) fun y1 =>
     fM_laysPath_L326 x1 y1 0 σ)
    (kRetZ 0 σ)
def fM_laysPath_J299 (x1 x2 t0 : Int) (σ : KM) : Option ((Int × KM) ⊕ (Int × KM)) :=
  kWf σ 10 38 t0 fun τ1 =>
  kLet (x2 + 1) fun y2 =>
  some (.inl (y2, τ1))
def fM_laysPath_B259 (x1 x2 : Int) (σ : KM) : Option ((Int × KM) ⊕ (Int × KM)) :=
  kLt x2 24
    (kLt 0 (σ 10 37)
       (kRd σ 61 1152 x2 fun y1 =>
        kLt y1 (σ 10 38)
          (kRd σ 61 1152 x2 fun y2 =>
           fM_laysPath_J299 x1 x2 y2 σ)
          (fM_laysPath_J299 x1 x2 (σ 10 38) σ))
       (kExit (fM_laysPath_J308 x1 σ)))
    (kExit (fM_laysPath_J308 x1 σ))
def fM_laysPath_L259 (x1 x2 : Int) (σ : KM) : Option (Int × KM) := kIter (fun s => fM_laysPath_B259 x1 s.1 s.2) kF (x2, σ)
def fM_laysPath_J254 (x1 t0 : Int) (σ : KM) : Option (Int × KM) :=
  kWf σ 10 38 t0 fun τ1 =>
  fM_laysPath_L259 x1 0 τ1
def fM_laysPath_J240 (x1 : Int) (σ : KM) : Option (Int × KM) :=
  kEq (σ 10 37) 0
    (fM_laysPath_J254 x1 0 σ)
    (fM_laysPath_J254 x1 1000000000 σ)
def fM_laysPath_J234 (x1 x2 : Int) (σ : KM) : Option ((Int × KM) ⊕ (Int × KM)) :=
  kLet (x2 + (-1)) fun y1 =>
  some (.inl (y1, σ))
def fM_laysPath_J200 (x1 x2 x3 x4 x5 x6 : Int) (σ : KM) : Option ((Int × KM) ⊕ ((Int × KM) ⊕ (Int × KM))) :=
  kRd σ 59 1152 x4 fun y1 =>
  kCall (fM_added y1 x5 σ) fun r3 τ2 =>
  kWr τ2 61 1152 x4 r3 fun τ4 =>
  kWr τ4 62 1152 x4 x6 fun τ5 =>
  kLet (x3 + 1) fun y6 =>
  some (.inl (y6, τ5))
def fM_laysPath_J194 (x1 x2 x3 x4 x5 x6 x7 : Int) (σ : KM) : Option ((Int × Int × Int × KM) ⊕ ((Int × KM) ⊕ ((Int × KM) ⊕ (Int × KM)))) :=
  kLet (x7 + 1) fun y1 =>
  some (.inl (x5, x6, y1, σ))
def fM_laysPath_J188 (x1 x2 x3 x4 x7 x8 t0 : Int) (σ : KM) : Option ((Int × Int × Int × KM) ⊕ ((Int × KM) ⊕ ((Int × KM) ⊕ (Int × KM)))) :=
  fM_laysPath_J194 x1 x2 x3 x4 x8 t0 x7 σ
def fM_laysPath_J170 (x1 x2 x3 x4 x7 x8 t0 : Int) (σ : KM) : Option ((Int × Int × Int × KM) ⊕ ((Int × KM) ⊕ ((Int × KM) ⊕ (Int × KM)))) :=
  kLt 1000000 t0
    (fM_laysPath_J188 x1 x2 x3 x4 x7 x8 1000000 σ)
    (fM_laysPath_J188 x1 x2 x3 x4 x7 x8 t0 σ)
def fM_laysPath_B65 (x1 x2 x3 x4 x5 x6 x7 : Int) (σ : KM) : Option ((Int × Int × Int × KM) ⊕ ((Int × KM) ⊕ ((Int × KM) ⊕ (Int × KM)))) :=
  kLt x7 24
    (kLt (x2 + 1) (σ 10 37)
       (kCall (fM_moves x3 x7 (x2 + 1) x1 σ) fun r2 τ1 =>
        kRd τ1 61 1152 ((24 * (x2 + 1)) + x7) fun y3 =>
        kCall (fM_added r2 y3 τ1) fun r5 τ4 =>
        kLt r5 1000000000
          (kLt x5 r5
             (fM_laysPath_J194 x1 x2 x3 x4 x5 x6 x7 τ4)
             (kLt r5 x5
                (kRd τ4 62 1152 ((24 * (x2 + 1)) + x7) fun y7 =>
                 fM_laysPath_J170 x1 x2 x3 x4 x7 r5 y7 τ4)
                (kRd τ4 62 1152 ((24 * (x2 + 1)) + x7) fun y6 =>
                 fM_laysPath_J170 x1 x2 x3 x4 x7 r5 (x6 + y6) τ4)))
          (fM_laysPath_J194 x1 x2 x3 x4 x5 x6 x7 τ4))
       (kExit (fM_laysPath_J200 x1 x2 x3 x4 x5 x6 σ)))
    (kExit (fM_laysPath_J200 x1 x2 x3 x4 x5 x6 σ))
def fM_laysPath_L65 (x1 x2 x3 x4 x5 x6 x7 : Int) (σ : KM) : Option ((Int × KM) ⊕ ((Int × KM) ⊕ (Int × KM))) := kIter (fun s => fM_laysPath_B65 x1 x2 x3 x4 s.1 s.2.1 s.2.2.1 s.2.2.2) kF (x5, x6, x7, σ)
def fM_laysPath_J60 (x1 x2 x3 x4 x5 t0 : Int) (σ : KM) : Option ((Int × KM) ⊕ ((Int × KM) ⊕ (Int × KM))) :=
  fM_laysPath_L65 x1 x2 x3 x4 x5 t0 0 σ
def fM_laysPath_J43 (x1 x2 x3 x4 t0 : Int) (σ : KM) : Option ((Int × KM) ⊕ ((Int × KM) ⊕ (Int × KM))) :=
  kEq x2 ((σ 10 37) - 1)
    (fM_laysPath_J60 x1 x2 x3 x4 t0 1 σ)
    (fM_laysPath_J60 x1 x2 x3 x4 t0 0 σ)
def fM_laysPath_B13 (x1 x2 x3 : Int) (σ : KM) : Option ((Int × KM) ⊕ ((Int × KM) ⊕ (Int × KM))) :=
  kLt x3 24
    (kLet ((24 * x2) + x3) fun y1 =>
     kEq x2 ((σ 10 37) - 1)
       (fM_laysPath_J43 x1 x2 x3 y1 0 σ)
       (fM_laysPath_J43 x1 x2 x3 y1 1000000000 σ))
    (kExit (fM_laysPath_J234 x1 x2 σ))
def fM_laysPath_L13 (x1 x2 x3 : Int) (σ : KM) : Option ((Int × KM) ⊕ (Int × KM)) := kIter (fun s => fM_laysPath_B13 x1 x2 s.1 s.2) kF (x3, σ)
def fM_laysPath_B7 (x1 x2 : Int) (σ : KM) : Option ((Int × KM) ⊕ (Int × KM)) :=
  kLt x2 0
    (kExit (fM_laysPath_J240 x1 σ))
    (fM_laysPath_L13 x1 x2 0 σ)
def fM_laysPath_L7 (x1 x2 : Int) (σ : KM) : Option (Int × KM) := kIter (fun s => fM_laysPath_B7 x1 s.1 s.2) kF (x2, σ)
def fM_laysPath (x1 : Int) (σ : KM) : Option (Int × KM) :=
  kLet ((σ 10 37) - 1) fun y1 =>
  fM_laysPath_L7 x1 y1 σ
def fM_hasPath (σ : KM) : Option (Int × KM) :=
  kCall (fM_laysOwn σ) fun _ τ1 =>
  kCall (fM_laysPath (τ1 10 16) τ1) fun r3 τ2 =>
  kRetZ r3 τ2
def fM_degreeOf_J234 (t0 : Int) (σ : KM) : Option (Int × KM) :=
  kRetI t0 σ
def fM_degreeOf_J300 (σ : KM) : Option (Int × KM) :=
  kRetI (-1) σ
def fM_degreeOf_J245 (t0 : Int) (σ : KM) : Option (Int × KM) :=
  kRetI t0 σ
def fM_degreeOf_J255 (t0 : Int) (σ : KM) : Option (Int × KM) :=
  kRetI t0 σ
def fM_degreeOf_J266 (t0 : Int) (σ : KM) : Option (Int × KM) :=
  kRetI t0 σ
def fM_degreeOf_J277 (t0 : Int) (σ : KM) : Option (Int × KM) :=
  kRetI t0 σ
def fM_degreeOf_J288 (t0 : Int) (σ : KM) : Option (Int × KM) :=
  kRetI t0 σ
def fM_degreeOf_J299 (t0 : Int) (σ : KM) : Option (Int × KM) :=
  kRetI t0 σ
def fM_degreeOf_J97 (t0 : Int) (σ : KM) : Option (Int × KM) :=
  kRetI t0 σ
def fM_degreeOf_J164 (σ : KM) : Option (Int × KM) :=
  kRetI (-1) σ
def fM_degreeOf_J108 (t0 : Int) (σ : KM) : Option (Int × KM) :=
  kRetI t0 σ
def fM_degreeOf_J119 (t0 : Int) (σ : KM) : Option (Int × KM) :=
  kRetI t0 σ
def fM_degreeOf_J129 (t0 : Int) (σ : KM) : Option (Int × KM) :=
  kRetI t0 σ
def fM_degreeOf_J139 (t0 : Int) (σ : KM) : Option (Int × KM) :=
  kRetI t0 σ
def fM_degreeOf_J151 (t0 : Int) (σ : KM) : Option (Int × KM) :=
  kRetI t0 σ
def fM_degreeOf_J163 (t0 : Int) (σ : KM) : Option (Int × KM) :=
  kRetI t0 σ
def fM_degreeOf (x0 x1 : Int) (σ : KM) : Option (Int × KM) :=
  kDv x0 3 fun y1 =>
  kRm x1 12 fun y2 =>
  kRm ((y1 - y2) + 12) 12 fun y3 =>
  kRm x0 3 fun y4 =>
  kLt x1 12
    (kSw y3 0 [
       kEq y4 0
         (fM_degreeOf_J97 1 σ)
         (fM_degreeOf_J97 (-1) σ),
       fM_degreeOf_J164 σ,
       kEq y4 1
         (fM_degreeOf_J108 2 σ)
         (fM_degreeOf_J108 (-1) σ),
       fM_degreeOf_J164 σ,
       kEq y4 1
         (fM_degreeOf_J119 3 σ)
         (fM_degreeOf_J119 (-1) σ),
       kEq y4 0
         (fM_degreeOf_J129 4 σ)
         (fM_degreeOf_J129 (-1) σ),
       fM_degreeOf_J164 σ,
       kEq y4 0
         (fM_degreeOf_J139 5 σ)
         (fM_degreeOf_J139 (-1) σ),
       fM_degreeOf_J164 σ,
       kEq y4 1
         (fM_degreeOf_J151 6 σ)
         (fM_degreeOf_J151 (-1) σ),
       fM_degreeOf_J164 σ,
       kEq y4 2
         (fM_degreeOf_J163 7 σ)
         (fM_degreeOf_J163 (-1) σ)
       ]
       (fM_degreeOf_J164 σ))
    (kSw y3 0 [
       kEq y4 1
         (fM_degreeOf_J234 1 σ)
         (fM_degreeOf_J234 (-1) σ),
       fM_degreeOf_J300 σ,
       kEq y4 2
         (fM_degreeOf_J245 2 σ)
         (fM_degreeOf_J245 (-1) σ),
       kEq y4 0
         (fM_degreeOf_J255 3 σ)
         (fM_degreeOf_J255 (-1) σ),
       fM_degreeOf_J300 σ,
       kEq y4 1
         (fM_degreeOf_J266 4 σ)
         (fM_degreeOf_J266 (-1) σ),
       fM_degreeOf_J300 σ,
       kLt y4 2
         (fM_degreeOf_J277 5 σ)
         (fM_degreeOf_J277 (-1) σ),
       kEq y4 0
         (fM_degreeOf_J288 6 σ)
         (fM_degreeOf_J288 (-1) σ),
       fM_degreeOf_J300 σ,
       kEq y4 0
         (fM_degreeOf_J299 7 σ)
         (fM_degreeOf_J299 (-1) σ)
       ]
       (fM_degreeOf_J300 σ))
def fM_close_J146 (t0 : Int) (σ : KM) : Option (Int × KM) :=
  kRetI t0 σ
def fM_close_J132 (x2 x3 : Int) (σ : KM) : Option (Int × KM) :=
  kCall (fM_degreeOf x2 x3 σ) fun r2 τ1 =>
  kEq r2 5
    (fM_close_J146 1 τ1)
    (fM_close_J146 0 τ1)
def fM_close_J105 (x2 x3 x4 : Int) (σ : KM) : Option (Int × KM) :=
  kCall (fM_degreeOf x2 x3 σ) fun r2 τ1 =>
  kEq r2 1
    (kEq x4 x2
       (fM_close_J132 x2 x3 τ1)
       (kCall (fM_degreeOf x4 x3 τ1) fun r4 τ3 =>
        kEq r4 5
          (kRetI 2 τ3)
          (fM_close_J132 x2 x3 τ3)))
    (fM_close_J132 x2 x3 τ1)
def fM_close_J100 (x1 x2 x3 t0 : Int) (σ : KM) : Option ((Int × Int × KM) ⊕ (Int × KM)) :=
  some (.inl (x1, t0, σ))
def fM_close_B67 (x2 x3 x1 x4 : Int) (σ : KM) : Option ((Int × Int × KM) ⊕ (Int × KM)) :=
  kLt 0 x1
    (kEq x4 x2
       (kLet (x1 + (-1)) fun y1 =>
        kCall (fM_countedIn y1 σ) fun _ τ2 =>
        kEq (τ2 10 27) 0
          (fM_close_J100 y1 x2 x3 x2 τ2)
          (kCall (fM_chordNow τ2) fun r4 τ3 =>
           fM_close_J100 y1 x2 x3 r4 τ3))
       (kExit (fM_close_J105 x2 x3 x4 σ)))
    (kExit (fM_close_J105 x2 x3 x4 σ))
def fM_close_L67 (x2 x3 x1 x4 : Int) (σ : KM) : Option (Int × KM) := kIter (fun s => fM_close_B67 x2 x3 s.1 s.2.1 s.2.2) kF (x1, x4, σ)
def fM_close_J41 (x1 : Int) (σ : KM) : Option (Int × KM) :=
  kLt x1 0
    (kRetI (-1) σ)
    (kCall (fM_countedIn x1 σ) fun _ τ1 =>
     kCall (fM_chordNow τ1) fun r3 τ2 =>
     kRd τ2 63 48 x1 fun y4 =>
     fM_close_L67 r3 y4 x1 r3 τ2)
def fM_close_B22 (x1 : Int) (σ : KM) : Option ((Int × KM) ⊕ (Int × KM)) :=
  kLt x1 0
    (kExit (fM_close_J41 x1 σ))
    (kRd σ 64 48 x1 fun y1 =>
     kEq y1 0
       (kExit (fM_close_J41 x1 σ))
       (kLet (x1 + (-1)) fun y2 =>
        some (.inl (y2, σ))))
def fM_close_L22 (x1 : Int) (σ : KM) : Option (Int × KM) := kIter (fun s => fM_close_B22 s.1 s.2) kF (x1, σ)
def fM_close (σ : KM) : Option (Int × KM) :=
  kWf σ 10 0 0 fun τ1 =>
  kCall (fM_hasPath τ1) fun r3 τ2 =>
  kEq r3 0
    (kRetI (-5) τ2)
    (kLet ((τ2 10 37) - 1) fun y4 =>
     fM_close_L22 y4 τ2)
def fM_segmentsNow_J54 (x1 : Int) (σ : KM) : Option (Int × KM) :=
  kRetI x1 σ
def fM_segmentsNow_J46 (x2 t0 t1 : Int) (σ : KM) : Option ((Int × Int × KM) ⊕ (Int × KM)) :=
  kLet (t1 + t0) fun y1 =>
  kLet (x2 + 1) fun y2 =>
  some (.inl (y1, y2, σ))
def fM_segmentsNow_B15 (x1 x2 : Int) (σ : KM) : Option ((Int × Int × KM) ⊕ (Int × KM)) :=
  kLt x2 (σ 10 37)
    (kRd σ 63 48 x2 fun y1 =>
     kRd σ 63 48 (x2 - 1) fun y2 =>
     kEq y1 y2
       (fM_segmentsNow_J46 x2 0 x1 σ)
       (fM_segmentsNow_J46 x2 1 x1 σ))
    (kExit (fM_segmentsNow_J54 x1 σ))
def fM_segmentsNow_L15 (x1 x2 : Int) (σ : KM) : Option (Int × KM) := kIter (fun s => fM_segmentsNow_B15 s.1 s.2.1 s.2.2) kF (x1, x2, σ)
def fM_segmentsNow_J12 (t0 : Int) (σ : KM) : Option (Int × KM) :=
  fM_segmentsNow_L15 t0 1 σ
def fM_segmentsNow (σ : KM) : Option (Int × KM) :=
  kEq (σ 10 37) 0
    (fM_segmentsNow_J12 0 σ)
    (fM_segmentsNow_J12 1 σ)
def fM_firstOf_J50 (x3 : Int) (σ : KM) : Option (Int × KM) :=
  kRetI x3 σ
def fM_firstOf_J44 (x2 x3 : Int) (σ : KM) : Option ((Int × Int × KM) ⊕ (Int × KM)) :=
  kLet (x2 + (-1)) fun y1 =>
  some (.inl (y1, x3, σ))
def fM_firstOf_B4 (x2 x3 : Int) (σ : KM) : Option ((Int × Int × KM) ⊕ (Int × KM)) :=
  kLt x3 (σ 10 37)
    (kLt 0 x2
       (kLet (x3 + 1) fun y1 =>
        kEq y1 (σ 10 37)
          (fM_firstOf_J44 x2 y1 σ)
          (kRd σ 63 48 y1 fun y2 =>
           kRd σ 63 48 (y1 - 1) fun y3 =>
           kEq y2 y3
             (some (.inl (x2, y1, σ)))
             (fM_firstOf_J44 x2 y1 σ)))
       (kExit (fM_firstOf_J50 x3 σ)))
    (kExit (fM_firstOf_J50 x3 σ))
def fM_firstOf_L4 (x2 x3 : Int) (σ : KM) : Option (Int × KM) := kIter (fun s => fM_firstOf_B4 s.1 s.2.1 s.2.2) kF (x2, x3, σ)
def fM_firstOf (x1 : Int) (σ : KM) : Option (Int × KM) :=
  fM_firstOf_L4 x1 0 σ
def fM_romanNow_J29 (t0 : Int) (σ : KM) : Option (Int × KM) :=
  kRetI t0 σ
def fM_romanNow (x1 : Int) (σ : KM) : Option (Int × KM) :=
  kCall (fM_countedIn x1 σ) fun _ τ1 =>
  kEq (τ1 10 27) 0
    (fM_romanNow_J29 (-1) τ1)
    (kCall (fM_chordNow τ1) fun r3 τ2 =>
     kRd τ2 63 48 x1 fun y4 =>
     kCall (fM_degreeOf r3 y4 τ2) fun r6 τ5 =>
     fM_romanNow_J29 r6 τ5)
def fM_isBehindFifth_J72 (σ : KM) : Option (Int × KM) :=
  kRetZ 0 σ
def fM_isBehindFifth_J66 (x1 x3 x4 : Int) (σ : KM) : Option ((Int × KM) ⊕ (Int × KM)) :=
  kLet (x4 + (-1)) fun y1 =>
  some (.inl (y1, σ))
def fM_isBehindFifth_J65 (t0 : Int) (σ : KM) : Option (Int × KM) :=
  kRetZ t0 σ
def fM_isBehindFifth_J42 (x4 : Int) (σ : KM) : Option (Int × KM) :=
  kCall (fM_chordNow σ) fun r2 τ1 =>
  kRd τ1 63 48 x4 fun y3 =>
  kCall (fM_degreeOf r2 y3 τ1) fun r5 τ4 =>
  kEq r5 5
    (fM_isBehindFifth_J65 1 τ4)
    (fM_isBehindFifth_J65 0 τ4)
def fM_isBehindFifth_B15 (x1 x3 x4 : Int) (σ : KM) : Option ((Int × KM) ⊕ (Int × KM)) :=
  kLt x4 x1
    (kExit (fM_isBehindFifth_J72 σ))
    (kCall (fM_countedIn x4 σ) fun _ τ1 =>
     kLt 0 (τ1 10 27)
       (kCall (fM_chordNow τ1) fun r3 τ2 =>
        kEq r3 x3
          (fM_isBehindFifth_J66 x1 x3 x4 τ2)
          (kExit (fM_isBehindFifth_J42 x4 τ2)))
       (fM_isBehindFifth_J66 x1 x3 x4 τ1))
def fM_isBehindFifth_L15 (x1 x3 x4 : Int) (σ : KM) : Option (Int × KM) := kIter (fun s => fM_isBehindFifth_B15 x1 x3 s.1 s.2) kF (x4, σ)
def fM_isBehindFifth (x1 x2 : Int) (σ : KM) : Option (Int × KM) :=
  kCall (fM_countedIn x2 σ) fun _ τ1 =>
  kCall (fM_chordNow τ1) fun r3 τ2 =>
  kLet (x2 - 1) fun y4 =>
  fM_isBehindFifth_L15 x1 r3 y4 τ2
def fM_confirmed_J86 (σ : KM) : Option (Int × KM) :=
  kRetI (-1) σ
def fM_confirmed_J80 (x2 x3 x4 : Int) (σ : KM) : Option ((Int × KM) ⊕ (Int × KM)) :=
  kLet (x4 + 1) fun y1 =>
  some (.inl (y1, σ))
def fM_confirmed_J77 (x4 : Int) (σ : KM) : Option (Int × KM) :=
  kRetI x4 σ
def fM_confirmed_B51 (x2 x3 x4 : Int) (σ : KM) : Option ((Int × KM) ⊕ (Int × KM)) :=
  kLt x4 x3
    (kCall (fM_romanNow x4 σ) fun r2 τ1 =>
     kEq r2 1
       (kCall (fM_isBehindFifth x2 x4 τ1) fun r4 τ3 =>
        kEq r4 0
          (fM_confirmed_J80 x2 x3 x4 τ3)
          (kExit (fM_confirmed_J77 x4 τ3)))
       (fM_confirmed_J80 x2 x3 x4 τ1))
    (kExit (fM_confirmed_J86 σ))
def fM_confirmed_L51 (x2 x3 x4 : Int) (σ : KM) : Option (Int × KM) := kIter (fun s => fM_confirmed_B51 x2 x3 s.1 s.2) kF (x4, σ)
def fM_confirmed (x1 : Int) (σ : KM) : Option (Int × KM) :=
  kWf σ 10 0 0 fun τ1 =>
  kCall (fM_hasPath τ1) fun r3 τ2 =>
  kEq r3 0
    (kRetI (-5) τ2)
    (kCk x1 <|
     kCall (fM_segmentsNow τ2) fun r5 τ4 =>
     kCk (r5 - 1) <|
     kCall (fM_isIn x1 0 (r5 - 1) τ4) fun r7 τ6 =>
     kEq r7 0
       (kRetI (-2) τ6)
       (kCall (fM_firstOf x1 τ6) fun r9 τ8 =>
        kCall (fM_firstOf (x1 + 1) τ8) fun r11 τ10 =>
        fM_confirmed_L51 r9 r11 r9 τ10))
def fM_cost_J21 (t0 : Int) (σ : KM) : Option (Int × KM) :=
  kRetI t0 σ
def fM_cost (σ : KM) : Option (Int × KM) :=
  kWf σ 10 0 0 fun τ1 =>
  kCall (fM_hasPath τ1) fun r3 τ2 =>
  kEq r3 0
    (fM_cost_J21 (-5) τ2)
    (fM_cost_J21 (τ2 10 38) τ2)
def fM_count_J141 (x2 : Int) (σ : KM) : Option (Int × KM) :=
  kRetI x2 σ
def fM_count_J133 (x3 t0 t1 : Int) (σ : KM) : Option ((Int × Int × KM) ⊕ (Int × KM)) :=
  kLet (t1 + t0) fun y1 =>
  kLet (x3 + 1) fun y2 =>
  some (.inl (y1, y2, σ))
def fM_count_B107 (x2 x3 : Int) (σ : KM) : Option ((Int × Int × KM) ⊕ (Int × KM)) :=
  kCall (fM_windowMany σ) fun r2 τ1 =>
  kLt x3 r2
    (kCall (fM_countedIn x3 τ1) fun _ τ3 =>
     kEq (τ3 10 27) 0
       (fM_count_J133 x3 1 x2 τ3)
       (fM_count_J133 x3 0 x2 τ3))
    (kExit (fM_count_J141 x2 τ1))
def fM_count_L107 (x2 x3 : Int) (σ : KM) : Option (Int × KM) := kIter (fun s => fM_count_B107 s.1 s.2.1 s.2.2) kF (x2, x3, σ)
def fM_count (x1 : Int) (σ : KM) : Option (Int × KM) :=
  kWf σ 10 0 0 fun τ1 =>
  kSw x1 0 [
    kRetI (τ1 10 7) τ1,
    kCall (fM_windowMany τ1) fun r3 τ2 =>
    kRetI r3 τ2,
    kCall (fM_theEnd τ1) fun r5 τ4 =>
    kRetI r5 τ4,
    kRetI (τ1 10 10) τ1,
    kRetI (τ1 10 20) τ1,
    kRetI (τ1 10 11) τ1,
    kRetI (τ1 10 12) τ1,
    fM_count_L107 0 0 τ1,
    kRetI (τ1 10 13) τ1,
    kRetI (τ1 10 14) τ1,
    kRetI (τ1 10 15) τ1,
    kRetI (τ1 10 16) τ1
    ]
    (kRetI (-1) τ1)
def fM_isTriad (x0 : Int) (σ : KM) : Option (Int × KM) :=
  kCk x0 <|
  kCall (fM_isIn x0 0 35 σ) fun r2 τ1 =>
  kRetZ r2 τ1
def fM_isKey (x0 : Int) (σ : KM) : Option (Int × KM) :=
  kCk x0 <|
  kCall (fM_isIn x0 0 23 σ) fun r2 τ1 =>
  kRetZ r2 τ1
def fM_degree_J29 (t0 : Int) (σ : KM) : Option (Int × KM) :=
  kRetI t0 σ
def fM_degree_J27 (σ : KM) : Option (Int × KM) :=
  fM_degree_J29 (-2) σ
def fM_degree (x1 x2 : Int) (σ : KM) : Option (Int × KM) :=
  kWf σ 10 0 0 fun τ1 =>
  kCall (fM_isTriad x1 τ1) fun r3 τ2 =>
  kEq r3 0
    (fM_degree_J27 τ2)
    (kCall (fM_isKey x2 τ2) fun r5 τ4 =>
     kEq r5 0
       (fM_degree_J27 τ4)
       (kCall (fM_degreeOf x1 x2 τ4) fun r7 τ6 =>
        fM_degree_J29 r7 τ6))
def fM_distance_J19 (σ : KM) : Option (Int × KM) :=
  kRetI (-2) σ
def fM_distance (x1 x2 : Int) (σ : KM) : Option (Int × KM) :=
  kWf σ 10 0 0 fun τ1 =>
  kCall (fM_isKey x1 τ1) fun r3 τ2 =>
  kEq r3 0
    (fM_distance_J19 τ2)
    (kCall (fM_isKey x2 τ2) fun r5 τ4 =>
     kEq r5 0
       (fM_distance_J19 τ4)
       (kCall (fM_laysFar x2 τ4) fun _ τ6 =>
        kRd τ6 56 24 x1 fun y7 =>
        kRetI (y7 * (τ6 10 16)) τ6))
def fM_isNote (x1 : Int) (σ : KM) : Option (Int × KM) :=
  kCk x1 <|
  kCk ((σ 10 7) - 1) <|
  kCall (fM_isIn x1 0 ((σ 10 7) - 1) σ) fun r2 τ1 =>
  kRetZ r2 τ1
def fM_notesAct_J134 (σ : KM) : Option (Int × KM) :=
  kWf σ 10 10 ((σ 10 10) + 1) fun τ1 =>
  kRetI 0 τ1
def fM_notesAct_B71 (x1 x2 : Int) (σ : KM) : Option ((Int × KM) ⊕ (Int × KM)) :=
  kLt x2 100
    (kRd σ 45 100 x2 fun y1 =>
     kWr σ 51 3010 ((x1 + 1) + x2) y1 fun τ2 =>
     kRd τ2 46 100 x2 fun y3 =>
     kWr τ2 51 3010 ((x1 + 101) + x2) y3 fun τ4 =>
     kRd τ4 47 100 x2 fun y5 =>
     kWr τ4 51 3010 ((x1 + 201) + x2) y5 fun τ6 =>
     kLet (x2 + 1) fun y7 =>
     some (.inl (y7, τ6)))
    (kExit (fM_notesAct_J134 σ))
def fM_notesAct_L71 (x1 x2 : Int) (σ : KM) : Option (Int × KM) := kIter (fun s => fM_notesAct_B71 x1 s.1 s.2) kF (x2, σ)
def fM_notesAct_J50 (σ : KM) : Option (Int × KM) :=
  kLet (301 * (σ 10 10)) fun y1 =>
  kWr σ 51 3010 y1 (σ 10 7) fun τ2 =>
  fM_notesAct_L71 y1 0 τ2
def fM_notesAct_J40 (σ : KM) : Option (Int × KM) :=
  kWf σ 10 10 ((σ 10 10) - 1) fun τ1 =>
  fM_notesAct_J50 τ1
def fM_notesAct_B11 (x1 : Int) (σ : KM) : Option ((Int × KM) ⊕ (Int × KM)) :=
  kLt x1 2709
    (kRd σ 51 3010 (x1 + 301) fun y1 =>
     kWr σ 51 3010 x1 y1 fun τ2 =>
     kLet (x1 + 1) fun y3 =>
     some (.inl (y3, τ2)))
    (kExit (fM_notesAct_J40 σ))
def fM_notesAct_L11 (x1 : Int) (σ : KM) : Option (Int × KM) := kIter (fun s => fM_notesAct_B11 s.1 s.2) kF (x1, σ)
def fM_notesAct (σ : KM) : Option (Int × KM) :=
  kEq (σ 10 10) 10
    (fM_notesAct_L11 0 σ)
    (fM_notesAct_J50 σ)
def fM_drop_J88 (σ : KM) : Option (Int × KM) :=
  kRetI (σ 10 7) σ
def fM_drop_B32 (x2 : Int) (σ : KM) : Option ((Int × KM) ⊕ (Int × KM)) :=
  kLt x2 (σ 10 7)
    (kRd σ 45 100 (x2 + 1) fun y1 =>
     kWr σ 45 100 x2 y1 fun τ2 =>
     kRd τ2 46 100 (x2 + 1) fun y3 =>
     kWr τ2 46 100 x2 y3 fun τ4 =>
     kRd τ4 47 100 (x2 + 1) fun y5 =>
     kWr τ4 47 100 x2 y5 fun τ6 =>
     kLet (x2 + 1) fun y7 =>
     some (.inl (y7, τ6)))
    (kExit (fM_drop_J88 σ))
def fM_drop_L32 (x2 : Int) (σ : KM) : Option (Int × KM) := kIter (fun s => fM_drop_B32 s.1 s.2) kF (x2, σ)
def fM_drop (x1 : Int) (σ : KM) : Option (Int × KM) :=
  kWf σ 10 0 0 fun τ1 =>
  kCall (fM_isNote x1 τ1) fun r3 τ2 =>
  kEq r3 0
    (kRetI (-2) τ2)
    (kCall (fM_notesAct τ2) fun _ τ4 =>
     kWf τ4 10 7 ((τ4 10 7) - 1) fun τ5 =>
     fM_drop_L32 x1 τ5)
def fM_fault_J29 (t0 : Int) (σ : KM) : Option (Int × KM) :=
  kRetI t0 σ
def fM_fault (x1 : Int) (σ : KM) : Option (Int × KM) :=
  kWf σ 10 0 0 fun τ1 =>
  kEq x1 0
    (fM_fault_J29 (τ1 10 23) τ1)
    (kEq x1 1
       (fM_fault_J29 (τ1 10 24) τ1)
       (fM_fault_J29 (-1) τ1))
def fM_feed_J118 (σ : KM) : Option (Int × KM) :=
  kRetI (σ 10 20) σ
def fM_feed_J77 (x1 x2 x3 x4 x5 x6 t0 : Int) (σ : KM) : Option ((Int × KM) ⊕ (Int × KM)) :=
  kRm x6 4 fun y1 =>
  kShr t0 (24 - (8 * y1)) fun y2 =>
  kWb σ 54 700 (σ 10 20) (kI2b y2) fun τ3 =>
  kWf τ3 10 20 ((τ3 10 20) + 1) fun τ4 =>
  kLet (x6 + 1) fun y5 =>
  some (.inl (y5, τ4))
def fM_feed_B24 (x1 x2 x3 x4 x5 x6 : Int) (σ : KM) : Option ((Int × KM) ⊕ (Int × KM)) :=
  kLt x6 20
    (kLt x6 4
       (fM_feed_J77 x1 x2 x3 x4 x5 x6 x1 σ)
       (kLt x6 8
          (fM_feed_J77 x1 x2 x3 x4 x5 x6 x2 σ)
          (kLt x6 12
             (fM_feed_J77 x1 x2 x3 x4 x5 x6 x3 σ)
             (kLt x6 16
                (fM_feed_J77 x1 x2 x3 x4 x5 x6 x4 σ)
                (fM_feed_J77 x1 x2 x3 x4 x5 x6 x5 σ)))))
    (kExit (fM_feed_J118 σ))
def fM_feed_L24 (x1 x2 x3 x4 x5 x6 : Int) (σ : KM) : Option (Int × KM) := kIter (fun s => fM_feed_B24 x1 x2 x3 x4 x5 s.1 s.2) kF (x6, σ)
def fM_feed (x1 x2 x3 x4 x5 : Int) (σ : KM) : Option (Int × KM) :=
  kWf σ 10 0 0 fun τ1 =>
  kLt 700 ((τ1 10 20) + 20)
    (kRetI (-4) τ1)
    (fM_feed_L24 x1 x2 x3 x4 x5 0 τ1)
def fM_firm_J53 (σ : KM) : Option (Int × KM) :=
  kRetI (-1) σ
def fM_firm_J45 (x1 : Int) (σ : KM) : Option (Int × KM) :=
  kRetI x1 σ
def fM_firm_B25 (x1 : Int) (σ : KM) : Option ((Int × KM) ⊕ (Int × KM)) :=
  kLt 100 x1
    (kExit (fM_firm_J53 σ))
    (kCall (fM_laysPath x1 σ) fun r2 τ1 =>
     kCall (fM_segmentsNow τ1) fun r4 τ3 =>
     kLt 1 r4
       (kLet (x1 + 1) fun y5 =>
        some (.inl (y5, τ3)))
       (kExit (fM_firm_J45 x1 τ3)))
def fM_firm_L25 (x1 : Int) (σ : KM) : Option (Int × KM) := kIter (fun s => fM_firm_B25 s.1 s.2) kF (x1, σ)
def fM_firm (σ : KM) : Option (Int × KM) :=
  kWf σ 10 0 0 fun τ1 =>
  kCall (fM_laysOwn τ1) fun _ τ2 =>
  kCall (fM_laysPath (τ2 10 16) τ2) fun r4 τ3 =>
  kEq r4 0
    (kRetI (-5) τ3)
    (fM_firm_L25 0 τ3)
def fM_fit_J20 (σ : KM) : Option (Int × KM) :=
  kRetI (-2) σ
def fM_fit (x1 x2 : Int) (σ : KM) : Option (Int × KM) :=
  kWf σ 10 0 0 fun τ1 =>
  kCall (fM_isWindow x1 τ1) fun r3 τ2 =>
  kEq r3 0
    (fM_fit_J20 τ2)
    (kCall (fM_isKey x2 τ2) fun r5 τ4 =>
     kEq r5 0
       (fM_fit_J20 τ4)
       (kCall (fM_countedIn x1 τ4) fun _ τ6 =>
        kCall (fM_fitted x2 τ6) fun r8 τ7 =>
        kRetI r8 τ7))
def fM_isOn_J28 (t0 : Int) (σ : KM) : Option (Int × KM) :=
  kRetZ t0 σ
def fM_isOn_J13 (x0 t0 : Int) (σ : KM) : Option (Int × KM) :=
  kShr t0 x0 fun y1 =>
  kAnd y1 1 fun y2 =>
  kEq y2 1
    (fM_isOn_J28 1 σ)
    (fM_isOn_J28 0 σ)
def fM_isOn (x0 x1 : Int) (σ : KM) : Option (Int × KM) :=
  kEq x1 0
    (fM_isOn_J13 x0 2741 σ)
    (fM_isOn_J13 x0 1453 σ)
def fM_foreign_J20 (σ : KM) : Option (Int × KM) :=
  kRetI (-2) σ
def fM_foreign_J90 (x3 : Int) (σ : KM) : Option (Int × KM) :=
  kRetI x3 σ
def fM_foreign_J82 (x2 x4 t0 t1 : Int) (σ : KM) : Option ((Int × Int × KM) ⊕ (Int × KM)) :=
  kLet (t1 + t0) fun y1 =>
  kLet (x4 + 1) fun y2 =>
  some (.inl (y1, y2, σ))
def fM_foreign_J65 (x2 x4 t0 t1 t2 : Int) (σ : KM) : Option ((Int × Int × KM) ⊕ (Int × KM)) :=
  kCall (fM_isOn t1 t0 σ) fun r2 τ1 =>
  kEq r2 0
    (kRd τ1 55 12 x4 fun y3 =>
     fM_foreign_J82 x2 x4 y3 t2 τ1)
    (fM_foreign_J82 x2 x4 0 t2 τ1)
def fM_foreign_B33 (x2 x3 x4 : Int) (σ : KM) : Option ((Int × Int × KM) ⊕ (Int × KM)) :=
  kLt x4 12
    (kRm x2 12 fun y1 =>
     kRm ((x4 - y1) + 12) 12 fun y2 =>
     kLt x2 12
       (fM_foreign_J65 x2 x4 0 y2 x3 σ)
       (fM_foreign_J65 x2 x4 1 y2 x3 σ))
    (kExit (fM_foreign_J90 x3 σ))
def fM_foreign_L33 (x2 x3 x4 : Int) (σ : KM) : Option (Int × KM) := kIter (fun s => fM_foreign_B33 x2 s.1 s.2.1 s.2.2) kF (x3, x4, σ)
def fM_foreign (x1 x2 : Int) (σ : KM) : Option (Int × KM) :=
  kWf σ 10 0 0 fun τ1 =>
  kCall (fM_isWindow x1 τ1) fun r3 τ2 =>
  kEq r3 0
    (fM_foreign_J20 τ2)
    (kCall (fM_isKey x2 τ2) fun r5 τ4 =>
     kEq r5 0
       (fM_foreign_J20 τ4)
       (kCall (fM_countedIn x1 τ4) fun _ τ6 =>
        fM_foreign_L33 x2 0 0 τ6))
def fM_key_J34 (t0 : Int) (σ : KM) : Option (Int × KM) :=
  kRetI t0 σ
def fM_key (x1 : Int) (σ : KM) : Option (Int × KM) :=
  kWf σ 10 0 0 fun τ1 =>
  kCall (fM_isWindow x1 τ1) fun r3 τ2 =>
  kEq r3 0
    (kRetI (-2) τ2)
    (kCall (fM_hasPath τ2) fun r5 τ4 =>
     kEq r5 0
       (fM_key_J34 (-5) τ4)
       (kRd τ4 63 48 x1 fun y6 =>
        fM_key_J34 y6 τ4))
def fM_leastOf_J52 (t0 : Int) (σ : KM) : Option (Int × KM) :=
  kRetI t0 σ
def fM_leastOf_J41 (x3 : Int) (σ : KM) : Option (Int × KM) :=
  kLt x3 1000000000
    (fM_leastOf_J52 x3 σ)
    (fM_leastOf_J52 (-1) σ)
def fM_leastOf_J34 (x2 x4 t0 : Int) (σ : KM) : Option ((Int × Int × KM) ⊕ (Int × KM)) :=
  kLet (x4 + 1) fun y1 =>
  some (.inl (t0, y1, σ))
def fM_leastOf_B6 (x2 x3 x4 : Int) (σ : KM) : Option ((Int × Int × KM) ⊕ (Int × KM)) :=
  kLt x4 x2
    (kRd σ 65 1152 x4 fun y1 =>
     kLt y1 x3
       (kRd σ 65 1152 x4 fun y2 =>
        fM_leastOf_J34 x2 x4 y2 σ)
       (fM_leastOf_J34 x2 x4 x3 σ))
    (kExit (fM_leastOf_J41 x3 σ))
def fM_leastOf_L6 (x2 x3 x4 : Int) (σ : KM) : Option (Int × KM) := kIter (fun s => fM_leastOf_B6 x2 s.1 s.2.1 s.2.2) kF (x3, x4, σ)
def fM_leastOf (x1 x2 : Int) (σ : KM) : Option (Int × KM) :=
  fM_leastOf_L6 x2 1000000000 x1 σ
def fM_turns_J28 (σ : KM) : Option (Int × KM) :=
  kRetI 0 σ
def fM_turns_B2 (x1 x2 : Int) (σ : KM) : Option ((Int × KM) ⊕ (Int × KM)) :=
  kLt x2 (24 * x1)
    (kRd σ 66 1152 x2 fun y1 =>
     kWr σ 65 1152 x2 y1 fun τ2 =>
     kLet (x2 + 1) fun y3 =>
     some (.inl (y3, τ2)))
    (kExit (fM_turns_J28 σ))
def fM_turns_L2 (x1 x2 : Int) (σ : KM) : Option (Int × KM) := kIter (fun s => fM_turns_B2 x1 s.1 s.2) kF (x2, σ)
def fM_turns (x1 : Int) (σ : KM) : Option (Int × KM) :=
  fM_turns_L2 x1 0 σ
def fM_lasting_J346 (x1 : Int) (σ : KM) : Option (Int × KM) :=
  kCall (fM_leastOf (24 * (x1 - 1)) (24 * x1) σ) fun r2 τ1 =>
  kRetI r2 τ1
def fM_lasting_J335 (x1 x2 : Int) (σ : KM) : Option ((Int × KM) ⊕ (Int × KM)) :=
  kCall (fM_turns x1 σ) fun _ τ1 =>
  kLet (x2 + 1) fun y2 =>
  some (.inl (y2, τ1))
def fM_lasting_J329 (x1 x2 x3 : Int) (σ : KM) : Option ((Int × KM) ⊕ ((Int × KM) ⊕ (Int × KM))) :=
  kLet (x3 + 1) fun y1 =>
  some (.inl (y1, σ))
def fM_lasting_J323 (x1 x2 x3 x4 : Int) (σ : KM) : Option ((Int × KM) ⊕ ((Int × KM) ⊕ ((Int × KM) ⊕ (Int × KM)))) :=
  kLet (x4 + 1) fun y1 =>
  some (.inl (y1, σ))
def fM_lasting_J322 (x1 x2 x3 x4 t0 t1 : Int) (σ : KM) : Option ((Int × KM) ⊕ ((Int × KM) ⊕ ((Int × KM) ⊕ (Int × KM)))) :=
  kWr σ 66 1152 t1 t0 fun τ1 =>
  fM_lasting_J323 x1 x2 x3 x4 τ1
def fM_lasting_B234 (x1 x2 x3 x4 : Int) (σ : KM) : Option ((Int × KM) ⊕ ((Int × KM) ⊕ ((Int × KM) ⊕ (Int × KM)))) :=
  kLt x4 24
    (kEq x4 x3
       (fM_lasting_J323 x1 x2 x3 x4 σ)
       (kRd σ 65 1152 ((24 * (x1 - 1)) + x4) fun y1 =>
        kCall (fM_moves x4 x3 x2 (σ 10 16) σ) fun r3 τ2 =>
        kCall (fM_added y1 r3 τ2) fun r5 τ4 =>
        kRd τ4 59 1152 ((24 * x2) + x3) fun y6 =>
        kCall (fM_added r5 y6 τ4) fun r8 τ7 =>
        kRd τ7 66 1152 x3 fun y9 =>
        kLt r8 y9
          (fM_lasting_J322 x1 x2 x3 x4 r8 x3 τ7)
          (kRd τ7 66 1152 x3 fun y10 =>
           fM_lasting_J322 x1 x2 x3 x4 y10 x3 τ7)))
    (kExit (fM_lasting_J329 x1 x2 x3 σ))
def fM_lasting_L234 (x1 x2 x3 x4 : Int) (σ : KM) : Option ((Int × KM) ⊕ ((Int × KM) ⊕ (Int × KM))) := kIter (fun s => fM_lasting_B234 x1 x2 x3 s.1 s.2) kF (x4, σ)
def fM_lasting_B225 (x1 x2 x3 : Int) (σ : KM) : Option ((Int × KM) ⊕ ((Int × KM) ⊕ (Int × KM))) :=
  kLt x3 24
    (fM_lasting_L234 x1 x2 x3 0 σ)
    (kExit (fM_lasting_J335 x1 x2 σ))
def fM_lasting_L225 (x1 x2 x3 : Int) (σ : KM) : Option ((Int × KM) ⊕ (Int × KM)) := kIter (fun s => fM_lasting_B225 x1 x2 s.1 s.2) kF (x3, σ)
def fM_lasting_J223 (x1 x2 : Int) (σ : KM) : Option ((Int × KM) ⊕ (Int × KM)) :=
  fM_lasting_L225 x1 x2 0 σ
def fM_lasting_J217 (x1 x2 x3 : Int) (σ : KM) : Option ((Int × KM) ⊕ ((Int × KM) ⊕ (Int × KM))) :=
  kLet (x3 + 1) fun y1 =>
  some (.inl (y1, σ))
def fM_lasting_J210 (x1 x2 x3 x4 t0 t1 : Int) (σ : KM) : Option ((Int × KM) ⊕ ((Int × KM) ⊕ ((Int × KM) ⊕ (Int × KM)))) :=
  kWr σ 66 1152 t1 t0 fun τ1 =>
  kLet (x4 + 1) fun y2 =>
  some (.inl (y2, τ1))
def fM_lasting_J145 (x1 x2 x3 x4 t0 t1 : Int) (σ : KM) : Option ((Int × KM) ⊕ ((Int × KM) ⊕ ((Int × KM) ⊕ (Int × KM)))) :=
  kLet ((t1 * t0) + x4) fun y1 =>
  kRd σ 65 1152 ((24 * x3) + x4) fun y2 =>
  kRd σ 59 1152 ((24 * x2) + x4) fun y3 =>
  kCall (fM_added y2 y3 σ) fun r5 τ4 =>
  kRd τ4 66 1152 y1 fun y6 =>
  kLt r5 y6
    (fM_lasting_J210 x1 x2 x3 x4 r5 y1 τ4)
    (kRd τ4 66 1152 y1 fun y7 =>
     fM_lasting_J210 x1 x2 x3 x4 y7 y1 τ4)
def fM_lasting_B122 (x1 x2 x3 x4 : Int) (σ : KM) : Option ((Int × KM) ⊕ ((Int × KM) ⊕ ((Int × KM) ⊕ (Int × KM)))) :=
  kLt x4 24
    (kLt (x3 + 1) x1
       (fM_lasting_J145 x1 x2 x3 x4 (x3 + 1) 24 σ)
       (fM_lasting_J145 x1 x2 x3 x4 x3 24 σ))
    (kExit (fM_lasting_J217 x1 x2 x3 σ))
def fM_lasting_L122 (x1 x2 x3 x4 : Int) (σ : KM) : Option ((Int × KM) ⊕ ((Int × KM) ⊕ (Int × KM))) := kIter (fun s => fM_lasting_B122 x1 x2 x3 s.1 s.2) kF (x4, σ)
def fM_lasting_B114 (x1 x2 x3 : Int) (σ : KM) : Option ((Int × KM) ⊕ ((Int × KM) ⊕ (Int × KM))) :=
  kLt x3 x1
    (fM_lasting_L122 x1 x2 x3 0 σ)
    (kExit (fM_lasting_J223 x1 x2 σ))
def fM_lasting_L114 (x1 x2 x3 : Int) (σ : KM) : Option ((Int × KM) ⊕ (Int × KM)) := kIter (fun s => fM_lasting_B114 x1 x2 s.1 s.2) kF (x3, σ)
def fM_lasting_J112 (x1 x2 : Int) (σ : KM) : Option ((Int × KM) ⊕ (Int × KM)) :=
  fM_lasting_L114 x1 x2 0 σ
def fM_lasting_B90 (x1 x2 x3 : Int) (σ : KM) : Option ((Int × KM) ⊕ ((Int × KM) ⊕ (Int × KM))) :=
  kLt x3 (24 * x1)
    (kWr σ 66 1152 x3 1000000000 fun τ1 =>
     kLet (x3 + 1) fun y2 =>
     some (.inl (y2, τ1)))
    (kExit (fM_lasting_J112 x1 x2 σ))
def fM_lasting_L90 (x1 x2 x3 : Int) (σ : KM) : Option ((Int × KM) ⊕ (Int × KM)) := kIter (fun s => fM_lasting_B90 x1 x2 s.1 s.2) kF (x3, σ)
def fM_lasting_B80 (x1 x2 : Int) (σ : KM) : Option ((Int × KM) ⊕ (Int × KM)) :=
  kLt x2 (σ 10 37)
    (fM_lasting_L90 x1 x2 0 σ)
    (kExit (fM_lasting_J346 x1 σ))
def fM_lasting_L80 (x1 x2 : Int) (σ : KM) : Option (Int × KM) := kIter (fun s => fM_lasting_B80 x1 s.1 s.2) kF (x2, σ)
def fM_lasting_J78 (x1 : Int) (σ : KM) : Option (Int × KM) :=
  fM_lasting_L80 x1 1 σ
def fM_lasting_J71 (x1 x2 t0 t1 : Int) (σ : KM) : Option ((Int × KM) ⊕ (Int × KM)) :=
  kWr σ 65 1152 t1 t0 fun τ1 =>
  kLet (x2 + 1) fun y2 =>
  some (.inl (y2, τ1))
def fM_lasting_B41 (x1 x2 : Int) (σ : KM) : Option ((Int × KM) ⊕ (Int × KM)) :=
  kLt x2 (24 * x1)
    (kLt x2 24
       (kRd σ 59 1152 x2 fun y1 =>
        fM_lasting_J71 x1 x2 y1 x2 σ)
       (fM_lasting_J71 x1 x2 1000000000 x2 σ))
    (kExit (fM_lasting_J78 x1 σ))
def fM_lasting_L41 (x1 x2 : Int) (σ : KM) : Option (Int × KM) := kIter (fun s => fM_lasting_B41 x1 s.1 s.2) kF (x2, σ)
def fM_lasting (x1 : Int) (σ : KM) : Option (Int × KM) :=
  kWf σ 10 0 0 fun τ1 =>
  kCk x1 <|
  kCall (fM_isIn x1 1 16 τ1) fun r3 τ2 =>
  kEq r3 0
    (kRetI (-3) τ2)
    (kCall (fM_hasPath τ2) fun r5 τ4 =>
     kEq r5 0
       (kRetI (-5) τ4)
       (kEq (τ4 10 37) 0
          (kRetI 0 τ4)
          (fM_lasting_L41 x1 0 τ4)))
def fM_isMode_J14 (t0 : Int) (σ : KM) : Option (Int × KM) :=
  kRetZ t0 σ
def fM_isMode_J9 (σ : KM) : Option (Int × KM) :=
  fM_isMode_J14 1 σ
def fM_isMode (x0 : Int) (σ : KM) : Option (Int × KM) :=
  kEq x0 0
    (fM_isMode_J9 σ)
    (kEq x0 1
       (fM_isMode_J9 σ)
       (fM_isMode_J14 0 σ))
def fM_learnt_J24 (σ : KM) : Option (Int × KM) :=
  kRetI (-2) σ
def fM_learnt_J132 (t0 : Int) (σ : KM) : Option (Int × KM) :=
  kRetI t0 σ
def fM_learnt_J112 (x3 x4 : Int) (σ : KM) : Option (Int × KM) :=
  kEq x4 0
    (fM_learnt_J132 (-1) σ)
    (kCk x3 <|
     kCk x4 <|
     kDv6 (100 * x3) x4 fun y1 =>
     fM_learnt_J132 y1 σ)
def fM_learnt_J106 (x1 x2 x3 x4 x5 : Int) (σ : KM) : Option ((Int × Int × Int × KM) ⊕ (Int × KM)) :=
  kLet (x5 + 1) fun y1 =>
  some (.inl (x3, x4, y1, σ))
def fM_learnt_B45 (x1 x2 x3 x4 x5 : Int) (σ : KM) : Option ((Int × Int × Int × KM) ⊕ (Int × KM)) :=
  kLt x5 (σ 10 37)
    (kRd σ 63 48 x5 fun y1 =>
     kDv y1 12 fun y2 =>
     kEq y2 x1
       (kCall (fM_countedIn x5 σ) fun _ τ3 =>
        kRd τ3 63 48 x5 fun y4 =>
        kRm (y4 + x2) 12 fun y5 =>
        kRd τ3 55 12 y5 fun y6 =>
        kLet (x3 + y6) fun y7 =>
        kLet (x4 + (τ3 10 27)) fun y8 =>
        fM_learnt_J106 x1 x2 y7 y8 x5 τ3)
       (fM_learnt_J106 x1 x2 x3 x4 x5 σ))
    (kExit (fM_learnt_J112 x3 x4 σ))
def fM_learnt_L45 (x1 x2 x3 x4 x5 : Int) (σ : KM) : Option (Int × KM) := kIter (fun s => fM_learnt_B45 x1 x2 s.1 s.2.1 s.2.2.1 s.2.2.2) kF (x3, x4, x5, σ)
def fM_learnt (x1 x2 : Int) (σ : KM) : Option (Int × KM) :=
  kWf σ 10 0 0 fun τ1 =>
  kCall (fM_isMode x1 τ1) fun r3 τ2 =>
  kEq r3 0
    (fM_learnt_J24 τ2)
    (kCk x2 <|
     kCall (fM_isIn x2 0 11 τ2) fun r5 τ4 =>
     kEq r5 0
       (fM_learnt_J24 τ4)
       (kCall (fM_hasPath τ4) fun r7 τ6 =>
        kEq r7 0
          (kRetI (-5) τ6)
          (fM_learnt_L45 x1 x2 0 0 0 τ6)))
def fM_comes_J130 (x1 x2 x3 x4 : Int) (σ : KM) : Option (Int × KM) :=
  kWr σ 45 100 x4 x1 fun τ1 =>
  kWr τ1 46 100 x4 x2 fun τ2 =>
  kWr τ2 47 100 x4 x3 fun τ3 =>
  kWf τ3 10 7 ((τ3 10 7) + 1) fun τ4 =>
  kRetI x4 τ4
def fM_comes_J76 (x1 x2 x3 x4 : Int) (σ : KM) : Option ((Int × KM) ⊕ (Int × KM)) :=
  kRd σ 45 100 (x4 - 1) fun y1 =>
  kWr σ 45 100 x4 y1 fun τ2 =>
  kRd τ2 46 100 (x4 - 1) fun y3 =>
  kWr τ2 46 100 x4 y3 fun τ4 =>
  kRd τ4 47 100 (x4 - 1) fun y5 =>
  kWr τ4 47 100 x4 y5 fun τ6 =>
  kLet (x4 + (-1)) fun y7 =>
  some (.inl (y7, τ6))
def fM_comes_B6 (x1 x2 x3 x4 : Int) (σ : KM) : Option ((Int × KM) ⊕ (Int × KM)) :=
  kLt 0 x4
    (kRd σ 45 100 (x4 - 1) fun y1 =>
     kLt x1 y1
       (fM_comes_J76 x1 x2 x3 x4 σ)
       (kRd σ 45 100 (x4 - 1) fun y2 =>
        kEq y2 x1
          (kRd σ 47 100 (x4 - 1) fun y3 =>
           kLt x3 y3
             (fM_comes_J76 x1 x2 x3 x4 σ)
             (kRd σ 47 100 (x4 - 1) fun y4 =>
              kEq y4 x3
                (kRd σ 46 100 (x4 - 1) fun y5 =>
                 kLt x2 y5
                   (fM_comes_J76 x1 x2 x3 x4 σ)
                   (kExit (fM_comes_J130 x1 x2 x3 x4 σ)))
                (kExit (fM_comes_J130 x1 x2 x3 x4 σ))))
          (kExit (fM_comes_J130 x1 x2 x3 x4 σ))))
    (kExit (fM_comes_J130 x1 x2 x3 x4 σ))
def fM_comes_L6 (x1 x2 x3 x4 : Int) (σ : KM) : Option (Int × KM) := kIter (fun s => fM_comes_B6 x1 x2 x3 s.1 s.2) kF (x4, σ)
def fM_comes (x1 x2 x3 : Int) (σ : KM) : Option (Int × KM) :=
  kLet (σ 10 7) fun y1 =>
  fM_comes_L6 x1 x2 x3 y1 σ
def fM_peek_J66 (t0 : Int) (σ : KM) : Option (Int × KM) :=
  kRetI t0 σ
def fM_peek_J38 (σ : KM) : Option (Int × KM) :=
  kLt (σ 10 22) (σ 10 21)
    (kRd σ 54 700 (σ 10 22) fun y1 =>
     kAnd y1 255 fun y2 =>
     fM_peek_J66 y2 σ)
    (fM_peek_J66 (-1) σ)
def fM_peek_B0 (σ : KM) : Option ((KM) ⊕ (Int × KM)) :=
  kLt (σ 10 22) (σ 10 21)
    (kRd σ 54 700 (σ 10 22) fun y1 =>
     kEq y1 32
       (kWf σ 10 22 ((σ 10 22) + 1) fun τ2 =>
        some (.inl (τ2)))
       (kExit (fM_peek_J38 σ)))
    (kExit (fM_peek_J38 σ))
def fM_peek_L0 (σ : KM) : Option (Int × KM) := kIter (fun s => fM_peek_B0 s) kF (σ)
def fM_peek (σ : KM) : Option (Int × KM) :=
  fM_peek_L0 σ
def fM_isLetter (σ : KM) : Option (Int × KM) :=
  kCall (fM_peek σ) fun r2 τ1 =>
  kCk r2 <|
  kCall (fM_isIn r2 97 103 τ1) fun r4 τ3 =>
  kRetZ r4 τ3
def fM_fails (x1 x2 : Int) (σ : KM) : Option (Int × KM) :=
  kEq (σ 10 23) 0
    (kWf σ 10 23 x1 fun τ1 =>
     kWf τ1 10 24 x2 fun τ2 =>
     kRetI 0 τ2)
    (kRetI 0 σ)
def fM_stepOf_J58 (σ : KM) : Option (Int × KM) :=
  kRetI 11 σ
def fM_stepOf (x0 : Int) (σ : KM) : Option (Int × KM) :=
  kSw x0 97 [
    kRetI 9 σ,
    fM_stepOf_J58 σ,
    kRetI 0 σ,
    kRetI 2 σ,
    kRetI 4 σ,
    kRetI 5 σ,
    kRetI 7 σ
    ]
    (fM_stepOf_J58 σ)
def fM_nameRead_J242 (x3 : Int) (σ : KM) : Option (Int × KM) :=
  kWr σ 50 100 (σ 10 8) x3 fun τ1 =>
  kWr τ1 48 100 (τ1 10 8) (τ1 10 25) fun τ2 =>
  kWf τ2 10 8 ((τ2 10 8) + 1) fun τ3 =>
  kRetI 0 τ3
def fM_nameRead_J236 (x2 x3 x5 : Int) (σ : KM) : Option ((Int × KM) ⊕ (Int × KM)) :=
  kLet (x5 + 1) fun y1 =>
  some (.inl (y1, σ))
def fM_nameRead_B210 (x2 x3 x5 : Int) (σ : KM) : Option ((Int × KM) ⊕ (Int × KM)) :=
  kLt x5 (σ 10 8)
    (kRd σ 50 100 x5 fun y1 =>
     kEq y1 x3
       (kCall (fM_fails 3 x2 σ) fun _ τ2 =>
        fM_nameRead_J236 x2 x3 x5 τ2)
       (fM_nameRead_J236 x2 x3 x5 σ))
    (kExit (fM_nameRead_J242 x3 σ))
def fM_nameRead_L210 (x2 x3 x5 : Int) (σ : KM) : Option (Int × KM) := kIter (fun s => fM_nameRead_B210 x2 x3 s.1 s.2) kF (x5, σ)
def fM_nameRead_J207 (x1 x2 x3 : Int) (σ : KM) : Option (Int × KM) :=
  fM_nameRead_L210 x2 x3 x1 σ
def fM_nameRead_J132 (x1 x2 x3 : Int) (σ : KM) : Option (Int × KM) :=
  kCall (fM_peek σ) fun r2 τ1 =>
  kCk r2 <|
  kCall (fM_isIn r2 48 57 τ1) fun r4 τ3 =>
  kEq r4 0
    (kCall (fM_fails 1 (τ3 10 22) τ3) fun _ τ11 =>
     kRetI 0 τ11)
    (kRd τ3 54 700 (τ3 10 22) fun y5 =>
     kLet (x3 + (12 * ((y5 - 48) + 1))) fun y6 =>
     kWf τ3 10 22 ((τ3 10 22) + 1) fun τ7 =>
     kCk y6 <|
     kCall (fM_isIn y6 0 127 τ7) fun r9 τ8 =>
     kEq r9 0
       (kCall (fM_fails 3 x2 τ8) fun _ τ10 =>
        fM_nameRead_J207 x1 x2 y6 τ10)
       (fM_nameRead_J207 x1 x2 y6 τ8))
def fM_nameRead_J120 (x1 x2 t0 t1 : Int) (σ : KM) : Option (Int × KM) :=
  kLet (t1 + t0) fun y1 =>
  kWf σ 10 22 ((σ 10 22) + 1) fun τ2 =>
  fM_nameRead_J132 x1 x2 y1 τ2
def fM_nameRead_J107 (x1 x2 x3 x4 : Int) (σ : KM) : Option (Int × KM) :=
  kEq x4 35
    (fM_nameRead_J120 x1 x2 1 x3 σ)
    (fM_nameRead_J120 x1 x2 (-1) x3 σ)
def fM_nameRead_J56 (x1 x2 : Int) (σ : KM) : Option (Int × KM) :=
  kEq (σ 10 23) 0
    (kRd σ 54 700 (σ 10 22) fun y1 =>
     kCall (fM_stepOf y1 σ) fun r3 τ2 =>
     kWf τ2 10 22 ((τ2 10 22) + 1) fun τ4 =>
     kCall (fM_peek τ4) fun r6 τ5 =>
     kEq r6 35
       (fM_nameRead_J107 x1 x2 r3 r6 τ5)
       (kEq r6 33
          (fM_nameRead_J107 x1 x2 r3 r6 τ5)
          (fM_nameRead_J132 x1 x2 r3 τ5)))
    (kRetI 0 σ)
def fM_nameRead_J50 (x1 x2 : Int) (σ : KM) : Option (Int × KM) :=
  kCall (fM_fails 3 x2 σ) fun _ τ1 =>
  fM_nameRead_J56 x1 x2 τ1
def fM_nameRead (x1 : Int) (σ : KM) : Option (Int × KM) :=
  kEq (σ 10 23) 0
    (kCall (fM_isLetter σ) fun r2 τ1 =>
     kEq r2 0
       (kCall (fM_fails 1 (τ1 10 22) τ1) fun _ τ4 =>
        kRetI 0 τ4)
       (kLet (τ1 10 22) fun y3 =>
        kEq (τ1 10 8) 100
          (fM_nameRead_J50 x1 y3 τ1)
          (kEq ((τ1 10 8) - x1) 6
             (fM_nameRead_J50 x1 y3 τ1)
             (fM_nameRead_J56 x1 y3 τ1))))
    (kRetI 0 σ)
def fM_must_J24 (σ : KM) : Option (Int × KM) :=
  kWf σ 10 22 ((σ 10 22) + 1) fun τ1 =>
  kRetI 0 τ1
def fM_must (x1 : Int) (σ : KM) : Option (Int × KM) :=
  kEq (σ 10 23) 0
    (kCall (fM_peek σ) fun r2 τ1 =>
     kEq r2 x1
       (fM_must_J24 τ1)
       (kCall (fM_fails 1 (τ1 10 22) τ1) fun _ τ3 =>
        fM_must_J24 τ3))
    (fM_must_J24 σ)
def fM_lengthRead_J167 (x3 : Int) (σ : KM) : Option (Int × KM) :=
  kRetI x3 σ
def fM_lengthRead_J140 (x2 x3 : Int) (σ : KM) : Option (Int × KM) :=
  kCall (fM_fails 2 x2 σ) fun _ τ1 =>
  fM_lengthRead_J167 x3 τ1
def fM_lengthRead_J101 (x2 x3 : Int) (σ : KM) : Option (Int × KM) :=
  kEq (σ 10 22) x2
    (kCall (fM_fails 1 x2 σ) fun _ τ4 =>
     fM_lengthRead_J167 x3 τ4)
    (kLt 2 ((σ 10 22) - x2)
       (fM_lengthRead_J140 x2 x3 σ)
       (kCk x3 <|
        kCall (fM_isIn x3 1 64 σ) fun r2 τ1 =>
        kEq r2 0
          (fM_lengthRead_J140 x2 x3 τ1)
          (kLt 512 ((τ1 10 25) + x3)
             (kCall (fM_fails 4 x2 τ1) fun _ τ3 =>
              fM_lengthRead_J167 x3 τ3)
             (fM_lengthRead_J167 x3 τ1))))
def fM_lengthRead_J88 (x2 x3 : Int) (σ : KM) : Option ((Int × KM) ⊕ (Int × KM)) :=
  kWf σ 10 22 ((σ 10 22) + 1) fun τ1 =>
  some (.inl (x3, τ1))
def fM_lengthRead_B27 (x2 x3 : Int) (σ : KM) : Option ((Int × KM) ⊕ (Int × KM)) :=
  kLt (σ 10 22) (σ 10 21)
    (kRd σ 54 700 (σ 10 22) fun y1 =>
     kCk y1 <|
     kCall (fM_isIn y1 48 57 σ) fun r3 τ2 =>
     kEq r3 0
       (kExit (fM_lengthRead_J101 x2 x3 τ2))
       (kLt ((τ2 10 22) - x2) 2
          (kRd τ2 54 700 (τ2 10 22) fun y4 =>
           kLet (((10 * x3) + y4) - 48) fun y5 =>
           fM_lengthRead_J88 x2 y5 τ2)
          (fM_lengthRead_J88 x2 x3 τ2)))
    (kExit (fM_lengthRead_J101 x2 x3 σ))
def fM_lengthRead_L27 (x2 x3 : Int) (σ : KM) : Option (Int × KM) := kIter (fun s => fM_lengthRead_B27 x2 s.1 s.2) kF (x3, σ)
def fM_lengthRead (σ : KM) : Option (Int × KM) :=
  kCall (fM_must 58 σ) fun _ τ1 =>
  kEq (τ1 10 23) 0
    (kCall (fM_peek τ1) fun r3 τ2 =>
     kLet (τ2 10 22) fun y4 =>
     fM_lengthRead_L27 y4 0 τ2)
    (kRetI 0 τ1)
def fM_readOne_J142 (x3 : Int) (σ : KM) : Option (Int × KM) :=
  kWf σ 10 25 ((σ 10 25) + x3) fun τ1 =>
  kRetI 0 τ1
def fM_readOne_B119 (x3 x4 : Int) (σ : KM) : Option ((Int × KM) ⊕ (Int × KM)) :=
  kLt x4 (σ 10 8)
    (kWr σ 49 100 x4 x3 fun τ1 =>
     kLet (x4 + 1) fun y2 =>
     some (.inl (y2, τ1)))
    (kExit (fM_readOne_J142 x3 σ))
def fM_readOne_L119 (x3 x4 : Int) (σ : KM) : Option (Int × KM) := kIter (fun s => fM_readOne_B119 x3 s.1 s.2) kF (x4, σ)
def fM_readOne_J103 (x2 : Int) (σ : KM) : Option (Int × KM) :=
  kCall (fM_lengthRead σ) fun r2 τ1 =>
  kEq (τ1 10 23) 0
    (fM_readOne_L119 r2 x2 τ1)
    (kRetI 0 τ1)
def fM_readOne_J89 (x2 : Int) (σ : KM) : Option (Int × KM) :=
  kCall (fM_must 41 σ) fun _ τ1 =>
  fM_readOne_J103 x2 τ1
def fM_readOne_B67 (x2 : Int) (σ : KM) : Option ((KM) ⊕ (Int × KM)) :=
  kEq (σ 10 23) 0
    (kCall (fM_isLetter σ) fun r2 τ1 =>
     kEq r2 0
       (kExit (fM_readOne_J89 x2 τ1))
       (kCall (fM_nameRead x2 τ1) fun _ τ3 =>
        some (.inl (τ3))))
    (kExit (fM_readOne_J89 x2 σ))
def fM_readOne_L67 (x2 : Int) (σ : KM) : Option (Int × KM) := kIter (fun s => fM_readOne_B67 x2 s) kF (σ)
def fM_readOne (σ : KM) : Option (Int × KM) :=
  kCall (fM_peek σ) fun r2 τ1 =>
  kEq r2 124
    (kWf τ1 10 22 ((τ1 10 22) + 1) fun τ8 =>
     kRetI 0 τ8)
    (kLet (τ1 10 8) fun y3 =>
     kEq r2 45
       (kWf τ1 10 22 ((τ1 10 22) + 1) fun τ7 =>
        fM_readOne_J103 y3 τ7)
       (kEq r2 40
          (kWf τ1 10 22 ((τ1 10 22) + 1) fun τ5 =>
           kCall (fM_nameRead y3 τ5) fun _ τ6 =>
           fM_readOne_L67 y3 τ6)
          (kCall (fM_nameRead y3 τ1) fun _ τ4 =>
           fM_readOne_J103 y3 τ4)))
def fM_load_J138 (σ : KM) : Option (Int × KM) :=
  kWf σ 10 10 0 fun τ1 =>
  kRetI (τ1 10 7) τ1
def fM_load_B101 (x2 : Int) (σ : KM) : Option ((Int × KM) ⊕ (Int × KM)) :=
  kLt x2 (σ 10 8)
    (kRd σ 48 100 x2 fun y1 =>
     kRd σ 49 100 x2 fun y2 =>
     kRd σ 50 100 x2 fun y3 =>
     kCall (fM_comes y1 y2 y3 σ) fun r5 τ4 =>
     kLet (x2 + 1) fun y6 =>
     some (.inl (y6, τ4)))
    (kExit (fM_load_J138 σ))
def fM_load_L101 (x2 : Int) (σ : KM) : Option (Int × KM) := kIter (fun s => fM_load_B101 s.1 s.2) kF (x2, σ)
def fM_load_J79 (σ : KM) : Option (Int × KM) :=
  kEq (σ 10 23) 0
    (kWf σ 10 7 0 fun τ1 =>
     fM_load_L101 0 τ1)
    (kRetI ((-30) - (σ 10 23)) σ)
def fM_load_B57 (σ : KM) : Option ((KM) ⊕ (Int × KM)) :=
  kEq (σ 10 23) 0
    (kCall (fM_peek σ) fun r2 τ1 =>
     kEq r2 (-1)
       (kExit (fM_load_J79 τ1))
       (kCall (fM_readOne τ1) fun _ τ3 =>
        some (.inl (τ3))))
    (kExit (fM_load_J79 σ))
def fM_load_L57 (σ : KM) : Option (Int × KM) := kIter (fun s => fM_load_B57 s) kF (σ)
def fM_load (x1 : Int) (σ : KM) : Option (Int × KM) :=
  kWf σ 10 0 0 fun τ1 =>
  kCk x1 <|
  kCk (τ1 10 20) <|
  kCall (fM_isIn x1 0 (τ1 10 20) τ1) fun r3 τ2 =>
  kEq r3 0
    (kRetI (-3) τ2)
    (kWf τ2 10 20 0 fun τ4 =>
     kWf τ4 10 21 x1 fun τ5 =>
     kWf τ5 10 22 0 fun τ6 =>
     kWf τ6 10 23 0 fun τ7 =>
     kWf τ7 10 24 (-1) fun τ8 =>
     kWf τ8 10 25 0 fun τ9 =>
     kWf τ9 10 8 0 fun τ10 =>
     fM_load_L57 τ10)
def fM_common_J15 (R : Int → Int → KM → Option (Int × KM)) (t0 : Int) (σ : KM) : Option (Int × KM) :=
  kRetI t0 σ
def fM_common : Nat → Int → Int → KM → Option (Int × KM)
  | 0, _, _, _ => none
  | n + 1, x0, x1, σ =>
    kEq x1 0
      (fM_common_J15 (fM_common n) x0 σ)
      (kRm x0 x1 fun y1 =>
       kCall (fM_common n x1 y1 σ) fun r3 τ2 =>
       fM_common_J15 (fM_common n) r3 τ2)
def fM_match_J30 (σ : KM) : Option (Int × KM) :=
  kRetI (-2) σ
def fM_match_J77 (x4 t0 : Int) (σ : KM) : Option (Int × KM) :=
  kDv t0 x4 fun y1 =>
  kRetI y1 σ
def fM_match (x1 x2 x3 : Int) (σ : KM) : Option (Int × KM) :=
  kWf σ 10 0 0 fun τ1 =>
  kCall (fM_isWindow x1 τ1) fun r3 τ2 =>
  kEq r3 0
    (fM_match_J30 τ2)
    (kCall (fM_isKey x2 τ2) fun r5 τ4 =>
     kEq r5 0
       (fM_match_J30 τ4)
       (kCk x3 <|
        kCall (fM_isIn x3 0 1 τ4) fun r7 τ6 =>
        kEq r7 0
          (fM_match_J30 τ6)
          (kCall (fM_countedIn x1 τ6) fun _ τ8 =>
           kEq (τ8 10 27) 0
             (kRetI x3 τ8)
             (kCall (fM_matched x2 τ8) fun r10 τ9 =>
              kCall (fM_common 40 r10 (τ9 10 27) τ9) fun r12 τ11 =>
              kEq x3 0
                (kCall (fM_matched x2 τ11) fun r14 τ13 =>
                 fM_match_J77 r12 r14 τ13)
                (fM_match_J77 r12 (τ11 10 27) τ11)))))
def fM_letter_J60 (σ : KM) : Option (Int × KM) :=
  kRetI 99 σ
def fM_letter_J63 (σ : KM) : Option (Int × KM) :=
  kRetI 100 σ
def fM_letter_J69 (σ : KM) : Option (Int × KM) :=
  kRetI 102 σ
def fM_letter_J72 (σ : KM) : Option (Int × KM) :=
  kRetI 103 σ
def fM_letter_J75 (σ : KM) : Option (Int × KM) :=
  kRetI 97 σ
def fM_letter (x0 : Int) (σ : KM) : Option (Int × KM) :=
  kSw x0 0 [
    fM_letter_J60 σ,
    fM_letter_J60 σ,
    fM_letter_J63 σ,
    fM_letter_J63 σ,
    kRetI 101 σ,
    fM_letter_J69 σ,
    fM_letter_J69 σ,
    fM_letter_J72 σ,
    fM_letter_J72 σ,
    fM_letter_J75 σ,
    fM_letter_J75 σ
    ]
    (kRetI 98 σ)
def fM_name_J110 (t0 : Int) (σ : KM) : Option (Int × KM) :=
  kRetI t0 σ
def fM_name_J109 (σ : KM) : Option (Int × KM) :=
  fM_name_J110 (-1) σ
def fM_name_J101 (t0 t1 : Int) (σ : KM) : Option (Int × KM) :=
  kEq t1 t0
    (fM_name_J110 109 σ)
    (fM_name_J109 σ)
def fM_name_J84 (x1 x2 x4 : Int) (σ : KM) : Option (Int × KM) :=
  kLt x1 12
    (fM_name_J109 σ)
    (kEq x4 0
       (fM_name_J101 1 x2 σ)
       (fM_name_J101 2 x2 σ))
def fM_name_J60 (x1 x2 x3 t0 : Int) (σ : KM) : Option (Int × KM) :=
  kEq x2 0
    (kCall (fM_letter x3 σ) fun r2 τ1 =>
     kRetI r2 τ1)
    (kEq x2 1
       (kEq t0 0
          (fM_name_J84 x1 x2 t0 σ)
          (kRetI 35 σ))
       (fM_name_J84 x1 x2 t0 σ))
def fM_name_J55 (x1 x2 x3 : Int) (σ : KM) : Option (Int × KM) :=
  fM_name_J60 x1 x2 x3 1 σ
def fM_name (x1 x2 : Int) (σ : KM) : Option (Int × KM) :=
  kWf σ 10 0 0 fun τ1 =>
  kCall (fM_isKey x1 τ1) fun r3 τ2 =>
  kEq r3 0
    (kRetI (-2) τ2)
    (kLt x2 0
       (kRetI (-3) τ2)
       (kRm x1 12 fun y4 =>
        kEq y4 1
          (fM_name_J55 x1 x2 y4 τ2)
          (kEq y4 3
             (fM_name_J55 x1 x2 y4 τ2)
             (kEq y4 6
                (fM_name_J55 x1 x2 y4 τ2)
                (kEq y4 8
                   (fM_name_J55 x1 x2 y4 τ2)
                   (kEq y4 10
                      (fM_name_J55 x1 x2 y4 τ2)
                      (fM_name_J60 x1 x2 y4 0 τ2)))))))
def fM_net_J54 (σ : KM) : Option (Int × KM) :=
  kRetI (-3) σ
def fM_net (x1 x2 x3 x4 : Int) (σ : KM) : Option (Int × KM) :=
  kWf σ 10 0 0 fun τ1 =>
  kCk x1 <|
  kCall (fM_isIn x1 0 999 τ1) fun r3 τ2 =>
  kEq r3 0
    (fM_net_J54 τ2)
    (kCk x2 <|
     kCall (fM_isIn x2 0 999 τ2) fun r5 τ4 =>
     kEq r5 0
       (fM_net_J54 τ4)
       (kCk x3 <|
        kCall (fM_isIn x3 0 999 τ4) fun r7 τ6 =>
        kEq r7 0
          (fM_net_J54 τ6)
          (kCk x4 <|
           kCall (fM_isIn x4 0 100 τ6) fun r9 τ8 =>
           kEq r9 0
             (fM_net_J54 τ8)
             (kLet (τ8 10 16) fun y10 =>
              kWf τ8 10 13 x1 fun τ11 =>
              kWf τ11 10 14 x2 fun τ12 =>
              kWf τ12 10 15 x3 fun τ13 =>
              kWf τ13 10 16 x4 fun τ14 =>
              kRetI y10 τ14))))
def fM_note_J25 (σ : KM) : Option (Int × KM) :=
  kRetI (-2) σ
def fM_note_J78 (t0 : Int) (σ : KM) : Option (Int × KM) :=
  kRetI t0 σ
def fM_note (x1 x2 : Int) (σ : KM) : Option (Int × KM) :=
  kWf σ 10 0 0 fun τ1 =>
  kCall (fM_isNote x1 τ1) fun r3 τ2 =>
  kEq r3 0
    (fM_note_J25 τ2)
    (kCk x2 <|
     kCall (fM_isIn x2 0 3 τ2) fun r5 τ4 =>
     kEq r5 0
       (fM_note_J25 τ4)
       (kEq x2 0
          (kRd τ4 45 100 x1 fun y10 =>
           fM_note_J78 y10 τ4)
          (kEq x2 1
             (kRd τ4 46 100 x1 fun y9 =>
              fM_note_J78 y9 τ4)
             (kEq x2 2
                (kRd τ4 47 100 x1 fun y8 =>
                 fM_note_J78 y8 τ4)
                (kRd τ4 47 100 x1 fun y6 =>
                 kRm y6 12 fun y7 =>
                 fM_note_J78 y7 τ4)))))
def fM_outside_J59 (x1 : Int) (σ : KM) : Option (Int × KM) :=
  kRetI x1 σ
def fM_outside_J51 (x2 t0 t1 : Int) (σ : KM) : Option ((Int × Int × KM) ⊕ (Int × KM)) :=
  kLet (t1 + t0) fun y1 =>
  kLet (x2 + 1) fun y2 =>
  some (.inl (y1, y2, σ))
def fM_outside_J50 (x2 t0 : Int) (σ : KM) : Option ((Int × Int × KM) ⊕ (Int × KM)) :=
  fM_outside_J51 x2 0 t0 σ
def fM_outside_B19 (x1 x2 : Int) (σ : KM) : Option ((Int × Int × KM) ⊕ (Int × KM)) :=
  kLt x2 (σ 10 37)
    (kRd σ 64 48 x2 fun y1 =>
     kEq y1 0
       (kCall (fM_romanNow x2 σ) fun r3 τ2 =>
        kEq r3 (-1)
          (fM_outside_J51 x2 1 x1 τ2)
          (fM_outside_J50 x2 x1 τ2))
       (fM_outside_J50 x2 x1 σ))
    (kExit (fM_outside_J59 x1 σ))
def fM_outside_L19 (x1 x2 : Int) (σ : KM) : Option (Int × KM) := kIter (fun s => fM_outside_B19 s.1 s.2.1 s.2.2) kF (x1, x2, σ)
def fM_outside (σ : KM) : Option (Int × KM) :=
  kWf σ 10 0 0 fun τ1 =>
  kCall (fM_hasPath τ1) fun r3 τ2 =>
  kEq r3 0
    (kRetI (-5) τ2)
    (fM_outside_L19 0 0 τ2)
def fM_rankedNow_J81 (σ : KM) : Option (Int × KM) :=
  kRetI (-1) σ
def fM_rankedNow_J73 (x2 : Int) (σ : KM) : Option (Int × KM) :=
  kRetI x2 σ
def fM_rankedNow_J68 (x1 x2 x3 : Int) (σ : KM) : Option ((Int × KM) ⊕ (Int × KM)) :=
  kEq x3 x1
    (kExit (fM_rankedNow_J73 x2 σ))
    (kLet (x2 + 1) fun y1 =>
     some (.inl (y1, σ)))
def fM_rankedNow_J60 (x1 x2 x4 t0 t1 : Int) (σ : KM) : Option ((Int × Int × KM) ⊕ ((Int × KM) ⊕ (Int × KM))) :=
  kLet (t1 + t0) fun y1 =>
  kLet (x4 + 1) fun y2 =>
  some (.inl (y1, y2, σ))
def fM_rankedNow_J55 (x1 x2 x4 t0 : Int) (σ : KM) : Option ((Int × Int × KM) ⊕ ((Int × KM) ⊕ (Int × KM))) :=
  fM_rankedNow_J60 x1 x2 x4 1 t0 σ
def fM_rankedNow_J59 (x1 x2 x4 t0 : Int) (σ : KM) : Option ((Int × Int × KM) ⊕ ((Int × KM) ⊕ (Int × KM))) :=
  fM_rankedNow_J60 x1 x2 x4 0 t0 σ
def fM_rankedNow_B13 (x1 x2 x3 x4 : Int) (σ : KM) : Option ((Int × Int × KM) ⊕ ((Int × KM) ⊕ (Int × KM))) :=
  kLt x4 24
    (kCall (fM_fitted x4 σ) fun r2 τ1 =>
     kCall (fM_fitted x2 τ1) fun r4 τ3 =>
     kLt r4 r2
       (fM_rankedNow_J55 x1 x2 x4 x3 τ3)
       (kCall (fM_fitted x4 τ3) fun r6 τ5 =>
        kCall (fM_fitted x2 τ5) fun r8 τ7 =>
        kEq r6 r8
          (kLt x4 x2
             (fM_rankedNow_J55 x1 x2 x4 x3 τ7)
             (fM_rankedNow_J59 x1 x2 x4 x3 τ7))
          (fM_rankedNow_J59 x1 x2 x4 x3 τ7)))
    (kExit (fM_rankedNow_J68 x1 x2 x3 σ))
def fM_rankedNow_L13 (x1 x2 x3 x4 : Int) (σ : KM) : Option ((Int × KM) ⊕ (Int × KM)) := kIter (fun s => fM_rankedNow_B13 x1 x2 s.1 s.2.1 s.2.2) kF (x3, x4, σ)
def fM_rankedNow_B2 (x1 x2 : Int) (σ : KM) : Option ((Int × KM) ⊕ (Int × KM)) :=
  kLt x2 24
    (fM_rankedNow_L13 x1 x2 0 0 σ)
    (kExit (fM_rankedNow_J81 σ))
def fM_rankedNow_L2 (x1 x2 : Int) (σ : KM) : Option (Int × KM) := kIter (fun s => fM_rankedNow_B2 x1 s.1 s.2) kF (x2, σ)
def fM_rankedNow (x1 : Int) (σ : KM) : Option (Int × KM) :=
  fM_rankedNow_L2 x1 0 σ
def fM_overall (x1 : Int) (σ : KM) : Option (Int × KM) :=
  kWf σ 10 0 0 fun τ1 =>
  kCall (fM_isKey x1 τ1) fun r3 τ2 =>
  kEq r3 0
    (kRetI (-3) τ2)
    (kCall (fM_theEnd τ2) fun r5 τ4 =>
     kCall (fM_counted 0 r5 τ4) fun _ τ6 =>
     kCall (fM_rankedNow x1 τ6) fun r8 τ7 =>
     kRetI r8 τ7)
def fM_pin_J29 (σ : KM) : Option (Int × KM) :=
  kRetI (-2) σ
def fM_pin_J32 (x1 x2 : Int) (σ : KM) : Option (Int × KM) :=
  kRd σ 53 48 x1 fun y1 =>
  kWr σ 53 48 x1 x2 fun τ2 =>
  kRetI y1 τ2
def fM_pin (x1 x2 : Int) (σ : KM) : Option (Int × KM) :=
  kWf σ 10 0 0 fun τ1 =>
  kCk x1 <|
  kCall (fM_isIn x1 0 47 τ1) fun r3 τ2 =>
  kEq r3 0
    (fM_pin_J29 τ2)
    (kEq x2 (-1)
       (fM_pin_J32 x1 x2 τ2)
       (kCall (fM_isKey x2 τ2) fun r5 τ4 =>
        kEq r5 0
          (fM_pin_J29 τ4)
          (fM_pin_J32 x1 x2 τ4)))
def fM_pivot_J43 (σ : KM) : Option (Int × KM) :=
  kRetI (-2) σ
def fM_pivot_J327 (t0 : Int) (σ : KM) : Option (Int × KM) :=
  kRetI t0 σ
def fM_pivot_J268 (x2 x3 x4 x5 : Int) (σ : KM) : Option (Int × KM) :=
  kEq x4 (-1)
    (kRetI (-1) σ)
    (kEq x2 0
       (fM_pivot_J327 x4 σ)
       (kEq x2 1
          (kRd σ 63 48 (x3 - 1) fun y4 =>
           kCall (fM_degreeOf x4 y4 σ) fun r6 τ5 =>
           fM_pivot_J327 r6 τ5)
          (kEq x2 2
             (kRd σ 63 48 x3 fun y1 =>
              kCall (fM_degreeOf x4 y1 σ) fun r3 τ2 =>
              fM_pivot_J327 r3 τ2)
             (fM_pivot_J327 x5 σ))))
def fM_pivot_J262 (x2 x3 x4 x5 x6 : Int) (σ : KM) : Option ((Int × Int × Int × KM) ⊕ (Int × KM)) :=
  kLet (x6 + 1) fun y1 =>
  some (.inl (x4, x5, y1, σ))
def fM_pivot_J244 (x2 x3 x4 x5 x6 x7 : Int) (σ : KM) : Option ((Int × Int × Int × KM) ⊕ (Int × KM)) :=
  kLt x5 x7
    (fM_pivot_J262 x2 x3 x6 x7 x6 σ)
    (fM_pivot_J262 x2 x3 x4 x5 x6 σ)
def fM_pivot_J236 (x2 x3 x4 x5 x6 x8 t0 : Int) (σ : KM) : Option ((Int × Int × KM) ⊕ ((Int × Int × Int × KM) ⊕ (Int × KM))) :=
  kLet (x8 + 1) fun y1 =>
  some (.inl (t0, y1, σ))
def fM_pivot_B196 (x2 x3 x4 x5 x6 x7 x8 : Int) (σ : KM) : Option ((Int × Int × KM) ⊕ ((Int × Int × Int × KM) ⊕ (Int × KM))) :=
  kLt x8 3
    (kCall (fM_toneOf x6 x8 σ) fun r2 τ1 =>
     kRd τ1 67 12 r2 fun y3 =>
     kLt y3 x7
       (kCall (fM_toneOf x6 x8 τ1) fun r5 τ4 =>
        kRd τ4 67 12 r5 fun y6 =>
        fM_pivot_J236 x2 x3 x4 x5 x6 x8 y6 τ4)
       (fM_pivot_J236 x2 x3 x4 x5 x6 x8 x7 τ1))
    (kExit (fM_pivot_J244 x2 x3 x4 x5 x6 x7 σ))
def fM_pivot_L196 (x2 x3 x4 x5 x6 x7 x8 : Int) (σ : KM) : Option ((Int × Int × Int × KM) ⊕ (Int × KM)) := kIter (fun s => fM_pivot_B196 x2 x3 x4 x5 x6 s.1 s.2.1 s.2.2) kF (x7, x8, σ)
def fM_pivot_B138 (x2 x3 x4 x5 x6 : Int) (σ : KM) : Option ((Int × Int × Int × KM) ⊕ (Int × KM)) :=
  kLt x6 36
    (kRd σ 63 48 (x3 - 1) fun y1 =>
     kCall (fM_degreeOf x6 y1 σ) fun r3 τ2 =>
     kEq r3 (-1)
       (fM_pivot_J262 x2 x3 x4 x5 x6 τ2)
       (kRd τ2 63 48 x3 fun y4 =>
        kCall (fM_degreeOf x6 y4 τ2) fun r6 τ5 =>
        kEq r6 (-1)
          (fM_pivot_J262 x2 x3 x4 x5 x6 τ5)
          (kCall (fM_toneOf x6 0 τ5) fun r8 τ7 =>
           kRd τ7 67 12 r8 fun y9 =>
           fM_pivot_L196 x2 x3 x4 x5 x6 y9 1 τ7)))
    (kExit (fM_pivot_J268 x2 x3 x4 x5 σ))
def fM_pivot_L138 (x2 x3 x4 x5 x6 : Int) (σ : KM) : Option (Int × KM) := kIter (fun s => fM_pivot_B138 x2 x3 s.1 s.2.1 s.2.2.1 s.2.2.2) kF (x4, x5, x6, σ)
def fM_pivot_J129 (x2 x3 : Int) (σ : KM) : Option (Int × KM) :=
  fM_pivot_L138 x2 x3 (-1) 0 0 σ
def fM_pivot_B99 (x2 x3 x4 : Int) (σ : KM) : Option ((Int × KM) ⊕ (Int × KM)) :=
  kLt x4 12
    (kRd σ 67 12 x4 fun y1 =>
     kRd σ 55 12 x4 fun y2 =>
     kWr σ 67 12 x4 (y1 + y2) fun τ3 =>
     kLet (x4 + 1) fun y4 =>
     some (.inl (y4, τ3)))
    (kExit (fM_pivot_J129 x2 x3 σ))
def fM_pivot_L99 (x2 x3 x4 : Int) (σ : KM) : Option (Int × KM) := kIter (fun s => fM_pivot_B99 x2 x3 s.1 s.2) kF (x4, σ)
def fM_pivot_J91 (x2 x3 : Int) (σ : KM) : Option (Int × KM) :=
  kCall (fM_countedIn x3 σ) fun _ τ1 =>
  fM_pivot_L99 x2 x3 0 τ1
def fM_pivot_B64 (x2 x3 x4 : Int) (σ : KM) : Option ((Int × KM) ⊕ (Int × KM)) :=
  kLt x4 12
    (kRd σ 55 12 x4 fun y1 =>
     kWr σ 67 12 x4 y1 fun τ2 =>
     kLet (x4 + 1) fun y3 =>
     some (.inl (y3, τ2)))
    (kExit (fM_pivot_J91 x2 x3 σ))
def fM_pivot_L64 (x2 x3 x4 : Int) (σ : KM) : Option (Int × KM) := kIter (fun s => fM_pivot_B64 x2 x3 s.1 s.2) kF (x4, σ)
def fM_pivot (x1 x2 : Int) (σ : KM) : Option (Int × KM) :=
  kWf σ 10 0 0 fun τ1 =>
  kCall (fM_hasPath τ1) fun r3 τ2 =>
  kEq r3 0
    (kRetI (-5) τ2)
    (kCk x1 <|
     kCall (fM_segmentsNow τ2) fun r5 τ4 =>
     kCk (r5 - 2) <|
     kCall (fM_isIn x1 0 (r5 - 2) τ4) fun r7 τ6 =>
     kEq r7 0
       (fM_pivot_J43 τ6)
       (kCk x2 <|
        kCall (fM_isIn x2 0 3 τ6) fun r9 τ8 =>
        kEq r9 0
          (fM_pivot_J43 τ8)
          (kCall (fM_firstOf (x1 + 1) τ8) fun r11 τ10 =>
           kCall (fM_countedIn (r11 - 1) τ10) fun _ τ12 =>
           fM_pivot_L64 x2 r11 0 τ12)))
def fM_progression_J86 (t0 : Int) (σ : KM) : Option (Int × KM) :=
  kRetI t0 σ
def fM_progression_J76 (x1 x2 : Int) (σ : KM) : Option (Int × KM) :=
  kEq x1 (-1)
    (fM_progression_J86 x2 σ)
    (fM_progression_J86 (-1) σ)
def fM_progression_J70 (x1 x2 x3 x4 : Int) (σ : KM) : Option ((Int × Int × Int × KM) ⊕ (Int × KM)) :=
  kLet (x4 + 1) fun y1 =>
  some (.inl (x2, x3, y1, σ))
def fM_progression_J61 (x5 : Int) (σ : KM) : Option (Int × KM) :=
  kRetI x5 σ
def fM_progression_B20 (x1 x2 x3 x4 : Int) (σ : KM) : Option ((Int × Int × Int × KM) ⊕ (Int × KM)) :=
  kCall (fM_windowMany σ) fun r2 τ1 =>
  kLt x4 r2
    (kCall (fM_countedIn x4 τ1) fun _ τ3 =>
     kCall (fM_chordNow τ3) fun r5 τ4 =>
     kEq r5 (-1)
       (fM_progression_J70 x1 x2 x3 x4 τ4)
       (kEq r5 x3
          (fM_progression_J70 x1 x2 x3 x4 τ4)
          (kEq x2 x1
             (kExit (fM_progression_J61 r5 τ4))
             (kLet (x2 + 1) fun y6 =>
              fM_progression_J70 x1 y6 r5 x4 τ4))))
    (kExit (fM_progression_J76 x1 x2 τ1))
def fM_progression_L20 (x1 x2 x3 x4 : Int) (σ : KM) : Option (Int × KM) := kIter (fun s => fM_progression_B20 x1 s.1 s.2.1 s.2.2.1 s.2.2.2) kF (x2, x3, x4, σ)
def fM_progression (x1 : Int) (σ : KM) : Option (Int × KM) :=
  kWf σ 10 0 0 fun τ1 =>
  kLt x1 (-1)
    (kRetI (-3) τ1)
    (fM_progression_L20 x1 0 (-1) 0 τ1)
def fM_put_J50 (σ : KM) : Option (Int × KM) :=
  kRetI (-3) σ
def fM_put (x1 x2 x3 : Int) (σ : KM) : Option (Int × KM) :=
  kWf σ 10 0 0 fun τ1 =>
  kCk x1 <|
  kCall (fM_isIn x1 0 511 τ1) fun r3 τ2 =>
  kEq r3 0
    (fM_put_J50 τ2)
    (kCk x2 <|
     kCall (fM_isIn x2 1 64 τ2) fun r5 τ4 =>
     kEq r5 0
       (fM_put_J50 τ4)
       (kCk x3 <|
        kCall (fM_isIn x3 0 127 τ4) fun r7 τ6 =>
        kEq r7 0
          (fM_put_J50 τ6)
          (kLt 512 (x1 + x2)
             (fM_put_J50 τ6)
             (kEq (τ6 10 7) 100
                (kRetI (-4) τ6)
                (kCall (fM_notesAct τ6) fun _ τ8 =>
                 kCall (fM_comes x1 x2 x3 τ8) fun r10 τ9 =>
                 kRetI r10 τ9)))))
def fM_ranked (x1 x2 : Int) (σ : KM) : Option (Int × KM) :=
  kWf σ 10 0 0 fun τ1 =>
  kCall (fM_isWindow x1 τ1) fun r3 τ2 =>
  kEq r3 0
    (kRetI (-2) τ2)
    (kCall (fM_isKey x2 τ2) fun r5 τ4 =>
     kEq r5 0
       (kRetI (-3) τ4)
       (kCall (fM_countedIn x1 τ4) fun _ τ6 =>
        kCall (fM_rankedNow x2 τ6) fun r8 τ7 =>
        kRetI r8 τ7))
def fM_roman_J33 (t0 : Int) (σ : KM) : Option (Int × KM) :=
  kRetI t0 σ
def fM_roman (x1 : Int) (σ : KM) : Option (Int × KM) :=
  kWf σ 10 0 0 fun τ1 =>
  kCall (fM_isWindow x1 τ1) fun r3 τ2 =>
  kEq r3 0
    (kRetI (-2) τ2)
    (kCall (fM_hasPath τ2) fun r5 τ4 =>
     kEq r5 0
       (fM_roman_J33 (-5) τ4)
       (kCall (fM_romanNow x1 τ4) fun r7 τ6 =>
        fM_roman_J33 r7 τ6))
def fM_second_J231 (t0 : Int) (σ : KM) : Option (Int × KM) :=
  kRetI t0 σ
def fM_second_J212 (x1 x2 x3 : Int) (σ : KM) : Option (Int × KM) :=
  kLt x2 1000000000
    (kEq x1 0
       (fM_second_J231 x2 σ)
       (fM_second_J231 x3 σ))
    (fM_second_J231 (-1) σ)
def fM_second_J202 (x1 x2 x3 x5 t0 t1 t2 : Int) (σ : KM) : Option ((Int × Int × Int × Int × KM) ⊕ (Int × KM)) :=
  kLet (t2 + (t1 + t0)) fun y1 =>
  kLet (x5 + 1) fun y2 =>
  some (.inl (x2, x3, y1, y2, σ))
def fM_second_J147 (x1 x2 x3 x4 x5 : Int) (σ : KM) : Option ((Int × Int × Int × Int × KM) ⊕ (Int × KM)) :=
  kRd σ 63 48 x5 fun y1 =>
  kRd σ 59 1152 ((24 * x5) + y1) fun y2 =>
  kEq x5 0
    (fM_second_J202 x1 x2 x3 x5 0 y2 x4 σ)
    (kRd σ 63 48 (x5 - 1) fun y3 =>
     kRd σ 63 48 x5 fun y4 =>
     kCall (fM_moves y3 y4 x5 (σ 10 16) σ) fun r6 τ5 =>
     fM_second_J202 x1 x2 x3 x5 r6 y2 x4 τ5)
def fM_second_J141 (x1 x2 x3 x4 x5 x6 : Int) (σ : KM) : Option ((Int × Int × Int × KM) ⊕ ((Int × Int × Int × Int × KM) ⊕ (Int × KM))) :=
  kLet (x6 + 1) fun y1 =>
  some (.inl (x2, x3, y1, σ))
def fM_second_J105 (x1 x2 x3 x4 x5 x6 t0 t1 : Int) (σ : KM) : Option ((Int × Int × Int × KM) ⊕ ((Int × Int × Int × Int × KM) ⊕ (Int × KM))) :=
  kCall (fM_added t1 t0 σ) fun r2 τ1 =>
  kRd τ1 61 1152 ((24 * x5) + x6) fun y3 =>
  kCall (fM_added r2 y3 τ1) fun r5 τ4 =>
  kLt r5 x2
    (fM_second_J141 x1 r5 x5 x4 x5 x6 τ4)
    (fM_second_J141 x1 x2 x3 x4 x5 x6 τ4)
def fM_second_B51 (x1 x4 x5 x2 x3 x6 : Int) (σ : KM) : Option ((Int × Int × Int × KM) ⊕ ((Int × Int × Int × Int × KM) ⊕ (Int × KM))) :=
  kLt x6 24
    (kRd σ 63 48 x5 fun y1 =>
     kEq x6 y1
       (fM_second_J141 x1 x2 x3 x4 x5 x6 σ)
       (kEq x5 0
          (fM_second_J105 x1 x2 x3 x4 x5 x6 0 x4 σ)
          (kRd σ 63 48 (x5 - 1) fun y2 =>
           kCall (fM_moves y2 x6 x5 (σ 10 16) σ) fun r4 τ3 =>
           fM_second_J105 x1 x2 x3 x4 x5 x6 r4 x4 τ3)))
    (kExit (fM_second_J147 x1 x2 x3 x4 x5 σ))
def fM_second_L51 (x1 x4 x5 x2 x3 x6 : Int) (σ : KM) : Option ((Int × Int × Int × Int × KM) ⊕ (Int × KM)) := kIter (fun s => fM_second_B51 x1 x4 x5 s.1 s.2.1 s.2.2.1 s.2.2.2) kF (x2, x3, x6, σ)
def fM_second_B39 (x1 x2 x3 x4 x5 : Int) (σ : KM) : Option ((Int × Int × Int × Int × KM) ⊕ (Int × KM)) :=
  kLt x5 (σ 10 37)
    (fM_second_L51 x1 x4 x5 x2 x3 0 σ)
    (kExit (fM_second_J212 x1 x2 x3 σ))
def fM_second_L39 (x1 x2 x3 x4 x5 : Int) (σ : KM) : Option (Int × KM) := kIter (fun s => fM_second_B39 x1 s.1 s.2.1 s.2.2.1 s.2.2.2.1 s.2.2.2.2) kF (x2, x3, x4, x5, σ)
def fM_second (x1 : Int) (σ : KM) : Option (Int × KM) :=
  kWf σ 10 0 0 fun τ1 =>
  kCk x1 <|
  kCall (fM_isIn x1 0 1 τ1) fun r3 τ2 =>
  kEq r3 0
    (kRetI (-2) τ2)
    (kCall (fM_hasPath τ2) fun r5 τ4 =>
     kEq r5 0
       (kRetI (-5) τ4)
       (fM_second_L39 x1 1000000000 (-1) 0 0 τ4))
def fM_segment_J43 (σ : KM) : Option (Int × KM) :=
  kRetI (-2) σ
def fM_segment_J97 (t0 : Int) (σ : KM) : Option (Int × KM) :=
  kRetI t0 σ
def fM_segment (x1 x2 : Int) (σ : KM) : Option (Int × KM) :=
  kWf σ 10 0 0 fun τ1 =>
  kCall (fM_hasPath τ1) fun r3 τ2 =>
  kEq r3 0
    (kRetI (-5) τ2)
    (kCk x1 <|
     kCall (fM_segmentsNow τ2) fun r5 τ4 =>
     kCk (r5 - 1) <|
     kCall (fM_isIn x1 0 (r5 - 1) τ4) fun r7 τ6 =>
     kEq r7 0
       (fM_segment_J43 τ6)
       (kCk x2 <|
        kCall (fM_isIn x2 0 3 τ6) fun r9 τ8 =>
        kEq r9 0
          (fM_segment_J43 τ8)
          (kCall (fM_firstOf x1 τ8) fun r11 τ10 =>
           kEq x2 0
             (fM_segment_J97 r11 τ10)
             (kEq x2 1
                (kCall (fM_firstOf (x1 + 1) τ10) fun r14 τ13 =>
                 fM_segment_J97 (r14 - 1) τ13)
                (kEq x2 2
                   (kRd τ10 63 48 r11 fun y12 =>
                    fM_segment_J97 y12 τ10)
                   (fM_segment_J97 ((τ10 10 12) * r11) τ10))))))
def fM_segments_J21 (t0 : Int) (σ : KM) : Option (Int × KM) :=
  kRetI t0 σ
def fM_segments (σ : KM) : Option (Int × KM) :=
  kWf σ 10 0 0 fun τ1 =>
  kCall (fM_hasPath τ1) fun r3 τ2 =>
  kEq r3 0
    (fM_segments_J21 (-5) τ2)
    (kCall (fM_segmentsNow τ2) fun r5 τ4 =>
     fM_segments_J21 r5 τ4)
def fM_shift_J90 (σ : KM) : Option (Int × KM) :=
  kRetI (σ 10 7) σ
def fM_shift_B66 (x1 x2 : Int) (σ : KM) : Option ((Int × KM) ⊕ (Int × KM)) :=
  kLt x2 (σ 10 7)
    (kRd σ 47 100 x2 fun y1 =>
     kWr σ 47 100 x2 (y1 + x1) fun τ2 =>
     kLet (x2 + 1) fun y3 =>
     some (.inl (y3, τ2)))
    (kExit (fM_shift_J90 σ))
def fM_shift_L66 (x1 x2 : Int) (σ : KM) : Option (Int × KM) := kIter (fun s => fM_shift_B66 x1 s.1 s.2) kF (x2, σ)
def fM_shift_J60 (x1 : Int) (σ : KM) : Option (Int × KM) :=
  kCall (fM_notesAct σ) fun _ τ1 =>
  fM_shift_L66 x1 0 τ1
def fM_shift_J51 (σ : KM) : Option (Int × KM) :=
  kRetI (-3) σ
def fM_shift_B24 (x1 x2 : Int) (σ : KM) : Option ((Int × KM) ⊕ (Int × KM)) :=
  kLt x2 (σ 10 7)
    (kRd σ 47 100 x2 fun y1 =>
     kCk (y1 + x1) <|
     kCall (fM_isIn (y1 + x1) 0 127 σ) fun r3 τ2 =>
     kEq r3 0
       (kExit (fM_shift_J51 τ2))
       (kLet (x2 + 1) fun y4 =>
        some (.inl (y4, τ2))))
    (kExit (fM_shift_J60 x1 σ))
def fM_shift_L24 (x1 x2 : Int) (σ : KM) : Option (Int × KM) := kIter (fun s => fM_shift_B24 x1 s.1 s.2) kF (x2, σ)
def fM_shift (x1 : Int) (σ : KM) : Option (Int × KM) :=
  kWf σ 10 0 0 fun τ1 =>
  kCk x1 <|
  kCall (fM_isIn x1 (-127) 127 τ1) fun r3 τ2 =>
  kEq r3 0
    (kRetI (-3) τ2)
    (fM_shift_L24 x1 0 τ2)
def fM_laysAhead_J131 (σ : KM) : Option (Int × KM) :=
  kRetI 0 σ
def fM_laysAhead_J125 (x1 : Int) (σ : KM) : Option ((Int × KM) ⊕ (Int × KM)) :=
  kLet (x1 + 1) fun y1 =>
  some (.inl (y1, σ))
def fM_laysAhead_J93 (x1 x2 x3 : Int) (σ : KM) : Option ((Int × KM) ⊕ ((Int × KM) ⊕ (Int × KM))) :=
  kRd σ 59 1152 ((24 * x1) + x2) fun y1 =>
  kCall (fM_added y1 x3 σ) fun r3 τ2 =>
  kWr τ2 60 1152 ((24 * x1) + x2) r3 fun τ4 =>
  kLet (x2 + 1) fun y5 =>
  some (.inl (y5, τ4))
def fM_laysAhead_J86 (x1 x2 x4 t0 : Int) (σ : KM) : Option ((Int × Int × KM) ⊕ ((Int × KM) ⊕ ((Int × KM) ⊕ (Int × KM)))) :=
  kLet (x4 + 1) fun y1 =>
  some (.inl (t0, y1, σ))
def fM_laysAhead_B32 (x1 x2 x3 x4 : Int) (σ : KM) : Option ((Int × Int × KM) ⊕ ((Int × KM) ⊕ ((Int × KM) ⊕ (Int × KM)))) :=
  kLt x4 24
    (kLt 0 x1
       (kRd σ 60 1152 ((24 * (x1 - 1)) + x4) fun y1 =>
        kCall (fM_moves x4 x2 x1 (σ 10 16) σ) fun r3 τ2 =>
        kCall (fM_added y1 r3 τ2) fun r5 τ4 =>
        kLt r5 x3
          (fM_laysAhead_J86 x1 x2 x4 r5 τ4)
          (fM_laysAhead_J86 x1 x2 x4 x3 τ4))
       (kExit (fM_laysAhead_J93 x1 x2 x3 σ)))
    (kExit (fM_laysAhead_J93 x1 x2 x3 σ))
def fM_laysAhead_L32 (x1 x2 x3 x4 : Int) (σ : KM) : Option ((Int × KM) ⊕ ((Int × KM) ⊕ (Int × KM))) := kIter (fun s => fM_laysAhead_B32 x1 x2 s.1 s.2.1 s.2.2) kF (x3, x4, σ)
def fM_laysAhead_J28 (x1 x2 t0 : Int) (σ : KM) : Option ((Int × KM) ⊕ ((Int × KM) ⊕ (Int × KM))) :=
  fM_laysAhead_L32 x1 x2 t0 0 σ
def fM_laysAhead_B12 (x1 x2 : Int) (σ : KM) : Option ((Int × KM) ⊕ ((Int × KM) ⊕ (Int × KM))) :=
  kLt x2 24
    (kEq x1 0
       (fM_laysAhead_J28 x1 x2 0 σ)
       (fM_laysAhead_J28 x1 x2 1000000000 σ))
    (kExit (fM_laysAhead_J125 x1 σ))
def fM_laysAhead_L12 (x1 x2 : Int) (σ : KM) : Option ((Int × KM) ⊕ (Int × KM)) := kIter (fun s => fM_laysAhead_B12 x1 s.1 s.2) kF (x2, σ)
def fM_laysAhead_B2 (x1 : Int) (σ : KM) : Option ((Int × KM) ⊕ (Int × KM)) :=
  kLt x1 (σ 10 37)
    (fM_laysAhead_L12 x1 0 σ)
    (kExit (fM_laysAhead_J131 σ))
def fM_laysAhead_L2 (x1 : Int) (σ : KM) : Option (Int × KM) := kIter (fun s => fM_laysAhead_B2 s.1 s.2) kF (x1, σ)
def fM_laysAhead (σ : KM) : Option (Int × KM) :=
  fM_laysAhead_L2 0 σ
def fM_throughNow_J44 (t0 : Int) (σ : KM) : Option (Int × KM) :=
  kRetI t0 σ
def fM_throughNow (x1 x2 : Int) (σ : KM) : Option (Int × KM) :=
  kLet ((24 * x1) + x2) fun y1 =>
  kRd σ 60 1152 y1 fun y2 =>
  kRd σ 61 1152 y1 fun y3 =>
  kCall (fM_added y2 y3 σ) fun r5 τ4 =>
  kLt r5 1000000000
    (kRd τ4 59 1152 y1 fun y6 =>
     fM_throughNow_J44 (r5 - y6) τ4)
    (fM_throughNow_J44 (-1) τ4)
def fM_through_J20 (σ : KM) : Option (Int × KM) :=
  kRetI (-2) σ
def fM_through (x1 x2 : Int) (σ : KM) : Option (Int × KM) :=
  kWf σ 10 0 0 fun τ1 =>
  kCall (fM_isWindow x1 τ1) fun r3 τ2 =>
  kEq r3 0
    (fM_through_J20 τ2)
    (kCall (fM_isKey x2 τ2) fun r5 τ4 =>
     kEq r5 0
       (fM_through_J20 τ4)
       (kCall (fM_hasPath τ4) fun r7 τ6 =>
        kEq r7 0
          (kRetI (-5) τ6)
          (kCall (fM_laysAhead τ6) fun _ τ8 =>
           kCall (fM_throughNow x1 x2 τ8) fun r10 τ9 =>
           kRetI r10 τ9)))
def fM_ties_J87 (t0 : Int) (σ : KM) : Option (Int × KM) :=
  kRetI t0 σ
def fM_ties_J73 (x1 : Int) (σ : KM) : Option (Int × KM) :=
  kLt 1000000 x1
    (fM_ties_J87 1000000 σ)
    (fM_ties_J87 x1 σ)
def fM_ties_J65 (x2 t0 t1 : Int) (σ : KM) : Option ((Int × Int × KM) ⊕ (Int × KM)) :=
  kLet (t1 + t0) fun y1 =>
  kLet (x2 + 1) fun y2 =>
  some (.inl (y1, y2, σ))
def fM_ties_J64 (x2 t0 : Int) (σ : KM) : Option ((Int × Int × KM) ⊕ (Int × KM)) :=
  fM_ties_J65 x2 0 t0 σ
def fM_ties_B28 (x1 x2 : Int) (σ : KM) : Option ((Int × Int × KM) ⊕ (Int × KM)) :=
  kLt x2 24
    (kRd σ 61 1152 x2 fun y1 =>
     kEq y1 (σ 10 38)
       (kLt x1 1000000
          (kRd σ 62 1152 x2 fun y2 =>
           fM_ties_J65 x2 y2 x1 σ)
          (fM_ties_J64 x2 x1 σ))
       (fM_ties_J64 x2 x1 σ))
    (kExit (fM_ties_J73 x1 σ))
def fM_ties_L28 (x1 x2 : Int) (σ : KM) : Option (Int × KM) := kIter (fun s => fM_ties_B28 s.1 s.2.1 s.2.2) kF (x1, x2, σ)
def fM_ties (σ : KM) : Option (Int × KM) :=
  kWf σ 10 0 0 fun τ1 =>
  kCall (fM_hasPath τ1) fun r3 τ2 =>
  kEq r3 0
    (kRetI (-5) τ2)
    (kEq (τ2 10 37) 0
       (kRetI 1 τ2)
       (fM_ties_L28 0 0 τ2))
def fM_tones_J59 (t0 : Int) (σ : KM) : Option (Int × KM) :=
  kRetI t0 σ
def fM_tones_J36 (x1 x2 : Int) (σ : KM) : Option (Int × KM) :=
  kCall (fM_countedIn x1 σ) fun _ τ1 =>
  kEq x2 (-1)
    (fM_tones_J59 (τ1 10 27) τ1)
    (kRd τ1 55 12 x2 fun y2 =>
     fM_tones_J59 y2 τ1)
def fM_tones (x1 x2 : Int) (σ : KM) : Option (Int × KM) :=
  kWf σ 10 0 0 fun τ1 =>
  kCall (fM_isWindow x1 τ1) fun r3 τ2 =>
  kEq r3 0
    (kRetI (-2) τ2)
    (kEq x2 (-1)
       (fM_tones_J36 x1 x2 τ2)
       (kCk x2 <|
        kCall (fM_isIn x2 0 11 τ2) fun r5 τ4 =>
        kEq r5 0
          (kRetI (-3) τ4)
          (fM_tones_J36 x1 x2 τ4)))
def fM_undo_J109 (σ : KM) : Option (Int × KM) :=
  kRetI (σ 10 10) σ
def fM_undo_B46 (x1 x2 : Int) (σ : KM) : Option ((Int × KM) ⊕ (Int × KM)) :=
  kLt x2 100
    (kRd σ 51 3010 ((x1 + 1) + x2) fun y1 =>
     kWr σ 45 100 x2 y1 fun τ2 =>
     kRd τ2 51 3010 ((x1 + 101) + x2) fun y3 =>
     kWr τ2 46 100 x2 y3 fun τ4 =>
     kRd τ4 51 3010 ((x1 + 201) + x2) fun y5 =>
     kWr τ4 47 100 x2 y5 fun τ6 =>
     kLet (x2 + 1) fun y7 =>
     some (.inl (y7, τ6)))
    (kExit (fM_undo_J109 σ))
def fM_undo_L46 (x1 x2 : Int) (σ : KM) : Option (Int × KM) := kIter (fun s => fM_undo_B46 x1 s.1 s.2) kF (x2, σ)
def fM_undo (σ : KM) : Option (Int × KM) :=
  kWf σ 10 0 0 fun τ1 =>
  kEq (τ1 10 10) 0
    (kRetI (-5) τ1)
    (kWf τ1 10 10 ((τ1 10 10) - 1) fun τ2 =>
     kLet (301 * (τ2 10 10)) fun y3 =>
     kRd τ2 51 3010 y3 fun y4 =>
     kWf τ2 10 7 y4 fun τ5 =>
     fM_undo_L46 y3 0 τ5)
def fM_unsure_J98 (x3 : Int) (σ : KM) : Option (Int × KM) :=
  kRetI x3 σ
def fM_unsure_J90 (x1 x2 x4 t0 t1 : Int) (σ : KM) : Option ((Int × Int × KM) ⊕ (Int × KM)) :=
  kLet (t1 + t0) fun y1 =>
  kLet (x4 + 1) fun y2 =>
  some (.inl (y1, y2, σ))
def fM_unsure_J89 (x1 x2 x4 t0 : Int) (σ : KM) : Option ((Int × Int × KM) ⊕ (Int × KM)) :=
  fM_unsure_J90 x1 x2 x4 0 t0 σ
def fM_unsure_B50 (x1 x2 x3 x4 : Int) (σ : KM) : Option ((Int × Int × KM) ⊕ (Int × KM)) :=
  kLt x4 24
    (kCall (fM_throughNow x1 x4 σ) fun r2 τ1 =>
     kEq r2 (-1)
       (fM_unsure_J89 x1 x2 x4 x3 τ1)
       (kCall (fM_throughNow x1 x4 τ1) fun r4 τ3 =>
        kLt ((τ3 10 38) + x2) r4
          (fM_unsure_J89 x1 x2 x4 x3 τ3)
          (fM_unsure_J90 x1 x2 x4 1 x3 τ3)))
    (kExit (fM_unsure_J98 x3 σ))
def fM_unsure_L50 (x1 x2 x3 x4 : Int) (σ : KM) : Option (Int × KM) := kIter (fun s => fM_unsure_B50 x1 x2 s.1 s.2.1 s.2.2) kF (x3, x4, σ)
def fM_unsure (x1 x2 : Int) (σ : KM) : Option (Int × KM) :=
  kWf σ 10 0 0 fun τ1 =>
  kCall (fM_isWindow x1 τ1) fun r3 τ2 =>
  kEq r3 0
    (kRetI (-2) τ2)
    (kCk x2 <|
     kCall (fM_isIn x2 0 9999 τ2) fun r5 τ4 =>
     kEq r5 0
       (kRetI (-3) τ4)
       (kCall (fM_hasPath τ4) fun r7 τ6 =>
        kEq r7 0
          (kRetI (-5) τ6)
          (kCall (fM_laysAhead τ6) fun _ τ8 =>
           fM_unsure_L50 x1 x2 0 0 τ8)))
def fM_way_J19 (σ : KM) : Option (Int × KM) :=
  kRetI (-2) σ
def fM_way_J150 (x4 : Int) (σ : KM) : Option (Int × KM) :=
  kRetI x4 σ
def fM_way_J140 (x3 x5 x6 : Int) (σ : KM) : Option ((Int × Int × KM) ⊕ (Int × KM)) :=
  kLet (x5 + 1) fun y1 =>
  some (.inl (x6, y1, σ))
def fM_way_J134 (x3 x4 x5 x6 x7 : Int) (σ : KM) : Option ((Int × Int × KM) ⊕ ((Int × Int × KM) ⊕ (Int × KM))) :=
  kLet (x7 + 1) fun y1 =>
  some (.inl (x6, y1, σ))
def fM_way_B65 (x3 x4 x5 x6 x7 : Int) (σ : KM) : Option ((Int × Int × KM) ⊕ ((Int × Int × KM) ⊕ (Int × KM))) :=
  kLt x7 4
    (kCall (fM_next x4 x7 σ) fun r2 τ1 =>
     kRd τ1 56 24 r2 fun y3 =>
     kCall (fM_costs x7 τ1) fun r5 τ4 =>
     kRd τ4 56 24 x4 fun y6 =>
     kEq (y3 + r5) y6
       (kRd τ4 57 24 r2 fun y7 =>
        kRd τ4 57 24 x4 fun y8 =>
        kEq (y7 + 1) y8
          (kLt r2 x6
             (fM_way_J134 x3 x4 x5 r2 x7 τ4)
             (fM_way_J134 x3 x4 x5 x6 x7 τ4))
          (fM_way_J134 x3 x4 x5 x6 x7 τ4))
       (fM_way_J134 x3 x4 x5 x6 x7 τ4))
    (kExit (fM_way_J140 x3 x5 x6 σ))
def fM_way_L65 (x3 x4 x5 x6 x7 : Int) (σ : KM) : Option ((Int × Int × KM) ⊕ (Int × KM)) := kIter (fun s => fM_way_B65 x3 x4 x5 s.1 s.2.1 s.2.2) kF (x6, x7, σ)
def fM_way_B52 (x3 x4 x5 : Int) (σ : KM) : Option ((Int × Int × KM) ⊕ (Int × KM)) :=
  kLt x5 x3
    (fM_way_L65 x3 x4 x5 24 0 σ)
    (kExit (fM_way_J150 x4 σ))
def fM_way_L52 (x3 x4 x5 : Int) (σ : KM) : Option (Int × KM) := kIter (fun s => fM_way_B52 x3 s.1 s.2.1 s.2.2) kF (x4, x5, σ)
def fM_way (x1 x2 x3 : Int) (σ : KM) : Option (Int × KM) :=
  kWf σ 10 0 0 fun τ1 =>
  kCall (fM_isKey x1 τ1) fun r3 τ2 =>
  kEq r3 0
    (fM_way_J19 τ2)
    (kCall (fM_isKey x2 τ2) fun r5 τ4 =>
     kEq r5 0
       (fM_way_J19 τ4)
       (kLt x3 0
          (kRetI (-3) τ4)
          (kCall (fM_laysFar x2 τ4) fun _ τ6 =>
           kRd τ6 57 24 x1 fun y7 =>
           kLt y7 x3
             (kRetI (-1) τ6)
             (fM_way_L52 x3 x1 0 τ6))))
def fM_weight_J24 (σ : KM) : Option (Int × KM) :=
  kRetI (-2) σ
def fM_weight (x1 x2 x3 : Int) (σ : KM) : Option (Int × KM) :=
  kWf σ 10 0 0 fun τ1 =>
  kCall (fM_isMode x1 τ1) fun r3 τ2 =>
  kEq r3 0
    (fM_weight_J24 τ2)
    (kCk x2 <|
     kCall (fM_isIn x2 0 11 τ2) fun r5 τ4 =>
     kEq r5 0
       (fM_weight_J24 τ4)
       (kCk x3 <|
        kCall (fM_isIn x3 0 99 τ4) fun r7 τ6 =>
        kEq r7 0
          (kRetI (-3) τ6)
          (kRd τ6 52 24 ((12 * x1) + x2) fun y8 =>
           kWr τ6 52 24 ((12 * x1) + x2) x3 fun τ9 =>
           kRetI y8 τ9)))
def fM_windows_J33 (σ : KM) : Option (Int × KM) :=
  kRetI (-3) σ
def fM_windows (x1 x2 : Int) (σ : KM) : Option (Int × KM) :=
  kWf σ 10 0 0 fun τ1 =>
  kCk x1 <|
  kCall (fM_isIn x1 4 128 τ1) fun r3 τ2 =>
  kEq r3 0
    (fM_windows_J33 τ2)
    (kCk x2 <|
     kCall (fM_isIn x2 4 128 τ2) fun r5 τ4 =>
     kEq r5 0
       (fM_windows_J33 τ4)
       (kCall (fM_windowsBy x2 τ4) fun r7 τ6 =>
        kLt 48 r7
          (kRetI (-4) τ6)
          (kWf τ6 10 11 x1 fun τ8 =>
           kWf τ8 10 12 x2 fun τ9 =>
           kCall (fM_windowMany τ9) fun r11 τ10 =>
           kRetI r11 τ10)))
def fM_within_J255 (x1 : Int) (σ : KM) : Option (Int × KM) :=
  kCall (fM_leastOf 0 (24 * (x1 + 1)) σ) fun r2 τ1 =>
  kRetI r2 τ1
def fM_within_J242 (x1 x2 : Int) (σ : KM) : Option ((Int × KM) ⊕ (Int × KM)) :=
  kCall (fM_turns (x1 + 1) σ) fun _ τ1 =>
  kLet (x2 + 1) fun y2 =>
  some (.inl (y2, τ1))
def fM_within_J236 (x1 x2 x3 : Int) (σ : KM) : Option ((Int × KM) ⊕ ((Int × KM) ⊕ (Int × KM))) :=
  kLet (x3 + 1) fun y1 =>
  some (.inl (y1, σ))
def fM_within_J201 (x1 x2 x3 x4 x5 : Int) (σ : KM) : Option ((Int × KM) ⊕ ((Int × KM) ⊕ ((Int × KM) ⊕ (Int × KM)))) :=
  kRd σ 59 1152 ((24 * x2) + x4) fun y1 =>
  kCall (fM_added x5 y1 σ) fun r3 τ2 =>
  kWr τ2 66 1152 ((24 * x3) + x4) r3 fun τ4 =>
  kLet (x4 + 1) fun y5 =>
  some (.inl (y5, τ4))
def fM_within_J193 (x1 x2 x3 x4 x6 t0 : Int) (σ : KM) : Option ((Int × Int × KM) ⊕ ((Int × KM) ⊕ ((Int × KM) ⊕ ((Int × KM) ⊕ (Int × KM))))) :=
  kLet (x6 + 1) fun y1 =>
  some (.inl (t0, y1, σ))
def fM_within_J177 (x1 x2 x3 x4 x5 x6 t0 : Int) (σ : KM) : Option ((Int × Int × KM) ⊕ ((Int × KM) ⊕ ((Int × KM) ⊕ ((Int × KM) ⊕ (Int × KM))))) :=
  kLt t0 x5
    (fM_within_J193 x1 x2 x3 x4 x6 t0 σ)
    (fM_within_J193 x1 x2 x3 x4 x6 x5 σ)
def fM_within_B124 (x1 x2 x3 x4 x5 x6 : Int) (σ : KM) : Option ((Int × Int × KM) ⊕ ((Int × KM) ⊕ ((Int × KM) ⊕ ((Int × KM) ⊕ (Int × KM))))) :=
  kLt x6 24
    (kLt 0 x3
       (kEq x6 x4
          (fM_within_J177 x1 x2 x3 x4 x5 x6 1000000000 σ)
          (kRd σ 65 1152 ((24 * (x3 - 1)) + x6) fun y1 =>
           kCall (fM_moves x6 x4 x2 (σ 10 16) σ) fun r3 τ2 =>
           kCall (fM_added y1 r3 τ2) fun r5 τ4 =>
           fM_within_J177 x1 x2 x3 x4 x5 x6 r5 τ4))
       (kExit (fM_within_J201 x1 x2 x3 x4 x5 σ)))
    (kExit (fM_within_J201 x1 x2 x3 x4 x5 σ))
def fM_within_L124 (x1 x2 x3 x4 x5 x6 : Int) (σ : KM) : Option ((Int × KM) ⊕ ((Int × KM) ⊕ ((Int × KM) ⊕ (Int × KM)))) := kIter (fun s => fM_within_B124 x1 x2 x3 x4 s.1 s.2.1 s.2.2) kF (x5, x6, σ)
def fM_within_B100 (x1 x2 x3 x4 : Int) (σ : KM) : Option ((Int × KM) ⊕ ((Int × KM) ⊕ ((Int × KM) ⊕ (Int × KM)))) :=
  kLt x4 24
    (kRd σ 65 1152 ((24 * x3) + x4) fun y1 =>
     fM_within_L124 x1 x2 x3 x4 y1 0 σ)
    (kExit (fM_within_J236 x1 x2 x3 σ))
def fM_within_L100 (x1 x2 x3 x4 : Int) (σ : KM) : Option ((Int × KM) ⊕ ((Int × KM) ⊕ (Int × KM))) := kIter (fun s => fM_within_B100 x1 x2 x3 s.1 s.2) kF (x4, σ)
def fM_within_B92 (x1 x2 x3 : Int) (σ : KM) : Option ((Int × KM) ⊕ ((Int × KM) ⊕ (Int × KM))) :=
  kLt x1 x3
    (kExit (fM_within_J242 x1 x2 σ))
    (fM_within_L100 x1 x2 x3 0 σ)
def fM_within_L92 (x1 x2 x3 : Int) (σ : KM) : Option ((Int × KM) ⊕ (Int × KM)) := kIter (fun s => fM_within_B92 x1 x2 s.1 s.2) kF (x3, σ)
def fM_within_B82 (x1 x2 : Int) (σ : KM) : Option ((Int × KM) ⊕ (Int × KM)) :=
  kLt x2 (σ 10 37)
    (fM_within_L92 x1 x2 0 σ)
    (kExit (fM_within_J255 x1 σ))
def fM_within_L82 (x1 x2 : Int) (σ : KM) : Option (Int × KM) := kIter (fun s => fM_within_B82 x1 s.1 s.2) kF (x2, σ)
def fM_within_J80 (x1 : Int) (σ : KM) : Option (Int × KM) :=
  fM_within_L82 x1 1 σ
def fM_within_J73 (x1 x2 t0 t1 : Int) (σ : KM) : Option ((Int × KM) ⊕ (Int × KM)) :=
  kWr σ 65 1152 t1 t0 fun τ1 =>
  kLet (x2 + 1) fun y2 =>
  some (.inl (y2, τ1))
def fM_within_B41 (x1 x2 : Int) (σ : KM) : Option ((Int × KM) ⊕ (Int × KM)) :=
  kLt x2 (24 * (x1 + 1))
    (kLt x2 24
       (kRd σ 59 1152 x2 fun y1 =>
        fM_within_J73 x1 x2 y1 x2 σ)
       (fM_within_J73 x1 x2 1000000000 x2 σ))
    (kExit (fM_within_J80 x1 σ))
def fM_within_L41 (x1 x2 : Int) (σ : KM) : Option (Int × KM) := kIter (fun s => fM_within_B41 x1 s.1 s.2) kF (x2, σ)
def fM_within (x1 : Int) (σ : KM) : Option (Int × KM) :=
  kWf σ 10 0 0 fun τ1 =>
  kCk x1 <|
  kCall (fM_isIn x1 0 47 τ1) fun r3 τ2 =>
  kEq r3 0
    (kRetI (-3) τ2)
    (kCall (fM_hasPath τ2) fun r5 τ4 =>
     kEq r5 0
       (kRetI (-5) τ4)
       (kEq (τ4 10 37) 0
          (kRetI 0 τ4)
          (fM_within_L41 x1 0 τ4)))
end
