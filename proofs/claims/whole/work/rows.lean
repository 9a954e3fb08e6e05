section
-- ===== PART A: goes FIRST, ahead of the names: the tables' words, and 'selects' of the private methods out of them =====
/-- a private method of a class that the tables say can be made, by its rows of tables_1 -/
def lw_okq (q : MethodName × Nat) : Prop := (q.1.cls ≠ "java/lang/invoke/MethodHandle" ∧ q.1.cls ≠ "java/lang/invoke/VarHandle") ∧ Cond.instantiable q.1.cls q.2 ∈ tables_1 ∧ Cond.privateMethod q.1 ∈ tables_1 ∧ Cond.instanceMethod q.1 ∈ tables_1
theorem lw_p0 : lw_okq (⟨"KeyPath$TextReader", "next", "()I"⟩, 10) := ⟨⟨by decide +kernel, by decide +kernel⟩, List.mem_of_getElem? (i := 27) (by decide +kernel), List.mem_of_getElem? (i := 382) (by decide +kernel), List.mem_of_getElem? (i := 383) (by decide +kernel)⟩
theorem lw_p1 : lw_okq (⟨"KeyPath$TextReader", "readPart", "()V"⟩, 10) := ⟨⟨by decide +kernel, by decide +kernel⟩, List.mem_of_getElem? (i := 27) (by decide +kernel), List.mem_of_getElem? (i := 386) (by decide +kernel), List.mem_of_getElem? (i := 387) (by decide +kernel)⟩
theorem lw_p2 : lw_okq (⟨"KeyPath$TextReader", "readLength", "()V"⟩, 10) := ⟨⟨by decide +kernel, by decide +kernel⟩, List.mem_of_getElem? (i := 27) (by decide +kernel), List.mem_of_getElem? (i := 390) (by decide +kernel), List.mem_of_getElem? (i := 391) (by decide +kernel)⟩
theorem lw_p3 : lw_okq (⟨"KeyPath$TextReader", "fail", "(II)V"⟩, 10) := ⟨⟨by decide +kernel, by decide +kernel⟩, List.mem_of_getElem? (i := 27) (by decide +kernel), List.mem_of_getElem? (i := 394) (by decide +kernel), List.mem_of_getElem? (i := 395) (by decide +kernel)⟩
theorem lw_p4 : lw_okq (⟨"KeyPath$TextReader", "readNumber", "()I"⟩, 10) := ⟨⟨by decide +kernel, by decide +kernel⟩, List.mem_of_getElem? (i := 27) (by decide +kernel), List.mem_of_getElem? (i := 401) (by decide +kernel), List.mem_of_getElem? (i := 402) (by decide +kernel)⟩
theorem lw_p5 : lw_okq (⟨"KeyPath$TextReader", "soundNamed", "(I)V"⟩, 10) := ⟨⟨by decide +kernel, by decide +kernel⟩, List.mem_of_getElem? (i := 27) (by decide +kernel), List.mem_of_getElem? (i := 408) (by decide +kernel), List.mem_of_getElem? (i := 409) (by decide +kernel)⟩
theorem lw_p6 : lw_okq (⟨"KeyPath$Notes", "isBehind", "(IIII)Z"⟩, 4) := ⟨⟨by decide +kernel, by decide +kernel⟩, List.mem_of_getElem? (i := 33) (by decide +kernel), List.mem_of_getElem? (i := 416) (by decide +kernel), List.mem_of_getElem? (i := 417) (by decide +kernel)⟩
theorem lw_p7 : lw_okq (⟨"KeyPath$TextReader", "readNames", "()V"⟩, 10) := ⟨⟨by decide +kernel, by decide +kernel⟩, List.mem_of_getElem? (i := 27) (by decide +kernel), List.mem_of_getElem? (i := 427) (by decide +kernel), List.mem_of_getElem? (i := 428) (by decide +kernel)⟩
theorem lw_p8 : lw_okq (⟨"KeyPath$TextReader", "readName", "()V"⟩, 10) := ⟨⟨by decide +kernel, by decide +kernel⟩, List.mem_of_getElem? (i := 27) (by decide +kernel), List.mem_of_getElem? (i := 431) (by decide +kernel), List.mem_of_getElem? (i := 432) (by decide +kernel)⟩
theorem lw_p9 : lw_okq (⟨"KeyPath$TextReader", "readAccidental", "()I"⟩, 10) := ⟨⟨by decide +kernel, by decide +kernel⟩, List.mem_of_getElem? (i := 27) (by decide +kernel), List.mem_of_getElem? (i := 440) (by decide +kernel), List.mem_of_getElem? (i := 441) (by decide +kernel)⟩
theorem lw_p10 : lw_okq (⟨"KeyPath$TextReader", "isNamed", "(I)Z"⟩, 10) := ⟨⟨by decide +kernel, by decide +kernel⟩, List.mem_of_getElem? (i := 27) (by decide +kernel), List.mem_of_getElem? (i := 444) (by decide +kernel), List.mem_of_getElem? (i := 445) (by decide +kernel)⟩
theorem lw_p11 : lw_okq (⟨"KeyPath", "notesChanged", "()V"⟩, 8) := ⟨⟨by decide +kernel, by decide +kernel⟩, List.mem_of_getElem? (i := 19) (by decide +kernel), List.mem_of_getElem? (i := 456) (by decide +kernel), List.mem_of_getElem? (i := 457) (by decide +kernel)⟩
theorem lw_p12 : lw_okq (⟨"KeyPath", "weightsChanged", "()V"⟩, 8) := ⟨⟨by decide +kernel, by decide +kernel⟩, List.mem_of_getElem? (i := 19) (by decide +kernel), List.mem_of_getElem? (i := 460) (by decide +kernel), List.mem_of_getElem? (i := 461) (by decide +kernel)⟩
theorem lw_p13 : lw_okq (⟨"KeyPath", "pathChanged", "()V"⟩, 8) := ⟨⟨by decide +kernel, by decide +kernel⟩, List.mem_of_getElem? (i := 19) (by decide +kernel), List.mem_of_getElem? (i := 464) (by decide +kernel), List.mem_of_getElem? (i := 465) (by decide +kernel)⟩
theorem lw_p14 : lw_okq (⟨"KeyPath$History", "forgetOldest", "()V"⟩, 6) := ⟨⟨by decide +kernel, by decide +kernel⟩, List.mem_of_getElem? (i := 99) (by decide +kernel), List.mem_of_getElem? (i := 485) (by decide +kernel), List.mem_of_getElem? (i := 486) (by decide +kernel)⟩
theorem lw_p15 : lw_okq (⟨"KeyPath", "freshWindows", "()V"⟩, 8) := ⟨⟨by decide +kernel, by decide +kernel⟩, List.mem_of_getElem? (i := 19) (by decide +kernel), List.mem_of_getElem? (i := 541) (by decide +kernel), List.mem_of_getElem? (i := 542) (by decide +kernel)⟩
def lw_privs_1 : List (MethodName × Nat) := [(⟨"KeyPath$TextReader", "next", "()I"⟩, 10), (⟨"KeyPath$TextReader", "readPart", "()V"⟩, 10), (⟨"KeyPath$TextReader", "readLength", "()V"⟩, 10), (⟨"KeyPath$TextReader", "fail", "(II)V"⟩, 10), (⟨"KeyPath$TextReader", "readNumber", "()I"⟩, 10), (⟨"KeyPath$TextReader", "soundNamed", "(I)V"⟩, 10), (⟨"KeyPath$Notes", "isBehind", "(IIII)Z"⟩, 4), (⟨"KeyPath$TextReader", "readNames", "()V"⟩, 10), (⟨"KeyPath$TextReader", "readName", "()V"⟩, 10), (⟨"KeyPath$TextReader", "readAccidental", "()I"⟩, 10), (⟨"KeyPath$TextReader", "isNamed", "(I)Z"⟩, 10), (⟨"KeyPath", "notesChanged", "()V"⟩, 8), (⟨"KeyPath", "weightsChanged", "()V"⟩, 8), (⟨"KeyPath", "pathChanged", "()V"⟩, 8), (⟨"KeyPath$History", "forgetOldest", "()V"⟩, 6), (⟨"KeyPath", "freshWindows", "()V"⟩, 8)]
theorem lw_r1 : ∀ q ∈ lw_privs_1, lw_okq q := List.forall_mem_cons.mpr ⟨lw_p0, List.forall_mem_cons.mpr ⟨lw_p1, List.forall_mem_cons.mpr ⟨lw_p2, List.forall_mem_cons.mpr ⟨lw_p3, List.forall_mem_cons.mpr ⟨lw_p4, List.forall_mem_cons.mpr ⟨lw_p5, List.forall_mem_cons.mpr ⟨lw_p6, List.forall_mem_cons.mpr ⟨lw_p7, List.forall_mem_cons.mpr ⟨lw_p8, List.forall_mem_cons.mpr ⟨lw_p9, List.forall_mem_cons.mpr ⟨lw_p10, List.forall_mem_cons.mpr ⟨lw_p11, List.forall_mem_cons.mpr ⟨lw_p12, List.forall_mem_cons.mpr ⟨lw_p13, List.forall_mem_cons.mpr ⟨lw_p14, List.forall_mem_cons.mpr ⟨lw_p15, fun _ h => absurd h List.not_mem_nil⟩⟩⟩⟩⟩⟩⟩⟩⟩⟩⟩⟩⟩⟩⟩⟩
theorem lw_p16 : lw_okq (⟨"KeyPath$Windows", "countSpan", "(LKeyPath$Notes;III)V"⟩, 7) := ⟨⟨by decide +kernel, by decide +kernel⟩, List.mem_of_getElem? (i := 125) (by decide +kernel), List.mem_of_getElem? (i := 552) (by decide +kernel), List.mem_of_getElem? (i := 553) (by decide +kernel)⟩
theorem lw_p17 : lw_okq (⟨"KeyPath$Windows", "fullestTriad", "(I)I"⟩, 7) := ⟨⟨by decide +kernel, by decide +kernel⟩, List.mem_of_getElem? (i := 125) (by decide +kernel), List.mem_of_getElem? (i := 563) (by decide +kernel), List.mem_of_getElem? (i := 564) (by decide +kernel)⟩
theorem lw_p18 : lw_okq (⟨"KeyPath", "noWindow", "(I)Z"⟩, 8) := ⟨⟨by decide +kernel, by decide +kernel⟩, List.mem_of_getElem? (i := 19) (by decide +kernel), List.mem_of_getElem? (i := 599) (by decide +kernel), List.mem_of_getElem? (i := 600) (by decide +kernel)⟩
theorem lw_p19 : lw_okq (⟨"KeyPath", "freshFits", "()V"⟩, 8) := ⟨⟨by decide +kernel, by decide +kernel⟩, List.mem_of_getElem? (i := 19) (by decide +kernel), List.mem_of_getElem? (i := 621) (by decide +kernel), List.mem_of_getElem? (i := 622) (by decide +kernel)⟩
theorem lw_p20 : lw_okq (⟨"KeyPath$Profiles", "judgeRow", "(LKeyPath$Windows;I)V"⟩, 4) := ⟨⟨by decide +kernel, by decide +kernel⟩, List.mem_of_getElem? (i := 165) (by decide +kernel), List.mem_of_getElem? (i := 629) (by decide +kernel), List.mem_of_getElem? (i := 630) (by decide +kernel)⟩
theorem lw_p21 : lw_okq (⟨"KeyPath$Profiles", "betterThan", "(II)I"⟩, 4) := ⟨⟨by decide +kernel, by decide +kernel⟩, List.mem_of_getElem? (i := 165) (by decide +kernel), List.mem_of_getElem? (i := 643) (by decide +kernel), List.mem_of_getElem? (i := 644) (by decide +kernel)⟩
theorem lw_p22 : lw_okq (⟨"KeyPath$Net", "reachFrom", "(I)V"⟩, 8) := ⟨⟨by decide +kernel, by decide +kernel⟩, List.mem_of_getElem? (i := 198) (by decide +kernel), List.mem_of_getElem? (i := 663) (by decide +kernel), List.mem_of_getElem? (i := 664) (by decide +kernel)⟩
theorem lw_p23 : lw_okq (⟨"KeyPath$Net", "rankOfStep", "(I)I"⟩, 8) := ⟨⟨by decide +kernel, by decide +kernel⟩, List.mem_of_getElem? (i := 198) (by decide +kernel), List.mem_of_getElem? (i := 676) (by decide +kernel), List.mem_of_getElem? (i := 677) (by decide +kernel)⟩
theorem lw_p24 : lw_okq (⟨"KeyPath$Net", "copyRow", "(II)V"⟩, 8) := ⟨⟨by decide +kernel, by decide +kernel⟩, List.mem_of_getElem? (i := 198) (by decide +kernel), List.mem_of_getElem? (i := 680) (by decide +kernel), List.mem_of_getElem? (i := 681) (by decide +kernel)⟩
theorem lw_p25 : lw_okq (⟨"KeyPath$Net", "nextOnWay", "(II)I"⟩, 8) := ⟨⟨by decide +kernel, by decide +kernel⟩, List.mem_of_getElem? (i := 198) (by decide +kernel), List.mem_of_getElem? (i := 692) (by decide +kernel), List.mem_of_getElem? (i := 693) (by decide +kernel)⟩
theorem lw_p26 : lw_okq (⟨"KeyPath", "noPath", "()Z"⟩, 8) := ⟨⟨by decide +kernel, by decide +kernel⟩, List.mem_of_getElem? (i := 19) (by decide +kernel), List.mem_of_getElem? (i := 701) (by decide +kernel), List.mem_of_getElem? (i := 702) (by decide +kernel)⟩
theorem lw_p27 : lw_okq (⟨"KeyPath$PathFinder", "lookBehind", "(II)V"⟩, 16) := ⟨⟨by decide +kernel, by decide +kernel⟩, List.mem_of_getElem? (i := 237) (by decide +kernel), List.mem_of_getElem? (i := 714) (by decide +kernel), List.mem_of_getElem? (i := 715) (by decide +kernel)⟩
theorem lw_p28 : lw_okq (⟨"KeyPath$PathFinder", "findLeast", "()V"⟩, 16) := ⟨⟨by decide +kernel, by decide +kernel⟩, List.mem_of_getElem? (i := 237) (by decide +kernel), List.mem_of_getElem? (i := 725) (by decide +kernel), List.mem_of_getElem? (i := 726) (by decide +kernel)⟩
theorem lw_p29 : lw_okq (⟨"KeyPath$PathFinder", "follow", "()V"⟩, 16) := ⟨⟨by decide +kernel, by decide +kernel⟩, List.mem_of_getElem? (i := 237) (by decide +kernel), List.mem_of_getElem? (i := 729) (by decide +kernel), List.mem_of_getElem? (i := 730) (by decide +kernel)⟩
theorem lw_p30 : lw_okq (⟨"KeyPath$PathFinder", "firstKey", "()I"⟩, 16) := ⟨⟨by decide +kernel, by decide +kernel⟩, List.mem_of_getElem? (i := 237) (by decide +kernel), List.mem_of_getElem? (i := 733) (by decide +kernel), List.mem_of_getElem? (i := 734) (by decide +kernel)⟩
theorem lw_p31 : lw_okq (⟨"KeyPath$PathFinder", "nextKey", "(I)I"⟩, 16) := ⟨⟨by decide +kernel, by decide +kernel⟩, List.mem_of_getElem? (i := 237) (by decide +kernel), List.mem_of_getElem? (i := 737) (by decide +kernel), List.mem_of_getElem? (i := 738) (by decide +kernel)⟩
def lw_privs_2 : List (MethodName × Nat) := [(⟨"KeyPath$Windows", "countSpan", "(LKeyPath$Notes;III)V"⟩, 7), (⟨"KeyPath$Windows", "fullestTriad", "(I)I"⟩, 7), (⟨"KeyPath", "noWindow", "(I)Z"⟩, 8), (⟨"KeyPath", "freshFits", "()V"⟩, 8), (⟨"KeyPath$Profiles", "judgeRow", "(LKeyPath$Windows;I)V"⟩, 4), (⟨"KeyPath$Profiles", "betterThan", "(II)I"⟩, 4), (⟨"KeyPath$Net", "reachFrom", "(I)V"⟩, 8), (⟨"KeyPath$Net", "rankOfStep", "(I)I"⟩, 8), (⟨"KeyPath$Net", "copyRow", "(II)V"⟩, 8), (⟨"KeyPath$Net", "nextOnWay", "(II)I"⟩, 8), (⟨"KeyPath", "noPath", "()Z"⟩, 8), (⟨"KeyPath$PathFinder", "lookBehind", "(II)V"⟩, 16), (⟨"KeyPath$PathFinder", "findLeast", "()V"⟩, 16), (⟨"KeyPath$PathFinder", "follow", "()V"⟩, 16), (⟨"KeyPath$PathFinder", "firstKey", "()I"⟩, 16), (⟨"KeyPath$PathFinder", "nextKey", "(I)I"⟩, 16)]
theorem lw_r2 : ∀ q ∈ lw_privs_2, lw_okq q := List.forall_mem_cons.mpr ⟨lw_p16, List.forall_mem_cons.mpr ⟨lw_p17, List.forall_mem_cons.mpr ⟨lw_p18, List.forall_mem_cons.mpr ⟨lw_p19, List.forall_mem_cons.mpr ⟨lw_p20, List.forall_mem_cons.mpr ⟨lw_p21, List.forall_mem_cons.mpr ⟨lw_p22, List.forall_mem_cons.mpr ⟨lw_p23, List.forall_mem_cons.mpr ⟨lw_p24, List.forall_mem_cons.mpr ⟨lw_p25, List.forall_mem_cons.mpr ⟨lw_p26, List.forall_mem_cons.mpr ⟨lw_p27, List.forall_mem_cons.mpr ⟨lw_p28, List.forall_mem_cons.mpr ⟨lw_p29, List.forall_mem_cons.mpr ⟨lw_p30, List.forall_mem_cons.mpr ⟨lw_p31, fun _ h => absurd h List.not_mem_nil⟩⟩⟩⟩⟩⟩⟩⟩⟩⟩⟩⟩⟩⟩⟩⟩
theorem lw_p32 : lw_okq (⟨"KeyPath$PathFinder", "splitSegments", "()V"⟩, 16) := ⟨⟨by decide +kernel, by decide +kernel⟩, List.mem_of_getElem? (i := 237) (by decide +kernel), List.mem_of_getElem? (i := 741) (by decide +kernel), List.mem_of_getElem? (i := 742) (by decide +kernel)⟩
theorem lw_p33 : lw_okq (⟨"KeyPath$Detours", "goOn", "(LKeyPath$PathFinder;II)V"⟩, 6) := ⟨⟨by decide +kernel, by decide +kernel⟩, List.mem_of_getElem? (i := 312) (by decide +kernel), List.mem_of_getElem? (i := 809) (by decide +kernel), List.mem_of_getElem? (i := 810) (by decide +kernel)⟩
theorem lw_p34 : lw_okq (⟨"KeyPath$Detours", "settle", "(LKeyPath$PathFinder;III)I"⟩, 6) := ⟨⟨by decide +kernel, by decide +kernel⟩, List.mem_of_getElem? (i := 312) (by decide +kernel), List.mem_of_getElem? (i := 824) (by decide +kernel), List.mem_of_getElem? (i := 825) (by decide +kernel)⟩
theorem lw_p35 : lw_okq (⟨"KeyPath$PathFinder", "searchFirm", "(LKeyPath$Net;)I"⟩, 16) := ⟨⟨by decide +kernel, by decide +kernel⟩, List.mem_of_getElem? (i := 237) (by decide +kernel), List.mem_of_getElem? (i := 836) (by decide +kernel), List.mem_of_getElem? (i := 837) (by decide +kernel)⟩
theorem lw_p36 : lw_okq (⟨"KeyPath$PathFinder", "isFirm", "(LKeyPath$Net;I)Z"⟩, 16) := ⟨⟨by decide +kernel, by decide +kernel⟩, List.mem_of_getElem? (i := 237) (by decide +kernel), List.mem_of_getElem? (i := 840) (by decide +kernel), List.mem_of_getElem? (i := 841) (by decide +kernel)⟩
theorem lw_p37 : lw_okq (⟨"KeyPath", "romanOf", "(I)I"⟩, 8) := ⟨⟨by decide +kernel, by decide +kernel⟩, List.mem_of_getElem? (i := 19) (by decide +kernel), List.mem_of_getElem? (i := 887) (by decide +kernel), List.mem_of_getElem? (i := 888) (by decide +kernel)⟩
theorem lw_p38 : lw_okq (⟨"KeyPathModel", "peek", "()I"⟩, 42) := ⟨⟨by decide +kernel, by decide +kernel⟩, List.mem_of_getElem? (i := 982) (by decide +kernel), List.mem_of_getElem? (i := 1126) (by decide +kernel), List.mem_of_getElem? (i := 1127) (by decide +kernel)⟩
theorem lw_p39 : lw_okq (⟨"KeyPathModel", "readOne", "()V"⟩, 42) := ⟨⟨by decide +kernel, by decide +kernel⟩, List.mem_of_getElem? (i := 982) (by decide +kernel), List.mem_of_getElem? (i := 1130) (by decide +kernel), List.mem_of_getElem? (i := 1131) (by decide +kernel)⟩
theorem lw_p40 : lw_okq (⟨"KeyPathModel", "nameRead", "(I)V"⟩, 42) := ⟨⟨by decide +kernel, by decide +kernel⟩, List.mem_of_getElem? (i := 982) (by decide +kernel), List.mem_of_getElem? (i := 1134) (by decide +kernel), List.mem_of_getElem? (i := 1135) (by decide +kernel)⟩
theorem lw_p41 : lw_okq (⟨"KeyPathModel", "isLetter", "()Z"⟩, 42) := ⟨⟨by decide +kernel, by decide +kernel⟩, List.mem_of_getElem? (i := 982) (by decide +kernel), List.mem_of_getElem? (i := 1138) (by decide +kernel), List.mem_of_getElem? (i := 1139) (by decide +kernel)⟩
theorem lw_p42 : lw_okq (⟨"KeyPathModel", "fails", "(II)V"⟩, 42) := ⟨⟨by decide +kernel, by decide +kernel⟩, List.mem_of_getElem? (i := 982) (by decide +kernel), List.mem_of_getElem? (i := 1144) (by decide +kernel), List.mem_of_getElem? (i := 1145) (by decide +kernel)⟩
theorem lw_p43 : lw_okq (⟨"KeyPathModel", "must", "(I)V"⟩, 42) := ⟨⟨by decide +kernel, by decide +kernel⟩, List.mem_of_getElem? (i := 982) (by decide +kernel), List.mem_of_getElem? (i := 1154) (by decide +kernel), List.mem_of_getElem? (i := 1155) (by decide +kernel)⟩
theorem lw_p44 : lw_okq (⟨"KeyPathModel", "lengthRead", "()I"⟩, 42) := ⟨⟨by decide +kernel, by decide +kernel⟩, List.mem_of_getElem? (i := 982) (by decide +kernel), List.mem_of_getElem? (i := 1158) (by decide +kernel), List.mem_of_getElem? (i := 1159) (by decide +kernel)⟩
theorem lw_p45 : lw_okq (⟨"KeyPathModel", "comes", "(III)I"⟩, 42) := ⟨⟨by decide +kernel, by decide +kernel⟩, List.mem_of_getElem? (i := 982) (by decide +kernel), List.mem_of_getElem? (i := 1163) (by decide +kernel), List.mem_of_getElem? (i := 1164) (by decide +kernel)⟩
theorem lw_p46 : lw_okq (⟨"KeyPathModel", "notesAct", "()V"⟩, 42) := ⟨⟨by decide +kernel, by decide +kernel⟩, List.mem_of_getElem? (i := 982) (by decide +kernel), List.mem_of_getElem? (i := 1176) (by decide +kernel), List.mem_of_getElem? (i := 1177) (by decide +kernel)⟩
theorem lw_p47 : lw_okq (⟨"KeyPathModel", "isNote", "(I)Z"⟩, 42) := ⟨⟨by decide +kernel, by decide +kernel⟩, List.mem_of_getElem? (i := 982) (by decide +kernel), List.mem_of_getElem? (i := 1184) (by decide +kernel), List.mem_of_getElem? (i := 1185) (by decide +kernel)⟩
def lw_privs_3 : List (MethodName × Nat) := [(⟨"KeyPath$PathFinder", "splitSegments", "()V"⟩, 16), (⟨"KeyPath$Detours", "goOn", "(LKeyPath$PathFinder;II)V"⟩, 6), (⟨"KeyPath$Detours", "settle", "(LKeyPath$PathFinder;III)I"⟩, 6), (⟨"KeyPath$PathFinder", "searchFirm", "(LKeyPath$Net;)I"⟩, 16), (⟨"KeyPath$PathFinder", "isFirm", "(LKeyPath$Net;I)Z"⟩, 16), (⟨"KeyPath", "romanOf", "(I)I"⟩, 8), (⟨"KeyPathModel", "peek", "()I"⟩, 42), (⟨"KeyPathModel", "readOne", "()V"⟩, 42), (⟨"KeyPathModel", "nameRead", "(I)V"⟩, 42), (⟨"KeyPathModel", "isLetter", "()Z"⟩, 42), (⟨"KeyPathModel", "fails", "(II)V"⟩, 42), (⟨"KeyPathModel", "must", "(I)V"⟩, 42), (⟨"KeyPathModel", "lengthRead", "()I"⟩, 42), (⟨"KeyPathModel", "comes", "(III)I"⟩, 42), (⟨"KeyPathModel", "notesAct", "()V"⟩, 42), (⟨"KeyPathModel", "isNote", "(I)Z"⟩, 42)]
theorem lw_r3 : ∀ q ∈ lw_privs_3, lw_okq q := List.forall_mem_cons.mpr ⟨lw_p32, List.forall_mem_cons.mpr ⟨lw_p33, List.forall_mem_cons.mpr ⟨lw_p34, List.forall_mem_cons.mpr ⟨lw_p35, List.forall_mem_cons.mpr ⟨lw_p36, List.forall_mem_cons.mpr ⟨lw_p37, List.forall_mem_cons.mpr ⟨lw_p38, List.forall_mem_cons.mpr ⟨lw_p39, List.forall_mem_cons.mpr ⟨lw_p40, List.forall_mem_cons.mpr ⟨lw_p41, List.forall_mem_cons.mpr ⟨lw_p42, List.forall_mem_cons.mpr ⟨lw_p43, List.forall_mem_cons.mpr ⟨lw_p44, List.forall_mem_cons.mpr ⟨lw_p45, List.forall_mem_cons.mpr ⟨lw_p46, List.forall_mem_cons.mpr ⟨lw_p47, fun _ h => absurd h List.not_mem_nil⟩⟩⟩⟩⟩⟩⟩⟩⟩⟩⟩⟩⟩⟩⟩⟩
theorem lw_p48 : lw_okq (⟨"KeyPathModel", "windowsBy", "(I)I"⟩, 42) := ⟨⟨by decide +kernel, by decide +kernel⟩, List.mem_of_getElem? (i := 982) (by decide +kernel), List.mem_of_getElem? (i := 1208) (by decide +kernel), List.mem_of_getElem? (i := 1209) (by decide +kernel)⟩
theorem lw_p49 : lw_okq (⟨"KeyPathModel", "theEnd", "()I"⟩, 42) := ⟨⟨by decide +kernel, by decide +kernel⟩, List.mem_of_getElem? (i := 982) (by decide +kernel), List.mem_of_getElem? (i := 1212) (by decide +kernel), List.mem_of_getElem? (i := 1213) (by decide +kernel)⟩
theorem lw_p50 : lw_okq (⟨"KeyPathModel", "windowMany", "()I"⟩, 42) := ⟨⟨by decide +kernel, by decide +kernel⟩, List.mem_of_getElem? (i := 982) (by decide +kernel), List.mem_of_getElem? (i := 1216) (by decide +kernel), List.mem_of_getElem? (i := 1217) (by decide +kernel)⟩
theorem lw_p51 : lw_okq (⟨"KeyPathModel", "isWindow", "(I)Z"⟩, 42) := ⟨⟨by decide +kernel, by decide +kernel⟩, List.mem_of_getElem? (i := 982) (by decide +kernel), List.mem_of_getElem? (i := 1248) (by decide +kernel), List.mem_of_getElem? (i := 1249) (by decide +kernel)⟩
theorem lw_p52 : lw_okq (⟨"KeyPathModel", "countedIn", "(I)V"⟩, 42) := ⟨⟨by decide +kernel, by decide +kernel⟩, List.mem_of_getElem? (i := 982) (by decide +kernel), List.mem_of_getElem? (i := 1252) (by decide +kernel), List.mem_of_getElem? (i := 1253) (by decide +kernel)⟩
theorem lw_p53 : lw_okq (⟨"KeyPathModel", "counted", "(II)V"⟩, 42) := ⟨⟨by decide +kernel, by decide +kernel⟩, List.mem_of_getElem? (i := 982) (by decide +kernel), List.mem_of_getElem? (i := 1256) (by decide +kernel), List.mem_of_getElem? (i := 1257) (by decide +kernel)⟩
theorem lw_p54 : lw_okq (⟨"KeyPathModel", "matched", "(I)I"⟩, 42) := ⟨⟨by decide +kernel, by decide +kernel⟩, List.mem_of_getElem? (i := 982) (by decide +kernel), List.mem_of_getElem? (i := 1264) (by decide +kernel), List.mem_of_getElem? (i := 1265) (by decide +kernel)⟩
theorem lw_p55 : lw_okq (⟨"KeyPathModel", "fitted", "(I)I"⟩, 42) := ⟨⟨by decide +kernel, by decide +kernel⟩, List.mem_of_getElem? (i := 982) (by decide +kernel), List.mem_of_getElem? (i := 1275) (by decide +kernel), List.mem_of_getElem? (i := 1276) (by decide +kernel)⟩
theorem lw_p56 : lw_okq (⟨"KeyPathModel", "rankedNow", "(I)I"⟩, 42) := ⟨⟨by decide +kernel, by decide +kernel⟩, List.mem_of_getElem? (i := 982) (by decide +kernel), List.mem_of_getElem? (i := 1283) (by decide +kernel), List.mem_of_getElem? (i := 1284) (by decide +kernel)⟩
theorem lw_p57 : lw_okq (⟨"KeyPathModel", "chordNow", "()I"⟩, 42) := ⟨⟨by decide +kernel, by decide +kernel⟩, List.mem_of_getElem? (i := 982) (by decide +kernel), List.mem_of_getElem? (i := 1295) (by decide +kernel), List.mem_of_getElem? (i := 1296) (by decide +kernel)⟩
theorem lw_p58 : lw_okq (⟨"KeyPathModel", "laysFar", "(I)V"⟩, 42) := ⟨⟨by decide +kernel, by decide +kernel⟩, List.mem_of_getElem? (i := 982) (by decide +kernel), List.mem_of_getElem? (i := 1306) (by decide +kernel), List.mem_of_getElem? (i := 1307) (by decide +kernel)⟩
theorem lw_p59 : lw_okq (⟨"KeyPathModel", "costs", "(I)I"⟩, 42) := ⟨⟨by decide +kernel, by decide +kernel⟩, List.mem_of_getElem? (i := 982) (by decide +kernel), List.mem_of_getElem? (i := 1314) (by decide +kernel), List.mem_of_getElem? (i := 1315) (by decide +kernel)⟩
theorem lw_p60 : lw_okq (⟨"KeyPathModel", "hasPath", "()Z"⟩, 42) := ⟨⟨by decide +kernel, by decide +kernel⟩, List.mem_of_getElem? (i := 982) (by decide +kernel), List.mem_of_getElem? (i := 1326) (by decide +kernel), List.mem_of_getElem? (i := 1327) (by decide +kernel)⟩
theorem lw_p61 : lw_okq (⟨"KeyPathModel", "laysOwn", "()V"⟩, 42) := ⟨⟨by decide +kernel, by decide +kernel⟩, List.mem_of_getElem? (i := 982) (by decide +kernel), List.mem_of_getElem? (i := 1330) (by decide +kernel), List.mem_of_getElem? (i := 1331) (by decide +kernel)⟩
theorem lw_p62 : lw_okq (⟨"KeyPathModel", "laysNet", "()V"⟩, 42) := ⟨⟨by decide +kernel, by decide +kernel⟩, List.mem_of_getElem? (i := 982) (by decide +kernel), List.mem_of_getElem? (i := 1334) (by decide +kernel), List.mem_of_getElem? (i := 1335) (by decide +kernel)⟩
theorem lw_p63 : lw_okq (⟨"KeyPathModel", "laysPath", "(I)Z"⟩, 42) := ⟨⟨by decide +kernel, by decide +kernel⟩, List.mem_of_getElem? (i := 982) (by decide +kernel), List.mem_of_getElem? (i := 1338) (by decide +kernel), List.mem_of_getElem? (i := 1339) (by decide +kernel)⟩
def lw_privs_4 : List (MethodName × Nat) := [(⟨"KeyPathModel", "windowsBy", "(I)I"⟩, 42), (⟨"KeyPathModel", "theEnd", "()I"⟩, 42), (⟨"KeyPathModel", "windowMany", "()I"⟩, 42), (⟨"KeyPathModel", "isWindow", "(I)Z"⟩, 42), (⟨"KeyPathModel", "countedIn", "(I)V"⟩, 42), (⟨"KeyPathModel", "counted", "(II)V"⟩, 42), (⟨"KeyPathModel", "matched", "(I)I"⟩, 42), (⟨"KeyPathModel", "fitted", "(I)I"⟩, 42), (⟨"KeyPathModel", "rankedNow", "(I)I"⟩, 42), (⟨"KeyPathModel", "chordNow", "()I"⟩, 42), (⟨"KeyPathModel", "laysFar", "(I)V"⟩, 42), (⟨"KeyPathModel", "costs", "(I)I"⟩, 42), (⟨"KeyPathModel", "hasPath", "()Z"⟩, 42), (⟨"KeyPathModel", "laysOwn", "()V"⟩, 42), (⟨"KeyPathModel", "laysNet", "()V"⟩, 42), (⟨"KeyPathModel", "laysPath", "(I)Z"⟩, 42)]
theorem lw_r4 : ∀ q ∈ lw_privs_4, lw_okq q := List.forall_mem_cons.mpr ⟨lw_p48, List.forall_mem_cons.mpr ⟨lw_p49, List.forall_mem_cons.mpr ⟨lw_p50, List.forall_mem_cons.mpr ⟨lw_p51, List.forall_mem_cons.mpr ⟨lw_p52, List.forall_mem_cons.mpr ⟨lw_p53, List.forall_mem_cons.mpr ⟨lw_p54, List.forall_mem_cons.mpr ⟨lw_p55, List.forall_mem_cons.mpr ⟨lw_p56, List.forall_mem_cons.mpr ⟨lw_p57, List.forall_mem_cons.mpr ⟨lw_p58, List.forall_mem_cons.mpr ⟨lw_p59, List.forall_mem_cons.mpr ⟨lw_p60, List.forall_mem_cons.mpr ⟨lw_p61, List.forall_mem_cons.mpr ⟨lw_p62, List.forall_mem_cons.mpr ⟨lw_p63, fun _ h => absurd h List.not_mem_nil⟩⟩⟩⟩⟩⟩⟩⟩⟩⟩⟩⟩⟩⟩⟩⟩
theorem lw_p64 : lw_okq (⟨"KeyPathModel", "moves", "(IIII)I"⟩, 42) := ⟨⟨by decide +kernel, by decide +kernel⟩, List.mem_of_getElem? (i := 982) (by decide +kernel), List.mem_of_getElem? (i := 1342) (by decide +kernel), List.mem_of_getElem? (i := 1343) (by decide +kernel)⟩
theorem lw_p65 : lw_okq (⟨"KeyPathModel", "laysAhead", "()V"⟩, 42) := ⟨⟨by decide +kernel, by decide +kernel⟩, List.mem_of_getElem? (i := 982) (by decide +kernel), List.mem_of_getElem? (i := 1362) (by decide +kernel), List.mem_of_getElem? (i := 1363) (by decide +kernel)⟩
theorem lw_p66 : lw_okq (⟨"KeyPathModel", "throughNow", "(II)I"⟩, 42) := ⟨⟨by decide +kernel, by decide +kernel⟩, List.mem_of_getElem? (i := 982) (by decide +kernel), List.mem_of_getElem? (i := 1366) (by decide +kernel), List.mem_of_getElem? (i := 1367) (by decide +kernel)⟩
theorem lw_p67 : lw_okq (⟨"KeyPathModel", "turns", "(I)V"⟩, 42) := ⟨⟨by decide +kernel, by decide +kernel⟩, List.mem_of_getElem? (i := 982) (by decide +kernel), List.mem_of_getElem? (i := 1383) (by decide +kernel), List.mem_of_getElem? (i := 1384) (by decide +kernel)⟩
theorem lw_p68 : lw_okq (⟨"KeyPathModel", "leastOf", "(II)I"⟩, 42) := ⟨⟨by decide +kernel, by decide +kernel⟩, List.mem_of_getElem? (i := 982) (by decide +kernel), List.mem_of_getElem? (i := 1387) (by decide +kernel), List.mem_of_getElem? (i := 1388) (by decide +kernel)⟩
theorem lw_p69 : lw_okq (⟨"KeyPathModel", "segmentsNow", "()I"⟩, 42) := ⟨⟨by decide +kernel, by decide +kernel⟩, List.mem_of_getElem? (i := 982) (by decide +kernel), List.mem_of_getElem? (i := 1400) (by decide +kernel), List.mem_of_getElem? (i := 1401) (by decide +kernel)⟩
theorem lw_p70 : lw_okq (⟨"KeyPathModel", "firstOf", "(I)I"⟩, 42) := ⟨⟨by decide +kernel, by decide +kernel⟩, List.mem_of_getElem? (i := 982) (by decide +kernel), List.mem_of_getElem? (i := 1412) (by decide +kernel), List.mem_of_getElem? (i := 1413) (by decide +kernel)⟩
theorem lw_p71 : lw_okq (⟨"KeyPathModel", "romanNow", "(I)I"⟩, 42) := ⟨⟨by decide +kernel, by decide +kernel⟩, List.mem_of_getElem? (i := 982) (by decide +kernel), List.mem_of_getElem? (i := 1439) (by decide +kernel), List.mem_of_getElem? (i := 1440) (by decide +kernel)⟩
theorem lw_p72 : lw_okq (⟨"KeyPathModel", "isBehindFifth", "(II)Z"⟩, 42) := ⟨⟨by decide +kernel, by decide +kernel⟩, List.mem_of_getElem? (i := 982) (by decide +kernel), List.mem_of_getElem? (i := 1455) (by decide +kernel), List.mem_of_getElem? (i := 1456) (by decide +kernel)⟩
def lw_privs_5 : List (MethodName × Nat) := [(⟨"KeyPathModel", "moves", "(IIII)I"⟩, 42), (⟨"KeyPathModel", "laysAhead", "()V"⟩, 42), (⟨"KeyPathModel", "throughNow", "(II)I"⟩, 42), (⟨"KeyPathModel", "turns", "(I)V"⟩, 42), (⟨"KeyPathModel", "leastOf", "(II)I"⟩, 42), (⟨"KeyPathModel", "segmentsNow", "()I"⟩, 42), (⟨"KeyPathModel", "firstOf", "(I)I"⟩, 42), (⟨"KeyPathModel", "romanNow", "(I)I"⟩, 42), (⟨"KeyPathModel", "isBehindFifth", "(II)Z"⟩, 42)]
theorem lw_r5 : ∀ q ∈ lw_privs_5, lw_okq q := List.forall_mem_cons.mpr ⟨lw_p64, List.forall_mem_cons.mpr ⟨lw_p65, List.forall_mem_cons.mpr ⟨lw_p66, List.forall_mem_cons.mpr ⟨lw_p67, List.forall_mem_cons.mpr ⟨lw_p68, List.forall_mem_cons.mpr ⟨lw_p69, List.forall_mem_cons.mpr ⟨lw_p70, List.forall_mem_cons.mpr ⟨lw_p71, List.forall_mem_cons.mpr ⟨lw_p72, fun _ h => absurd h List.not_mem_nil⟩⟩⟩⟩⟩⟩⟩⟩⟩
def lw_privs : List (MethodName × Nat) := lw_privs_1 ++ (lw_privs_2 ++ (lw_privs_3 ++ (lw_privs_4 ++ (lw_privs_5))))
def lw_tbl : List Cond := k2_sels lw_privs ++ tables_1
theorem lw_privs_ok : ∀ q ∈ lw_privs, lw_okq q := by
  show ∀ q ∈ lw_privs_1 ++ (lw_privs_2 ++ (lw_privs_3 ++ (lw_privs_4 ++ (lw_privs_5)))), lw_okq q
  exact List.forall_mem_append.mpr ⟨lw_r1, List.forall_mem_append.mpr ⟨lw_r2, List.forall_mem_append.mpr ⟨lw_r3, List.forall_mem_append.mpr ⟨lw_r4, lw_r5⟩⟩⟩⟩
/-! ===== names, the cells ===== -/
def k_Tg : List Cond := lw_tbl.filter goodWord
theorem k_tg {w : Cond} (i : Nat) (h : tables_1[i]? = some w) (hg : goodWord w = true) : w ∈ k_Tg := List.mem_filter.mpr ⟨List.mem_append_right _ (List.mem_of_getElem? h), hg⟩
theorem k_tgs {w : Cond} (i : Nat) (h : (k2_sels lw_privs)[i]? = some w) (hg : goodWord w = true) : w ∈ k_Tg := List.mem_filter.mpr ⟨List.mem_append_left _ (List.mem_of_getElem? h), hg⟩
def k_T0 : u_T := fun k => match k with
  | 0 => ("KeyPath", "reader", "LKeyPath$TextReader;", true)
  | 1 => ("KeyPath", "notes", "LKeyPath$Notes;", true)
  | 2 => ("KeyPath", "history", "LKeyPath$History;", true)
  | 3 => ("KeyPath", "windows", "LKeyPath$Windows;", true)
  | 4 => ("KeyPath", "profiles", "LKeyPath$Profiles;", true)
  | 5 => ("KeyPath", "net", "LKeyPath$Net;", true)
  | 6 => ("KeyPath", "finder", "LKeyPath$PathFinder;", true)
  | _ => ("KeyPath", "detours", "LKeyPath$Detours;", true)
def k_y0 : Nat → FieldType := fun k => match k with
  | 0 => .object "KeyPath$TextReader"
  | 1 => .object "KeyPath$Notes"
  | 2 => .object "KeyPath$History"
  | 3 => .object "KeyPath$Windows"
  | 4 => .object "KeyPath$Profiles"
  | 5 => .object "KeyPath$Net"
  | 6 => .object "KeyPath$PathFinder"
  | _ => .object "KeyPath$Detours"
theorem k_n0 : ∀ a, a < 8 → ∀ b, b < 8 → a ≠ b → (k_T0 a).2.1 ≠ (k_T0 b).2.1 := by decide +kernel
theorem k_ok0 : ∀ k, k < 8 → parseFieldDescriptor (k_T0 k).2.2.1 = some (k_y0 k) := by decide +kernel
theorem k_lay0 : ∀ w ∈ u_ws "KeyPath" k_T0 8, w ∈ k_Tg := by
  have h : u_ws "KeyPath" k_T0 8 = ([345, 347, 349, 351, 353, 355, 357, 359] : List Nat).filterMap (fun i => tables_1[i]?) := by decide +kernel
  have hg : (u_ws "KeyPath" k_T0 8).all goodWord = true := by decide +kernel
  intro w hw
  have h1 := List.all_eq_true.mp hg w hw
  rw [h] at hw
  obtain ⟨i, -, hi⟩ := List.mem_filterMap.mp hw
  exact k_tg i hi h1
def k_T1 : u_T := fun k => match k with
  | 0 => ("KeyPath$TextReader", "tape", "[I", true)
  | 1 => ("KeyPath$TextReader", "held", "I", false)
  | 2 => ("KeyPath$TextReader", "found", "LKeyPath$Notes;", true)
  | 3 => ("KeyPath$TextReader", "trouble", "I", false)
  | 4 => ("KeyPath$TextReader", "place", "I", false)
  | 5 => ("KeyPath$TextReader", "length", "I", false)
  | 6 => ("KeyPath$TextReader", "at", "I", false)
  | 7 => ("KeyPath$TextReader", "tick", "I", false)
  | 8 => ("KeyPath$TextReader", "named", "[I", true)
  | _ => ("KeyPath$TextReader", "names", "I", false)
def k_y1 : Nat → FieldType := fun k => match k with
  | 0 => .array .int
  | 1 => .int
  | 2 => .object "KeyPath$Notes"
  | 3 => .int
  | 4 => .int
  | 5 => .int
  | 6 => .int
  | 7 => .int
  | 8 => .array .int
  | _ => .int
theorem k_n1 : ∀ a, a < 10 → ∀ b, b < 10 → a ≠ b → (k_T1 a).2.1 ≠ (k_T1 b).2.1 := by decide +kernel
theorem k_ok1 : ∀ k, k < 10 → parseFieldDescriptor (k_T1 k).2.2.1 = some (k_y1 k) := by decide +kernel
theorem k_lay1 : ∀ w ∈ u_ws "KeyPath$TextReader" k_T1 10, w ∈ k_Tg := by
  have h : u_ws "KeyPath$TextReader" k_T1 10 = ([75, 77, 79, 81, 83, 85, 87, 89, 91, 93] : List Nat).filterMap (fun i => tables_1[i]?) := by decide +kernel
  have hg : (u_ws "KeyPath$TextReader" k_T1 10).all goodWord = true := by decide +kernel
  intro w hw
  have h1 := List.all_eq_true.mp hg w hw
  rw [h] at hw
  obtain ⟨i, -, hi⟩ := List.mem_filterMap.mp hw
  exact k_tg i hi h1
def k_T2 : u_T := fun k => match k with
  | 0 => ("KeyPath$Notes", "ticks", "[I", true)
  | 1 => ("KeyPath$Notes", "lengths", "[I", true)
  | 2 => ("KeyPath$Notes", "pitches", "[I", true)
  | _ => ("KeyPath$Notes", "size", "I", false)
def k_y2 : Nat → FieldType := fun k => match k with
  | 0 => .array .int
  | 1 => .array .int
  | 2 => .array .int
  | _ => .int
theorem k_n2 : ∀ a, a < 4 → ∀ b, b < 4 → a ≠ b → (k_T2 a).2.1 ≠ (k_T2 b).2.1 := by decide +kernel
theorem k_ok2 : ∀ k, k < 4 → parseFieldDescriptor (k_T2 k).2.2.1 = some (k_y2 k) := by decide +kernel
theorem k_lay2 : ∀ w ∈ u_ws "KeyPath$Notes" k_T2 4, w ∈ k_Tg := by
  have h : u_ws "KeyPath$Notes" k_T2 4 = ([51, 53, 55, 57] : List Nat).filterMap (fun i => tables_1[i]?) := by decide +kernel
  have hg : (u_ws "KeyPath$Notes" k_T2 4).all goodWord = true := by decide +kernel
  intro w hw
  have h1 := List.all_eq_true.mp hg w hw
  rw [h] at hw
  obtain ⟨i, -, hi⟩ := List.mem_filterMap.mp hw
  exact k_tg i hi h1
def k_T3 : u_T := fun k => match k with
  | 0 => ("KeyPath$History", "kinds", "[I", true)
  | 1 => ("KeyPath$History", "places", "[I", true)
  | 2 => ("KeyPath$History", "ticks", "[I", true)
  | 3 => ("KeyPath$History", "lengths", "[I", true)
  | 4 => ("KeyPath$History", "pitches", "[I", true)
  | _ => ("KeyPath$History", "size", "I", false)
def k_y3 : Nat → FieldType := fun k => match k with
  | 0 => .array .int
  | 1 => .array .int
  | 2 => .array .int
  | 3 => .array .int
  | 4 => .array .int
  | _ => .int
theorem k_n3 : ∀ a, a < 6 → ∀ b, b < 6 → a ≠ b → (k_T3 a).2.1 ≠ (k_T3 b).2.1 := by decide +kernel
theorem k_ok3 : ∀ k, k < 6 → parseFieldDescriptor (k_T3 k).2.2.1 = some (k_y3 k) := by decide +kernel
theorem k_lay3 : ∀ w ∈ u_ws "KeyPath$History" k_T3 6, w ∈ k_Tg := by
  have h : u_ws "KeyPath$History" k_T3 6 = ([111, 113, 115, 117, 119, 121] : List Nat).filterMap (fun i => tables_1[i]?) := by decide +kernel
  have hg : (u_ws "KeyPath$History" k_T3 6).all goodWord = true := by decide +kernel
  intro w hw
  have h1 := List.all_eq_true.mp hg w hw
  rw [h] at hw
  obtain ⟨i, -, hi⟩ := List.mem_filterMap.mp hw
  exact k_tg i hi h1
def k_T4 : u_T := fun k => match k with
  | 0 => ("KeyPath$Windows", "wide", "I", false)
  | 1 => ("KeyPath$Windows", "hop", "I", false)
  | 2 => ("KeyPath$Windows", "size", "I", false)
  | 3 => ("KeyPath$Windows", "counts", "[I", true)
  | 4 => ("KeyPath$Windows", "totals", "[I", true)
  | 5 => ("KeyPath$Windows", "chords", "[I", true)
  | _ => ("KeyPath$Windows", "stale", "Z", false)
def k_y4 : Nat → FieldType := fun k => match k with
  | 0 => .int
  | 1 => .int
  | 2 => .int
  | 3 => .array .int
  | 4 => .array .int
  | 5 => .array .int
  | _ => .boolean
theorem k_n4 : ∀ a, a < 7 → ∀ b, b < 7 → a ≠ b → (k_T4 a).2.1 ≠ (k_T4 b).2.1 := by decide +kernel
theorem k_ok4 : ∀ k, k < 7 → parseFieldDescriptor (k_T4 k).2.2.1 = some (k_y4 k) := by decide +kernel
theorem k_lay4 : ∀ w ∈ u_ws "KeyPath$Windows" k_T4 7, w ∈ k_Tg := by
  have h : u_ws "KeyPath$Windows" k_T4 7 = ([149, 151, 153, 155, 157, 159, 161] : List Nat).filterMap (fun i => tables_1[i]?) := by decide +kernel
  have hg : (u_ws "KeyPath$Windows" k_T4 7).all goodWord = true := by decide +kernel
  intro w hw
  have h1 := List.all_eq_true.mp hg w hw
  rw [h] at hw
  obtain ⟨i, -, hi⟩ := List.mem_filterMap.mp hw
  exact k_tg i hi h1
def k_T5 : u_T := fun k => match k with
  | 0 => ("KeyPath$Profiles", "weights", "[I", true)
  | 1 => ("KeyPath$Profiles", "fits", "[I", true)
  | 2 => ("KeyPath$Profiles", "bests", "[I", true)
  | _ => ("KeyPath$Profiles", "stale", "Z", false)
def k_y5 : Nat → FieldType := fun k => match k with
  | 0 => .array .int
  | 1 => .array .int
  | 2 => .array .int
  | _ => .boolean
theorem k_n5 : ∀ a, a < 4 → ∀ b, b < 4 → a ≠ b → (k_T5 a).2.1 ≠ (k_T5 b).2.1 := by decide +kernel
theorem k_ok5 : ∀ k, k < 4 → parseFieldDescriptor (k_T5 k).2.2.1 = some (k_y5 k) := by decide +kernel
theorem k_lay5 : ∀ w ∈ u_ws "KeyPath$Profiles" k_T5 4, w ∈ k_Tg := by
  have h : u_ws "KeyPath$Profiles" k_T5 4 = ([188, 190, 192, 194] : List Nat).filterMap (fun i => tables_1[i]?) := by decide +kernel
  have hg : (u_ws "KeyPath$Profiles" k_T5 4).all goodWord = true := by decide +kernel
  intro w hw
  have h1 := List.all_eq_true.mp hg w hw
  rw [h] at hw
  obtain ⟨i, -, hi⟩ := List.mem_filterMap.mp hw
  exact k_tg i hi h1
def k_T6 : u_T := fun k => match k with
  | 0 => ("KeyPath$Net", "fifth", "I", false)
  | 1 => ("KeyPath$Net", "relative", "I", false)
  | 2 => ("KeyPath$Net", "parallel", "I", false)
  | 3 => ("KeyPath$Net", "factor", "I", false)
  | 4 => ("KeyPath$Net", "stale", "Z", false)
  | 5 => ("KeyPath$Net", "sums", "[I", true)
  | 6 => ("KeyPath$Net", "ranks", "[I", true)
  | _ => ("KeyPath$Net", "row", "[I", true)
def k_y6 : Nat → FieldType := fun k => match k with
  | 0 => .int
  | 1 => .int
  | 2 => .int
  | 3 => .int
  | 4 => .boolean
  | 5 => .array .int
  | 6 => .array .int
  | _ => .array .int
theorem k_n6 : ∀ a, a < 8 → ∀ b, b < 8 → a ≠ b → (k_T6 a).2.1 ≠ (k_T6 b).2.1 := by decide +kernel
theorem k_ok6 : ∀ k, k < 8 → parseFieldDescriptor (k_T6 k).2.2.1 = some (k_y6 k) := by decide +kernel
theorem k_lay6 : ∀ w ∈ u_ws "KeyPath$Net" k_T6 8, w ∈ k_Tg := by
  have h : u_ws "KeyPath$Net" k_T6 8 = ([219, 221, 223, 225, 227, 229, 231, 233] : List Nat).filterMap (fun i => tables_1[i]?) := by decide +kernel
  have hg : (u_ws "KeyPath$Net" k_T6 8).all goodWord = true := by decide +kernel
  intro w hw
  have h1 := List.all_eq_true.mp hg w hw
  rw [h] at hw
  obtain ⟨i, -, hi⟩ := List.mem_filterMap.mp hw
  exact k_tg i hi h1
def k_T7 : u_T := fun k => match k with
  | 0 => ("KeyPath$PathFinder", "pins", "[I", true)
  | 1 => ("KeyPath$PathFinder", "size", "I", false)
  | 2 => ("KeyPath$PathFinder", "own", "[I", true)
  | 3 => ("KeyPath$PathFinder", "kept", "[Z", true)
  | 4 => ("KeyPath$PathFinder", "steps", "[I", true)
  | 5 => ("KeyPath$PathFinder", "behind", "[I", true)
  | 6 => ("KeyPath$PathFinder", "ways", "[I", true)
  | 7 => ("KeyPath$PathFinder", "exists", "Z", false)
  | 8 => ("KeyPath$PathFinder", "least", "I", false)
  | 9 => ("KeyPath$PathFinder", "tied", "I", false)
  | 10 => ("KeyPath$PathFinder", "path", "[I", true)
  | 11 => ("KeyPath$PathFinder", "firsts", "[I", true)
  | 12 => ("KeyPath$PathFinder", "segmentCount", "I", false)
  | 13 => ("KeyPath$PathFinder", "stale", "Z", false)
  | 14 => ("KeyPath$PathFinder", "firmKnown", "Z", false)
  | _ => ("KeyPath$PathFinder", "firm", "I", false)
def k_y7 : Nat → FieldType := fun k => match k with
  | 0 => .array .int
  | 1 => .int
  | 2 => .array .int
  | 3 => .array .boolean
  | 4 => .array .int
  | 5 => .array .int
  | 6 => .array .int
  | 7 => .boolean
  | 8 => .int
  | 9 => .int
  | 10 => .array .int
  | 11 => .array .int
  | 12 => .int
  | 13 => .boolean
  | 14 => .boolean
  | _ => .int
theorem k_n7 : ∀ a, a < 16 → ∀ b, b < 16 → a ≠ b → (k_T7 a).2.1 ≠ (k_T7 b).2.1 := by decide +kernel
theorem k_ok7 : ∀ k, k < 16 → parseFieldDescriptor (k_T7 k).2.2.1 = some (k_y7 k) := by decide +kernel
theorem k_lay7 : ∀ w ∈ u_ws "KeyPath$PathFinder" k_T7 16, w ∈ k_Tg := by
  have h : u_ws "KeyPath$PathFinder" k_T7 16 = ([277, 279, 281, 283, 285, 287, 289, 291, 293, 295, 297, 299, 301, 303, 305, 307] : List Nat).filterMap (fun i => tables_1[i]?) := by decide +kernel
  have hg : (u_ws "KeyPath$PathFinder" k_T7 16).all goodWord = true := by decide +kernel
  intro w hw
  have h1 := List.all_eq_true.mp hg w hw
  rw [h] at hw
  obtain ⟨i, -, hi⟩ := List.mem_filterMap.mp hw
  exact k_tg i hi h1
def k_T8 : u_T := fun k => match k with
  | 0 => ("KeyPath$Detours", "ahead", "[I", true)
  | 1 => ("KeyPath$Detours", "aheadKnown", "Z", false)
  | 2 => ("KeyPath$Detours", "byMoves", "[I", true)
  | 3 => ("KeyPath$Detours", "leastByMoves", "[I", true)
  | 4 => ("KeyPath$Detours", "movesKnown", "Z", false)
  | _ => ("KeyPath$Detours", "settled", "[I", true)
def k_y8 : Nat → FieldType := fun k => match k with
  | 0 => .array .int
  | 1 => .boolean
  | 2 => .array .int
  | 3 => .array .int
  | 4 => .boolean
  | _ => .array .int
theorem k_n8 : ∀ a, a < 6 → ∀ b, b < 6 → a ≠ b → (k_T8 a).2.1 ≠ (k_T8 b).2.1 := by decide +kernel
theorem k_ok8 : ∀ k, k < 6 → parseFieldDescriptor (k_T8 k).2.2.1 = some (k_y8 k) := by decide +kernel
theorem k_lay8 : ∀ w ∈ u_ws "KeyPath$Detours" k_T8 6, w ∈ k_Tg := by
  have h : u_ws "KeyPath$Detours" k_T8 6 = ([324, 326, 328, 330, 332, 334] : List Nat).filterMap (fun i => tables_1[i]?) := by decide +kernel
  have hg : (u_ws "KeyPath$Detours" k_T8 6).all goodWord = true := by decide +kernel
  intro w hw
  have h1 := List.all_eq_true.mp hg w hw
  rw [h] at hw
  obtain ⟨i, -, hi⟩ := List.mem_filterMap.mp hw
  exact k_tg i hi h1
def k_T9 : u_T := fun k => match k with
  | 0 => ("KeyPathModel", "thrown", "I", false)
  | 1 => ("KeyPathModel", "tick", "[I", true)
  | 2 => ("KeyPathModel", "length", "[I", true)
  | 3 => ("KeyPathModel", "pitch", "[I", true)
  | 4 => ("KeyPathModel", "readTick", "[I", true)
  | 5 => ("KeyPathModel", "readLength", "[I", true)
  | 6 => ("KeyPathModel", "readPitch", "[I", true)
  | 7 => ("KeyPathModel", "notes", "I", false)
  | 8 => ("KeyPathModel", "readNotes", "I", false)
  | 9 => ("KeyPathModel", "acts", "[I", true)
  | 10 => ("KeyPathModel", "actMany", "I", false)
  | 11 => ("KeyPathModel", "wide", "I", false)
  | 12 => ("KeyPathModel", "hop", "I", false)
  | 13 => ("KeyPathModel", "fifth", "I", false)
  | 14 => ("KeyPathModel", "relative", "I", false)
  | 15 => ("KeyPathModel", "parallel", "I", false)
  | 16 => ("KeyPathModel", "factor", "I", false)
  | 17 => ("KeyPathModel", "weights", "[I", true)
  | 18 => ("KeyPathModel", "pins", "[I", true)
  | 19 => ("KeyPathModel", "tape", "[B", true)
  | 20 => ("KeyPathModel", "taped", "I", false)
  | 21 => ("KeyPathModel", "size", "I", false)
  | 22 => ("KeyPathModel", "spot", "I", false)
  | 23 => ("KeyPathModel", "wrong", "I", false)
  | 24 => ("KeyPathModel", "wrongAt", "I", false)
  | 25 => ("KeyPathModel", "now", "I", false)
  | 26 => ("KeyPathModel", "counts", "[I", true)
  | 27 => ("KeyPathModel", "sum", "I", false)
  | 28 => ("KeyPathModel", "far", "[I", true)
  | 29 => ("KeyPathModel", "ways", "[I", true)
  | 30 => ("KeyPathModel", "net", "[I", true)
  | 31 => ("KeyPathModel", "own", "[I", true)
  | 32 => ("KeyPathModel", "ahead", "[I", true)
  | 33 => ("KeyPathModel", "behind", "[I", true)
  | 34 => ("KeyPathModel", "tied", "[I", true)
  | 35 => ("KeyPathModel", "path", "[I", true)
  | 36 => ("KeyPathModel", "isSilent", "[Z", true)
  | 37 => ("KeyPathModel", "windows0", "I", false)
  | 38 => ("KeyPathModel", "least", "I", false)
  | 39 => ("KeyPathModel", "bySteps", "[I", true)
  | 40 => ("KeyPathModel", "stepped", "[I", true)
  | _ => ("KeyPathModel", "both", "[I", true)
def k_y9 : Nat → FieldType := fun k => match k with
  | 0 => .int
  | 1 => .array .int
  | 2 => .array .int
  | 3 => .array .int
  | 4 => .array .int
  | 5 => .array .int
  | 6 => .array .int
  | 7 => .int
  | 8 => .int
  | 9 => .array .int
  | 10 => .int
  | 11 => .int
  | 12 => .int
  | 13 => .int
  | 14 => .int
  | 15 => .int
  | 16 => .int
  | 17 => .array .int
  | 18 => .array .int
  | 19 => .array .byte
  | 20 => .int
  | 21 => .int
  | 22 => .int
  | 23 => .int
  | 24 => .int
  | 25 => .int
  | 26 => .array .int
  | 27 => .int
  | 28 => .array .int
  | 29 => .array .int
  | 30 => .array .int
  | 31 => .array .int
  | 32 => .array .int
  | 33 => .array .int
  | 34 => .array .int
  | 35 => .array .int
  | 36 => .array .boolean
  | 37 => .int
  | 38 => .int
  | 39 => .array .int
  | 40 => .array .int
  | _ => .array .int
theorem k_n9 : ∀ a, a < 42 → ∀ b, b < 42 → a ≠ b → (k_T9 a).2.1 ≠ (k_T9 b).2.1 := by decide +kernel
theorem k_ok9 : ∀ k, k < 42 → parseFieldDescriptor (k_T9 k).2.2.1 = some (k_y9 k) := by decide +kernel
theorem k_lay9 : ∀ w ∈ u_ws "KeyPathModel" k_T9 42, w ∈ k_Tg := by
  have h : u_ws "KeyPathModel" k_T9 42 = ([1029, 1031, 1033, 1035, 1037, 1039, 1041, 1043, 1045, 1047, 1049, 1051, 1053, 1055, 1057, 1059, 1061, 1063, 1065, 1067, 1069, 1071, 1073, 1075, 1077, 1079, 1081, 1083, 1085, 1087, 1089, 1091, 1093, 1095, 1097, 1099, 1101, 1103, 1105, 1107, 1109, 1111] : List Nat).filterMap (fun i => tables_1[i]?) := by decide +kernel
  have hg : (u_ws "KeyPathModel" k_T9 42).all goodWord = true := by decide +kernel
  intro w hw
  have h1 := List.all_eq_true.mp hg w hw
  rw [h] at hw
  obtain ⟨i, -, hi⟩ := List.mem_filterMap.mp hw
  exact k_tg i hi h1
abbrev k_cls : List vw_C := [("KeyPath", k_T0, 8), ("KeyPath$TextReader", k_T1, 10), ("KeyPath$Notes", k_T2, 4), ("KeyPath$History", k_T3, 6), ("KeyPath$Windows", k_T4, 7), ("KeyPath$Profiles", k_T5, 4), ("KeyPath$Net", k_T6, 8), ("KeyPath$PathFinder", k_T7, 16), ("KeyPath$Detours", k_T8, 6), ("KeyPathModel", k_T9, 42)]
/-- how many cells there are; of each: 0 an object, 1 int[], 2 byte[], 3 boolean[]; its length; its kind of object; its fields (some: the cell that it holds for good) -/
def k_NC : Nat := 68
def k_ty (c : Nat) : Nat := ([0, 0, 0, 0, 0, 0, 0, 0, 0, 0, 0, 1, 1, 1, 1, 1, 1, 1, 1, 1, 1, 1, 1, 1, 1, 1, 1, 1, 1, 1, 1, 1, 1, 1, 1, 3, 1, 1, 1, 1, 1, 1, 1, 1, 1, 1, 1, 1, 1, 1, 1, 1, 1, 1, 2, 1, 1, 1, 1, 1, 1, 1, 1, 1, 3, 1, 1, 1] : List Nat).getD c 9
def k_ln (c : Nat) : Nat := ([0, 0, 0, 0, 0, 0, 0, 0, 0, 0, 0, 700, 6, 100, 100, 100, 100, 100, 100, 10, 10, 10, 10, 10, 588, 49, 48, 24, 1176, 49, 576, 576, 24, 48, 1152, 48, 576, 1152, 1152, 48, 48, 1152, 1152, 48, 1152, 100, 100, 100, 100, 100, 100, 3010, 24, 48, 700, 12, 24, 24, 576, 1152, 1152, 1152, 1152, 48, 48, 1152, 1152, 12] : List Nat).getD c 0
def k_ci (c : Nat) : Nat := ([0, 1, 2, 2, 3, 4, 5, 6, 7, 8, 9, 0, 0, 0, 0, 0, 0, 0, 0, 0, 0, 0, 0, 0, 0, 0, 0, 0, 0, 0, 0, 0, 0, 0, 0, 0, 0, 0, 0, 0, 0, 0, 0, 0, 0, 0, 0, 0, 0, 0, 0, 0, 0, 0, 0, 0, 0, 0, 0, 0, 0, 0, 0, 0, 0, 0, 0, 0] : List Nat).getD c 0
def k_fs (c : Nat) : List (Option Nat) := ([[some 1, some 3, some 4, some 5, some 6, some 7, some 8, some 9], [some 11, none, some 2, none, none, none, none, none, some 12, none], [some 13, some 14, some 15, none], [some 16, some 17, some 18, none], [some 19, some 20, some 21, some 22, some 23, none], [none, none, none, some 24, some 25, some 26, none], [some 27, some 28, some 29, none], [none, none, none, none, none, some 30, some 31, some 32], [some 33, none, some 34, some 35, some 36, some 37, some 38, none, none, none, some 39, some 40, none, none, none, none], [some 41, none, some 42, some 43, none, some 44], [none, some 45, some 46, some 47, some 48, some 49, some 50, none, none, some 51, none, none, none, none, none, none, none, some 52, some 53, some 54, none, none, none, none, none, none, some 55, none, some 56, some 57, some 58, some 59, some 60, some 61, some 62, some 63, some 64, none, none, some 65, some 66, some 67]] : List (List (Option Nat))).getD c []
def k_nest : List Cond := [(Cond.methodLinkNest "KeyPath" (11 : Nat) ({ cls := "KeyPath$TextReader", name := "<init>", desc := "()V" } : MethodName) "KeyPath"), (Cond.methodLinkNest "KeyPath$TextReader" (17 : Nat) ({ cls := "KeyPath$Notes", name := "<init>", desc := "()V" } : MethodName) "KeyPath"), (Cond.methodLinkNest "KeyPath" (18 : Nat) ({ cls := "KeyPath$Notes", name := "<init>", desc := "()V" } : MethodName) "KeyPath"), (Cond.methodLinkNest "KeyPath" (25 : Nat) ({ cls := "KeyPath$History", name := "<init>", desc := "()V" } : MethodName) "KeyPath"), (Cond.methodLinkNest "KeyPath" (32 : Nat) ({ cls := "KeyPath$Windows", name := "<init>", desc := "()V" } : MethodName) "KeyPath"), (Cond.methodLinkNest "KeyPath" (39 : Nat) ({ cls := "KeyPath$Profiles", name := "<init>", desc := "()V" } : MethodName) "KeyPath"), (Cond.fieldLinkNest "KeyPath$Profiles" (9 : Nat) "KeyPath" "FIRST_WEIGHTS" "[I" "KeyPath"), (Cond.methodLinkNest "KeyPath" (46 : Nat) ({ cls := "KeyPath$Net", name := "<init>", desc := "()V" } : MethodName) "KeyPath"), (Cond.methodLinkNest "KeyPath" (60 : Nat) ({ cls := "KeyPath$Detours", name := "<init>", desc := "()V" } : MethodName) "KeyPath"), (Cond.methodLinkNest "KeyPath$TextReader" (89 : Nat) ({ cls := "KeyPath", name := "outOf", desc := "(III)Z" } : MethodName) "KeyPath"), (Cond.fieldLinkNest "KeyPath$TextReader" (80 : Nat) "KeyPath" "LETTER_TONES" "[I" "KeyPath"), (Cond.methodLinkNest "KeyPath$Notes" (35 : Nat) ({ cls := "KeyPath", name := "outOf", desc := "(III)Z" } : MethodName) "KeyPath"), (Cond.methodLinkNest "KeyPath$Windows" (77 : Nat) ({ cls := "KeyPath", name := "toneOf", desc := "(II)I" } : MethodName) "KeyPath"), (Cond.methodLinkNest "KeyPath$Profiles" (33 : Nat) ({ cls := "KeyPath", name := "modeOf", desc := "(I)I" } : MethodName) "KeyPath"), (Cond.methodLinkNest "KeyPath$Net" (38 : Nat) ({ cls := "KeyPath", name := "modeOf", desc := "(I)I" } : MethodName) "KeyPath"), (Cond.methodLinkNest "KeyPath$PathFinder" (87 : Nat) ({ cls := "KeyPath", name := "plus", desc := "(II)I" } : MethodName) "KeyPath"), (Cond.methodLinkNest "KeyPath$Detours" (48 : Nat) ({ cls := "KeyPath", name := "plus", desc := "(II)I" } : MethodName) "KeyPath"), (Cond.methodLinkNest "KeyPath$Windows" (81 : Nat) ({ cls := "KeyPath", name := "degreeOf", desc := "(II)I" } : MethodName) "KeyPath")]
def k_s0 : Nat → Int := fun j => ([0, 2, 4, 5, 7, 9, 11, 0, 2, 3, 5, 7, 8, 10] : List Int).getD j 0
def k_s1 : Nat → Int := fun j => ([0, 1, 1, 0, 0, 1, 2, 1, 2, 0, 1, 1, 0, 0] : List Int).getD j 0
def k_s2 : Nat → Int := fun j => ([4, 3, 3] : List Int).getD j 0
def k_s3 : Nat → Int := fun j => ([7, 7, 6] : List Int).getD j 0
def k_s4 : Nat → Int := fun j => ([9, 11, 0, 2, 4, 5, 7] : List Int).getD j 0
def k_s5 : Nat → Int := fun j => ([63, 22, 35, 23, 44, 41, 25, 52, 24, 37, 23, 29, 63, 27, 35, 54, 26, 35, 25, 48, 40, 27, 33, 32] : List Int).getD j 0
end
section
/-! ===== numbers ===== -/
abbrev KM : Type := Nat → Nat → Int
abbrev KV : Type := Int ⊕ (Int ⊕ Nat)
abbrev ki (v : Int) : KV := Sum.inl v
abbrev kl (v : Int) : KV := Sum.inr (Sum.inl v)
abbrev kr (c : Nat) : KV := Sum.inr (Sum.inr c)
abbrev li (v : Int) : Option KV := some (ki v)
abbrev lq (c : Nat) : Option KV := some (kr c)
def c32 (v : Int) : Int32 := Int32.ofInt v
def c64 (v : Int) : Int64 := Int64.ofInt v
def k_tr (α : Nat → Nat) : KV → Value
  | .inl v => .int (c32 v)
  | .inr (.inl v) => .long (c64 v)
  | .inr (.inr c) => .ref (α c)
abbrev kin (v : Int) : Prop := -2147483648 ≤ v ∧ v < 2147483648
abbrev kin6 (v : Int) : Prop := -9223372036854775808 ≤ v ∧ v < 9223372036854775808
theorem c32_toInt {a : Int} (h : kin a) : (c32 a).toInt = a := Int32.toInt_ofInt_of_le (by have := h.1; omega) (by have := h.2; omega)
theorem c64_toInt {a : Int} (h : kin6 a) : (c64 a).toInt = a := Int64.toInt_ofInt_of_le (by have := h.1; omega) (by have := h.2; omega)
theorem c32_of (x : Int32) : c32 x.toInt = x := Int32.ofInt_toInt x
theorem c32_add (a b : Int) : c32 (a + b) = c32 a + c32 b := Int32.ofInt_add a b
theorem c32_sub (a b : Int) : c32 (a - b) = c32 a - c32 b := Int32.ofInt_sub a b
theorem c32_mul (a b : Int) : c32 (a * b) = c32 a * c32 b := Int32.ofInt_mul a b
theorem c32_neg (a : Int) : c32 (-a) = -c32 a := Int32.ofInt_neg a
theorem c64_mul (a b : Int) : c64 (a * b) = c64 a * c64 b := Int64.ofInt_mul a b
theorem c32_min : Int32.minValue.toInt = -2147483648 := by decide
theorem c32_max : Int32.maxValue.toInt = 2147483647 := by decide
theorem c64_min : Int64.minValue.toInt = -9223372036854775808 := by decide
theorem c64_max : Int64.maxValue.toInt = 9223372036854775807 := by decide
theorem c32_lt {a b : Int} (ha : kin a) (hb : kin b) : c32 a < c32 b ↔ a < b := by
  rw [Int32.lt_iff_toInt_lt, c32_toInt ha, c32_toInt hb]
theorem c32_eq {a b : Int} (ha : kin a) (hb : kin b) : c32 a = c32 b ↔ a = b := by
  rw [← Int32.toInt_inj, c32_toInt ha, c32_toInt hb]
theorem c64_lt {a b : Int} (ha : kin6 a) (hb : kin6 b) : c64 a < c64 b ↔ a < b := by
  rw [Int64.lt_iff_toInt_lt, c64_toInt ha, c64_toInt hb]
theorem c64_eq {a b : Int} (ha : kin6 a) (hb : kin6 b) : c64 a = c64 b ↔ a = b := by
  rw [← Int64.toInt_inj, c64_toInt ha, c64_toInt hb]
theorem c32_0 : c32 0 = 0 := by decide
theorem c32_div {a b : Int} (ha : kin a) (hb : kin b) : c32 (a.tdiv b) = c32 a / c32 b :=
  Int32.ofInt_tdiv (by rw [c32_min]; exact ha.1) (by rw [c32_max]; have := ha.2; omega) (by rw [c32_min]; exact hb.1) (by rw [c32_max]; have := hb.2; omega)
theorem c64_div {a b : Int} (ha : kin6 a) (hb : kin6 b) : c64 (a.tdiv b) = c64 a / c64 b :=
  Int64.ofInt_tdiv (by rw [c64_min]; exact ha.1) (by rw [c64_max]; have := ha.2; omega) (by rw [c64_min]; exact hb.1) (by rw [c64_max]; have := hb.2; omega)
theorem c32_rem {a b : Int} (ha : kin a) (hb : kin b) : c32 (a.tmod b) = c32 a - c32 a / c32 b * c32 b := by
  rw [← c32_div ha hb, ← c32_mul, ← c32_sub]
  congr 1
  have := Int.tmod_def a b
  rw [this, Int.mul_comm]
theorem c32_ne0 {b : Int} (hb : kin b) (h : b ≠ 0) : ¬ c32 b = 0 := by
  rw [← c32_0, c32_eq hb (by decide)]
  exact h
theorem c32_clamp {a : Int} (h0 : 0 ≤ a) (h : a < 2147483648) : (c32 a).toNatClampNeg = a.toNat := by
  show (c32 a).toInt.toNat = a.toNat
  rw [c32_toInt ⟨by omega, h⟩]
theorem c32_in {a : Int} {N : Nat} (h0 : 0 ≤ a) (h : a < (N : Int)) (hN : N < 2147483648) : vp_in (c32 a) N := by
  rw [vp_in_iff, c32_toInt ⟨by omega, by omega⟩]
  exact ⟨h0, h⟩
theorem c32_l {a : Int} (h : kin a) : (c32 a).toInt64 = c64 a :=
  Int64.toInt_inj.mp (by rw [Int32.toInt_toInt64, c32_toInt h, c64_toInt ⟨by have := h.1; omega, by have := h.2; omega⟩])
theorem c64_i (a : Int) : (c64 a).toInt32 = c32 a := Int64.toInt32_ofInt
/-! ===== memory, the cells as a world ===== -/
def ks (σ : KM) (c i : Nat) (v : Int) : KM := fun c' i' => if c' = c ∧ i' = i then v else σ c' i'
theorem ks_ne {σ : KM} {c i : Nat} {v : Int} {c' : Nat} (h : c' ≠ c) : ks σ c i v c' = σ c' := by
  funext j
  simp [ks, h]
def k_fl (α : Nat → Nat) (f : Nat → Int) : Nat → List (Option Nat) → List Value
  | _, [] => []
  | k, some d :: r => .ref (α d) :: k_fl α f (k + 1) r
  | k, none :: r => .int (c32 (f k)) :: k_fl α f (k + 1) r
theorem k_fl_len (α : Nat → Nat) (f : Nat → Int) : ∀ (fs : List (Option Nat)) (s : Nat), (k_fl α f s fs).length = fs.length
  | [], s => rfl
  | some d :: r, s => by simp [k_fl, k_fl_len α f r]
  | none :: r, s => by simp [k_fl, k_fl_len α f r]
theorem k_fl_i (α : Nat → Nat) (f : Nat → Int) : ∀ (fs : List (Option Nat)) (s k : Nat), fs[k]? = some none → (k_fl α f s fs)[k]? = some (.int (c32 (f (s + k))))
  | [], s, k, h => by simp at h
  | some d :: r, s, 0, h => by simp at h
  | none :: r, s, 0, h => by simp [k_fl]
  | some d :: r, s, k + 1, h => by
    have := k_fl_i α f r (s + 1) k (by simpa using h)
    simp only [k_fl, List.getElem?_cons_succ, this]
    rw [show s + 1 + k = s + (k + 1) by omega]
  | none :: r, s, k + 1, h => by
    have := k_fl_i α f r (s + 1) k (by simpa using h)
    simp only [k_fl, List.getElem?_cons_succ, this]
    rw [show s + 1 + k = s + (k + 1) by omega]
theorem k_fl_r (α : Nat → Nat) (f : Nat → Int) : ∀ (fs : List (Option Nat)) (s k d : Nat), fs[k]? = some (some d) → (k_fl α f s fs)[k]? = some (.ref (α d))
  | [], s, k, d, h => by simp at h
  | some d' :: r, s, 0, d, h => by
    simp at h
    simp [k_fl, h]
  | none :: r, s, 0, d, h => by simp at h
  | some d' :: r, s, k + 1, d, h => by
    have := k_fl_r α f r (s + 1) k d (by simpa using h)
    simp only [k_fl, List.getElem?_cons_succ, this]
  | none :: r, s, k + 1, d, h => by
    have := k_fl_r α f r (s + 1) k d (by simpa using h)
    simp only [k_fl, List.getElem?_cons_succ, this]
theorem k_fl_ext (α : Nat → Nat) (f g : Nat → Int) : ∀ (fs : List (Option Nat)) (s : Nat), (∀ j, s ≤ j → f j = g j) → k_fl α f s fs = k_fl α g s fs
  | [], s, h => rfl
  | some d :: r, s, h => by simp [k_fl, k_fl_ext α f g r (s + 1) (fun j hj => h j (by omega))]
  | none :: r, s, h => by simp [k_fl, k_fl_ext α f g r (s + 1) (fun j hj => h j (by omega)), h s (Nat.le_refl s)]
theorem k_fl_set (α : Nat → Nat) (f : Nat → Int) (v : Int) : ∀ (fs : List (Option Nat)) (s k : Nat), fs[k]? = some none → (k_fl α f s fs).set k (.int (c32 v)) = k_fl α (fun j => if j = s + k then v else f j) s fs
  | [], s, k, h => by simp at h
  | some d :: r, s, 0, h => by simp at h
  | none :: r, s, 0, h => by
    simp only [k_fl, List.set_cons_zero, Nat.add_zero, if_true]
    rw [k_fl_ext α f (fun j => if j = s then v else f j) r (s + 1) (fun j hj => by rw [if_neg (by omega)])]
  | some d :: r, s, k + 1, h => by
    have := k_fl_set α f v r (s + 1) k (by simpa using h)
    simp only [k_fl, List.set_cons_succ, this]
    rw [show s + 1 + k = s + (k + 1) by omega]
  | none :: r, s, k + 1, h => by
    have := k_fl_set α f v r (s + 1) k (by simpa using h)
    simp only [k_fl, List.set_cons_succ, this]
    rw [show s + 1 + k = s + (k + 1) by omega, if_neg (by omega)]
def k_ent (α : Nat → Nat) (K : Nat → ClassId) (σ : KM) (c : Nat) : va_E := if k_ty c = 0 then .inr (k_ci c, k_fl α (σ c) 0 (k_fs c)) else .inl (K (k_ty c), k_ln c, .inl (fun j => c32 (σ c j)))
def k_wd (α : Nat → Nat) (K : Nat → ClassId) (σ : KM) : va_W := (List.range k_NC).map (fun c => (α c, k_ent α K σ c))
theorem k_at {α : Nat → Nat} {K : Nat → ClassId} {σ : KM} {c : Nat} (h : c < k_NC) : (k_wd α K σ)[c]? = some (α c, k_ent α K σ c) := by
  simp [k_wd, List.getElem?_map, List.getElem?_range h]
theorem k_ao {α : Nat → Nat} {K : Nat → ClassId} {σ : KM} {c : Nat} (h : c < k_NC) (h0 : k_ty c = 0) : (k_wd α K σ)[c]? = some (α c, .inr (k_ci c, k_fl α (σ c) 0 (k_fs c))) := by
  rw [k_at h]
  simp [k_ent, h0]
theorem k_aa {α : Nat → Nat} {K : Nat → ClassId} {σ : KM} {c : Nat} (h : c < k_NC) (h0 : k_ty c ≠ 0) : (k_wd α K σ)[c]? = some (α c, .inl (K (k_ty c), k_ln c, .inl (fun j => c32 (σ c j)))) := by
  rw [k_at h]
  simp [k_ent, h0]
theorem k_wd_len (α : Nat → Nat) (K : Nat → ClassId) (σ : KM) : (k_wd α K σ).length = k_NC := by simp [k_wd]
theorem k_wd_set {α : Nat → Nat} {K : Nat → ClassId} {σ τ : KM} {c : Nat} {e : va_E} (h : c < k_NC) (he : e = k_ent α K τ c) (hn : ∀ c', c' ≠ c → τ c' = σ c') : (k_wd α K σ).set c (α c, e) = k_wd α K τ := by
  apply List.ext_getElem?
  intro j
  by_cases hj : j = c
  · subst hj
    rw [List.getElem?_set_self (by rw [k_wd_len]; exact h), k_at h, he]
  · rw [List.getElem?_set_ne (Ne.symm hj)]
    by_cases hl : j < k_NC
    · rw [k_at hl, k_at hl]
      simp [k_ent, hn j hj]
    · rw [List.getElem?_eq_none (by rw [k_wd_len]; omega), List.getElem?_eq_none (by rw [k_wd_len]; omega)]
theorem k_wd_arr {α : Nat → Nat} {K : Nat → ClassId} {σ : KM} {c i : Nat} {v : Int} (h : c < k_NC) (h0 : k_ty c ≠ 0) : (k_wd α K σ).set c (α c, .inl (K (k_ty c), k_ln c, .inl (upd (fun j => c32 (σ c j)) i (c32 v)))) = k_wd α K (ks σ c i v) := by
  refine k_wd_set h ?_ (fun c' hc => ks_ne hc)
  simp only [k_ent, h0, if_false]
  congr 4
  funext j
  by_cases hj : j = i
  · simp [upd, ks, hj]
  · simp [upd, ks, hj]
theorem k_wd_obj {α : Nat → Nat} {K : Nat → ClassId} {σ : KM} {c k : Nat} {v : Int} (h : c < k_NC) (h0 : k_ty c = 0) (hk : (k_fs c)[k]? = some none) : (k_wd α K σ).set c (α c, .inr (k_ci c, (k_fl α (σ c) 0 (k_fs c)).set k (.int (c32 v)))) = k_wd α K (ks σ c k v) := by
  refine k_wd_set h ?_ (fun c' hc => ks_ne hc)
  simp only [k_ent, h0, if_true]
  rw [k_fl_set α (σ c) v (k_fs c) 0 k hk]
  congr 3
  funext j
  simp [ks]
def k_inj (α : Nat → Nat) : Prop := ∀ i j, i < k_NC → j < k_NC → α i = α j → i = j
theorem k_wd_D {α : Nat → Nat} {K : Nat → ClassId} {σ : KM} {A : Nat → Prop} (h1 : k_inj α) (h2 : ∀ c, c < k_NC → A (α c)) : va_D A (k_wd α K σ) := by
  have key : ∀ (k : Nat) (q : Nat × va_E), (k_wd α K σ)[k]? = some q → k < k_NC ∧ q.1 = α k := by
    intro k q hk
    have hl : k < k_NC := by
      rw [← k_wd_len α K σ]
      exact (List.getElem?_eq_some_iff.mp hk).1
    rw [k_at hl] at hk
    cases hk
    exact ⟨hl, rfl⟩
  refine ⟨fun i j p q hi hj hpq => ?_, fun k q hk => ?_⟩
  · obtain ⟨a1, a2⟩ := key i p hi
    obtain ⟨b1, b2⟩ := key j q hj
    exact h1 i j a1 b1 (by rw [← a2, ← b2]; exact hpq)
  · obtain ⟨a1, a2⟩ := key k q hk
    rw [a2]
    exact h2 k a1
def k_tys (K : Nat → ClassId) : List (ClassId × FieldType) := [(K 0, .int), (K 1, .int), (K 2, .byte), (K 3, .boolean)]
def k_AA (α : Nat → Nat) (sz : Nat) : Nat → Prop := fun q => (∃ c, c < k_NC ∧ q = α c) ∨ sz ≤ q
/-! ===== what stays as it was at the start: words of nest mates, static rows, texts ===== -/
def k_sn (i : Nat) : String := match i with
  | 0 => "DEGREE_STEPS"
  | 1 => "DEGREE_KINDS"
  | 2 => "THIRDS"
  | 3 => "FIFTHS"
  | 4 => "LETTER_TONES"
  | _ => "FIRST_WEIGHTS"
def k_sl (i : Nat) : Nat := match i with
  | 0 => 14
  | 1 => 14
  | 2 => 3
  | 3 => 3
  | 4 => 7
  | _ => 24
def k_sv (i : Nat) : Nat → Int := match i with
  | 0 => k_s0
  | 1 => k_s1
  | 2 => k_s2
  | 3 => k_s3
  | 4 => k_s4
  | _ => k_s5
def k_t0 : List Int32 := [99, 99, 100, 100, 101, 102, 102, 103, 103, 97, 97, 98]
def k_t1 : List Int32 := [32, 35, 32, 35, 32, 32, 35, 32, 35, 32, 35, 32]
def k_ext (α : Nat → Nat) (A : Nat → Prop) (U : State) (H : Heap) : Prop :=
  (∀ w ∈ k_nest, va_Nw w U) ∧ (∀ i, i < 6 → va_Z "KeyPath" (k_sn i) "[I" (.ref (α (100 + i))) A U H ∧ va_T .int (α (100 + i)) (k_sl i) (fun j => .int (c32 (k_sv i j))) A U H) ∧ (vk_R "KeyPath" 316 "ccddeffggaab" (α 110) U ∧ vk_R "KeyPath" 324 " # #  # # # " (α 111) U) ∧ vk_S 2 [12, 12] [k_t0, k_t1] (fun i => α (110 + i)) (fun i => α (112 + i)) A U H ∧ va_Z "java/lang/String" "COMPACT_STRINGS" "Z" (.int 1) A U H ∧ va_Zq "jdk/internal/util/Preconditions" "SIOOBE_FORMATTER" "Ljava/util/function/BiFunction;" A U H
def k_isNest : Cond → Bool
  | .methodLinkNest .. => true
  | .fieldLinkNest .. => true
  | _ => false
theorem k_nest_all : k_nest.all k_isNest = true := by decide +kernel
theorem k_nw_warm {w : Cond} (hw : k_isNest w = true) {s U : State} (hW : s.WarmedH U.vm) (h : va_Nw w s) : va_Nw w U := by
  cases w <;> first | exact va_Nw.warmM hW h | exact va_Nw.warmF hW h | (simp [k_isNest] at hw)
theorem k_nw_same {w : Cond} (hw : k_isNest w = true) {s U : State} (hv : s.vm = U.vm) (h : va_Nw w s) : va_Nw w U := by
  cases w <;> first | exact va_Nw.same rfl hv h | (simp [k_isNest] at hw)
theorem k_ext.warm {α : Nat → Nat} {A B : Nat → Prop} {s U : State} {H1 : Heap} (hW : s.WarmedH U.vm) (hAB : ∀ q, B q → A q) (hk : ∀ a : Nat, a < s.heap.size → ¬ A a → H1[a]? = s.heap[a]?) (h : k_ext α A s s.heap) : k_ext α B U H1 := by
  obtain ⟨h1, h2, ⟨h3, h4⟩, h5, h6, h7⟩ := h
  have hvm := hW.alike
  refine ⟨fun w hw => k_nw_warm (List.all_eq_true.mp k_nest_all w hw) hW (h1 w hw), fun i hi => ⟨(((h2 i hi).1.kept hk).narrow hAB).moved hvm, (((h2 i hi).2.kept hk).narrow hAB).moved hvm⟩, ⟨h3.warm hW, h4.warm hW⟩, ((h5.kept hk).narrow hAB).moved hvm, ((h6.kept hk).narrow hAB).moved hvm, ?_⟩
  rcases h7 with h | ⟨t, h⟩
  · exact Or.inl (((h.kept hk).narrow hAB).moved hvm)
  · exact Or.inr ⟨t, ((h.kept hk).narrow hAB).moved hvm⟩
theorem k_ext.same {α : Nat → Nat} {A : Nat → Prop} {s U : State} {H : Heap} (hv : U.vm = s.vm) (h : k_ext α A s H) : k_ext α A U H := by
  obtain ⟨h1, h2, ⟨h3, h4⟩, h5, h6, h7⟩ := h
  have hvm : s.vm.Alike U.vm := by rw [hv]; exact Vm.Alike.refl _
  refine ⟨fun w hw => k_nw_same (List.all_eq_true.mp k_nest_all w hw) hv.symm (h1 w hw), fun i hi => ⟨(h2 i hi).1.moved hvm, (h2 i hi).2.moved hvm⟩, ⟨h3.same hv, h4.same hv⟩, h5.moved hvm, h6.moved hvm, ?_⟩
  rcases h7 with h | ⟨t, h⟩
  · exact Or.inl (h.moved hvm)
  · exact Or.inr ⟨t, h.moved hvm⟩
/-! ===== the judgement ===== -/
abbrev KC : Type := (Program × Launch × Env × Room) × (State × MethodId × Array Value × List Frame) × (Method × Code) × (va_G × (Nat → ClassId) × (Nat → Nat) × (Nat → Prop)) × ((State → Prop) × Nat × Nat × Nat)
def k_lv (α : Nat → Nat) (nL : Nat) (ls : Array Slot) (L : List (Option KV)) : Prop := ls.size = nL ∧ lv_wf ls ∧ L.length = nL ∧ ∀ (i : Nat) (v : KV), L[i]? = some (some v) → ls[i]? = some (.val (k_tr α v))
def kW : KC → Nat → List (Option KV) → List KV → KM → Prop
  | ((p, l, e, R), (s, m, args, below), (meth, c), (D, K, α, A), (Q, cells, slots, nL)), pc, L, st, σ => ∀ (H : Heap) (locs : List Loc) (ls : Array Slot), va_P D k_cls (k_wd α K σ) H → va_S A s.heap H locs → k_lv α nL ls L → W p l e R s m args below meth c H locs cells slots Q (F0 m pc ls (st.map (k_tr α)))
def kOk : KC → Nat → ByteArray → Nat → String → Prop
  | ((p, l, e, R), (s, m, args, below), (meth, c), (D, K, α, A), (Q, cells, slots, nL)), d, cc, n, own => p.tables.exec = Jvm.exec ∧ c.code = cc ∧ c.maxLocals = nL ∧ n = nL ∧ s.vm.findClass own = some m.cls ∧ (∀ w ∈ k_Tg, w.before args s = true) ∧ (d ≤ R.frames ∧ 40 * d ≤ R.locals ∧ cells ≤ R.cells ∧ slots ≤ R.slots) ∧ va_K D k_cls (k_tys K) s ∧ (∀ q, s.heap.size ≤ q → A q) ∧ (∀ c, c < k_NC → A (α c)) ∧ k_inj α ∧ k_ext α A s s.heap
def kJ {Z : Type} (X : KC) (pc : Nat) (L : List (Option KV)) (st : List KV) (σ : KM) (F : Option Z) (Θ : Z → Prop) : Prop := ∀ z, F = some z → Θ z → kW X pc L st σ
end
