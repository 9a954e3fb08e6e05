section
-- ===== PART A: goes FIRST, ahead of the names: the tables' words, and 'selects' of the private methods out of them =====
/-- a private method of a class that the tables say can be made, by its rows of tables_1 -/
def lw_okq (q : MethodName × Nat) : Prop := (q.1.cls ≠ "java/lang/invoke/MethodHandle" ∧ q.1.cls ≠ "java/lang/invoke/VarHandle") ∧ Cond.instantiable q.1.cls q.2 ∈ tables_1 ∧ Cond.privateMethod q.1 ∈ tables_1 ∧ Cond.instanceMethod q.1 ∈ tables_1
theorem lw_p0 : lw_okq (⟨"KeyPath$TextReader", "next", "()I"⟩, 10) := ⟨⟨by decide +kernel, by decide +kernel⟩, List.mem_of_getElem? (i := 27) (by decide +kernel), List.mem_of_getElem? (i := 382) (by decide +kernel), List.mem_of_getElem? (i := 383) (by decide +kernel)⟩
theorem lw_p1 : lw_okq (⟨"KeyPath$TextReader", "readPart", "()V"⟩, 10) := ⟨⟨by decide +kernel, by decide +kernel⟩, List.mem_of_getElem? (i := 27) (by decide +kernel), List.mem_of_getElem? (i := 386) (by decide +kernel), List.mem_of_getElem? (i := 387) (by decide +kernel)⟩
theorem lw_p2 : lw_okq (⟨"KeyPath$TextReader", "readLength", "()V"⟩, 10) := ⟨⟨by decide +kernel, by decide +kernel⟩, List.mem_of_getElem? (i := 27) (by decide +kernel), List.mem_of_getElem? (i := 390) (by decide +kernel), List.mem_of_getElem? (i := 391) (by decide +kernel)⟩
theorem lw_p3 : lw_okq (⟨"KeyPath$TextReader", "fail", "(II)V"⟩, 10) := ⟨⟨by decide +kernel, by decide +kernel⟩, List.mem_of_getElem? (i := 27) (by decide +kernel), List.mem_of_getElem? (i := 394) (by decide +kernel), List.mem_of_getElem? (i := 395) (by decide +kernel)⟩
theorem lw_p4 : lw_okq (⟨"KeyPath$TextReader", "readNumber", "()I"⟩, 10) := ⟨⟨by decide +kernel, by decide +kernel⟩, List.mem_of_getElem? (i := 27) (by decide +kernel), List.mem_of_getElem? (i := 401) (by decide +kernel), List.mem_of_getElem? (i := 402) (by decide +kernel)⟩
theorem lw_p5 : lw_okq (⟨"KeyPath$TextReader", "soundNamed", "(I)V"⟩, 10) := ⟨⟨by decide +kernel, by decide +kernel⟩, List.mem_of_getElem? (i := 27) (by decide +kernel), List.mem_of_getElem? (i := 408) (by decide +kernel), List.mem_of_getElem? (i := 409) (by decide +kernel)⟩
theorem lw_p6 : lw_okq (⟨"KeyPath$Notes", "isBehind", "(IIII)Z"⟩, 4) := ⟨⟨by decide +kernel, by decide +kernel⟩, List.mem_of_getElem? (i := 33) (by decide +kernel), List.mem_of_getElem? (i := 416) (by decide +kernel), List.mem_of_getElem? (i := 417) (by decide +kernel)⟩
theorem lw_p7 : lw_okq (⟨"KeyPath$TextReader", "readNames", "()V"⟩, 10) := ⟨⟨by decide +kernel, by decide +kernel⟩, List.mem_of_getElem? (i := 27) (by decide +kernel), List.mem_of_getElem? (i := 427) (by decide +kernel), List.mem_of_getElem? (i := 428) (by decide +kernel)⟩
theorem lw_p8 : lw_okq (⟨"KeyPath$TextReader", "readName", "()V"⟩, 10) := ⟨⟨by decide +kernel, by decide +kernel⟩, List.mem_of_getElem? (i := 27) (by decide +kernel), List.mem_of_getElem? (i := 431) (by decide +kernel), List.mem_of_getElem? (i := 432) (by decide +kernel)⟩
theorem lw_p9 : lw_okq (⟨"KeyPath$TextReader", "readAccidental", "()I"⟩, 10) := ⟨⟨by decide +kernel, by decide +kernel⟩, List.mem_of_getElem? (i := 27) (by decide +kernel), List.mem_of_getElem? (i := 440) (by decide +kernel), List.mem_of_getElem? (i := 441) (by decide +kernel)⟩
theorem lw_p10 : lw_okq (⟨"KeyPath$TextReader", "isNamed", "(I)Z"⟩, 10) := ⟨⟨by decide +kernel, by decide +kernel⟩, List.mem_of_getElem? (i := 27) (by decide +kernel), List.mem_of_getElem? (i := 444) (by decide +kernel), List.mem_of_getElem? (i := 445) (by decide +kernel)⟩
theorem lw_p11 : lw_okq (⟨"KeyPath", "notesChanged", "()V"⟩, 8) := ⟨⟨by decide +kernel, by decide +kernel⟩, List.mem_of_getElem? (i := 19) (by decide +kernel), List.mem_of_getElem? (i := 456) (by decide +kernel), List.mem_of_getElem? (i := 457) (by decide +kernel)⟩
theorem lw_p12 : lw_okq (⟨"KeyPath", "weightsChanged", "()V"⟩, 8) := ⟨⟨by decide +kernel, by decide +kernel⟩, List.mem_of_getElem? (i := 19) (by decide +kernel), List.mem_of_getElem? (i := 460) (by decide +kernel), List.mem_of_getElem? (i := 461) (by decide +kernel)⟩
theorem lw_p13 : lw_okq (⟨"KeyPath", "pathChanged", "()V"⟩, 8) := ⟨⟨by decide +kernel, by decide +kernel⟩, List.mem_of_getElem? (i := 19) (by decide +kernel), List.mem_of_getElem? (i := 464) (by decide +kernel), List.mem_of_getElem? (i := 465) (by decide +kernel)⟩
theorem lw_p14 : lw_okq (⟨"KeyPath$History", "forgetOldest", "()V"⟩, 6) := ⟨⟨by decide +kernel, by decide +kernel⟩, List.mem_of_getElem? (i := 99) (by decide +kernel), List.mem_of_getElem? (i := 485) (by decide +kernel), List.mem_of_getElem? (i := 486) (by decide +kernel)⟩
theorem lw_p15 : lw_okq (⟨"KeyPath", "freshWindows", "()V"⟩, 8) := ⟨⟨by decide +kernel, by decide +kernel⟩, List.mem_of_getElem? (i := 19) (by decide +kernel), List.mem_of_getElem? (i := 541) (by decide +kernel), List.mem_of_getElem? (i := 542) (by decide +kernel)⟩
def lw_privs_1 : List (MethodName × Nat) := [(⟨"KeyPath$TextReader", "next", "()I"⟩, 10), (⟨"KeyPath$TextReader", "readPart", "()V"⟩, 10), (⟨"KeyPath$TextReader", "readLength", "()V"⟩, 10), (⟨"KeyPath$TextReader", "fail", "(II)V"⟩, 10), (⟨"KeyPath$TextReader", "readNumber", "()I"⟩, 10), (⟨"KeyPath$TextReader", "soundNamed", "(I)V"⟩, 10), (⟨"KeyPath$Notes", "isBehind", "(IIII)Z"⟩, 4), (⟨"KeyPath$TextReader", "readNames", "()V"⟩, 10), (⟨"KeyPath$TextReader", "readName", "()V"⟩, 10), (⟨"KeyPath$TextReader", "readAccidental", "()I"⟩, 10), (⟨"KeyPath$TextReader", "isNamed", "(I)Z"⟩, 10), (⟨"KeyPath", "notesChanged", "()V"⟩, 8), (⟨"KeyPath", "weightsChanged", "()V"⟩, 8), (⟨"KeyPath", "pathChanged", "()V"⟩, 8), (⟨"KeyPath$History", "forgetOldest", "()V"⟩, 6), (⟨"KeyPath", "freshWindows", "()V"⟩, 8)]
theorem lw_r1 : ∀ q ∈ lw_privs_1, lw_okq q := List.forall_mem_cons.mpr ⟨lw_p0, List.forall_mem_cons.mpr ⟨lw_p1, List.forall_mem_cons.mpr ⟨lw_p2, List.forall_mem_cons.mpr ⟨lw_p3, List.forall_mem_cons.mpr ⟨lw_p4, List.forall_mem_cons.mpr ⟨lw_p5, List.forall_mem_cons.mpr ⟨lw_p6, List.forall_mem_cons.mpr ⟨lw_p7, List.forall_mem_cons.mpr ⟨lw_p8, List.forall_mem_cons.mpr ⟨lw_p9, List.forall_mem_cons.mpr ⟨lw_p10, List.forall_mem_cons.mpr ⟨lw_p11, List.forall_mem_cons.mpr ⟨lw_p12, List.forall_mem_cons.mpr ⟨lw_p13, List.forall_mem_cons.mpr ⟨lw_p14, List.forall_mem_cons.mpr ⟨lw_p15, fun _ h => absurd h List.not_mem_nil⟩⟩⟩⟩⟩⟩⟩⟩⟩⟩⟩⟩⟩⟩⟩⟩
theorem lw_p16 : lw_okq (⟨"KeyPath$Windows", "countSpan", "(LKeyPath$Notes;III)V"⟩, 7) := ⟨⟨by decide +kernel, by decide +kernel⟩, List.mem_of_getElem? (i := 125) (by decide +kernel), List.mem_of_getElem? (i := 552) (by decide +kernel), List.mem_of_getElem? (i := 553) (by decide +kernel)⟩
theorem lw_p17 : lw_okq (⟨"KeyPath$Windows", "fullestTriad", "(I)I"⟩, 7) := ⟨⟨by decide +kernel, by decide +kernel⟩, List.mem_of_getElem? (i := 125) (by decide +kernel), List.mem_of_getElem? (i := 563) (by decide +kernel), List.mem_of_getElem? (i := 564) (by decide +kernel)⟩
theorem lw_p18 : lw_okq (⟨"KeyPath", "noWindow", "(I)Z"⟩, 8) := ⟨⟨by decide +kernel, by decide +kernel⟩, List.mem_of_getElem? (i := 19) (by decide +kernel), List.mem_of_getElem? (i := 599) (by decide +kernel), List.mem_of_getElem? (i := 600) (by decide +kernel)⟩
theorem lw_p19 : lw_okq (⟨"KeyPath", "freshFits", "()V"⟩, 8) := ⟨⟨by decide +kernel, by decide +kernel⟩, List.mem_of_getElem? (i := 19) (by decide +kernel), List.mem_of_getElem? (i := 621) (by decide +kernel), List.mem_of_getElem? (i := 622) (by decide +kernel)⟩
theorem lw_p20 : lw_okq (⟨"KeyPath$Profiles", "judgeRow", "(LKeyPath$Windows;I)V"⟩, 4) := ⟨⟨by decide +kernel, by decide +kernel⟩, List.mem_of_getElem? (i := 165) (by decide +kernel), List.mem_of_getElem? (i := 629) (by decide +kernel), List.mem_of_getElem? (i := 630) (by decide +kernel)⟩
theorem lw_p21 : lw_okq (⟨"KeyPath$Profiles", "betterThan", "(II)I"⟩, 4) := ⟨⟨by decide +kernel, by decide +kernel⟩, List.mem_of_getElem? (i := 165) (by decide +kernel), List.mem_of_getElem? (i := 643) (by decide +kernel), List.mem_of_getElem? (i := 644) (by decide +kernel)⟩
theorem lw_p22 : lw_okq (⟨"KeyPath$Net", "reachFrom", "(I)V"⟩, 8) := ⟨⟨by decide +kernel, by decide +kernel⟩, List.mem_of_getElem? (i := 198) (by decide +kernel), List.mem_of_getElem? (i := 663) (by decide +kernel), List.mem_of_getElem? (i := 664) (by decide +kernel)⟩
theorem lw_p23 : lw_okq (⟨"KeyPath$Net", "rankOfStep", "(I)I"⟩, 8) := ⟨⟨by decide +kernel, by decide +kernel⟩, List.mem_of_getElem? (i := 198) (by decide +kernel), List.mem_of_getElem? (i := 676) (by decide +kernel), List.mem_of_getElem? (i := 677) (by decide +kernel)⟩
theorem lw_p24 : lw_okq (⟨"KeyPath$Net", "copyRow", "(II)V"⟩, 8) := ⟨⟨by decide +kernel, by decide +kernel⟩, List.mem_of_getElem? (i := 198) (by decide +kernel), List.mem_of_getElem? (i := 680) (by decide +kernel), List.mem_of_getElem? (i := 681) (by decide +kernel)⟩
theorem lw_p25 : lw_okq (⟨"KeyPath$Net", "nextOnWay", "(II)I"⟩, 8) := ⟨⟨by decide +kernel, by decide +kernel⟩, List.mem_of_getElem? (i := 198) (by decide +kernel), List.mem_of_getElem? (i := 692) (by decide +kernel), List.mem_of_getElem? (i := 693) (by decide +kernel)⟩
theorem lw_p26 : lw_okq (⟨"KeyPath", "noPath", "()Z"⟩, 8) := ⟨⟨by decide +kernel, by decide +kernel⟩, List.mem_of_getElem? (i := 19) (by decide +kernel), List.mem_of_getElem? (i := 701) (by decide +kernel), List.mem_of_getElem? (i := 702) (by decide +kernel)⟩
theorem lw_p27 : lw_okq (⟨"KeyPath$PathFinder", "lookBehind", "(II)V"⟩, 16) := ⟨⟨by decide +kernel, by decide +kernel⟩, List.mem_of_getElem? (i := 237) (by decide +kernel), List.mem_of_getElem? (i := 714) (by decide +kernel), List.mem_of_getElem? (i := 715) (by decide +kernel)⟩
theorem lw_p28 : lw_okq (⟨"KeyPath$PathFinder", "findLeast", "()V"⟩, 16) := ⟨⟨by decide +kernel, by decide +kernel⟩, List.mem_of_getElem? (i := 237) (by decide +kernel), List.mem_of_getElem? (i := 725) (by decide +kernel), List.mem_of_getElem? (i := 726) (by decide +kernel)⟩
theorem lw_p29 : lw_okq (⟨"KeyPath$PathFinder", "follow", "()V"⟩, 16) := ⟨⟨by decide +kernel, by decide +kernel⟩, List.mem_of_getElem? (i := 237) (by decide +kernel), List.mem_of_getElem? (i := 729) (by decide +kernel), List.mem_of_getElem? (i := 730) (by decide +kernel)⟩
theorem lw_p30 : lw_okq (⟨"KeyPath$PathFinder", "firstKey", "()I"⟩, 16) := ⟨⟨by decide +kernel, by decide +kernel⟩, List.mem_of_getElem? (i := 237) (by decide +kernel), List.mem_of_getElem? (i := 733) (by decide +kernel), List.mem_of_getElem? (i := 734) (by decide +kernel)⟩
theorem lw_p31 : lw_okq (⟨"KeyPath$PathFinder", "nextKey", "(I)I"⟩, 16) := ⟨⟨by decide +kernel, by decide +kernel⟩, List.mem_of_getElem? (i := 237) (by decide +kernel), List.mem_of_getElem? (i := 737) (by decide +kernel), List.mem_of_getElem? (i := 738) (by decide +kernel)⟩
def lw_privs_2 : List (MethodName × Nat) := [(⟨"KeyPath$Windows", "countSpan", "(LKeyPath$Notes;III)V"⟩, 7), (⟨"KeyPath$Windows", "fullestTriad", "(I)I"⟩, 7), (⟨"KeyPath", "noWindow", "(I)Z"⟩, 8), (⟨"KeyPath", "freshFits", "()V"⟩, 8), (⟨"KeyPath$Profiles", "judgeRow", "(LKeyPath$Windows;I)V"⟩, 4), (⟨"KeyPath$Profiles", "betterThan", "(II)I"⟩, 4), (⟨"KeyPath$Net", "reachFrom", "(I)V"⟩, 8), (⟨"KeyPath$Net", "rankOfStep", "(I)I"⟩, 8), (⟨"KeyPath$Net", "copyRow", "(II)V"⟩, 8), (⟨"KeyPath$Net", "nextOnWay", "(II)I"⟩, 8), (⟨"KeyPath", "noPath", "()Z"⟩, 8), (⟨"KeyPath$PathFinder", "lookBehind", "(II)V"⟩, 16), (⟨"KeyPath$PathFinder", "findLeast", "()V"⟩, 16), (⟨"KeyPath$PathFinder", "follow", "()V"⟩, 16), (⟨"KeyPath$PathFinder", "firstKey", "()I"⟩, 16), (⟨"KeyPath$PathFinder", "nextKey", "(I)I"⟩, 16)]
theorem lw_r2 : ∀ q ∈ lw_privs_2, lw_okq q := List.forall_mem_cons.mpr ⟨lw_p16, List.forall_mem_cons.mpr ⟨lw_p17, List.forall_mem_cons.mpr ⟨lw_p18, List.forall_mem_cons.mpr ⟨lw_p19, List.forall_mem_cons.mpr ⟨lw_p20, List.forall_mem_cons.mpr ⟨lw_p21, List.forall_mem_cons.mpr ⟨lw_p22, List.forall_mem_cons.mpr ⟨lw_p23, List.forall_mem_cons.mpr ⟨lw_p24, List.forall_mem_cons.mpr ⟨lw_p25, List.forall_mem_cons.mpr ⟨lw_p26, List.forall_mem_cons.mpr ⟨lw_p27, List.forall_mem_cons.mpr ⟨lw_p28, List.forall_mem_cons.mpr ⟨lw_p29, List.forall_mem_cons.mpr ⟨lw_p30, List.forall_mem_cons.mpr ⟨lw_p31, fun _ h => absurd h List.not_mem_nil⟩⟩⟩⟩⟩⟩⟩⟩⟩⟩⟩⟩⟩⟩⟩⟩
theorem lw_p32 : lw_okq (⟨"KeyPath$PathFinder", "splitSegments", "()V"⟩, 16) := ⟨⟨by decide +kernel, by decide +kernel⟩, List.mem_of_getElem? (i := 237) (by decide +kernel), List.mem_of_getElem? (i := 741) (by decide +kernel), List.mem_of_getElem? (i := 742) (by decide +kernel)⟩
theorem lw_p33 : lw_okq (⟨"KeyPath$Detours", "goOn", "(LKeyPath$PathFinder;II)V"⟩, 6) := ⟨⟨by decide +kernel, by decide +kernel⟩, List.mem_of_getElem? (i := 312) (by decide +kernel), List.mem_of_getElem? (i := 809) (by decide +kernel), List.mem_of_getElem? (i := 810) (by decide +kernel)⟩
theorem lw_p34 : lw_okq (⟨"KeyPath$Detours", "settle", "(LKeyPath$PathFinder;III)I"⟩, 6) := ⟨⟨by decide +kernel, by decide +kernel⟩, List.mem_of_getElem? (i := 312) (by decide +kernel), List.mem_of_getElem? (i := 824) (by decide +kernel), List.mem_of_getElem? (i := 825) (by decide +kernel)⟩
theorem lw_p35 : lw_okq (⟨"KeyPath$PathFinder", "searchFirm", "(LKeyPath$Net;)I"⟩, 16) := ⟨⟨by decide +kernel, by decide +kernel⟩, List.mem_of_getElem? (i := 237) (by decide +kernel), List.mem_of_getElem? (i := 836) (by decide +kernel), List.mem_of_getElem? (i := 837) (by decide +kernel)⟩
theorem lw_p36 : lw_okq (⟨"KeyPath$PathFinder", "isFirm", "(LKeyPath$Net;I)Z"⟩, 16) := ⟨⟨by decide +kernel, by decide +kernel⟩, List.mem_of_getElem? (i := 237) (by decide +kernel), List.mem_of_getElem? (i := 840) (by decide +kernel), List.mem_of_getElem? (i := 841) (by decide +kernel)⟩
theorem lw_p37 : lw_okq (⟨"KeyPath", "romanOf", "(I)I"⟩, 8) := ⟨⟨by decide +kernel, by decide +kernel⟩, List.mem_of_getElem? (i := 19) (by decide +kernel), List.mem_of_getElem? (i := 887) (by decide +kernel), List.mem_of_getElem? (i := 888) (by decide +kernel)⟩
theorem lw_p38 : lw_okq (⟨"KeyPathModel", "peek", "()I"⟩, 42) := ⟨⟨by decide +kernel, by decide +kernel⟩, List.mem_of_getElem? (i := 982) (by decide +kernel), List.mem_of_getElem? (i := 1126) (by decide +kernel), List.mem_of_getElem? (i := 1127) (by decide +kernel)⟩
theorem lw_p39 : lw_okq (⟨"KeyPathModel", "readOne", "()V"⟩, 42) := ⟨⟨by decide +kernel, by decide +kernel⟩, List.mem_of_getElem? (i := 982) (by decide +kernel), List.mem_of_getElem? (i := 1130) (by decide +kernel), List.mem_of_getElem? (i := 1131) (by decide +kernel)⟩
theorem lw_p40 : lw_okq (⟨"KeyPathModel", "nameRead", "(I)V"⟩, 42) := ⟨⟨by decide +kernel, by decide +kernel⟩, List.mem_of_getElem? (i := 982) (by decide +kernel), List.mem_of_getElem? (i := 1134) (by decide +kernel), List.mem_of_getElem? (i := 1135) (by decide +kernel)⟩
theorem lw_p41 : lw_okq (⟨"KeyPathModel", "isLetter", "()Z"⟩, 42) := ⟨⟨by decide +kernel, by decide +kernel⟩, List.mem_of_getElem? (i := 982) (by decide +kernel), List.mem_of_getElem? (i := 1138) (by decide +kernel), List.mem_of_getElem? (i := 1139) (by decide +kernel)⟩
theorem lw_p42 : lw_okq (⟨"KeyPathModel", "fails", "(II)V"⟩, 42) := ⟨⟨by decide +kernel, by decide +kernel⟩, List.mem_of_getElem? (i := 982) (by decide +kernel), List.mem_of_getElem? (i := 1144) (by decide +kernel), List.mem_of_getElem? (i := 1145) (by decide +kernel)⟩
theorem lw_p43 : lw_okq (⟨"KeyPathModel", "must", "(I)V"⟩, 42) := ⟨⟨by decide +kernel, by decide +kernel⟩, List.mem_of_getElem? (i := 982) (by decide +kernel), List.mem_of_getElem? (i := 1154) (by decide +kernel), List.mem_of_getElem? (i := 1155) (by decide +kernel)⟩
theorem lw_p44 : lw_okq (⟨"KeyPathModel", "lengthRead", "()I"⟩, 42) := ⟨⟨by decide +kernel, by decide +kernel⟩, List.mem_of_getElem? (i := 982) (by decide +kernel), List.mem_of_getElem? (i := 1158) (by decide +kernel), List.mem_of_getElem? (i := 1159) (by decide +kernel)⟩
theorem lw_p45 : lw_okq (⟨"KeyPathModel", "comes", "(III)I"⟩, 42) := ⟨⟨by decide +kernel, by decide +kernel⟩, List.mem_of_getElem? (i := 982) (by decide +kernel), List.mem_of_getElem? (i := 1163) (by decide +kernel), List.mem_of_getElem? (i := 1164) (by decide +kernel)⟩
theorem lw_p46 : lw_okq (⟨"KeyPathModel", "notesAct", "()V"⟩, 42) := ⟨⟨by decide +kernel, by decide +kernel⟩, List.mem_of_getElem? (i := 982) (by decide +kernel), List.mem_of_getElem? (i := 1176) (by decide +kernel), List.mem_of_getElem? (i := 1177) (by decide +kernel)⟩
theorem lw_p47 : lw_okq (⟨"KeyPathModel", "isNote", "(I)Z"⟩, 42) := ⟨⟨by decide +kernel, by decide +kernel⟩, List.mem_of_getElem? (i := 982) (by decide +kernel), List.mem_of_getElem? (i := 1184) (by decide +kernel), List.mem_of_getElem? (i := 1185) (by decide +kernel)⟩
def lw_privs_3 : List (MethodName × Nat) := [(⟨"KeyPath$PathFinder", "splitSegments", "()V"⟩, 16), (⟨"KeyPath$Detours", "goOn", "(LKeyPath$PathFinder;II)V"⟩, 6), (⟨"KeyPath$Detours", "settle", "(LKeyPath$PathFinder;III)I"⟩, 6), (⟨"KeyPath$PathFinder", "searchFirm", "(LKeyPath$Net;)I"⟩, 16), (⟨"KeyPath$PathFinder", "isFirm", "(LKeyPath$Net;I)Z"⟩, 16), (⟨"KeyPath", "romanOf", "(I)I"⟩, 8), (⟨"KeyPathModel", "peek", "()I"⟩, 42), (⟨"KeyPathModel", "readOne", "()V"⟩, 42), (⟨"KeyPathModel", "nameRead", "(I)V"⟩, 42), (⟨"KeyPathModel", "isLetter", "()Z"⟩, 42), (⟨"KeyPathModel", "fails", "(II)V"⟩, 42), (⟨"KeyPathModel", "must", "(I)V"⟩, 42), (⟨"KeyPathModel", "lengthRead", "()I"⟩, 42), (⟨"KeyPathModel", "comes", "(III)I"⟩, 42), (⟨"KeyPathModel", "notesAct", "()V"⟩, 42), (⟨"KeyPathModel", "isNote", "(I)Z"⟩, 42)]
theorem lw_r3 : ∀ q ∈ lw_privs_3, lw_okq q := List.forall_mem_cons.mpr ⟨lw_p32, List.forall_mem_cons.mpr ⟨lw_p33, List.forall_mem_cons.mpr ⟨lw_p34, List.forall_mem_cons.mpr ⟨lw_p35, List.forall_mem_cons.mpr ⟨lw_p36, List.forall_mem_cons.mpr ⟨lw_p37, List.forall_mem_cons.mpr ⟨lw_p38, List.forall_mem_cons.mpr ⟨lw_p39, List.forall_mem_cons.mpr ⟨lw_p40, List.forall_mem_cons.mpr ⟨lw_p41, List.forall_mem_cons.mpr ⟨lw_p42, List.forall_mem_cons.mpr ⟨lw_p43, List.forall_mem_cons.mpr ⟨lw_p44, List.forall_mem_cons.mpr ⟨lw_p45, List.forall_mem_cons.mpr ⟨lw_p46, List.forall_mem_cons.mpr ⟨lw_p47, fun _ h => absurd h List.not_mem_nil⟩⟩⟩⟩⟩⟩⟩⟩⟩⟩⟩⟩⟩⟩⟩⟩
theorem lw_p48 : lw_okq (⟨"KeyPathModel", "windowsBy", "(I)I"⟩, 42) := ⟨⟨by decide +kernel, by decide +kernel⟩, List.mem_of_getElem? (i := 982) (by decide +kernel), List.mem_of_getElem? (i := 1208) (by decide +kernel), List.mem_of_getElem? (i := 1209) (by decide +kernel)⟩
theorem lw_p49 : lw_okq (⟨"KeyPathModel", "theEnd", "()I"⟩, 42) := ⟨⟨by decide +kernel, by decide +kernel⟩, List.mem_of_getElem? (i := 982) (by decide +kernel), List.mem_of_getElem? (i := 1212) (by decide +kernel), List.mem_of_getElem? (i := 1213) (by decide +kernel)⟩
theorem lw_p50 : lw_okq (⟨"KeyPathModel", "windowMany", "()I"⟩, 42) := ⟨⟨by decide +kernel, by decide +kernel⟩, List.mem_of_getElem? (i := 982) (by decide +kernel), List.mem_of_getElem? (i := 1216) (by decide +kernel), List.mem_of_getElem? (i := 1217) (by decide +kernel)⟩
theorem lw_p51 : lw_okq (⟨"KeyPathModel", "isWindow", "(I)Z"⟩, 42) := ⟨⟨by decide +kernel, by decide +kernel⟩, List.mem_of_getElem? (i := 982) (by decide +kernel), List.mem_of_getElem? (i := 1248) (by decide +kernel), List.mem_of_getElem? (i := 1249) (by decide +kernel)⟩
theorem lw_p52 : lw_okq (⟨"KeyPathModel", "countedIn", "(I)V"⟩, 42) := ⟨⟨by decide +kernel, by decide +kernel⟩, List.mem_of_getElem? (i := 982) (by decide +kernel), List.mem_of_getElem? (i := 1252) (by decide +kernel), List.mem_of_getElem? (i := 1253) (by decide +kernel)⟩
theorem lw_p53 : lw_okq (⟨"KeyPathModel", "counted", "(II)V"⟩, 42) := ⟨⟨by decide +kernel, by decide +kernel⟩, List.mem_of_getElem? (i := 982) (by decide +kernel), List.mem_of_getElem? (i := 1256) (by decide +kernel), List.mem_of_getElem? (i := 1257) (by decide +kernel)⟩
theorem lw_p54 : lw_okq (⟨"KeyPathModel", "matched", "(I)I"⟩, 42) := ⟨⟨by decide +kernel, by decide +kernel⟩, List.mem_of_getElem? (i := 982) (by decide +kernel), List.mem_of_getElem? (i := 1264) (by decide +kernel), List.mem_of_getElem? (i := 1265) (by decide +kernel)⟩
theorem lw_p55 : lw_okq (⟨"KeyPathModel", "fitted", "(I)I"⟩, 42) := ⟨⟨by decide +kernel, by decide +kernel⟩, List.mem_of_getElem? (i := 982) (by decide +kernel), List.mem_of_getElem? (i := 1275) (by decide +kernel), List.mem_of_getElem? (i := 1276) (by decide +kernel)⟩
theorem lw_p56 : lw_okq (⟨"KeyPathModel", "rankedNow", "(I)I"⟩, 42) := ⟨⟨by decide +kernel, by decide +kernel⟩, List.mem_of_getElem? (i := 982) (by decide +kernel), List.mem_of_getElem? (i := 1283) (by decide +kernel), List.mem_of_getElem? (i := 1284) (by decide +kernel)⟩
theorem lw_p57 : lw_okq (⟨"KeyPathModel", "chordNow", "()I"⟩, 42) := ⟨⟨by decide +kernel, by decide +kernel⟩, List.mem_of_getElem? (i := 982) (by decide +kernel), List.mem_of_getElem? (i := 1295) (by decide +kernel), List.mem_of_getElem? (i := 1296) (by decide +kernel)⟩
theorem lw_p58 : lw_okq (⟨"KeyPathModel", "laysFar", "(I)V"⟩, 42) := ⟨⟨by decide +kernel, by decide +kernel⟩, List.mem_of_getElem? (i := 982) (by decide +kernel), List.mem_of_getElem? (i := 1306) (by decide +kernel), List.mem_of_getElem? (i := 1307) (by decide +kernel)⟩
theorem lw_p59 : lw_okq (⟨"KeyPathModel", "costs", "(I)I"⟩, 42) := ⟨⟨by decide +kernel, by decide +kernel⟩, List.mem_of_getElem? (i := 982) (by decide +kernel), List.mem_of_getElem? (i := 1314) (by decide +kernel), List.mem_of_getElem? (i := 1315) (by decide +kernel)⟩
theorem lw_p60 : lw_okq (⟨"KeyPathModel", "hasPath", "()Z"⟩, 42) := ⟨⟨by decide +kernel, by decide +kernel⟩, List.mem_of_getElem? (i := 982) (by decide +kernel), List.mem_of_getElem? (i := 1326) (by decide +kernel), List.mem_of_getElem? (i := 1327) (by decide +kernel)⟩
theorem lw_p61 : lw_okq (⟨"KeyPathModel", "laysOwn", "()V"⟩, 42) := ⟨⟨by decide +kernel, by decide +kernel⟩, List.mem_of_getElem? (i := 982) (by decide +kernel), List.mem_of_getElem? (i := 1330) (by decide +kernel), List.mem_of_getElem? (i := 1331) (by decide +kernel)⟩
theorem lw_p62 : lw_okq (⟨"KeyPathModel", "laysNet", "()V"⟩, 42) := ⟨⟨by decide +kernel, by decide +kernel⟩, List.mem_of_getElem? (i := 982) (by decide +kernel), List.mem_of_getElem? (i := 1334) (by decide +kernel), List.mem_of_getElem? (i := 1335) (by decide +kernel)⟩
theorem lw_p63 : lw_okq (⟨"KeyPathModel", "laysPath", "(I)Z"⟩, 42) := ⟨⟨by decide +kernel, by decide +kernel⟩, List.mem_of_getElem? (i := 982) (by decide +kernel), List.mem_of_getElem? (i := 1338) (by decide +kernel), List.mem_of_getElem? (i := 1339) (by decide +kernel)⟩
def lw_privs_4 : List (MethodName × Nat) := [(⟨"KeyPathModel", "windowsBy", "(I)I"⟩, 42), (⟨"KeyPathModel", "theEnd", "()I"⟩, 42), (⟨"KeyPathModel", "windowMany", "()I"⟩, 42), (⟨"KeyPathModel", "isWindow", "(I)Z"⟩, 42), (⟨"KeyPathModel", "countedIn", "(I)V"⟩, 42), (⟨"KeyPathModel", "counted", "(II)V"⟩, 42), (⟨"KeyPathModel", "matched", "(I)I"⟩, 42), (⟨"KeyPathModel", "fitted", "(I)I"⟩, 42), (⟨"KeyPathModel", "rankedNow", "(I)I"⟩, 42), (⟨"KeyPathModel", "chordNow", "()I"⟩, 42), (⟨"KeyPathModel", "laysFar", "(I)V"⟩, 42), (⟨"KeyPathModel", "costs", "(I)I"⟩, 42), (⟨"KeyPathModel", "hasPath", "()Z"⟩, 42), (⟨"KeyPathModel", "laysOwn", "()V"⟩, 42), (⟨"KeyPathModel", "laysNet", "()V"⟩, 42), (⟨"KeyPathModel", "laysPath", "(I)Z"⟩, 42)]
theorem lw_r4 : ∀ q ∈ lw_privs_4, lw_okq q := List.forall_mem_cons.mpr ⟨lw_p48, List.forall_mem_cons.mpr ⟨lw_p49, List.forall_mem_cons.mpr ⟨lw_p50, List.forall_mem_cons.mpr ⟨lw_p51, List.forall_mem_cons.mpr ⟨lw_p52, List.forall_mem_cons.mpr ⟨lw_p53, List.forall_mem_cons.mpr ⟨lw_p54, List.forall_mem_cons.mpr ⟨lw_p55, List.forall_mem_cons.mpr ⟨lw_p56, List.forall_mem_cons.mpr ⟨lw_p57, List.forall_mem_cons.mpr ⟨lw_p58, List.forall_mem_cons.mpr ⟨lw_p59, List.forall_mem_cons.mpr ⟨lw_p60, List.forall_mem_cons.mpr ⟨lw_p61, List.forall_mem_cons.mpr ⟨lw_p62, List.forall_mem_cons.mpr ⟨lw_p63, fun _ h => absurd h List.not_mem_nil⟩⟩⟩⟩⟩⟩⟩⟩⟩⟩⟩⟩⟩⟩⟩⟩
theorem lw_p64 : lw_okq (⟨"KeyPathModel", "moves", "(IIII)I"⟩, 42) := ⟨⟨by decide +kernel, by decide +kernel⟩, List.mem_of_getElem? (i := 982) (by decide +kernel), List.mem_of_getElem? (i := 1342) (by decide +kernel), List.mem_of_getElem? (i := 1343) (by decide +kernel)⟩
theorem lw_p65 : lw_okq (⟨"KeyPathModel", "laysAhead", "()V"⟩, 42) := ⟨⟨by decide +kernel, by decide +kernel⟩, List.mem_of_getElem? (i := 982) (by decide +kernel), List.mem_of_getElem? (i := 1362) (by decide +kernel), List.mem_of_getElem? (i := 1363) (by decide +kernel)⟩
theorem lw_p66 : lw_okq (⟨"KeyPathModel", "throughNow", "(II)I"⟩, 42) := ⟨⟨by decide +kernel, by decide +kernel⟩, List.mem_of_getElem? (i := 982) (by decide +kernel), List.mem_of_getElem? (i := 1366) (by decide +kernel), List.mem_of_getElem? (i := 1367) (by decide +kernel)⟩
theorem lw_p67 : lw_okq (⟨"KeyPathModel", "turns", "(I)V"⟩, 42) := ⟨⟨by decide +kernel, by decide +kernel⟩, List.mem_of_getElem? (i := 982) (by decide +kernel), List.mem_of_getElem? (i := 1383) (by decide +kernel), List.mem_of_getElem? (i := 1384) (by decide +kernel)⟩
theorem lw_p68 : lw_okq (⟨"KeyPathModel", "leastOf", "(II)I"⟩, 42) := ⟨⟨by decide +kernel, by decide +kernel⟩, List.mem_of_getElem? (i := 982) (by decide +kernel), List.mem_of_getElem? (i := 1387) (by decide +kernel), List.mem_of_getElem? (i := 1388) (by decide +kernel)⟩
theorem lw_p69 : lw_okq (⟨"KeyPathModel", "segmentsNow", "()I"⟩, 42) := ⟨⟨by decide +kernel, by decide +kernel⟩, List.mem_of_getElem? (i := 982) (by decide +kernel), List.mem_of_getElem? (i := 1400) (by decide +kernel), List.mem_of_getElem? (i := 1401) (by decide +kernel)⟩
theorem lw_p70 : lw_okq (⟨"KeyPathModel", "firstOf", "(I)I"⟩, 42) := ⟨⟨by decide +kernel, by decide +kernel⟩, List.mem_of_getElem? (i := 982) (by decide +kernel), List.mem_of_getElem? (i := 1412) (by decide +kernel), List.mem_of_getElem? (i := 1413) (by decide +kernel)⟩
theorem lw_p71 : lw_okq (⟨"KeyPathModel", "romanNow", "(I)I"⟩, 42) := ⟨⟨by decide +kernel, by decide +kernel⟩, List.mem_of_getElem? (i := 982) (by decide +kernel), List.mem_of_getElem? (i := 1439) (by decide +kernel), List.mem_of_getElem? (i := 1440) (by decide +kernel)⟩
theorem lw_p72 : lw_okq (⟨"KeyPathModel", "isBehindFifth", "(II)Z"⟩, 42) := ⟨⟨by decide +kernel, by decide +kernel⟩, List.mem_of_getElem? (i := 982) (by decide +kernel), List.mem_of_getElem? (i := 1455) (by decide +kernel), List.mem_of_getElem? (i := 1456) (by decide +kernel)⟩
def lw_privs_5 : List (MethodName × Nat) := [(⟨"KeyPathModel", "moves", "(IIII)I"⟩, 42), (⟨"KeyPathModel", "laysAhead", "()V"⟩, 42), (⟨"KeyPathModel", "throughNow", "(II)I"⟩, 42), (⟨"KeyPathModel", "turns", "(I)V"⟩, 42), (⟨"KeyPathModel", "leastOf", "(II)I"⟩, 42), (⟨"KeyPathModel", "segmentsNow", "()I"⟩, 42), (⟨"KeyPathModel", "firstOf", "(I)I"⟩, 42), (⟨"KeyPathModel", "romanNow", "(I)I"⟩, 42), (⟨"KeyPathModel", "isBehindFifth", "(II)Z"⟩, 42)]
theorem lw_r5 : ∀ q ∈ lw_privs_5, lw_okq q := List.forall_mem_cons.mpr ⟨lw_p64, List.forall_mem_cons.mpr ⟨lw_p65, List.forall_mem_cons.mpr ⟨lw_p66, List.forall_mem_cons.mpr ⟨lw_p67, List.forall_mem_cons.mpr ⟨lw_p68, List.forall_mem_cons.mpr ⟨lw_p69, List.forall_mem_cons.mpr ⟨lw_p70, List.forall_mem_cons.mpr ⟨lw_p71, List.forall_mem_cons.mpr ⟨lw_p72, fun _ h => absurd h List.not_mem_nil⟩⟩⟩⟩⟩⟩⟩⟩⟩
def lw_privs : List (MethodName × Nat) := lw_privs_1 ++ (lw_privs_2 ++ (lw_privs_3 ++ (lw_privs_4 ++ (lw_privs_5))))
def lw_tbl : List Cond := k2_sels lw_privs ++ tables_1
theorem lw_privs_ok : ∀ q ∈ lw_privs, lw_okq q := by
  show ∀ q ∈ lw_privs_1 ++ (lw_privs_2 ++ (lw_privs_3 ++ (lw_privs_4 ++ (lw_privs_5)))), lw_okq q
  exact List.forall_mem_append.mpr ⟨lw_r1, List.forall_mem_append.mpr ⟨lw_r2, List.forall_mem_append.mpr ⟨lw_r3, List.forall_mem_append.mpr ⟨lw_r4, lw_r5⟩⟩⟩⟩
/-! ===== names, the cells ===== -/
def k_Tg : List Cond := lw_tbl.filter goodWord
theorem k_tg {w : Cond} (i : Nat) (h : tables_1[i]? = some w) (hg : goodWord w = true) : w ∈ k_Tg := List.mem_filter.mpr ⟨List.mem_append_right _ (List.mem_of_getElem? h), hg⟩
theorem k_tgs {w : Cond} (i : Nat) (h : (k2_sels lw_privs)[i]? = some w) (hg : goodWord w = true) : w ∈ k_Tg := List.mem_filter.mpr ⟨List.mem_append_left _ (List.mem_of_getElem? h), hg⟩
def k_T0 : u_T := fun k => match k with
  | 0 => ("KeyPath", "reader", "LKeyPath$TextReader;", true)
  | 1 => ("KeyPath", "notes", "LKeyPath$Notes;", true)
  | 2 => ("KeyPath", "history", "LKeyPath$History;", true)
  | 3 => ("KeyPath", "windows", "LKeyPath$Windows;", true)
  | 4 => ("KeyPath", "profiles", "LKeyPath$Profiles;", true)
  | 5 => ("KeyPath", "net", "LKeyPath$Net;", true)
  | 6 => ("KeyPath", "finder", "LKeyPath$PathFinder;", true)
  | _ => ("KeyPath", "detours", "LKeyPath$Detours;", true)
def k_y0 : Nat → FieldType := fun k => match k with
  | 0 => .object "KeyPath$TextReader"
  | 1 => .object "KeyPath$Notes"
  | 2 => .object "KeyPath$History"
  | 3 => .object "KeyPath$Windows"
  | 4 => .object "KeyPath$Profiles"
  | 5 => .object "KeyPath$Net"
  | 6 => .object "KeyPath$PathFinder"
  | _ => .object "KeyPath$Detours"
theorem k_n0 : ∀ a, a < 8 → ∀ b, b < 8 → a ≠ b → (k_T0 a).2.1 ≠ (k_T0 b).2.1 := by decide +kernel
theorem k_ok0 : ∀ k, k < 8 → parseFieldDescriptor (k_T0 k).2.2.1 = some (k_y0 k) := by decide +kernel
theorem k_lay0 : ∀ w ∈ u_ws "KeyPath" k_T0 8, w ∈ k_Tg := by
  have h : u_ws "KeyPath" k_T0 8 = ([345, 347, 349, 351, 353, 355, 357, 359] : List Nat).filterMap (fun i => tables_1[i]?) := by decide +kernel
  have hg : (u_ws "KeyPath" k_T0 8).all goodWord = true := by decide +kernel
  intro w hw
  have h1 := List.all_eq_true.mp hg w hw
  rw [h] at hw
  obtain ⟨i, -, hi⟩ := List.mem_filterMap.mp hw
  exact k_tg i hi h1
def k_T1 : u_T := fun k => match k with
  | 0 => ("KeyPath$TextReader", "tape", "[I", true)
  | 1 => ("KeyPath$TextReader", "held", "I", false)
  | 2 => ("KeyPath$TextReader", "found", "LKeyPath$Notes;", true)
  | 3 => ("KeyPath$TextReader", "trouble", "I", false)
  | 4 => ("KeyPath$TextReader", "place", "I", false)
  | 5 => ("KeyPath$TextReader", "length", "I", false)
  | 6 => ("KeyPath$TextReader", "at", "I", false)
  | 7 => ("KeyPath$TextReader", "tick", "I", false)
  | 8 => ("KeyPath$TextReader", "named", "[I", true)
  | _ => ("KeyPath$TextReader", "names", "I", false)
def k_y1 : Nat → FieldType := fun k => match k with
  | 0 => .array .int
  | 1 => .int
  | 2 => .object "KeyPath$Notes"
  | 3 => .int
  | 4 => .int
  | 5 => .int
  | 6 => .int
  | 7 => .int
  | 8 => .array .int
  | _ => .int
theorem k_n1 : ∀ a, a < 10 → ∀ b, b < 10 → a ≠ b → (k_T1 a).2.1 ≠ (k_T1 b).2.1 := by decide +kernel
theorem k_ok1 : ∀ k, k < 10 → parseFieldDescriptor (k_T1 k).2.2.1 = some (k_y1 k) := by decide +kernel
theorem k_lay1 : ∀ w ∈ u_ws "KeyPath$TextReader" k_T1 10, w ∈ k_Tg := by
  have h : u_ws "KeyPath$TextReader" k_T1 10 = ([75, 77, 79, 81, 83, 85, 87, 89, 91, 93] : List Nat).filterMap (fun i => tables_1[i]?) := by decide +kernel
  have hg : (u_ws "KeyPath$TextReader" k_T1 10).all goodWord = true := by decide +kernel
  intro w hw
  have h1 := List.all_eq_true.mp hg w hw
  rw [h] at hw
  obtain ⟨i, -, hi⟩ := List.mem_filterMap.mp hw
  exact k_tg i hi h1
def k_T2 : u_T := fun k => match k with
  | 0 => ("KeyPath$Notes", "ticks", "[I", true)
  | 1 => ("KeyPath$Notes", "lengths", "[I", true)
  | 2 => ("KeyPath$Notes", "pitches", "[I", true)
  | _ => ("KeyPath$Notes", "size", "I", false)
def k_y2 : Nat → FieldType := fun k => match k with
  | 0 => .array .int
  | 1 => .array .int
  | 2 => .array .int
  | _ => .int
theorem k_n2 : ∀ a, a < 4 → ∀ b, b < 4 → a ≠ b → (k_T2 a).2.1 ≠ (k_T2 b).2.1 := by decide +kernel
theorem k_ok2 : ∀ k, k < 4 → parseFieldDescriptor (k_T2 k).2.2.1 = some (k_y2 k) := by decide +kernel
theorem k_lay2 : ∀ w ∈ u_ws "KeyPath$Notes" k_T2 4, w ∈ k_Tg := by
  have h : u_ws "KeyPath$Notes" k_T2 4 = ([51, 53, 55, 57] : List Nat).filterMap (fun i => tables_1[i]?) := by decide +kernel
  have hg : (u_ws "KeyPath$Notes" k_T2 4).all goodWord = true := by decide +kernel
  intro w hw
  have h1 := List.all_eq_true.mp hg w hw
  rw [h] at hw
  obtain ⟨i, -, hi⟩ := List.mem_filterMap.mp hw
  exact k_tg i hi h1
def k_T3 : u_T := fun k => match k with
  | 0 => ("KeyPath$History", "kinds", "[I", true)
  | 1 => ("KeyPath$History", "places", "[I", true)
  | 2 => ("KeyPath$History", "ticks", "[I", true)
  | 3 => ("KeyPath$History", "lengths", "[I", true)
  | 4 => ("KeyPath$History", "pitches", "[I", true)
  | _ => ("KeyPath$History", "size", "I", false)
def k_y3 : Nat → FieldType := fun k => match k with
  | 0 => .array .int
  | 1 => .array .int
  | 2 => .array .int
  | 3 => .array .int
  | 4 => .array .int
  | _ => .int
theorem k_n3 : ∀ a, a < 6 → ∀ b, b < 6 → a ≠ b → (k_T3 a).2.1 ≠ (k_T3 b).2.1 := by decide +kernel
theorem k_ok3 : ∀ k, k < 6 → parseFieldDescriptor (k_T3 k).2.2.1 = some (k_y3 k) := by decide +kernel
theorem k_lay3 : ∀ w ∈ u_ws "KeyPath$History" k_T3 6, w ∈ k_Tg := by
  have h : u_ws "KeyPath$History" k_T3 6 = ([111, 113, 115, 117, 119, 121] : List Nat).filterMap (fun i => tables_1[i]?) := by decide +kernel
  have hg : (u_ws "KeyPath$History" k_T3 6).all goodWord = true := by decide +kernel
  intro w hw
  have h1 := List.all_eq_true.mp hg w hw
  rw [h] at hw
  obtain ⟨i, -, hi⟩ := List.mem_filterMap.mp hw
  exact k_tg i hi h1
def k_T4 : u_T := fun k => match k with
  | 0 => ("KeyPath$Windows", "wide", "I", false)
  | 1 => ("KeyPath$Windows", "hop", "I", false)
  | 2 => ("KeyPath$Windows", "size", "I", false)
  | 3 => ("KeyPath$Windows", "counts", "[I", true)
  | 4 => ("KeyPath$Windows", "totals", "[I", true)
  | 5 => ("KeyPath$Windows", "chords", "[I", true)
  | _ => ("KeyPath$Windows", "stale", "Z", false)
def k_y4 : Nat → FieldType := fun k => match k with
  | 0 => .int
  | 1 => .int
  | 2 => .int
  | 3 => .array .int
  | 4 => .array .int
  | 5 => .array .int
  | _ => .boolean
theorem k_n4 : ∀ a, a < 7 → ∀ b, b < 7 → a ≠ b → (k_T4 a).2.1 ≠ (k_T4 b).2.1 := by decide +kernel
theorem k_ok4 : ∀ k, k < 7 → parseFieldDescriptor (k_T4 k).2.2.1 = some (k_y4 k) := by decide +kernel
theorem k_lay4 : ∀ w ∈ u_ws "KeyPath$Windows" k_T4 7, w ∈ k_Tg := by
  have h : u_ws "KeyPath$Windows" k_T4 7 = ([149, 151, 153, 155, 157, 159, 161] : List Nat).filterMap (fun i => tables_1[i]?) := by decide +kernel
  have hg : (u_ws "KeyPath$Windows" k_T4 7).all goodWord = true := by decide +kernel
  intro w hw
  have h1 := List.all_eq_true.mp hg w hw
  rw [h] at hw
  obtain ⟨i, -, hi⟩ := List.mem_filterMap.mp hw
  exact k_tg i hi h1
def k_T5 : u_T := fun k => match k with
  | 0 => ("KeyPath$Profiles", "weights", "[I", true)
  | 1 => ("KeyPath$Profiles", "fits", "[I", true)
  | 2 => ("KeyPath$Profiles", "bests", "[I", true)
  | _ => ("KeyPath$Profiles", "stale", "Z", false)
def k_y5 : Nat → FieldType := fun k => match k with
  | 0 => .array .int
  | 1 => .array .int
  | 2 => .array .int
  | _ => .boolean
theorem k_n5 : ∀ a, a < 4 → ∀ b, b < 4 → a ≠ b → (k_T5 a).2.1 ≠ (k_T5 b).2.1 := by decide +kernel
theorem k_ok5 : ∀ k, k < 4 → parseFieldDescriptor (k_T5 k).2.2.1 = some (k_y5 k) := by decide +kernel
theorem k_lay5 : ∀ w ∈ u_ws "KeyPath$Profiles" k_T5 4, w ∈ k_Tg := by
  have h : u_ws "KeyPath$Profiles" k_T5 4 = ([188, 190, 192, 194] : List Nat).filterMap (fun i => tables_1[i]?) := by decide +kernel
  have hg : (u_ws "KeyPath$Profiles" k_T5 4).all goodWord = true := by decide +kernel
  intro w hw
  have h1 := List.all_eq_true.mp hg w hw
  rw [h] at hw
  obtain ⟨i, -, hi⟩ := List.mem_filterMap.mp hw
  exact k_tg i hi h1
def k_T6 : u_T := fun k => match k with
  | 0 => ("KeyPath$Net", "fifth", "I", false)
  | 1 => ("KeyPath$Net", "relative", "I", false)
  | 2 => ("KeyPath$Net", "parallel", "I", false)
  | 3 => ("KeyPath$Net", "factor", "I", false)
  | 4 => ("KeyPath$Net", "stale", "Z", false)
  | 5 => ("KeyPath$Net", "sums", "[I", true)
  | 6 => ("KeyPath$Net", "ranks", "[I", true)
  | _ => ("KeyPath$Net", "row", "[I", true)
def k_y6 : Nat → FieldType := fun k => match k with
  | 0 => .int
  | 1 => .int
  | 2 => .int
  | 3 => .int
  | 4 => .boolean
  | 5 => .array .int
  | 6 => .array .int
  | _ => .array .int
theorem k_n6 : ∀ a, a < 8 → ∀ b, b < 8 → a ≠ b → (k_T6 a).2.1 ≠ (k_T6 b).2.1 := by decide +kernel
theorem k_ok6 : ∀ k, k < 8 → parseFieldDescriptor (k_T6 k).2.2.1 = some (k_y6 k) := by decide +kernel
theorem k_lay6 : ∀ w ∈ u_ws "KeyPath$Net" k_T6 8, w ∈ k_Tg := by
  have h : u_ws "KeyPath$Net" k_T6 8 = ([219, 221, 223, 225, 227, 229, 231, 233] : List Nat).filterMap (fun i => tables_1[i]?) := by decide +kernel
  have hg : (u_ws "KeyPath$Net" k_T6 8).all goodWord = true := by decide +kernel
  intro w hw
  have h1 := List.all_eq_true.mp hg w hw
  rw [h] at hw
  obtain ⟨i, -, hi⟩ := List.mem_filterMap.mp hw
  exact k_tg i hi h1
def k_T7 : u_T := fun k => match k with
  | 0 => ("KeyPath$PathFinder", "pins", "[I", true)
  | 1 => ("KeyPath$PathFinder", "size", "I", false)
  | 2 => ("KeyPath$PathFinder", "own", "[I", true)
  | 3 => ("KeyPath$PathFinder", "kept", "[Z", true)
  | 4 => ("KeyPath$PathFinder", "steps", "[I", true)
  | 5 => ("KeyPath$PathFinder", "behind", "[I", true)
  | 6 => ("KeyPath$PathFinder", "ways", "[I", true)
  | 7 => ("KeyPath$PathFinder", "exists", "Z", false)
  | 8 => ("KeyPath$PathFinder", "least", "I", false)
  | 9 => ("KeyPath$PathFinder", "tied", "I", false)
  | 10 => ("KeyPath$PathFinder", "path", "[I", true)
  | 11 => ("KeyPath$PathFinder", "firsts", "[I", true)
  | 12 => ("KeyPath$PathFinder", "segmentCount", "I", false)
  | 13 => ("KeyPath$PathFinder", "stale", "Z", false)
  | 14 => ("KeyPath$PathFinder", "firmKnown", "Z", false)
  | _ => ("KeyPath$PathFinder", "firm", "I", false)
def k_y7 : Nat → FieldType := fun k => match k with
  | 0 => .array .int
  | 1 => .int
  | 2 => .array .int
  | 3 => .array .boolean
  | 4 => .array .int
  | 5 => .array .int
  | 6 => .array .int
  | 7 => .boolean
  | 8 => .int
  | 9 => .int
  | 10 => .array .int
  | 11 => .array .int
  | 12 => .int
  | 13 => .boolean
  | 14 => .boolean
  | _ => .int
theorem k_n7 : ∀ a, a < 16 → ∀ b, b < 16 → a ≠ b → (k_T7 a).2.1 ≠ (k_T7 b).2.1 := by decide +kernel
theorem k_ok7 : ∀ k, k < 16 → parseFieldDescriptor (k_T7 k).2.2.1 = some (k_y7 k) := by decide +kernel
theorem k_lay7 : ∀ w ∈ u_ws "KeyPath$PathFinder" k_T7 16, w ∈ k_Tg := by
  have h : u_ws "KeyPath$PathFinder" k_T7 16 = ([277, 279, 281, 283, 285, 287, 289, 291, 293, 295, 297, 299, 301, 303, 305, 307] : List Nat).filterMap (fun i => tables_1[i]?) := by decide +kernel
  have hg : (u_ws "KeyPath$PathFinder" k_T7 16).all goodWord = true := by decide +kernel
  intro w hw
  have h1 := List.all_eq_true.mp hg w hw
  rw [h] at hw
  obtain ⟨i, -, hi⟩ := List.mem_filterMap.mp hw
  exact k_tg i hi h1
def k_T8 : u_T := fun k => match k with
  | 0 => ("KeyPath$Detours", "ahead", "[I", true)
  | 1 => ("KeyPath$Detours", "aheadKnown", "Z", false)
  | 2 => ("KeyPath$Detours", "byMoves", "[I", true)
  | 3 => ("KeyPath$Detours", "leastByMoves", "[I", true)
  | 4 => ("KeyPath$Detours", "movesKnown", "Z", false)
  | _ => ("KeyPath$Detours", "settled", "[I", true)
def k_y8 : Nat → FieldType := fun k => match k with
  | 0 => .array .int
  | 1 => .boolean
  | 2 => .array .int
  | 3 => .array .int
  | 4 => .boolean
  | _ => .array .int
theorem k_n8 : ∀ a, a < 6 → ∀ b, b < 6 → a ≠ b → (k_T8 a).2.1 ≠ (k_T8 b).2.1 := by decide +kernel
theorem k_ok8 : ∀ k, k < 6 → parseFieldDescriptor (k_T8 k).2.2.1 = some (k_y8 k) := by decide +kernel
theorem k_lay8 : ∀ w ∈ u_ws "KeyPath$Detours" k_T8 6, w ∈ k_Tg := by
  have h : u_ws "KeyPath$Detours" k_T8 6 = ([324, 326, 328, 330, 332, 334] : List Nat).filterMap (fun i => tables_1[i]?) := by decide +kernel
  have hg : (u_ws "KeyPath$Detours" k_T8 6).all goodWord = true := by decide +kernel
  intro w hw
  have h1 := List.all_eq_true.mp hg w hw
  rw [h] at hw
  obtain ⟨i, -, hi⟩ := List.mem_filterMap.mp hw
  exact k_tg i hi h1
def k_T9 : u_T := fun k => match k with
  | 0 => ("KeyPathModel", "thrown", "I", false)
  | 1 => ("KeyPathModel", "tick", "[I", true)
  | 2 => ("KeyPathModel", "length", "[I", true)
  | 3 => ("KeyPathModel", "pitch", "[I", true)
  | 4 => ("KeyPathModel", "readTick", "[I", true)
  | 5 => ("KeyPathModel", "readLength", "[I", true)
  | 6 => ("KeyPathModel", "readPitch", "[I", true)
  | 7 => ("KeyPathModel", "notes", "I", false)
  | 8 => ("KeyPathModel", "readNotes", "I", false)
  | 9 => ("KeyPathModel", "acts", "[I", true)
  | 10 => ("KeyPathModel", "actMany", "I", false)
  | 11 => ("KeyPathModel", "wide", "I", false)
  | 12 => ("KeyPathModel", "hop", "I", false)
  | 13 => ("KeyPathModel", "fifth", "I", false)
  | 14 => ("KeyPathModel", "relative", "I", false)
  | 15 => ("KeyPathModel", "parallel", "I", false)
  | 16 => ("KeyPathModel", "factor", "I", false)
  | 17 => ("KeyPathModel", "weights", "[I", true)
  | 18 => ("KeyPathModel", "pins", "[I", true)
  | 19 => ("KeyPathModel", "tape", "[B", true)
  | 20 => ("KeyPathModel", "taped", "I", false)
  | 21 => ("KeyPathModel", "size", "I", false)
  | 22 => ("KeyPathModel", "spot", "I", false)
  | 23 => ("KeyPathModel", "wrong", "I", false)
  | 24 => ("KeyPathModel", "wrongAt", "I", false)
  | 25 => ("KeyPathModel", "now", "I", false)
  | 26 => ("KeyPathModel", "counts", "[I", true)
  | 27 => ("KeyPathModel", "sum", "I", false)
  | 28 => ("KeyPathModel", "far", "[I", true)
  | 29 => ("KeyPathModel", "ways", "[I", true)
  | 30 => ("KeyPathModel", "net", "[I", true)
  | 31 => ("KeyPathModel", "own", "[I", true)
  | 32 => ("KeyPathModel", "ahead", "[I", true)
  | 33 => ("KeyPathModel", "behind", "[I", true)
  | 34 => ("KeyPathModel", "tied", "[I", true)
  | 35 => ("KeyPathModel", "path", "[I", true)
  | 36 => ("KeyPathModel", "isSilent", "[Z", true)
  | 37 => ("KeyPathModel", "windows0", "I", false)
  | 38 => ("KeyPathModel", "least", "I", false)
  | 39 => ("KeyPathModel", "bySteps", "[I", true)
  | 40 => ("KeyPathModel", "stepped", "[I", true)
  | _ => ("KeyPathModel", "both", "[I", true)
def k_y9 : Nat → FieldType := fun k => match k with
  | 0 => .int
  | 1 => .array .int
  | 2 => .array .int
  | 3 => .array .int
  | 4 => .array .int
  | 5 => .array .int
  | 6 => .array .int
  | 7 => .int
  | 8 => .int
  | 9 => .array .int
  | 10 => .int
  | 11 => .int
  | 12 => .int
  | 13 => .int
  | 14 => .int
  | 15 => .int
  | 16 => .int
  | 17 => .array .int
  | 18 => .array .int
  | 19 => .array .byte
  | 20 => .int
  | 21 => .int
  | 22 => .int
  | 23 => .int
  | 24 => .int
  | 25 => .int
  | 26 => .array .int
  | 27 => .int
  | 28 => .array .int
  | 29 => .array .int
  | 30 => .array .int
  | 31 => .array .int
  | 32 => .array .int
  | 33 => .array .int
  | 34 => .array .int
  | 35 => .array .int
  | 36 => .array .boolean
  | 37 => .int
  | 38 => .int
  | 39 => .array .int
  | 40 => .array .int
  | _ => .array .int
theorem k_n9 : ∀ a, a < 42 → ∀ b, b < 42 → a ≠ b → (k_T9 a).2.1 ≠ (k_T9 b).2.1 := by decide +kernel
theorem k_ok9 : ∀ k, k < 42 → parseFieldDescriptor (k_T9 k).2.2.1 = some (k_y9 k) := by decide +kernel
theorem k_lay9 : ∀ w ∈ u_ws "KeyPathModel" k_T9 42, w ∈ k_Tg := by
  have h : u_ws "KeyPathModel" k_T9 42 = ([1029, 1031, 1033, 1035, 1037, 1039, 1041, 1043, 1045, 1047, 1049, 1051, 1053, 1055, 1057, 1059, 1061, 1063, 1065, 1067, 1069, 1071, 1073, 1075, 1077, 1079, 1081, 1083, 1085, 1087, 1089, 1091, 1093, 1095, 1097, 1099, 1101, 1103, 1105, 1107, 1109, 1111] : List Nat).filterMap (fun i => tables_1[i]?) := by decide +kernel
  have hg : (u_ws "KeyPathModel" k_T9 42).all goodWord = true := by decide +kernel
  intro w hw
  have h1 := List.all_eq_true.mp hg w hw
  rw [h] at hw
  obtain ⟨i, -, hi⟩ := List.mem_filterMap.mp hw
  exact k_tg i hi h1
abbrev k_cls : List vw_C := [("KeyPath", k_T0, 8), ("KeyPath$TextReader", k_T1, 10), ("KeyPath$Notes", k_T2, 4), ("KeyPath$History", k_T3, 6), ("KeyPath$Windows", k_T4, 7), ("KeyPath$Profiles", k_T5, 4), ("KeyPath$Net", k_T6, 8), ("KeyPath$PathFinder", k_T7, 16), ("KeyPath$Detours", k_T8, 6), ("KeyPathModel", k_T9, 42)]
/-- how many cells there are; of each: 0 an object, 1 int[], 2 byte[], 3 boolean[]; its length; its kind of object; its fields (some: the cell that it holds for good) -/
def k_NC : Nat := 68
def k_ty (c : Nat) : Nat := ([0, 0, 0, 0, 0, 0, 0, 0, 0, 0, 0, 1, 1, 1, 1, 1, 1, 1, 1, 1, 1, 1, 1, 1, 1, 1, 1, 1, 1, 1, 1, 1, 1, 1, 1, 3, 1, 1, 1, 1, 1, 1, 1, 1, 1, 1, 1, 1, 1, 1, 1, 1, 1, 1, 2, 1, 1, 1, 1, 1, 1, 1, 1, 1, 3, 1, 1, 1] : List Nat).getD c 9
def k_ln (c : Nat) : Nat := ([0, 0, 0, 0, 0, 0, 0, 0, 0, 0, 0, 700, 6, 100, 100, 100, 100, 100, 100, 10, 10, 10, 10, 10, 588, 49, 48, 24, 1176, 49, 576, 576, 24, 48, 1152, 48, 576, 1152, 1152, 48, 48, 1152, 1152, 48, 1152, 100, 100, 100, 100, 100, 100, 3010, 24, 48, 700, 12, 24, 24, 576, 1152, 1152, 1152, 1152, 48, 48, 1152, 1152, 12] : List Nat).getD c 0
def k_ci (c : Nat) : Nat := ([0, 1, 2, 2, 3, 4, 5, 6, 7, 8, 9, 0, 0, 0, 0, 0, 0, 0, 0, 0, 0, 0, 0, 0, 0, 0, 0, 0, 0, 0, 0, 0, 0, 0, 0, 0, 0, 0, 0, 0, 0, 0, 0, 0, 0, 0, 0, 0, 0, 0, 0, 0, 0, 0, 0, 0, 0, 0, 0, 0, 0, 0, 0, 0, 0, 0, 0, 0] : List Nat).getD c 0
def k_fs (c : Nat) : List (Option Nat) := ([[some 1, some 3, some 4, some 5, some 6, some 7, some 8, some 9], [some 11, none, some 2, none, none, none, none, none, some 12, none], [some 13, some 14, some 15, none], [some 16, some 17, some 18, none], [some 19, some 20, some 21, some 22, some 23, none], [none, none, none, some 24, some 25, some 26, none], [some 27, some 28, some 29, none], [none, none, none, none, none, some 30, some 31, some 32], [some 33, none, some 34, some 35, some 36, some 37, some 38, none, none, none, some 39, some 40, none, none, none, none], [some 41, none, some 42, some 43, none, some 44], [none, some 45, some 46, some 47, some 48, some 49, some 50, none, none, some 51, none, none, none, none, none, none, none, some 52, some 53, some 54, none, none, none, none, none, none, some 55, none, some 56, some 57, some 58, some 59, some 60, some 61, some 62, some 63, some 64, none, none, some 65, some 66, some 67]] : List (List (Option Nat))).getD c []
def k_nest : List Cond := [(Cond.methodLinkNest "KeyPath" (11 : Nat) ({ cls := "KeyPath$TextReader", name := "<init>", desc := "()V" } : MethodName) "KeyPath"), (Cond.methodLinkNest "KeyPath$TextReader" (17 : Nat) ({ cls := "KeyPath$Notes", name := "<init>", desc := "()V" } : MethodName) "KeyPath"), (Cond.methodLinkNest "KeyPath" (18 : Nat) ({ cls := "KeyPath$Notes", name := "<init>", desc := "()V" } : MethodName) "KeyPath"), (Cond.methodLinkNest "KeyPath" (25 : Nat) ({ cls := "KeyPath$History", name := "<init>", desc := "()V" } : MethodName) "KeyPath"), (Cond.methodLinkNest "KeyPath" (32 : Nat) ({ cls := "KeyPath$Windows", name := "<init>", desc := "()V" } : MethodName) "KeyPath"), (Cond.methodLinkNest "KeyPath" (39 : Nat) ({ cls := "KeyPath$Profiles", name := "<init>", desc := "()V" } : MethodName) "KeyPath"), (Cond.fieldLinkNest "KeyPath$Profiles" (9 : Nat) "KeyPath" "FIRST_WEIGHTS" "[I" "KeyPath"), (Cond.methodLinkNest "KeyPath" (46 : Nat) ({ cls := "KeyPath$Net", name := "<init>", desc := "()V" } : MethodName) "KeyPath"), (Cond.methodLinkNest "KeyPath" (60 : Nat) ({ cls := "KeyPath$Detours", name := "<init>", desc := "()V" } : MethodName) "KeyPath"), (Cond.methodLinkNest "KeyPath$TextReader" (89 : Nat) ({ cls := "KeyPath", name := "outOf", desc := "(III)Z" } : MethodName) "KeyPath"), (Cond.fieldLinkNest "KeyPath$TextReader" (80 : Nat) "KeyPath" "LETTER_TONES" "[I" "KeyPath"), (Cond.methodLinkNest "KeyPath$Notes" (35 : Nat) ({ cls := "KeyPath", name := "outOf", desc := "(III)Z" } : MethodName) "KeyPath"), (Cond.methodLinkNest "KeyPath$Windows" (77 : Nat) ({ cls := "KeyPath", name := "toneOf", desc := "(II)I" } : MethodName) "KeyPath"), (Cond.methodLinkNest "KeyPath$Profiles" (33 : Nat) ({ cls := "KeyPath", name := "modeOf", desc := "(I)I" } : MethodName) "KeyPath"), (Cond.methodLinkNest "KeyPath$Net" (38 : Nat) ({ cls := "KeyPath", name := "modeOf", desc := "(I)I" } : MethodName) "KeyPath"), (Cond.methodLinkNest "KeyPath$PathFinder" (87 : Nat) ({ cls := "KeyPath", name := "plus", desc := "(II)I" } : MethodName) "KeyPath"), (Cond.methodLinkNest "KeyPath$Detours" (48 : Nat) ({ cls := "KeyPath", name := "plus", desc := "(II)I" } : MethodName) "KeyPath"), (Cond.methodLinkNest "KeyPath$Windows" (81 : Nat) ({ cls := "KeyPath", name := "degreeOf", desc := "(II)I" } : MethodName) "KeyPath")]
def k_s0 : Nat → Int := fun j => ([0, 2, 4, 5, 7, 9, 11, 0, 2, 3, 5, 7, 8, 10] : List Int).getD j 0
def k_s1 : Nat → Int := fun j => ([0, 1, 1, 0, 0, 1, 2, 1, 2, 0, 1, 1, 0, 0] : List Int).getD j 0
def k_s2 : Nat → Int := fun j => ([4, 3, 3] : List Int).getD j 0
def k_s3 : Nat → Int := fun j => ([7, 7, 6] : List Int).getD j 0
def k_s4 : Nat → Int := fun j => ([9, 11, 0, 2, 4, 5, 7] : List Int).getD j 0
def k_s5 : Nat → Int := fun j => ([63, 22, 35, 23, 44, 41, 25, 52, 24, 37, 23, 29, 63, 27, 35, 54, 26, 35, 25, 48, 40, 27, 33, 32] : List Int).getD j 0
end
section
/-! ===== numbers ===== -/
abbrev KM : Type := Nat → Int → Int
abbrev KV : Type := Int ⊕ (Int ⊕ Nat)
abbrev ki (v : Int) : KV := Sum.inl v
abbrev kl (v : Int) : KV := Sum.inr (Sum.inl v)
abbrev kr (c : Nat) : KV := Sum.inr (Sum.inr c)
abbrev li (v : Int) : Option KV := some (ki v)
abbrev lq (c : Nat) : Option KV := some (kr c)
def c32 (v : Int) : Int32 := Int32.ofInt v
def c64 (v : Int) : Int64 := Int64.ofInt v
def k_tr (α : Nat → Nat) : KV → Value
  | .inl v => .int (c32 v)
  | .inr (.inl v) => .long (c64 v)
  | .inr (.inr c) => .ref (α c)
abbrev kin (v : Int) : Prop := -2147483648 ≤ v ∧ v < 2147483648
abbrev kin6 (v : Int) : Prop := -9223372036854775808 ≤ v ∧ v < 9223372036854775808
theorem c32_toInt {a : Int} (h : kin a) : (c32 a).toInt = a := Int32.toInt_ofInt_of_le (by have := h.1; omega) (by have := h.2; omega)
theorem c64_toInt {a : Int} (h : kin6 a) : (c64 a).toInt = a := Int64.toInt_ofInt_of_le (by have := h.1; omega) (by have := h.2; omega)
theorem c32_of (x : Int32) : c32 x.toInt = x := Int32.ofInt_toInt x
theorem c32_add (a b : Int) : c32 (a + b) = c32 a + c32 b := Int32.ofInt_add a b
theorem c32_sub (a b : Int) : c32 (a - b) = c32 a - c32 b := Int32.ofInt_sub a b
theorem c32_mul (a b : Int) : c32 (a * b) = c32 a * c32 b := Int32.ofInt_mul a b
theorem c32_neg (a : Int) : c32 (-a) = -c32 a := Int32.ofInt_neg a
theorem c64_mul (a b : Int) : c64 (a * b) = c64 a * c64 b := Int64.ofInt_mul a b
theorem c32_min : Int32.minValue.toInt = -2147483648 := by decide
theorem c32_max : Int32.maxValue.toInt = 2147483647 := by decide
theorem c64_min : Int64.minValue.toInt = -9223372036854775808 := by decide
theorem c64_max : Int64.maxValue.toInt = 9223372036854775807 := by decide
theorem c32_lt {a b : Int} (ha : kin a) (hb : kin b) : c32 a < c32 b ↔ a < b := by
  rw [Int32.lt_iff_toInt_lt, c32_toInt ha, c32_toInt hb]
theorem c32_eq {a b : Int} (ha : kin a) (hb : kin b) : c32 a = c32 b ↔ a = b := by
  rw [← Int32.toInt_inj, c32_toInt ha, c32_toInt hb]
theorem c64_lt {a b : Int} (ha : kin6 a) (hb : kin6 b) : c64 a < c64 b ↔ a < b := by
  rw [Int64.lt_iff_toInt_lt, c64_toInt ha, c64_toInt hb]
theorem c64_eq {a b : Int} (ha : kin6 a) (hb : kin6 b) : c64 a = c64 b ↔ a = b := by
  rw [← Int64.toInt_inj, c64_toInt ha, c64_toInt hb]
theorem c32_0 : c32 0 = 0 := by decide
theorem c32_div {a b : Int} (ha : kin a) (hb : kin b) : c32 (a.tdiv b) = c32 a / c32 b :=
  Int32.ofInt_tdiv (by rw [c32_min]; exact ha.1) (by rw [c32_max]; have := ha.2; omega) (by rw [c32_min]; exact hb.1) (by rw [c32_max]; have := hb.2; omega)
theorem c64_div {a b : Int} (ha : kin6 a) (hb : kin6 b) : c64 (a.tdiv b) = c64 a / c64 b :=
  Int64.ofInt_tdiv (by rw [c64_min]; exact ha.1) (by rw [c64_max]; have := ha.2; omega) (by rw [c64_min]; exact hb.1) (by rw [c64_max]; have := hb.2; omega)
theorem c32_rem {a b : Int} (ha : kin a) (hb : kin b) : c32 (a.tmod b) = c32 a - c32 a / c32 b * c32 b := by
  rw [← c32_div ha hb, ← c32_mul, ← c32_sub]
  congr 1
  have := Int.tmod_def a b
  rw [this, Int.mul_comm]
theorem c32_ne0 {b : Int} (hb : kin b) (h : b ≠ 0) : ¬ c32 b = 0 := by
  rw [← c32_0, c32_eq hb (by decide)]
  exact h
theorem c32_clamp {a : Int} (h0 : 0 ≤ a) (h : a < 2147483648) : (c32 a).toNatClampNeg = a.toNat := by
  show (c32 a).toInt.toNat = a.toNat
  rw [c32_toInt ⟨by omega, h⟩]
theorem c32_in {a : Int} {N : Nat} (h0 : 0 ≤ a) (h : a < (N : Int)) (hN : N < 2147483648) : vp_in (c32 a) N := by
  rw [vp_in_iff, c32_toInt ⟨by omega, by omega⟩]
  exact ⟨h0, h⟩
theorem c32_l {a : Int} (h : kin a) : (c32 a).toInt64 = c64 a :=
  Int64.toInt_inj.mp (by rw [Int32.toInt_toInt64, c32_toInt h, c64_toInt ⟨by have := h.1; omega, by have := h.2; omega⟩])
theorem c64_i (a : Int) : (c64 a).toInt32 = c32 a := Int64.toInt32_ofInt
/-! ===== memory, the cells as a world ===== -/
def ks (σ : KM) (c : Nat) (i v : Int) : KM := fun c' i' => if c' = c ∧ i' = i then v else σ c' i'
theorem ks_ne {σ : KM} {c : Nat} {i v : Int} {c' : Nat} (h : c' ≠ c) : ks σ c i v c' = σ c' := by
  funext j
  simp [ks, h]
def k_fl (α : Nat → Nat) (f : Nat → Int) : Nat → List (Option Nat) → List Value
  | _, [] => []
  | k, some d :: r => .ref (α d) :: k_fl α f (k + 1) r
  | k, none :: r => .int (c32 (f k)) :: k_fl α f (k + 1) r
theorem k_fl_len (α : Nat → Nat) (f : Nat → Int) : ∀ (fs : List (Option Nat)) (s : Nat), (k_fl α f s fs).length = fs.length
  | [], s => rfl
  | some d :: r, s => by simp [k_fl, k_fl_len α f r]
  | none :: r, s => by simp [k_fl, k_fl_len α f r]
theorem k_fl_i (α : Nat → Nat) (f : Nat → Int) : ∀ (fs : List (Option Nat)) (s k : Nat), fs[k]? = some none → (k_fl α f s fs)[k]? = some (.int (c32 (f (s + k))))
  | [], s, k, h => by simp at h
  | some d :: r, s, 0, h => by simp at h
  | none :: r, s, 0, h => by simp [k_fl]
  | some d :: r, s, k + 1, h => by
    have := k_fl_i α f r (s + 1) k (by simpa using h)
    simp only [k_fl, List.getElem?_cons_succ, this]
    rw [show s + 1 + k = s + (k + 1) by omega]
  | none :: r, s, k + 1, h => by
    have := k_fl_i α f r (s + 1) k (by simpa using h)
    simp only [k_fl, List.getElem?_cons_succ, this]
    rw [show s + 1 + k = s + (k + 1) by omega]
theorem k_fl_r (α : Nat → Nat) (f : Nat → Int) : ∀ (fs : List (Option Nat)) (s k d : Nat), fs[k]? = some (some d) → (k_fl α f s fs)[k]? = some (.ref (α d))
  | [], s, k, d, h => by simp at h
  | some d' :: r, s, 0, d, h => by
    simp at h
    simp [k_fl, h]
  | none :: r, s, 0, d, h => by simp at h
  | some d' :: r, s, k + 1, d, h => by
    have := k_fl_r α f r (s + 1) k d (by simpa using h)
    simp only [k_fl, List.getElem?_cons_succ, this]
  | none :: r, s, k + 1, d, h => by
    have := k_fl_r α f r (s + 1) k d (by simpa using h)
    simp only [k_fl, List.getElem?_cons_succ, this]
theorem k_fl_ext (α : Nat → Nat) (f g : Nat → Int) : ∀ (fs : List (Option Nat)) (s : Nat), (∀ j, s ≤ j → f j = g j) → k_fl α f s fs = k_fl α g s fs
  | [], s, h => rfl
  | some d :: r, s, h => by simp [k_fl, k_fl_ext α f g r (s + 1) (fun j hj => h j (by omega))]
  | none :: r, s, h => by simp [k_fl, k_fl_ext α f g r (s + 1) (fun j hj => h j (by omega)), h s (Nat.le_refl s)]
theorem k_fl_set (α : Nat → Nat) (f : Nat → Int) (v : Int) : ∀ (fs : List (Option Nat)) (s k : Nat), fs[k]? = some none → (k_fl α f s fs).set k (.int (c32 v)) = k_fl α (fun j => if j = s + k then v else f j) s fs
  | [], s, k, h => by simp at h
  | some d :: r, s, 0, h => by simp at h
  | none :: r, s, 0, h => by
    simp only [k_fl, List.set_cons_zero, Nat.add_zero, if_true]
    rw [k_fl_ext α f (fun j => if j = s then v else f j) r (s + 1) (fun j hj => by rw [if_neg (by omega)])]
  | some d :: r, s, k + 1, h => by
    have := k_fl_set α f v r (s + 1) k (by simpa using h)
    simp only [k_fl, List.set_cons_succ, this]
    rw [show s + 1 + k = s + (k + 1) by omega]
  | none :: r, s, k + 1, h => by
    have := k_fl_set α f v r (s + 1) k (by simpa using h)
    simp only [k_fl, List.set_cons_succ, this]
    rw [show s + 1 + k = s + (k + 1) by omega, if_neg (by omega)]
def k_ent (α : Nat → Nat) (K : Nat → ClassId) (σ : KM) (c : Nat) : va_E := if k_ty c = 0 then .inr (k_ci c, k_fl α (fun k => σ c (k : Int)) 0 (k_fs c)) else .inl (K (k_ty c), k_ln c, .inl (fun j => c32 (σ c (j : Int))))
def k_wd (α : Nat → Nat) (K : Nat → ClassId) (σ : KM) : va_W := (List.range k_NC).map (fun c => (α c, k_ent α K σ c))
theorem k_at {α : Nat → Nat} {K : Nat → ClassId} {σ : KM} {c : Nat} (h : c < k_NC) : (k_wd α K σ)[c]? = some (α c, k_ent α K σ c) := by
  simp [k_wd, List.getElem?_map, List.getElem?_range h]
theorem k_ao {α : Nat → Nat} {K : Nat → ClassId} {σ : KM} {c : Nat} (h : c < k_NC) (h0 : k_ty c = 0) : (k_wd α K σ)[c]? = some (α c, .inr (k_ci c, k_fl α (fun k => σ c (k : Int)) 0 (k_fs c))) := by
  rw [k_at h]
  simp [k_ent, h0]
theorem k_aa {α : Nat → Nat} {K : Nat → ClassId} {σ : KM} {c : Nat} (h : c < k_NC) (h0 : k_ty c ≠ 0) : (k_wd α K σ)[c]? = some (α c, .inl (K (k_ty c), k_ln c, .inl (fun j => c32 (σ c (j : Int))))) := by
  rw [k_at h]
  simp [k_ent, h0]
theorem k_wd_len (α : Nat → Nat) (K : Nat → ClassId) (σ : KM) : (k_wd α K σ).length = k_NC := by simp [k_wd]
theorem k_wd_set {α : Nat → Nat} {K : Nat → ClassId} {σ τ : KM} {c : Nat} {e : va_E} (h : c < k_NC) (he : e = k_ent α K τ c) (hn : ∀ c', c' ≠ c → τ c' = σ c') : (k_wd α K σ).set c (α c, e) = k_wd α K τ := by
  apply List.ext_getElem?
  intro j
  by_cases hj : j = c
  · subst hj
    rw [List.getElem?_set_self (by rw [k_wd_len]; exact h), k_at h, he]
  · rw [List.getElem?_set_ne (Ne.symm hj)]
    by_cases hl : j < k_NC
    · rw [k_at hl, k_at hl]
      simp [k_ent, hn j hj]
    · rw [List.getElem?_eq_none (by rw [k_wd_len]; omega), List.getElem?_eq_none (by rw [k_wd_len]; omega)]
theorem k_wd_arr {α : Nat → Nat} {K : Nat → ClassId} {σ : KM} {c : Nat} {i v : Int} (h : c < k_NC) (h0 : k_ty c ≠ 0) (hi : 0 ≤ i) : (k_wd α K σ).set c (α c, .inl (K (k_ty c), k_ln c, .inl (upd (fun j => c32 (σ c (j : Int))) i.toNat (c32 v)))) = k_wd α K (ks σ c i v) := by
  refine k_wd_set h ?_ (fun c' hc => ks_ne hc)
  simp only [k_ent, h0, if_false]
  congr 4
  funext j
  by_cases hj : j = i.toNat
  · have e1 : (j : Int) = i := by omega
    simp only [upd, ks, if_pos hj, true_and, if_pos e1]
  · have : ¬ (j : Int) = i := by omega
    simp [upd, ks, hj, this]
theorem k_wd_obj {α : Nat → Nat} {K : Nat → ClassId} {σ : KM} {c k : Nat} {v : Int} (h : c < k_NC) (h0 : k_ty c = 0) (hk : (k_fs c)[k]? = some none) : (k_wd α K σ).set c (α c, .inr (k_ci c, (k_fl α (fun k => σ c (k : Int)) 0 (k_fs c)).set k (.int (c32 v)))) = k_wd α K (ks σ c (k : Int) v) := by
  refine k_wd_set h ?_ (fun c' hc => ks_ne hc)
  simp only [k_ent, h0, if_true]
  rw [k_fl_set α (fun k => σ c (k : Int)) v (k_fs c) 0 k hk]
  congr 3
  funext j
  simp only [ks, true_and, Nat.zero_add]
  by_cases hj : j = k
  · simp [hj]
  · have : ¬ (j : Int) = (k : Int) := by omega
    simp [hj, this]
def k_inj (α : Nat → Nat) : Prop := ∀ i j, i < k_NC → j < k_NC → α i = α j → i = j
theorem k_wd_D {α : Nat → Nat} {K : Nat → ClassId} {σ : KM} {A : Nat → Prop} (h1 : k_inj α) (h2 : ∀ c, c < k_NC → A (α c)) : va_D A (k_wd α K σ) := by
  have key : ∀ (k : Nat) (q : Nat × va_E), (k_wd α K σ)[k]? = some q → k < k_NC ∧ q.1 = α k := by
    intro k q hk
    have hl : k < k_NC := by
      rw [← k_wd_len α K σ]
      exact (List.getElem?_eq_some_iff.mp hk).1
    rw [k_at hl] at hk
    cases hk
    exact ⟨hl, rfl⟩
  refine ⟨fun i j p q hi hj hpq => ?_, fun k q hk => ?_⟩
  · obtain ⟨a1, a2⟩ := key i p hi
    obtain ⟨b1, b2⟩ := key j q hj
    exact h1 i j a1 b1 (by rw [← a2, ← b2]; exact hpq)
  · obtain ⟨a1, a2⟩ := key k q hk
    rw [a2]
    exact h2 k a1
def k_tys (K : Nat → ClassId) : List (ClassId × FieldType) := [(K 0, .int), (K 1, .int), (K 2, .byte), (K 3, .boolean)]
def k_AA (α : Nat → Nat) (sz : Nat) : Nat → Prop := fun q => (∃ c, c < k_NC ∧ q = α c) ∨ sz ≤ q
/-! ===== what stays as it was at the start: words of nest mates, static rows, texts ===== -/
def k_sn (i : Nat) : String := match i with
  | 0 => "DEGREE_STEPS"
  | 1 => "DEGREE_KINDS"
  | 2 => "THIRDS"
  | 3 => "FIFTHS"
  | 4 => "LETTER_TONES"
  | _ => "FIRST_WEIGHTS"
def k_sl (i : Nat) : Nat := match i with
  | 0 => 14
  | 1 => 14
  | 2 => 3
  | 3 => 3
  | 4 => 7
  | _ => 24
def k_sv (i : Nat) : Nat → Int := match i with
  | 0 => k_s0
  | 1 => k_s1
  | 2 => k_s2
  | 3 => k_s3
  | 4 => k_s4
  | _ => k_s5
def k_t0 : List Int32 := [99, 99, 100, 100, 101, 102, 102, 103, 103, 97, 97, 98]
def k_t1 : List Int32 := [32, 35, 32, 35, 32, 32, 35, 32, 35, 32, 35, 32]
def k_ext (α : Nat → Nat) (A : Nat → Prop) (U : State) (H : Heap) : Prop :=
  (∀ w ∈ k_nest, va_Nw w U) ∧ (∀ i, i < 6 → va_Z "KeyPath" (k_sn i) "[I" (.ref (α (100 + i))) A U H ∧ va_T .int (α (100 + i)) (k_sl i) (fun j => .int (c32 (k_sv i j))) A U H) ∧ (vk_R "KeyPath" 316 "ccddeffggaab" (α 110) U ∧ vk_R "KeyPath" 324 " # #  # # # " (α 111) U) ∧ vk_S 2 [12, 12] [k_t0, k_t1] (fun i => α (110 + i)) (fun i => α (112 + i)) A U H ∧ va_Z "java/lang/String" "COMPACT_STRINGS" "Z" (.int 1) A U H ∧ va_Zq "jdk/internal/util/Preconditions" "SIOOBE_FORMATTER" "Ljava/util/function/BiFunction;" A U H
def k_isNest : Cond → Bool
  | .methodLinkNest .. => true
  | .fieldLinkNest .. => true
  | _ => false
theorem k_nest_all : k_nest.all k_isNest = true := by decide +kernel
theorem k_nw_warm {w : Cond} (hw : k_isNest w = true) {s U : State} (hW : s.WarmedH U.vm) (h : va_Nw w s) : va_Nw w U := by
  cases w <;> first | exact va_Nw.warmM hW h | exact va_Nw.warmF hW h | (simp [k_isNest] at hw)
theorem k_nw_same {w : Cond} (hw : k_isNest w = true) {s U : State} (hv : s.vm = U.vm) (h : va_Nw w s) : va_Nw w U := by
  cases w <;> first | exact va_Nw.same rfl hv h | (simp [k_isNest] at hw)
theorem k_ext.warm {α : Nat → Nat} {A B : Nat → Prop} {s U : State} {H1 : Heap} (hW : s.WarmedH U.vm) (hAB : ∀ q, B q → A q) (hk : ∀ a : Nat, a < s.heap.size → ¬ A a → H1[a]? = s.heap[a]?) (h : k_ext α A s s.heap) : k_ext α B U H1 := by
  obtain ⟨h1, h2, ⟨h3, h4⟩, h5, h6, h7⟩ := h
  have hvm := hW.alike
  refine ⟨fun w hw => k_nw_warm (List.all_eq_true.mp k_nest_all w hw) hW (h1 w hw), fun i hi => ⟨(((h2 i hi).1.kept hk).narrow hAB).moved hvm, (((h2 i hi).2.kept hk).narrow hAB).moved hvm⟩, ⟨h3.warm hW, h4.warm hW⟩, ((h5.kept hk).narrow hAB).moved hvm, ((h6.kept hk).narrow hAB).moved hvm, ?_⟩
  rcases h7 with h | ⟨t, h⟩
  · exact Or.inl (((h.kept hk).narrow hAB).moved hvm)
  · exact Or.inr ⟨t, ((h.kept hk).narrow hAB).moved hvm⟩
theorem k_ext.same {α : Nat → Nat} {A : Nat → Prop} {s U : State} {H : Heap} (hv : U.vm = s.vm) (h : k_ext α A s H) : k_ext α A U H := by
  obtain ⟨h1, h2, ⟨h3, h4⟩, h5, h6, h7⟩ := h
  have hvm : s.vm.Alike U.vm := by rw [hv]; exact Vm.Alike.refl _
  refine ⟨fun w hw => k_nw_same (List.all_eq_true.mp k_nest_all w hw) hv.symm (h1 w hw), fun i hi => ⟨(h2 i hi).1.moved hvm, (h2 i hi).2.moved hvm⟩, ⟨h3.same hv, h4.same hv⟩, h5.moved hvm, h6.moved hvm, ?_⟩
  rcases h7 with h | ⟨t, h⟩
  · exact Or.inl (h.moved hvm)
  · exact Or.inr ⟨t, h.moved hvm⟩
/-! ===== the judgement ===== -/
abbrev KC : Type := (Program × Launch × Env × Room) × (State × MethodId × Array Value × List Frame) × (Method × Code) × (va_G × (Nat → ClassId) × (Nat → Nat) × (Nat → Prop)) × ((State → Prop) × Nat × Nat × Nat)
def k_lv (α : Nat → Nat) (nL : Nat) (ls : Array Slot) (L : List (Option KV)) : Prop := ls.size = nL ∧ lv_wf ls ∧ L.length = nL ∧ ∀ (i : Nat) (v : KV), L[i]? = some (some v) → ls[i]? = some (.val (k_tr α v))
def kW : KC → Nat → List (Option KV) → List KV → KM → Prop
  | ((p, l, e, R), (s, m, args, below), (meth, c), (D, K, α, A), (Q, cells, slots, nL)), pc, L, st, σ => ∀ (H : Heap) (locs : List Loc) (ls : Array Slot), va_P D k_cls (k_wd α K σ) H → va_S A s.heap H locs → k_lv α nL ls L → W p l e R s m args below meth c H locs cells slots Q (F0 m pc ls (st.map (k_tr α)))
def kOk : KC → Nat → ByteArray → Nat → String → Prop
  | ((p, l, e, R), (s, m, args, below), (meth, c), (D, K, α, A), (Q, cells, slots, nL)), d, cc, n, own => p.tables.exec = Jvm.exec ∧ c.code = cc ∧ c.maxLocals = nL ∧ n = nL ∧ s.vm.findClass own = some m.cls ∧ (∀ w ∈ k_Tg, w.before args s = true) ∧ (d ≤ R.frames ∧ 40 * d ≤ R.locals ∧ cells ≤ R.cells ∧ slots ≤ R.slots) ∧ va_K D k_cls (k_tys K) s ∧ (∀ q, s.heap.size ≤ q → A q) ∧ (∀ c, c < k_NC → A (α c)) ∧ k_inj α ∧ k_ext α A s s.heap
def kJ {Z : Type} (X : KC) (pc : Nat) (L : List (Option KV)) (st : List KV) (σ : KM) (F : Option Z) (Θ : Z → Prop) : Prop := ∀ z, F = some z → Θ z → kW X pc L st σ
end
section
/-! ===== pure steps ===== -/
def kLet {Z : Type} (a : Int) (G : Int → Option Z) : Option Z := G a
def kLt {Z : Type} (a b : Int) (T E : Option Z) : Option Z := if kin a ∧ kin b then (if a < b then T else E) else none
def kEq {Z : Type} (a b : Int) (T E : Option Z) : Option Z := if kin a ∧ kin b then (if a = b then T else E) else none
def kCk {Z : Type} (a : Int) (F : Option Z) : Option Z := if kin a then F else none
def kCk6 {Z : Type} (a b : Int) (F : Option Z) : Option Z := if kin6 a ∧ kin6 b then F else none
def kDv {Z : Type} (a b : Int) (G : Int → Option Z) : Option Z := if kin a ∧ kin b ∧ b ≠ 0 then G (a.tdiv b) else none
def kRm {Z : Type} (a b : Int) (G : Int → Option Z) : Option Z := if kin a ∧ kin b ∧ b ≠ 0 then G (a.tmod b) else none
def kDv6 {Z : Type} (a b : Int) (G : Int → Option Z) : Option Z := if kin6 a ∧ kin6 b ∧ b ≠ 0 then G (a.tdiv b) else none
def kRd {Z : Type} (σ : KM) (c : Nat) (i : Int) (G : Int → Option Z) : Option Z := if 0 ≤ i ∧ i < (k_ln c : Int) then G (σ c i) else none
def kWr {Z : Type} (σ : KM) (c : Nat) (i v : Int) (G : KM → Option Z) : Option Z := if 0 ≤ i ∧ i < (k_ln c : Int) then G (ks σ c i v) else none
def kWz {Z : Type} (σ : KM) (c : Nat) (i v : Int) (G : KM → Option Z) : Option Z := if (0 ≤ i ∧ i < (k_ln c : Int)) ∧ (v = 0 ∨ v = 1) then G (ks σ c i v) else none
def kWb {Z : Type} (σ : KM) (c : Nat) (i v : Int) (G : KM → Option Z) : Option Z := if (0 ≤ i ∧ i < (k_ln c : Int)) ∧ (-128 ≤ v ∧ v < 128) then G (ks σ c i v) else none
def kRs {Z : Type} (c : Nat) (i : Int) (G : Int → Option Z) : Option Z := if 0 ≤ i ∧ i < (k_sl c : Int) then G (k_sv c i.toNat) else none
def kWf {Z : Type} (σ : KM) (c : Nat) (k v : Int) (G : KM → Option Z) : Option Z := G (ks σ c k v)
def kWfz {Z : Type} (σ : KM) (c : Nat) (k v : Int) (G : KM → Option Z) : Option Z := if v = 0 ∨ v = 1 then G (ks σ c k v) else none
def kCall {Z : Type} (C : Option (Int × KM)) (G : Int → KM → Option Z) : Option Z := match C with
  | none => none
  | some q => G q.1 q.2
def kMx {Z : Type} (a b : Int) (G : Int → Option Z) : Option Z := if kin a ∧ kin b then G (if a < b then b else a) else none
def kMn {Z : Type} (a b : Int) (G : Int → Option Z) : Option Z := if kin a ∧ kin b then G (if b < a then b else a) else none
def kCp (σ : KM) (c0 c1 : Nat) (sp dp n : Int) : KM := fun c i => if c = c1 ∧ dp ≤ i ∧ i < dp + n then σ c0 (sp + (i - dp)) else σ c i
def kCpy {Z : Type} (σ : KM) (c0 : Nat) (sp : Int) (c1 : Nat) (dp n : Int) (G : KM → Option Z) : Option Z := if (0 ≤ sp ∧ 0 ≤ dp ∧ 0 ≤ n) ∧ (sp + n ≤ (k_ln c0 : Int) ∧ dp + n ≤ (k_ln c1 : Int)) then G (kCp σ c0 c1 sp dp n) else none
def kAnd {Z : Type} (a b : Int) (G : Int → Option Z) : Option Z := if b = 255 ∨ b = 63 ∨ b = 1 then G (a % (b + 1)) else none
def kShr {Z : Type} (a b : Int) (G : Int → Option Z) : Option Z := if kin a ∧ 0 ≤ b ∧ b < 32 then G (a / 2 ^ b.toNat) else none
def kUsh {Z : Type} (a b : Int) (G : Int → Option Z) : Option Z := if 0 ≤ b ∧ b < 32 then G ((a % 4294967296) / 2 ^ b.toNat) else none
def kcmp (a b : Int) : Int := if b < a then 1 else if a = b then 0 else -1
def kI2b (a : Int) : Int := (a + 128) % 256 - 128
def kRetI (r : Int) (σ : KM) : Option (Int × KM) := some (r, σ)
def kRetZ (r : Int) (σ : KM) : Option (Int × KM) := if r = 0 ∨ r = 1 then some (r, σ) else none
def kRetC (r : Int) (σ : KM) : Option (Int × KM) := if 0 ≤ r ∧ r < 256 then some (r, σ) else none
def kSw {Z : Type} (x lo : Int) (Fs : List (Option Z)) (E : Option Z) : Option Z := if kin x then (if lo ≤ x ∧ x < lo + (Fs.length : Int) then Fs.getD (x - lo).toNat none else E) else none
def kIter {S R : Type} (f : S → Option (S ⊕ R)) : Nat → S → Option R
  | 0, _ => none
  | n + 1, s => match f s with
    | none => none
    | some (.inl s') => kIter f n s'
    | some (.inr r) => some r
def kExit {S R : Type} (F : Option R) : Option (S ⊕ R) := match F with
  | none => none
  | some r => some (.inr r)
def kF : Nat := 4000
/-! ===== rows ===== -/
section KR
variable {X : KC} {d n : Nat} {cc : ByteArray} {own : String} {pc : Nat} {L : List (Option KV)} {st : List KV} {σ : KM} {Z : Type} {F : Option Z} {Θ : Z → Prop}
theorem kJ.to {pc2 : Nat} {L2 : List (Option KV)} {st2 : List KV} {σ2 : KM} (f : kW X pc2 L2 st2 σ2 → kW X pc L st σ) (h : kJ X pc2 L2 st2 σ2 F Θ) : kJ X pc L st σ F Θ := fun z hF hz => f (h z hF hz)
theorem k_iadd (hX : kOk X d cc n own) {a b : Int} (hd : decode cc pc = .ok (.iadd, 1)) (h : kJ X (pc + 1) L (ki (a + b) :: st) σ F Θ) : kJ X pc L (ki b :: ki a :: st) σ F Θ := by
  obtain ⟨⟨p, l, e, R⟩, ⟨s, m, args, below⟩, ⟨meth, c⟩, ⟨D, K, α, A⟩, ⟨Q, cells, slots, nL⟩⟩ := X
  obtain ⟨hx, hb, hml, hnl, hown, hts, hR, hK, hA, hAc, hinj, hE⟩ := hX
  intro z hF hz H locs ls hP hS hL
  have k := h z hF hz H locs ls hP hS hL
  refine lv_iadd hx hb hd ?_
  rw [← c32_add]
  exact k
theorem k_isub (hX : kOk X d cc n own) {a b : Int} (hd : decode cc pc = .ok (.isub, 1)) (h : kJ X (pc + 1) L (ki (a - b) :: st) σ F Θ) : kJ X pc L (ki b :: ki a :: st) σ F Θ := by
  obtain ⟨⟨p, l, e, R⟩, ⟨s, m, args, below⟩, ⟨meth, c⟩, ⟨D, K, α, A⟩, ⟨Q, cells, slots, nL⟩⟩ := X
  obtain ⟨hx, hb, hml, hnl, hown, hts, hR, hK, hA, hAc, hinj, hE⟩ := hX
  intro z hF hz H locs ls hP hS hL
  have k := h z hF hz H locs ls hP hS hL
  refine lv_isub hx hb hd ?_
  rw [← c32_sub]
  exact k
theorem k_imul (hX : kOk X d cc n own) {a b : Int} (hd : decode cc pc = .ok (.imul, 1)) (h : kJ X (pc + 1) L (ki (a * b) :: st) σ F Θ) : kJ X pc L (ki b :: ki a :: st) σ F Θ := by
  obtain ⟨⟨p, l, e, R⟩, ⟨s, m, args, below⟩, ⟨meth, c⟩, ⟨D, K, α, A⟩, ⟨Q, cells, slots, nL⟩⟩ := X
  obtain ⟨hx, hb, hml, hnl, hown, hts, hR, hK, hA, hAc, hinj, hE⟩ := hX
  intro z hF hz H locs ls hP hS hL
  have k := h z hF hz H locs ls hP hS hL
  refine lv_imul hx hb hd ?_
  rw [← c32_mul]
  exact k
theorem k_ineg (hX : kOk X d cc n own) {a : Int} (hd : decode cc pc = .ok (.ineg, 1)) (h : kJ X (pc + 1) L (ki (-a) :: st) σ F Θ) : kJ X pc L (ki a :: st) σ F Θ := by
  obtain ⟨⟨p, l, e, R⟩, ⟨s, m, args, below⟩, ⟨meth, c⟩, ⟨D, K, α, A⟩, ⟨Q, cells, slots, nL⟩⟩ := X
  obtain ⟨hx, hb, hml, hnl, hown, hts, hR, hK, hA, hAc, hinj, hE⟩ := hX
  intro z hF hz H locs ls hP hS hL
  have k := h z hF hz H locs ls hP hS hL
  refine lv_ineg hx hb hd ?_
  rw [← c32_neg]
  exact k
theorem k_iconst (hX : kOk X d cc n own) {v : Int} (hd : decode cc pc = .ok (.iconst v, 1)) (h : kJ X (pc + 1) L (ki v :: st) σ F Θ) : kJ X pc L (st) σ F Θ := by
  obtain ⟨⟨p, l, e, R⟩, ⟨s, m, args, below⟩, ⟨meth, c⟩, ⟨D, K, α, A⟩, ⟨Q, cells, slots, nL⟩⟩ := X
  obtain ⟨hx, hb, hml, hnl, hown, hts, hR, hK, hA, hAc, hinj, hE⟩ := hX
  intro z hF hz H locs ls hP hS hL
  have k := h z hF hz H locs ls hP hS hL
  exact lv_iconst hx hb hd (v := c32 v) rfl k
theorem k_bipush (hX : kOk X d cc n own) {v : Int} (hd : decode cc pc = .ok (.bipush v, 2)) (hv : (Int8.ofInt v).toInt32 = c32 v) (h : kJ X (pc + 2) L (ki v :: st) σ F Θ) : kJ X pc L (st) σ F Θ := by
  obtain ⟨⟨p, l, e, R⟩, ⟨s, m, args, below⟩, ⟨meth, c⟩, ⟨D, K, α, A⟩, ⟨Q, cells, slots, nL⟩⟩ := X
  obtain ⟨hx, hb, hml, hnl, hown, hts, hR, hK, hA, hAc, hinj, hE⟩ := hX
  intro z hF hz H locs ls hP hS hL
  have k := h z hF hz H locs ls hP hS hL
  exact lv_bipush hx hb hd (v := c32 v) hv k
theorem k_sipush (hX : kOk X d cc n own) {v : Int} (hd : decode cc pc = .ok (.sipush v, 3)) (hv : (Int16.ofInt v).toInt32 = c32 v) (h : kJ X (pc + 3) L (ki v :: st) σ F Θ) : kJ X pc L (st) σ F Θ := by
  obtain ⟨⟨p, l, e, R⟩, ⟨s, m, args, below⟩, ⟨meth, c⟩, ⟨D, K, α, A⟩, ⟨Q, cells, slots, nL⟩⟩ := X
  obtain ⟨hx, hb, hml, hnl, hown, hts, hR, hK, hA, hAc, hinj, hE⟩ := hX
  intro z hF hz H locs ls hP hS hL
  have k := h z hF hz H locs ls hP hS hL
  exact lv_sipush hx hb hd (v := c32 v) hv k
theorem k_ldc (hX : kOk X d cc n own) {v : Int} {w : Int32} {index : Nat} (hd : decode cc pc = .ok (.ldc index, 2)) (hw : Cond.constant own index (c32 v) ∈ k_Tg) (h : kJ X (pc + 2) L (ki v :: st) σ F Θ) : kJ X pc L (st) σ F Θ := by
  obtain ⟨⟨p, l, e, R⟩, ⟨s, m, args, below⟩, ⟨meth, c⟩, ⟨D, K, α, A⟩, ⟨Q, cells, slots, nL⟩⟩ := X
  obtain ⟨hx, hb, hml, hnl, hown, hts, hR, hK, hA, hAc, hinj, hE⟩ := hX
  intro z hF hz H locs ls hP hS hL
  have k := h z hF hz H locs ls hP hS hL
  exact lv_ldc hx hb (v := c32 v) hown (hts _ hw) hd k
theorem k_ldcw (hX : kOk X d cc n own) {v : Int} {w : Int32} {index : Nat} (hd : decode cc pc = .ok (.ldc_w index, 3)) (hw : Cond.constant own index (c32 v) ∈ k_Tg) (h : kJ X (pc + 3) L (ki v :: st) σ F Θ) : kJ X pc L (st) σ F Θ := by
  obtain ⟨⟨p, l, e, R⟩, ⟨s, m, args, below⟩, ⟨meth, c⟩, ⟨D, K, α, A⟩, ⟨Q, cells, slots, nL⟩⟩ := X
  obtain ⟨hx, hb, hml, hnl, hown, hts, hR, hK, hA, hAc, hinj, hE⟩ := hX
  intro z hF hz H locs ls hP hS hL
  have k := h z hF hz H locs ls hP hS hL
  exact lv_ldcw hx hb (v := c32 v) hown (hts _ hw) hd k
theorem k_ldc2 (hX : kOk X d cc n own) {v : Int} {index : Nat} (hd : decode cc pc = .ok (.ldc2_w index, 3)) (hw : Cond.constantLong own index (c64 v) ∈ k_Tg) (h : kJ X (pc + 3) L (kl v :: st) σ F Θ) : kJ X pc L (st) σ F Θ := by
  obtain ⟨⟨p, l, e, R⟩, ⟨s, m, args, below⟩, ⟨meth, c⟩, ⟨D, K, α, A⟩, ⟨Q, cells, slots, nL⟩⟩ := X
  obtain ⟨hx, hb, hml, hnl, hown, hts, hR, hK, hA, hAc, hinj, hE⟩ := hX
  intro z hF hz H locs ls hP hS hL
  have k := h z hF hz H locs ls hP hS hL
  exact lv_ldc2 hx hb (v := c64 v) hown (hts _ hw) hd k
theorem k_lconst0 (hX : kOk X d cc n own) (hd : decode cc pc = .ok (.lconst 0, 1)) (h : kJ X (pc + 1) L (kl 0 :: st) σ F Θ) : kJ X pc L (st) σ F Θ := by
  obtain ⟨⟨p, l, e, R⟩, ⟨s, m, args, below⟩, ⟨meth, c⟩, ⟨D, K, α, A⟩, ⟨Q, cells, slots, nL⟩⟩ := X
  obtain ⟨hx, hb, hml, hnl, hown, hts, hR, hK, hA, hAc, hinj, hE⟩ := hX
  intro z hF hz H locs ls hP hS hL
  have k := h z hF hz H locs ls hP hS hL
  exact lv_lconst hx hb hd (v := c64 0) (by decide) k
theorem k_lconst1 (hX : kOk X d cc n own) (hd : decode cc pc = .ok (.lconst 1, 1)) (h : kJ X (pc + 1) L (kl 1 :: st) σ F Θ) : kJ X pc L (st) σ F Θ := by
  obtain ⟨⟨p, l, e, R⟩, ⟨s, m, args, below⟩, ⟨meth, c⟩, ⟨D, K, α, A⟩, ⟨Q, cells, slots, nL⟩⟩ := X
  obtain ⟨hx, hb, hml, hnl, hown, hts, hR, hK, hA, hAc, hinj, hE⟩ := hX
  intro z hF hz H locs ls hP hS hL
  have k := h z hF hz H locs ls hP hS hL
  exact lv_lconst hx hb hd (v := c64 1) (by decide) k
theorem k_iload_n (hX : kOk X d cc n own) {j : Fin 4} {v : Int} (hd : decode cc pc = .ok (.iload_n j, 1)) (hl : L[(j : Nat)]? = some (some (ki v))) (h : kJ X (pc + 1) L (ki v :: st) σ F Θ) : kJ X pc L (st) σ F Θ := by
  obtain ⟨⟨p, l, e, R⟩, ⟨s, m, args, below⟩, ⟨meth, c⟩, ⟨D, K, α, A⟩, ⟨Q, cells, slots, nL⟩⟩ := X
  obtain ⟨hx, hb, hml, hnl, hown, hts, hR, hK, hA, hAc, hinj, hE⟩ := hX
  intro z hF hz H locs ls hP hS hL
  have k := h z hF hz H locs ls hP hS hL
  exact lv_iload_n hx hb hd rfl (hL.2.2.2 _ _ hl) k
theorem k_iload (hX : kOk X d cc n own) {j : Nat} {v : Int} (hd : decode cc pc = .ok (.iload j, 2)) (hl : L[j]? = some (some (ki v))) (h : kJ X (pc + 2) L (ki v :: st) σ F Θ) : kJ X pc L (st) σ F Θ := by
  obtain ⟨⟨p, l, e, R⟩, ⟨s, m, args, below⟩, ⟨meth, c⟩, ⟨D, K, α, A⟩, ⟨Q, cells, slots, nL⟩⟩ := X
  obtain ⟨hx, hb, hml, hnl, hown, hts, hR, hK, hA, hAc, hinj, hE⟩ := hX
  intro z hF hz H locs ls hP hS hL
  have k := h z hF hz H locs ls hP hS hL
  exact lv_iload hx hb hd (hL.2.2.2 _ _ hl) k
theorem k_lload_n (hX : kOk X d cc n own) {j : Fin 4} {v : Int} (hd : decode cc pc = .ok (.lload_n j, 1)) (hl : L[(j : Nat)]? = some (some (kl v))) (h : kJ X (pc + 1) L (kl v :: st) σ F Θ) : kJ X pc L (st) σ F Θ := by
  obtain ⟨⟨p, l, e, R⟩, ⟨s, m, args, below⟩, ⟨meth, c⟩, ⟨D, K, α, A⟩, ⟨Q, cells, slots, nL⟩⟩ := X
  obtain ⟨hx, hb, hml, hnl, hown, hts, hR, hK, hA, hAc, hinj, hE⟩ := hX
  intro z hF hz H locs ls hP hS hL
  have k := h z hF hz H locs ls hP hS hL
  exact lv_lload_n hx hb hd rfl (hL.2.2.2 _ _ hl) k
theorem k_lload (hX : kOk X d cc n own) {j : Nat} {v : Int} (hd : decode cc pc = .ok (.lload j, 2)) (hl : L[j]? = some (some (kl v))) (h : kJ X (pc + 2) L (kl v :: st) σ F Θ) : kJ X pc L (st) σ F Θ := by
  obtain ⟨⟨p, l, e, R⟩, ⟨s, m, args, below⟩, ⟨meth, c⟩, ⟨D, K, α, A⟩, ⟨Q, cells, slots, nL⟩⟩ := X
  obtain ⟨hx, hb, hml, hnl, hown, hts, hR, hK, hA, hAc, hinj, hE⟩ := hX
  intro z hF hz H locs ls hP hS hL
  have k := h z hF hz H locs ls hP hS hL
  exact lv_lload hx hb hd (hL.2.2.2 _ _ hl) k
theorem k_aload_n (hX : kOk X d cc n own) {j : Fin 4} {v : Nat} (hd : decode cc pc = .ok (.aload_n j, 1)) (hl : L[(j : Nat)]? = some (some (kr v))) (h : kJ X (pc + 1) L (kr v :: st) σ F Θ) : kJ X pc L (st) σ F Θ := by
  obtain ⟨⟨p, l, e, R⟩, ⟨s, m, args, below⟩, ⟨meth, c⟩, ⟨D, K, α, A⟩, ⟨Q, cells, slots, nL⟩⟩ := X
  obtain ⟨hx, hb, hml, hnl, hown, hts, hR, hK, hA, hAc, hinj, hE⟩ := hX
  intro z hF hz H locs ls hP hS hL
  have k := h z hF hz H locs ls hP hS hL
  exact lv_aload_n hx hb hd rfl (hL.2.2.2 _ _ hl) k
theorem k_aload (hX : kOk X d cc n own) {j : Nat} {v : Nat} (hd : decode cc pc = .ok (.aload j, 2)) (hl : L[j]? = some (some (kr v))) (h : kJ X (pc + 2) L (kr v :: st) σ F Θ) : kJ X pc L (st) σ F Θ := by
  obtain ⟨⟨p, l, e, R⟩, ⟨s, m, args, below⟩, ⟨meth, c⟩, ⟨D, K, α, A⟩, ⟨Q, cells, slots, nL⟩⟩ := X
  obtain ⟨hx, hb, hml, hnl, hown, hts, hR, hK, hA, hAc, hinj, hE⟩ := hX
  intro z hF hz H locs ls hP hS hL
  have k := h z hF hz H locs ls hP hS hL
  exact lv_aload hx hb hd (hL.2.2.2 _ _ hl) k
theorem k_lmul (hX : kOk X d cc n own) {a b : Int} (hd : decode cc pc = .ok (.lmul, 1)) (h : kJ X (pc + 1) L (kl (a * b) :: st) σ F Θ) : kJ X pc L (kl b :: kl a :: st) σ F Θ := by
  obtain ⟨⟨p, l, e, R⟩, ⟨s, m, args, below⟩, ⟨meth, c⟩, ⟨D, K, α, A⟩, ⟨Q, cells, slots, nL⟩⟩ := X
  obtain ⟨hx, hb, hml, hnl, hown, hts, hR, hK, hA, hAc, hinj, hE⟩ := hX
  intro z hF hz H locs ls hP hS hL
  have k := h z hF hz H locs ls hP hS hL
  refine lv_lmul hx hb hd ?_
  rw [← c64_mul]
  exact k
theorem k_l2i (hX : kOk X d cc n own) {a : Int} (hd : decode cc pc = .ok (.l2i, 1)) (h : kJ X (pc + 1) L (ki a :: st) σ F Θ) : kJ X pc L (kl a :: st) σ F Θ := by
  obtain ⟨⟨p, l, e, R⟩, ⟨s, m, args, below⟩, ⟨meth, c⟩, ⟨D, K, α, A⟩, ⟨Q, cells, slots, nL⟩⟩ := X
  obtain ⟨hx, hb, hml, hnl, hown, hts, hR, hK, hA, hAc, hinj, hE⟩ := hX
  intro z hF hz H locs ls hP hS hL
  have k := h z hF hz H locs ls hP hS hL
  exact lv_l2i hx hb hd (c64_i a) k
theorem k_dup (hX : kOk X d cc n own) {a : Int} (hd : decode cc pc = .ok (.dup, 1)) (h : kJ X (pc + 1) L (ki a :: ki a :: st) σ F Θ) : kJ X pc L (ki a :: st) σ F Θ := by
  obtain ⟨⟨p, l, e, R⟩, ⟨s, m, args, below⟩, ⟨meth, c⟩, ⟨D, K, α, A⟩, ⟨Q, cells, slots, nL⟩⟩ := X
  obtain ⟨hx, hb, hml, hnl, hown, hts, hR, hK, hA, hAc, hinj, hE⟩ := hX
  intro z hF hz H locs ls hP hS hL
  have k := h z hF hz H locs ls hP hS hL
  exact lv_dup hx hb hd rfl k
theorem k_dupr (hX : kOk X d cc n own) {a : Nat} (hd : decode cc pc = .ok (.dup, 1)) (h : kJ X (pc + 1) L (kr a :: kr a :: st) σ F Θ) : kJ X pc L (kr a :: st) σ F Θ := by
  obtain ⟨⟨p, l, e, R⟩, ⟨s, m, args, below⟩, ⟨meth, c⟩, ⟨D, K, α, A⟩, ⟨Q, cells, slots, nL⟩⟩ := X
  obtain ⟨hx, hb, hml, hnl, hown, hts, hR, hK, hA, hAc, hinj, hE⟩ := hX
  intro z hF hz H locs ls hP hS hL
  have k := h z hF hz H locs ls hP hS hL
  exact lv_dup hx hb hd rfl k
theorem k_dup2 (hX : kOk X d cc n own) {a : Int} {b : Nat} (hd : decode cc pc = .ok (.dup2, 1)) (h : kJ X (pc + 1) L (ki a :: kr b :: ki a :: kr b :: st) σ F Θ) : kJ X pc L (ki a :: kr b :: st) σ F Θ := by
  obtain ⟨⟨p, l, e, R⟩, ⟨s, m, args, below⟩, ⟨meth, c⟩, ⟨D, K, α, A⟩, ⟨Q, cells, slots, nL⟩⟩ := X
  obtain ⟨hx, hb, hml, hnl, hown, hts, hR, hK, hA, hAc, hinj, hE⟩ := hX
  intro z hF hz H locs ls hP hS hL
  have k := h z hF hz H locs ls hP hS hL
  exact lv_dup2_11 hx hb hd rfl rfl k
theorem k_pop (hX : kOk X d cc n own) {a : Int} (hd : decode cc pc = .ok (.pop, 1)) (h : kJ X (pc + 1) L (st) σ F Θ) : kJ X pc L (ki a :: st) σ F Θ := by
  obtain ⟨⟨p, l, e, R⟩, ⟨s, m, args, below⟩, ⟨meth, c⟩, ⟨D, K, α, A⟩, ⟨Q, cells, slots, nL⟩⟩ := X
  obtain ⟨hx, hb, hml, hnl, hown, hts, hR, hK, hA, hAc, hinj, hE⟩ := hX
  intro z hF hz H locs ls hP hS hL
  have k := h z hF hz H locs ls hP hS hL
  exact lv_pop hx hb hd rfl k
theorem k_i2l (hX : kOk X d cc n own) {a : Int} (hd : decode cc pc = .ok (.i2l, 1)) (h : kJ X (pc + 1) L (kl a :: st) σ F Θ) : kJ X pc L (ki a :: st) σ (kCk a F) Θ := by
  obtain ⟨⟨p, l, e, R⟩, ⟨s, m, args, below⟩, ⟨meth, c⟩, ⟨D, K, α, A⟩, ⟨Q, cells, slots, nL⟩⟩ := X
  obtain ⟨hx, hb, hml, hnl, hown, hts, hR, hK, hA, hAc, hinj, hE⟩ := hX
  intro z hF hz H locs ls hP hS hL
  unfold kCk at hF
  split at hF
  · rename_i hc
    exact lv_i2l hx hb hd (c32_l hc) (h z hF hz H locs ls hP hS hL)
  · cases hF
theorem k_lcmp (hX : kOk X d cc n own) {a b : Int} (hd : decode cc pc = .ok (.lcmp, 1)) (h : kJ X (pc + 1) L (ki (kcmp a b) :: st) σ F Θ) : kJ X pc L (kl b :: kl a :: st) σ (kCk6 a b F) Θ := by
  obtain ⟨⟨p, l, e, R⟩, ⟨s, m, args, below⟩, ⟨meth, c⟩, ⟨D, K, α, A⟩, ⟨Q, cells, slots, nL⟩⟩ := X
  obtain ⟨hx, hb, hml, hnl, hown, hts, hR, hK, hA, hAc, hinj, hE⟩ := hX
  intro z hF hz H locs ls hP hS hL
  unfold kCk6 at hF
  split at hF
  · rename_i hc
    have e9 : lg_cmp (c64 a) (c64 b) = c32 (kcmp a b) := by
      unfold lg_cmp kcmp
      simp only [GT.gt, c64_lt hc.2 hc.1, c64_eq hc.1 hc.2]
      split
      · decide
      · split <;> decide
    refine W.lcmp hx hb hd ?_
    rw [e9]
    exact h z hF hz H locs ls hP hS hL
  · cases hF
theorem k_idiv (hX : kOk X d cc n own) {a b : Int} {G : Int → Option Z} (hd : decode cc pc = .ok (.idiv, 1)) (h : ∀ r, kJ X (pc + 1) L (ki r :: st) σ (G r) Θ) : kJ X pc L (ki b :: ki a :: st) σ (kDv a b G) Θ := by
  obtain ⟨⟨p, l, e, R⟩, ⟨s, m, args, below⟩, ⟨meth, c⟩, ⟨D, K, α, A⟩, ⟨Q, cells, slots, nL⟩⟩ := X
  obtain ⟨hx, hb, hml, hnl, hown, hts, hR, hK, hA, hAc, hinj, hE⟩ := hX
  intro z hF hz H locs ls hP hS hL
  unfold kDv at hF
  split at hF
  · rename_i hc
    refine lv_idiv hx hb hd (c32_ne0 hc.2.1 hc.2.2) ?_
    rw [← c32_div hc.1 hc.2.1]
    exact h _ z hF hz H locs ls hP hS hL
  · cases hF
theorem k_irem (hX : kOk X d cc n own) {a b : Int} {G : Int → Option Z} (hd : decode cc pc = .ok (.irem, 1)) (h : ∀ r, kJ X (pc + 1) L (ki r :: st) σ (G r) Θ) : kJ X pc L (ki b :: ki a :: st) σ (kRm a b G) Θ := by
  obtain ⟨⟨p, l, e, R⟩, ⟨s, m, args, below⟩, ⟨meth, c⟩, ⟨D, K, α, A⟩, ⟨Q, cells, slots, nL⟩⟩ := X
  obtain ⟨hx, hb, hml, hnl, hown, hts, hR, hK, hA, hAc, hinj, hE⟩ := hX
  intro z hF hz H locs ls hP hS hL
  unfold kRm at hF
  split at hF
  · rename_i hc
    refine lv_irem hx hb hd (c32_ne0 hc.2.1 hc.2.2) ?_
    rw [← c32_rem hc.1 hc.2.1]
    exact h _ z hF hz H locs ls hP hS hL
  · cases hF
theorem k_ldiv (hX : kOk X d cc n own) {a b : Int} {G : Int → Option Z} (hd : decode cc pc = .ok (.ldiv, 1)) (h : ∀ r, kJ X (pc + 1) L (kl r :: st) σ (G r) Θ) : kJ X pc L (kl b :: kl a :: st) σ (kDv6 a b G) Θ := by
  obtain ⟨⟨p, l, e, R⟩, ⟨s, m, args, below⟩, ⟨meth, c⟩, ⟨D, K, α, A⟩, ⟨Q, cells, slots, nL⟩⟩ := X
  obtain ⟨hx, hb, hml, hnl, hown, hts, hR, hK, hA, hAc, hinj, hE⟩ := hX
  intro z hF hz H locs ls hP hS hL
  unfold kDv6 at hF
  split at hF
  · rename_i hc
    have hb0 : ¬ c64 b = 0 := by
      rw [show (0 : Int64) = c64 0 by decide, c64_eq hc.2.1 (by decide)]
      exact hc.2.2
    refine lv_ldiv hx hb hd hb0 ?_
    rw [← c64_div hc.1 hc.2.1]
    exact h _ z hF hz H locs ls hP hS hL
  · cases hF
theorem k_icmp_lt (hX : kOk X d cc n own) {a b : Int} {T E : Option Z} {off : Int} {tgt : Nat} (hd : decode cc pc = .ok (.if_icmp .lt off, 3)) (ht : (pc : Int) + off = (tgt : Int)) (h1 : kJ X tgt L st σ T Θ) (h2 : kJ X (pc + 3) L st σ E Θ) : kJ X pc L (ki b :: ki a :: st) σ (kLt a b T E) Θ := by
  obtain ⟨⟨p, l, e, R⟩, ⟨s, m, args, below⟩, ⟨meth, c⟩, ⟨D, K, α, A⟩, ⟨Q, cells, slots, nL⟩⟩ := X
  obtain ⟨hx, hb, hml, hnl, hown, hts, hR, hK, hA, hAc, hinj, hE⟩ := hX
  intro z hF hz H locs ls hP hS hL
  unfold kLt at hF
  split at hF
  · rename_i hc
    split at hF
    · rename_i hp
      have q9 := (c32_lt hc.1 hc.2).mpr hp
      exact lv_icmp_lt hx hb hd ht (fun _ => (h1 z hF hz H locs ls hP hS hL)) (fun q => absurd q9 q)
    · rename_i hp
      have q9 := fun q => hp ((c32_lt hc.1 hc.2).mp q)
      exact lv_icmp_lt hx hb hd ht (fun q => absurd q q9) (fun _ => (h2 z hF hz H locs ls hP hS hL))
  · cases hF
theorem k_if_lt (hX : kOk X d cc n own) {a : Int} {T E : Option Z} {off : Int} {tgt : Nat} (hd : decode cc pc = .ok (.ifCond .lt off, 3)) (ht : (pc : Int) + off = (tgt : Int)) (h1 : kJ X tgt L st σ T Θ) (h2 : kJ X (pc + 3) L st σ E Θ) : kJ X pc L (ki a :: st) σ (kLt a 0 T E) Θ := by
  obtain ⟨⟨p, l, e, R⟩, ⟨s, m, args, below⟩, ⟨meth, c⟩, ⟨D, K, α, A⟩, ⟨Q, cells, slots, nL⟩⟩ := X
  obtain ⟨hx, hb, hml, hnl, hown, hts, hR, hK, hA, hAc, hinj, hE⟩ := hX
  intro z hF hz H locs ls hP hS hL
  unfold kLt at hF
  split at hF
  · rename_i hc
    have hz0 : kin 0 := by decide
    have e9 : (0 : Int32) = c32 0 := c32_0.symm
    split at hF
    · rename_i hp
      have q9 := (c32_lt hc.1 hc.2).mpr hp
      rw [c32_0] at q9
      exact lv_if_lt hx hb hd ht (fun _ => (h1 z hF hz H locs ls hP hS hL)) (fun q => absurd q9 q)
    · rename_i hp
      have q9 := fun q => hp ((c32_lt hc.1 hc.2).mp q)
      rw [c32_0] at q9
      exact lv_if_lt hx hb hd ht (fun q => absurd q q9) (fun _ => (h2 z hF hz H locs ls hP hS hL))
  · cases hF
theorem k_icmp_ge (hX : kOk X d cc n own) {a b : Int} {T E : Option Z} {off : Int} {tgt : Nat} (hd : decode cc pc = .ok (.if_icmp .ge off, 3)) (ht : (pc : Int) + off = (tgt : Int)) (h1 : kJ X tgt L st σ T Θ) (h2 : kJ X (pc + 3) L st σ E Θ) : kJ X pc L (ki b :: ki a :: st) σ (kLt a b E T) Θ := by
  obtain ⟨⟨p, l, e, R⟩, ⟨s, m, args, below⟩, ⟨meth, c⟩, ⟨D, K, α, A⟩, ⟨Q, cells, slots, nL⟩⟩ := X
  obtain ⟨hx, hb, hml, hnl, hown, hts, hR, hK, hA, hAc, hinj, hE⟩ := hX
  intro z hF hz H locs ls hP hS hL
  unfold kLt at hF
  split at hF
  · rename_i hc
    split at hF
    · rename_i hp
      have q9 := (c32_lt hc.1 hc.2).mpr hp
      exact lv_icmp_ge hx hb hd ht (fun q => absurd q9 (Int32.not_lt.mpr q)) (fun _ => (h2 z hF hz H locs ls hP hS hL))
    · rename_i hp
      have q9 := Int32.not_lt.mp (fun q => hp ((c32_lt hc.1 hc.2).mp q))
      exact lv_icmp_ge hx hb hd ht (fun _ => (h1 z hF hz H locs ls hP hS hL)) (fun q => absurd q9 q)
  · cases hF
theorem k_if_ge (hX : kOk X d cc n own) {a : Int} {T E : Option Z} {off : Int} {tgt : Nat} (hd : decode cc pc = .ok (.ifCond .ge off, 3)) (ht : (pc : Int) + off = (tgt : Int)) (h1 : kJ X tgt L st σ T Θ) (h2 : kJ X (pc + 3) L st σ E Θ) : kJ X pc L (ki a :: st) σ (kLt a 0 E T) Θ := by
  obtain ⟨⟨p, l, e, R⟩, ⟨s, m, args, below⟩, ⟨meth, c⟩, ⟨D, K, α, A⟩, ⟨Q, cells, slots, nL⟩⟩ := X
  obtain ⟨hx, hb, hml, hnl, hown, hts, hR, hK, hA, hAc, hinj, hE⟩ := hX
  intro z hF hz H locs ls hP hS hL
  unfold kLt at hF
  split at hF
  · rename_i hc
    have hz0 : kin 0 := by decide
    have e9 : (0 : Int32) = c32 0 := c32_0.symm
    split at hF
    · rename_i hp
      have q9 := (c32_lt hc.1 hc.2).mpr hp
      rw [c32_0] at q9
      exact lv_if_ge hx hb hd ht (fun q => absurd q9 (Int32.not_lt.mpr q)) (fun _ => (h2 z hF hz H locs ls hP hS hL))
    · rename_i hp
      have q9 := Int32.not_lt.mp (fun q => hp ((c32_lt hc.1 hc.2).mp q))
      rw [c32_0] at q9
      exact lv_if_ge hx hb hd ht (fun _ => (h1 z hF hz H locs ls hP hS hL)) (fun q => absurd q9 q)
  · cases hF
theorem k_icmp_gt (hX : kOk X d cc n own) {a b : Int} {T E : Option Z} {off : Int} {tgt : Nat} (hd : decode cc pc = .ok (.if_icmp .gt off, 3)) (ht : (pc : Int) + off = (tgt : Int)) (h1 : kJ X tgt L st σ T Θ) (h2 : kJ X (pc + 3) L st σ E Θ) : kJ X pc L (ki b :: ki a :: st) σ (kLt b a T E) Θ := by
  obtain ⟨⟨p, l, e, R⟩, ⟨s, m, args, below⟩, ⟨meth, c⟩, ⟨D, K, α, A⟩, ⟨Q, cells, slots, nL⟩⟩ := X
  obtain ⟨hx, hb, hml, hnl, hown, hts, hR, hK, hA, hAc, hinj, hE⟩ := hX
  intro z hF hz H locs ls hP hS hL
  unfold kLt at hF
  split at hF
  · rename_i hc
    split at hF
    · rename_i hp
      have q9 := (c32_lt hc.1 hc.2).mpr hp
      exact lv_icmp_gt hx hb hd ht (fun _ => (h1 z hF hz H locs ls hP hS hL)) (fun q => absurd q9 q)
    · rename_i hp
      have q9 := fun q => hp ((c32_lt hc.1 hc.2).mp q)
      exact lv_icmp_gt hx hb hd ht (fun q => absurd q q9) (fun _ => (h2 z hF hz H locs ls hP hS hL))
  · cases hF
theorem k_if_gt (hX : kOk X d cc n own) {a : Int} {T E : Option Z} {off : Int} {tgt : Nat} (hd : decode cc pc = .ok (.ifCond .gt off, 3)) (ht : (pc : Int) + off = (tgt : Int)) (h1 : kJ X tgt L st σ T Θ) (h2 : kJ X (pc + 3) L st σ E Θ) : kJ X pc L (ki a :: st) σ (kLt 0 a T E) Θ := by
  obtain ⟨⟨p, l, e, R⟩, ⟨s, m, args, below⟩, ⟨meth, c⟩, ⟨D, K, α, A⟩, ⟨Q, cells, slots, nL⟩⟩ := X
  obtain ⟨hx, hb, hml, hnl, hown, hts, hR, hK, hA, hAc, hinj, hE⟩ := hX
  intro z hF hz H locs ls hP hS hL
  unfold kLt at hF
  split at hF
  · rename_i hc
    have hz0 : kin 0 := by decide
    have e9 : (0 : Int32) = c32 0 := c32_0.symm
    split at hF
    · rename_i hp
      have q9 := (c32_lt hc.1 hc.2).mpr hp
      rw [c32_0] at q9
      exact lv_if_gt hx hb hd ht (fun _ => (h1 z hF hz H locs ls hP hS hL)) (fun q => absurd q9 q)
    · rename_i hp
      have q9 := fun q => hp ((c32_lt hc.1 hc.2).mp q)
      rw [c32_0] at q9
      exact lv_if_gt hx hb hd ht (fun q => absurd q q9) (fun _ => (h2 z hF hz H locs ls hP hS hL))
  · cases hF
theorem k_icmp_le (hX : kOk X d cc n own) {a b : Int} {T E : Option Z} {off : Int} {tgt : Nat} (hd : decode cc pc = .ok (.if_icmp .le off, 3)) (ht : (pc : Int) + off = (tgt : Int)) (h1 : kJ X tgt L st σ T Θ) (h2 : kJ X (pc + 3) L st σ E Θ) : kJ X pc L (ki b :: ki a :: st) σ (kLt b a E T) Θ := by
  obtain ⟨⟨p, l, e, R⟩, ⟨s, m, args, below⟩, ⟨meth, c⟩, ⟨D, K, α, A⟩, ⟨Q, cells, slots, nL⟩⟩ := X
  obtain ⟨hx, hb, hml, hnl, hown, hts, hR, hK, hA, hAc, hinj, hE⟩ := hX
  intro z hF hz H locs ls hP hS hL
  unfold kLt at hF
  split at hF
  · rename_i hc
    split at hF
    · rename_i hp
      have q9 := (c32_lt hc.1 hc.2).mpr hp
      exact lv_icmp_le hx hb hd ht (fun q => absurd q9 (Int32.not_lt.mpr q)) (fun _ => (h2 z hF hz H locs ls hP hS hL))
    · rename_i hp
      have q9 := Int32.not_lt.mp (fun q => hp ((c32_lt hc.1 hc.2).mp q))
      exact lv_icmp_le hx hb hd ht (fun _ => (h1 z hF hz H locs ls hP hS hL)) (fun q => absurd q9 q)
  · cases hF
theorem k_if_le (hX : kOk X d cc n own) {a : Int} {T E : Option Z} {off : Int} {tgt : Nat} (hd : decode cc pc = .ok (.ifCond .le off, 3)) (ht : (pc : Int) + off = (tgt : Int)) (h1 : kJ X tgt L st σ T Θ) (h2 : kJ X (pc + 3) L st σ E Θ) : kJ X pc L (ki a :: st) σ (kLt 0 a E T) Θ := by
  obtain ⟨⟨p, l, e, R⟩, ⟨s, m, args, below⟩, ⟨meth, c⟩, ⟨D, K, α, A⟩, ⟨Q, cells, slots, nL⟩⟩ := X
  obtain ⟨hx, hb, hml, hnl, hown, hts, hR, hK, hA, hAc, hinj, hE⟩ := hX
  intro z hF hz H locs ls hP hS hL
  unfold kLt at hF
  split at hF
  · rename_i hc
    have hz0 : kin 0 := by decide
    have e9 : (0 : Int32) = c32 0 := c32_0.symm
    split at hF
    · rename_i hp
      have q9 := (c32_lt hc.1 hc.2).mpr hp
      rw [c32_0] at q9
      exact lv_if_le hx hb hd ht (fun q => absurd q9 (Int32.not_lt.mpr q)) (fun _ => (h2 z hF hz H locs ls hP hS hL))
    · rename_i hp
      have q9 := Int32.not_lt.mp (fun q => hp ((c32_lt hc.1 hc.2).mp q))
      rw [c32_0] at q9
      exact lv_if_le hx hb hd ht (fun _ => (h1 z hF hz H locs ls hP hS hL)) (fun q => absurd q9 q)
  · cases hF
theorem k_icmp_eq (hX : kOk X d cc n own) {a b : Int} {T E : Option Z} {off : Int} {tgt : Nat} (hd : decode cc pc = .ok (.if_icmp .eq off, 3)) (ht : (pc : Int) + off = (tgt : Int)) (h1 : kJ X tgt L st σ T Θ) (h2 : kJ X (pc + 3) L st σ E Θ) : kJ X pc L (ki b :: ki a :: st) σ (kEq a b T E) Θ := by
  obtain ⟨⟨p, l, e, R⟩, ⟨s, m, args, below⟩, ⟨meth, c⟩, ⟨D, K, α, A⟩, ⟨Q, cells, slots, nL⟩⟩ := X
  obtain ⟨hx, hb, hml, hnl, hown, hts, hR, hK, hA, hAc, hinj, hE⟩ := hX
  intro z hF hz H locs ls hP hS hL
  unfold kEq at hF
  split at hF
  · rename_i hc
    split at hF
    · rename_i hp
      have q9 := (c32_eq hc.1 hc.2).mpr hp
      exact lv_icmp_eq hx hb hd ht (fun _ => (h1 z hF hz H locs ls hP hS hL)) (fun q => absurd q9 q)
    · rename_i hp
      have q9 := fun q => hp ((c32_eq hc.1 hc.2).mp q)
      exact lv_icmp_eq hx hb hd ht (fun q => absurd q q9) (fun _ => (h2 z hF hz H locs ls hP hS hL))
  · cases hF
theorem k_if_eq (hX : kOk X d cc n own) {a : Int} {T E : Option Z} {off : Int} {tgt : Nat} (hd : decode cc pc = .ok (.ifCond .eq off, 3)) (ht : (pc : Int) + off = (tgt : Int)) (h1 : kJ X tgt L st σ T Θ) (h2 : kJ X (pc + 3) L st σ E Θ) : kJ X pc L (ki a :: st) σ (kEq a 0 T E) Θ := by
  obtain ⟨⟨p, l, e, R⟩, ⟨s, m, args, below⟩, ⟨meth, c⟩, ⟨D, K, α, A⟩, ⟨Q, cells, slots, nL⟩⟩ := X
  obtain ⟨hx, hb, hml, hnl, hown, hts, hR, hK, hA, hAc, hinj, hE⟩ := hX
  intro z hF hz H locs ls hP hS hL
  unfold kEq at hF
  split at hF
  · rename_i hc
    have hz0 : kin 0 := by decide
    have e9 : (0 : Int32) = c32 0 := c32_0.symm
    split at hF
    · rename_i hp
      have q9 := (c32_eq hc.1 hc.2).mpr hp
      rw [c32_0] at q9
      exact lv_if_eq hx hb hd ht (fun _ => (h1 z hF hz H locs ls hP hS hL)) (fun q => absurd q9 q)
    · rename_i hp
      have q9 := fun q => hp ((c32_eq hc.1 hc.2).mp q)
      rw [c32_0] at q9
      exact lv_if_eq hx hb hd ht (fun q => absurd q q9) (fun _ => (h2 z hF hz H locs ls hP hS hL))
  · cases hF
theorem k_icmp_ne (hX : kOk X d cc n own) {a b : Int} {T E : Option Z} {off : Int} {tgt : Nat} (hd : decode cc pc = .ok (.if_icmp .ne off, 3)) (ht : (pc : Int) + off = (tgt : Int)) (h1 : kJ X tgt L st σ T Θ) (h2 : kJ X (pc + 3) L st σ E Θ) : kJ X pc L (ki b :: ki a :: st) σ (kEq a b E T) Θ := by
  obtain ⟨⟨p, l, e, R⟩, ⟨s, m, args, below⟩, ⟨meth, c⟩, ⟨D, K, α, A⟩, ⟨Q, cells, slots, nL⟩⟩ := X
  obtain ⟨hx, hb, hml, hnl, hown, hts, hR, hK, hA, hAc, hinj, hE⟩ := hX
  intro z hF hz H locs ls hP hS hL
  unfold kEq at hF
  split at hF
  · rename_i hc
    split at hF
    · rename_i hp
      have q9 := (c32_eq hc.1 hc.2).mpr hp
      exact lv_icmp_ne hx hb hd ht (fun q => absurd q9 q) (fun _ => (h2 z hF hz H locs ls hP hS hL))
    · rename_i hp
      have q9 := fun q => hp ((c32_eq hc.1 hc.2).mp q)
      exact lv_icmp_ne hx hb hd ht (fun _ => (h1 z hF hz H locs ls hP hS hL)) (fun q => absurd q q9)
  · cases hF
theorem k_if_ne (hX : kOk X d cc n own) {a : Int} {T E : Option Z} {off : Int} {tgt : Nat} (hd : decode cc pc = .ok (.ifCond .ne off, 3)) (ht : (pc : Int) + off = (tgt : Int)) (h1 : kJ X tgt L st σ T Θ) (h2 : kJ X (pc + 3) L st σ E Θ) : kJ X pc L (ki a :: st) σ (kEq a 0 E T) Θ := by
  obtain ⟨⟨p, l, e, R⟩, ⟨s, m, args, below⟩, ⟨meth, c⟩, ⟨D, K, α, A⟩, ⟨Q, cells, slots, nL⟩⟩ := X
  obtain ⟨hx, hb, hml, hnl, hown, hts, hR, hK, hA, hAc, hinj, hE⟩ := hX
  intro z hF hz H locs ls hP hS hL
  unfold kEq at hF
  split at hF
  · rename_i hc
    have hz0 : kin 0 := by decide
    have e9 : (0 : Int32) = c32 0 := c32_0.symm
    split at hF
    · rename_i hp
      have q9 := (c32_eq hc.1 hc.2).mpr hp
      rw [c32_0] at q9
      exact lv_if_ne hx hb hd ht (fun q => absurd q9 q) (fun _ => (h2 z hF hz H locs ls hP hS hL))
    · rename_i hp
      have q9 := fun q => hp ((c32_eq hc.1 hc.2).mp q)
      rw [c32_0] at q9
      exact lv_if_ne hx hb hd ht (fun _ => (h1 z hF hz H locs ls hP hS hL)) (fun q => absurd q q9)
  · cases hF
theorem k_goto (hX : kOk X d cc n own) {off : Int} {tgt : Nat} (hd : decode cc pc = .ok (.goto off, 3)) (ht : (pc : Int) + off = (tgt : Int)) (h : kJ X tgt L st σ F Θ) : kJ X pc L st σ F Θ := by
  obtain ⟨⟨p, l, e, R⟩, ⟨s, m, args, below⟩, ⟨meth, c⟩, ⟨D, K, α, A⟩, ⟨Q, cells, slots, nL⟩⟩ := X
  obtain ⟨hx, hb, hml, hnl, hown, hts, hR, hK, hA, hAc, hinj, hE⟩ := hX
  intro z hF hz H locs ls hP hS hL
  exact lv_goto hx hb hd ht (h z hF hz H locs ls hP hS hL)
end KR
end
section
/-! ===== what is stored into a place of the frame ===== -/
def k_pairs (α : Nat → Nat) : Nat → List (Option KV) → List (Nat × Value)
  | _, [] => []
  | i, none :: r => k_pairs α (i + 1) r
  | i, some v :: r => (i, k_tr α v) :: k_pairs α (i + 1) r
theorem k_pairs_mem (α : Nat → Nat) : ∀ (L : List (Option KV)) (i : Nat) (q : Nat × Value), q ∈ k_pairs α i L → ∃ v, i ≤ q.1 ∧ L[q.1 - i]? = some (some v) ∧ q.2 = k_tr α v
  | [], i, q, h => by simp [k_pairs] at h
  | none :: r, i, q, h => by
    obtain ⟨v, h1, h2, h3⟩ := k_pairs_mem α r (i + 1) q h
    refine ⟨v, by omega, ?_, h3⟩
    rw [show q.1 - i = (q.1 - (i + 1)) + 1 by omega]
    simpa using h2
  | some w :: r, i, q, h => by
    rcases List.mem_cons.mp h with h | h
    · subst h
      exact ⟨w, Nat.le_refl i, by simp, rfl⟩
    · obtain ⟨v, h1, h2, h3⟩ := k_pairs_mem α r (i + 1) q h
      refine ⟨v, by omega, ?_, h3⟩
      rw [show q.1 - i = (q.1 - (i + 1)) + 1 by omega]
      simpa using h2
theorem k_pairs_in (α : Nat → Nat) : ∀ (L : List (Option KV)) (i j : Nat) (v : KV), L[j]? = some (some v) → (i + j, k_tr α v) ∈ k_pairs α i L
  | [], i, j, v, h => by simp at h
  | none :: r, i, 0, v, h => by simp at h
  | none :: r, i, j + 1, v, h => by
    have := k_pairs_in α r (i + 1) j v (by simpa using h)
    rw [show i + (j + 1) = i + 1 + j by omega]
    exact this
  | some w :: r, i, 0, v, h => by
    simp at h
    subst h
    exact List.mem_cons_self
  | some w :: r, i, j + 1, v, h => by
    have := k_pairs_in α r (i + 1) j v (by simpa using h)
    rw [show i + (j + 1) = i + 1 + j by omega]
    exact List.mem_cons_of_mem _ this
def k_nol (L : List (Option KV)) : Bool := L.all (fun o => match o with
  | some (.inr (.inl _)) => false
  | _ => true)
theorem k_lv.has {α : Nat → Nat} {nL : Nat} {ls : Array Slot} {L : List (Option KV)} (h : k_lv α nL ls L) : lv_has ls nL (k_pairs α 0 L) := by
  refine ⟨h.1, h.2.1, fun q hq => ?_⟩
  obtain ⟨v, -, h2, h3⟩ := k_pairs_mem α L 0 q hq
  rw [h3]
  exact h.2.2.2 q.1 v (by simpa using h2)
theorem k_lv.set {α : Nat → Nat} {nL : Nat} {ls' : Array Slot} {L : List (Option KV)} {i : Nat} {v : KV} (hlen : L.length = nL) (hq : k_nol L = true) (h : lv_has ls' nL ((i, k_tr α v) :: (k_pairs α 0 L).filter (fun q => !(q.1 == i) && !(q.1 + 1 == i && q.2.category == 2)))) : k_lv α nL ls' (L.set i (some v)) := by
  refine ⟨h.1, h.2.1, by simpa using hlen, fun j w hw => ?_⟩
  by_cases hj : j = i
  · subst hj
    have hl : j < L.length := by
      have := (List.getElem?_eq_some_iff.mp hw).1
      simpa using this
    rw [List.getElem?_set_self hl] at hw
    cases hw
    exact h.2.2 (j, k_tr α v) List.mem_cons_self
  · rw [List.getElem?_set_ne (Ne.symm hj)] at hw
    have hm := k_pairs_in α L 0 j w hw
    rw [Nat.zero_add] at hm
    refine h.2.2 (j, k_tr α w) (List.mem_cons_of_mem _ (List.mem_filter.mpr ⟨hm, ?_⟩))
    have hc : (k_tr α w).category ≠ 2 := by
      have h1 := List.all_eq_true.mp hq (some w) (List.mem_of_getElem? hw)
      cases w with
      | inl x => simp [k_tr, Value.category]
      | inr x =>
        cases x with
        | inl y => simp at h1
        | inr y => simp [k_tr, Value.category]
    simp [hj, hc]
section KS
variable {X : KC} {d n : Nat} {cc : ByteArray} {own : String} {pc : Nat} {L : List (Option KV)} {st : List KV} {σ : KM} {Z : Type} {F : Option Z} {Θ : Z → Prop}
theorem k_istore_n (hX : kOk X d cc n own) {j : Fin 4} {a : Int} {L' : List (Option KV)} (hd : decode cc pc = .ok (.istore_n j, 1)) (hq : k_nol L = true) (hn : (j : Nat) < n) (he : L.set (j : Nat) (some (ki a)) = L') (h : kJ X (pc + 1) L' st σ F Θ) : kJ X pc L (ki a :: st) σ F Θ := by
  obtain ⟨⟨p, l, e, R⟩, ⟨s, m, args, below⟩, ⟨meth, c⟩, ⟨D, K, α, A⟩, ⟨Q, cells, slots, nL⟩⟩ := X
  obtain ⟨hx, hb, hml, hnl, hown, hts, hR, hK, hA, hAc, hinj, hE⟩ := hX
  intro z hF hz H locs ls hP hS hL
  subst he
  exact lv_istore_n hx hb hd rfl hL.has (by omega) rfl (fun ls' h' => h z hF hz H locs ls' hP hS (k_lv.set hL.2.2.1 hq h'))
theorem k_istore (hX : kOk X d cc n own) {j : Nat} {a : Int} {L' : List (Option KV)} (hd : decode cc pc = .ok (.istore j, 2)) (hq : k_nol L = true) (hn : j < n) (he : L.set j (some (ki a)) = L') (h : kJ X (pc + 2) L' st σ F Θ) : kJ X pc L (ki a :: st) σ F Θ := by
  obtain ⟨⟨p, l, e, R⟩, ⟨s, m, args, below⟩, ⟨meth, c⟩, ⟨D, K, α, A⟩, ⟨Q, cells, slots, nL⟩⟩ := X
  obtain ⟨hx, hb, hml, hnl, hown, hts, hR, hK, hA, hAc, hinj, hE⟩ := hX
  intro z hF hz H locs ls hP hS hL
  subst he
  exact lv_istore hx hb hd hL.has (by omega) rfl (fun ls' h' => h z hF hz H locs ls' hP hS (k_lv.set hL.2.2.1 hq h'))
theorem k_iinc (hX : kOk X d cc n own) {j : Nat} {a b : Int} {L' : List (Option KV)} (hd : decode cc pc = .ok (.iinc j b, 3)) (hq : k_nol L = true) (hn : j < n) (hl : L[j]? = some (some (ki a))) (he : L.set j (some (ki (a + b))) = L') (h : kJ X (pc + 3) L' st σ F Θ) : kJ X pc L st σ F Θ := by
  obtain ⟨⟨p, l, e, R⟩, ⟨s, m, args, below⟩, ⟨meth, c⟩, ⟨D, K, α, A⟩, ⟨Q, cells, slots, nL⟩⟩ := X
  obtain ⟨hx, hb, hml, hnl, hown, hts, hR, hK, hA, hAc, hinj, hE⟩ := hX
  intro z hF hz H locs ls hP hS hL
  subst he
  have hm := k_pairs_in α L 0 j (ki a) hl
  rw [Nat.zero_add] at hm
  obtain ⟨q, hq9⟩ := List.getElem?_of_mem hm
  exact lv_iinc hx hb hd hL.has hq9 (v := c32 (a + b)) (by rw [c32_add]; rfl) (by omega) rfl (fun ls' h' => h z hF hz H locs ls' hP hS (k_lv.set (v := ki (a + b)) hL.2.2.1 hq h'))
theorem k_istoreL_n (hX : kOk X d cc n own) {j : Fin 4} {a : Int} {G : Int → Option Z} {Lf : Int → List (Option KV)} (hd : decode cc pc = .ok (.istore_n j, 1)) (hq : k_nol L = true) (hn : (j : Nat) < n) (he : ∀ y, L.set (j : Nat) (some (ki y)) = Lf y) (h : ∀ y, kJ X (pc + 1) (Lf y) st σ (G y) Θ) : kJ X pc L (ki a :: st) σ (kLet a G) Θ := k_istore_n hX hd hq hn (he a) (h a)
theorem k_istoreL (hX : kOk X d cc n own) {j : Nat} {a : Int} {G : Int → Option Z} {Lf : Int → List (Option KV)} (hd : decode cc pc = .ok (.istore j, 2)) (hq : k_nol L = true) (hn : j < n) (he : ∀ y, L.set j (some (ki y)) = Lf y) (h : ∀ y, kJ X (pc + 2) (Lf y) st σ (G y) Θ) : kJ X pc L (ki a :: st) σ (kLet a G) Θ := k_istore hX hd hq hn (he a) (h a)
theorem k_iincL (hX : kOk X d cc n own) {j : Nat} {a b : Int} {G : Int → Option Z} {Lf : Int → List (Option KV)} (hd : decode cc pc = .ok (.iinc j b, 3)) (hq : k_nol L = true) (hn : j < n) (hl : L[j]? = some (some (ki a))) (he : ∀ y, L.set j (some (ki y)) = Lf y) (h : ∀ y, kJ X (pc + 3) (Lf y) st σ (G y) Θ) : kJ X pc L st σ (kLet (a + b) G) Θ := k_iinc hX hd hq hn hl (he (a + b)) (h (a + b))
theorem k_let {a : Int} {G : Int → Option Z} (h : kJ X pc L st σ (G a) Θ) : kJ X pc L st σ (kLet a G) Θ := h
/-- fewer places of the frame are told -/
def k_mask : List Bool → List (Option KV) → List (Option KV)
  | [], L => L
  | _, [] => []
  | b :: bs, x :: r => (if b = true then x else none) :: k_mask bs r
theorem k_mask_len : ∀ (bs : List Bool) (L : List (Option KV)), (k_mask bs L).length = L.length
  | [], L => by simp [k_mask]
  | b :: bs, [] => by simp [k_mask]
  | b :: bs, x :: r => by simp [k_mask, k_mask_len bs r]
theorem k_mask_at : ∀ (bs : List Bool) (L : List (Option KV)) (i : Nat) (v : KV), (k_mask bs L)[i]? = some (some v) → L[i]? = some (some v)
  | [], L, i, v, h => by simpa [k_mask] using h
  | b :: bs, [], i, v, h => by simp [k_mask] at h
  | b :: bs, x :: r, 0, v, h => by
    cases b
    · simp [k_mask] at h
    · simpa [k_mask] using h
  | b :: bs, x :: r, i + 1, v, h => by
    have := k_mask_at bs r i v (by simpa [k_mask] using h)
    simpa using this
theorem k_less (bs : List Bool) {L' : List (Option KV)} (he : k_mask bs L = L') (h : kJ X pc L' st σ F Θ) : kJ X pc L st σ F Θ := by
  obtain ⟨⟨p, l, e, R⟩, ⟨s, m, args, below⟩, ⟨meth, c⟩, ⟨D, K, α, A⟩, ⟨Q, cells, slots, nL⟩⟩ := X
  intro z hF hz H locs ls hP hS hL
  subst he
  exact h z hF hz H locs ls hP hS ⟨hL.1, hL.2.1, by rw [k_mask_len]; exact hL.2.2.1, fun i v hi => hL.2.2.2 i v (k_mask_at bs L i v hi)⟩
/-! loops, exits -/
def k_th {S R : Type} (X : KC) (pc : Nat) (Lf : S → List (Option KV)) (mf : S → KM) (Θ : R → Prop) : S ⊕ R → Prop
  | .inl s => kW X pc (Lf s) [] (mf s)
  | .inr r => Θ r
theorem k_iter {S R : Type} {f : S → Option (S ⊕ R)} {Lf : S → List (Option KV)} {mf : S → KM} {Θ : R → Prop} (h : ∀ s : S, kJ X pc (Lf s) [] (mf s) (f s) (k_th X pc Lf mf Θ)) : ∀ (k : Nat) (s : S), kJ X pc (Lf s) [] (mf s) (kIter f k s) Θ := by
  intro k
  induction k with
  | zero => intro s z hF; cases hF
  | succ k ih =>
    intro s z hF hz
    unfold kIter at hF
    split at hF
    · cases hF
    · rename_i s' hs
      exact h s (.inl s') hs (ih s' z hF hz)
    · rename_i r hs
      cases hF
      exact h s (.inr z) hs hz
theorem k_exit {S R : Type} {G : Option R} {Θ : S ⊕ R → Prop} (h : kJ X pc L st σ G (fun r => Θ (.inr r))) : kJ X pc L st σ (kExit (S := S) G) Θ := by
  intro z hF hz
  unfold kExit at hF
  split at hF
  · cases hF
  · rename_i r
    cases hF
    exact h r rfl hz
theorem k_back {S R : Type} {s' : S} {Θ : S ⊕ R → Prop} (h : Θ (.inl s') → kW X pc L st σ) : kJ X pc L st σ (some (Sum.inl s')) Θ := by
  intro z hF hz
  cases hF
  exact h hz
end KS
end
section
/-! ===== fields, rows of numbers ===== -/
theorem k_cats (α : Nat → Nat) : ∀ st : List KV, (st.map (fun v => (k_tr α v).category)).sum = (st.map (fun v => (k_tr (fun _ => 0) v).category)).sum
  | [] => rfl
  | v :: st => by
    have := k_cats α st
    simp only [List.map_cons, List.sum_cons, this]
    rcases v with x | x | x <;> rfl
section KH
variable {X : KC} {d n : Nat} {cc : ByteArray} {own : String} {pc : Nat} {L : List (Option KV)} {st : List KV} {σ : KM} {Z : Type} {F : Option Z} {Θ : Z → Prop}
theorem k_getI (hX : kOk X d cc n own) (c k : Nat) {ci N index : Nat} {C : String} {T : u_T} (hc : c < k_NC) (h0 : k_ty c = 0) (hf : (k_fs c)[k]? = some none) (hci : k_ci c = ci) (hcl : k_cls[ci]? = some (C, T, N)) (hin : ∀ w ∈ u_ws C T N, w ∈ k_Tg) (hk : k < N) (hT : (T k).1 = C) (hw : Cond.fieldLink own index C (T k).2.1 (T k).2.2.1 ∈ k_Tg) (hd : decode cc pc = .ok (.getfield index, 3)) {kI : Int} (hkI : (k : Int) = kI) (h : kJ X (pc + 3) L (ki (σ c kI) :: st) σ F Θ) : kJ X pc L (kr c :: st) σ F Θ := by
  obtain ⟨⟨p, l, e, R⟩, ⟨s, m, args, below⟩, ⟨meth, cd⟩, ⟨D, K, α, A⟩, ⟨Q, cells, slots, nL⟩⟩ := X
  obtain ⟨hx, hb, hml, hnl, hown, hts, hR, hK, hA, hAc, hinj, hE⟩ := hX
  intro z hF hz H locs ls hP hS hL
  subst hci
  subst hkI
  have hg := k_fl_i α (fun k => σ c (k : Int)) (k_fs c) 0 k hf
  rw [Nat.zero_add] at hg
  exact va_get (ref := C) hx hb hts hin hown hK hP c (k_ao hc h0) hcl k hk (hts _ hw) (by rw [hT]; exact fun _ h9 => h9) hg hd (h z hF hz H locs ls hP hS hL)
theorem k_getR (hX : kOk X d cc n own) (c k : Nat) {ci N index q : Nat} {C : String} {T : u_T} (hc : c < k_NC) (h0 : k_ty c = 0) (hf : (k_fs c)[k]? = some (some q)) (hci : k_ci c = ci) (hcl : k_cls[ci]? = some (C, T, N)) (hin : ∀ w ∈ u_ws C T N, w ∈ k_Tg) (hk : k < N) (hT : (T k).1 = C) (hw : Cond.fieldLink own index C (T k).2.1 (T k).2.2.1 ∈ k_Tg) (hd : decode cc pc = .ok (.getfield index, 3)) (h : kJ X (pc + 3) L (kr q :: st) σ F Θ) : kJ X pc L (kr c :: st) σ F Θ := by
  obtain ⟨⟨p, l, e, R⟩, ⟨s, m, args, below⟩, ⟨meth, cd⟩, ⟨D, K, α, A⟩, ⟨Q, cells, slots, nL⟩⟩ := X
  obtain ⟨hx, hb, hml, hnl, hown, hts, hR, hK, hA, hAc, hinj, hE⟩ := hX
  intro z hF hz H locs ls hP hS hL
  subst hci
  have hg := k_fl_r α (fun k => σ c (k : Int)) (k_fs c) 0 k _ hf
  exact va_get (ref := C) hx hb hts hin hown hK hP c (k_ao hc h0) hcl k hk (hts _ hw) (by rw [hT]; exact fun _ h9 => h9) hg hd (h z hF hz H locs ls hP hS hL)
theorem k_putI (hX : kOk X d cc n own) (c k : Nat) {ci N index : Nat} {a : Int} {C : String} {T : u_T} {ty0 : Nat → FieldType} {G : KM → Option Z} (hc : c < k_NC) (h0 : k_ty c = 0) (hf : (k_fs c)[k]? = some none) (hci : k_ci c = ci) (hcl : k_cls[ci]? = some (C, T, N)) (hin : ∀ w ∈ u_ws C T N, w ∈ k_Tg) (hty : ∀ k, k < N → parseFieldDescriptor (T k).2.2.1 = some (ty0 k)) (hnm : ∀ a, a < N → ∀ b, b < N → a ≠ b → (T a).2.1 ≠ (T b).2.1) (hk : k < N) (hT : (T k).1 = C) (hfin : (T k).2.2.2 = false) (hti : ty0 k = .int) (hw : Cond.fieldLink own index C (T k).2.1 (T k).2.2.1 ∈ k_Tg) (hd : decode cc pc = .ok (.putfield index, 3)) {kI : Int} (hkI : (k : Int) = kI) (h : ∀ τ, kJ X (pc + 3) L st τ (G τ) Θ) : kJ X pc L (ki a :: kr c :: st) σ (kWf σ c kI a G) Θ := by
  obtain ⟨⟨p, l, e, R⟩, ⟨s, m, args, below⟩, ⟨meth, cd⟩, ⟨D, K, α, A⟩, ⟨Q, cells, slots, nL⟩⟩ := X
  obtain ⟨hx, hb, hml, hnl, hown, hts, hR, hK, hA, hAc, hinj, hE⟩ := hX
  intro z hF hz H locs ls hP hS hL
  subst hci
  subst hkI
  have hlt : k < (k_fl α (fun k => σ c (k : Int)) 0 (k_fs c)).length := by rw [k_fl_len]; exact (List.getElem?_eq_some_iff.mp hf).1
  refine va_put (ref := C) (ty := .int) (v := .int (c32 a)) hx hb hts hin ty0 hty hnm hown hK hP (k_wd_D hinj hAc) hS c (k_ao hc h0) hcl k hk (hts _ hw) (by rw [hT]; exact fun _ h9 => h9) hfin (by rw [← hti]; exact hty k hk) rfl rfl hlt hd (fun H1 locs1 hP1 hD1 hS1 => ?_)
  rw [k_wd_obj hc h0 hf] at hP1
  exact h _ z hF hz H1 locs1 ls hP1 hS1 hL
theorem k_putZ (hX : kOk X d cc n own) (c k : Nat) {ci N index : Nat} {a : Int} {C : String} {T : u_T} {ty0 : Nat → FieldType} {G : KM → Option Z} (hc : c < k_NC) (h0 : k_ty c = 0) (hf : (k_fs c)[k]? = some none) (hci : k_ci c = ci) (hcl : k_cls[ci]? = some (C, T, N)) (hin : ∀ w ∈ u_ws C T N, w ∈ k_Tg) (hty : ∀ k, k < N → parseFieldDescriptor (T k).2.2.1 = some (ty0 k)) (hnm : ∀ a, a < N → ∀ b, b < N → a ≠ b → (T a).2.1 ≠ (T b).2.1) (hk : k < N) (hT : (T k).1 = C) (hfin : (T k).2.2.2 = false) (hti : ty0 k = .boolean) (hw : Cond.fieldLink own index C (T k).2.1 (T k).2.2.1 ∈ k_Tg) (hd : decode cc pc = .ok (.putfield index, 3)) {kI : Int} (hkI : (k : Int) = kI) (h : ∀ τ, kJ X (pc + 3) L st τ (G τ) Θ) : kJ X pc L (ki a :: kr c :: st) σ (kWfz σ c kI a G) Θ := by
  obtain ⟨⟨p, l, e, R⟩, ⟨s, m, args, below⟩, ⟨meth, cd⟩, ⟨D, K, α, A⟩, ⟨Q, cells, slots, nL⟩⟩ := X
  obtain ⟨hx, hb, hml, hnl, hown, hts, hR, hK, hA, hAc, hinj, hE⟩ := hX
  intro z hF hz H locs ls hP hS hL
  subst hci
  subst hkI
  unfold kWfz at hF
  split at hF
  · rename_i hz01
    have hlt : k < (k_fl α (fun k => σ c (k : Int)) 0 (k_fs c)).length := by rw [k_fl_len]; exact (List.getElem?_eq_some_iff.mp hf).1
    refine va_put (ref := C) (ty := .boolean) (v := .int (c32 a)) hx hb hts hin ty0 hty hnm hown hK hP (k_wd_D hinj hAc) hS c (k_ao hc h0) hcl k hk (hts _ hw) (by rw [hT]; exact fun _ h9 => h9) hfin (by rw [← hti]; exact hty k hk) (by rcases hz01 with rfl | rfl <;> decide) (by rcases hz01 with rfl | rfl <;> decide) hlt hd (fun H1 locs1 hP1 hD1 hS1 => ?_)
    rw [k_wd_obj hc h0 hf] at hP1
    exact h _ z hF hz H1 locs1 ls hP1 hS1 hL
  · cases hF
theorem k_ln_lt (c : Nat) : k_ln c < 2147483648 := by
  by_cases h : c < 68
  · have : ∀ c, c < 68 → k_ln c < 2147483648 := by decide
    exact this c h
  · unfold k_ln
    rw [List.getD_eq_getElem?_getD, List.getElem?_eq_none (by show 68 ≤ c; omega)]
    decide
theorem k_iald (hX : kOk X d cc n own) {c : Nat} {i : Int} {G : Int → Option Z} (hc : c < k_NC) (h1 : k_ty c = 1) (hd : decode cc pc = .ok (.iaload, 1)) (h : ∀ r, kJ X (pc + 1) L (ki r :: st) σ (G r) Θ) : kJ X pc L (ki i :: kr c :: st) σ (kRd σ c i G) Θ := by
  obtain ⟨⟨p, l, e, R⟩, ⟨s, m, args, below⟩, ⟨meth, cd⟩, ⟨D, K, α, A⟩, ⟨Q, cells, slots, nL⟩⟩ := X
  obtain ⟨hx, hb, hml, hnl, hown, hts, hR, hK, hA, hAc, hinj, hE⟩ := hX
  intro z hF hz H locs ls hP hS hL
  unfold kRd at hF
  split at hF
  · rename_i hi
    have hln := k_ln_lt c
    refine va_iald hx hb hK hP c 1 (k_aa hc (by rw [h1]; decide)) (by rw [h1]; rfl) (c32_in hi.1 hi.2 hln) hd ?_
    rw [c32_clamp hi.1 (by omega)]
    have e7 : ((i.toNat : Nat) : Int) = i := by omega
    rw [e7]
    exact h _ z hF hz H locs ls hP hS hL
  · cases hF
theorem k_bald (hX : kOk X d cc n own) {c : Nat} {i : Int} {G : Int → Option Z} (hc : c < k_NC) (h1 : k_ty c = 2) (hd : decode cc pc = .ok (.baload, 1)) (h : ∀ r, kJ X (pc + 1) L (ki r :: st) σ (G r) Θ) : kJ X pc L (ki i :: kr c :: st) σ (kRd σ c i G) Θ := by
  obtain ⟨⟨p, l, e, R⟩, ⟨s, m, args, below⟩, ⟨meth, cd⟩, ⟨D, K, α, A⟩, ⟨Q, cells, slots, nL⟩⟩ := X
  obtain ⟨hx, hb, hml, hnl, hown, hts, hR, hK, hA, hAc, hinj, hE⟩ := hX
  intro z hF hz H locs ls hP hS hL
  unfold kRd at hF
  split at hF
  · rename_i hi
    have hln := k_ln_lt c
    refine va_bald hx hb hK hP c 2 (k_aa hc (by rw [h1]; decide)) (by rw [h1]; rfl) (c32_in hi.1 hi.2 hln) hd ?_
    rw [c32_clamp hi.1 (by omega)]
    have e7 : ((i.toNat : Nat) : Int) = i := by omega
    rw [e7]
    exact h _ z hF hz H locs ls hP hS hL
  · cases hF
theorem k_zald (hX : kOk X d cc n own) {c : Nat} {i : Int} {G : Int → Option Z} (hc : c < k_NC) (h1 : k_ty c = 3) (hd : decode cc pc = .ok (.baload, 1)) (h : ∀ r, kJ X (pc + 1) L (ki r :: st) σ (G r) Θ) : kJ X pc L (ki i :: kr c :: st) σ (kRd σ c i G) Θ := by
  obtain ⟨⟨p, l, e, R⟩, ⟨s, m, args, below⟩, ⟨meth, cd⟩, ⟨D, K, α, A⟩, ⟨Q, cells, slots, nL⟩⟩ := X
  obtain ⟨hx, hb, hml, hnl, hown, hts, hR, hK, hA, hAc, hinj, hE⟩ := hX
  intro z hF hz H locs ls hP hS hL
  unfold kRd at hF
  split at hF
  · rename_i hi
    have hln := k_ln_lt c
    refine va_zald hx hb hK hP c 3 (k_aa hc (by rw [h1]; decide)) (by rw [h1]; rfl) (c32_in hi.1 hi.2 hln) hd ?_
    rw [c32_clamp hi.1 (by omega)]
    have e7 : ((i.toNat : Nat) : Int) = i := by omega
    rw [e7]
    exact h _ z hF hz H locs ls hP hS hL
  · cases hF
theorem k_iast (hX : kOk X d cc n own) {c : Nat} {i a : Int} {G : KM → Option Z} (hc : c < k_NC) (h1 : k_ty c = 1) (hd : decode cc pc = .ok (.iastore, 1)) (h : ∀ τ, kJ X (pc + 1) L st τ (G τ) Θ) : kJ X pc L (ki a :: ki i :: kr c :: st) σ (kWr σ c i a G) Θ := by
  obtain ⟨⟨p, l, e, R⟩, ⟨s, m, args, below⟩, ⟨meth, cd⟩, ⟨D, K, α, A⟩, ⟨Q, cells, slots, nL⟩⟩ := X
  obtain ⟨hx, hb, hml, hnl, hown, hts, hR, hK, hA, hAc, hinj, hE⟩ := hX
  intro z hF hz H locs ls hP hS hL
  unfold kWr at hF
  split at hF
  · rename_i hi
    have hln := k_ln_lt c
    have h9 : k_ty c ≠ 0 := by rw [h1]; decide
    refine va_iast hx hb hK hP (k_wd_D hinj hAc) hS c 1 (k_aa hc h9) (by rw [h1]; rfl) (c32_in hi.1 hi.2 hln) hd (fun H1 locs1 hP1 hD1 hS1 => ?_)
    rw [c32_clamp hi.1 (by have := hi.2; omega), k_wd_arr hc h9 (by omega)] at hP1
    exact h _ z hF hz H1 locs1 ls hP1 hS1 hL
  · cases hF
theorem k_zast (hX : kOk X d cc n own) {c : Nat} {i a : Int} {G : KM → Option Z} (hc : c < k_NC) (h1 : k_ty c = 3) (hd : decode cc pc = .ok (.bastore, 1)) (h : ∀ τ, kJ X (pc + 1) L st τ (G τ) Θ) : kJ X pc L (ki a :: ki i :: kr c :: st) σ (kWz σ c i a G) Θ := by
  obtain ⟨⟨p, l, e, R⟩, ⟨s, m, args, below⟩, ⟨meth, cd⟩, ⟨D, K, α, A⟩, ⟨Q, cells, slots, nL⟩⟩ := X
  obtain ⟨hx, hb, hml, hnl, hown, hts, hR, hK, hA, hAc, hinj, hE⟩ := hX
  intro z hF hz H locs ls hP hS hL
  unfold kWz at hF
  split at hF
  · rename_i hi
    have hln := k_ln_lt c
    have h9 : k_ty c ≠ 0 := by rw [h1]; decide
    refine va_zast hx hb hK hP (k_wd_D hinj hAc) hS c 3 (k_aa hc h9) (by rw [h1]; rfl) (c32_in hi.1.1 hi.1.2 hln) hd (fun H1 locs1 hP1 hD1 hS1 => ?_)
    have e8 : vp_nar .boolean (c32 a) = c32 a := by rcases hi.2 with rfl | rfl <;> decide
    rw [e8] at hP1
    rw [c32_clamp hi.1.1 (by have := hi.1.2; omega), k_wd_arr hc h9 (by omega)] at hP1
    exact h _ z hF hz H1 locs1 ls hP1 hS1 hL
  · cases hF
theorem k_bast (hX : kOk X d cc n own) {c : Nat} {i a : Int} {G : KM → Option Z} (hc : c < k_NC) (h1 : k_ty c = 2) (hd : decode cc pc = .ok (.bastore, 1)) (h : ∀ τ, kJ X (pc + 1) L st τ (G τ) Θ) : kJ X pc L (ki a :: ki i :: kr c :: st) σ (kWb σ c i a G) Θ := by
  obtain ⟨⟨p, l, e, R⟩, ⟨s, m, args, below⟩, ⟨meth, cd⟩, ⟨D, K, α, A⟩, ⟨Q, cells, slots, nL⟩⟩ := X
  obtain ⟨hx, hb, hml, hnl, hown, hts, hR, hK, hA, hAc, hinj, hE⟩ := hX
  intro z hF hz H locs ls hP hS hL
  unfold kWb at hF
  split at hF
  · rename_i hi
    have hln := k_ln_lt c
    have h9 : k_ty c ≠ 0 := by rw [h1]; decide
    refine va_bast hx hb hK hP (k_wd_D hinj hAc) hS c 2 (k_aa hc h9) (by rw [h1]; rfl) (c32_in hi.1.1 hi.1.2 hln) hd (fun H1 locs1 hP1 hD1 hS1 => ?_)
    have e8 : vp_nar .byte (c32 a) = c32 a := by
      rw [vp_nar_byte]
      refine Int32.toInt_inj.mp ?_
      rw [Int8.toInt_toInt32, Int32.toInt_toInt8, c32_toInt ⟨by omega, by omega⟩]
      refine Int.bmod_eq_of_le ?_ ?_ <;> omega
    rw [e8] at hP1
    rw [c32_clamp hi.1.1 (by have := hi.1.2; omega), k_wd_arr hc h9 (by omega)] at hP1
    exact h _ z hF hz H1 locs1 ls hP1 hS1 hL
  · cases hF
theorem k_gets (hX : kOk X d cc n own) (i : Nat) {index : Nat} (hi : i < 6) (hw : Cond.fieldLink own index "KeyPath" (k_sn i) "[I" ∈ k_Tg) (hd : decode cc pc = .ok (.getstatic index, 3)) (h : kJ X (pc + 3) L (kr (100 + i) :: st) σ F Θ) : kJ X pc L st σ F Θ := by
  obtain ⟨⟨p, l, e, R⟩, ⟨s, m, args, below⟩, ⟨meth, cd⟩, ⟨D, K, α, A⟩, ⟨Q, cells, slots, nL⟩⟩ := X
  obtain ⟨hx, hb, hml, hnl, hown, hts, hR, hK, hA, hAc, hinj, hE⟩ := hX
  intro z hF hz H locs ls hP hS hL
  exact va_gets hx hb (hE.2.1 i hi).1 hS hown (hts _ hw) (fun _ h9 => h9) hd (h z hF hz H locs ls hP hS hL)
theorem k_getsN (hX : kOk X d cc n own) (i : Nat) {index : Nat} (hi : i < 6) (hw : Cond.fieldLinkNest own index "KeyPath" (k_sn i) "[I" "KeyPath" ∈ k_nest) (hd : decode cc pc = .ok (.getstatic index, 3)) (h : kJ X (pc + 3) L (kr (100 + i) :: st) σ F Θ) : kJ X pc L st σ F Θ := by
  obtain ⟨⟨p, l, e, R⟩, ⟨s, m, args, below⟩, ⟨meth, cd⟩, ⟨D, K, α, A⟩, ⟨Q, cells, slots, nL⟩⟩ := X
  obtain ⟨hx, hb, hml, hnl, hown, hts, hR, hK, hA, hAc, hinj, hE⟩ := hX
  intro z hF hz H locs ls hP hS hL
  exact va_getsN hx hb (hE.2.1 i hi).1 hS hown (va_Nw.use rfl (hE.1 _ hw)) (fun _ h9 => h9) hd (h z hF hz H locs ls hP hS hL)
theorem k_sald (hX : kOk X d cc n own) {c : Nat} {i : Int} {G : Int → Option Z} (hc : c < 6) (hd : decode cc pc = .ok (.iaload, 1)) (h : ∀ r, kJ X (pc + 1) L (ki r :: st) σ (G r) Θ) : kJ X pc L (ki i :: kr (100 + c) :: st) σ (kRs c i G) Θ := by
  obtain ⟨⟨p, l, e, R⟩, ⟨s, m, args, below⟩, ⟨meth, cd⟩, ⟨D, K, α, A⟩, ⟨Q, cells, slots, nL⟩⟩ := X
  obtain ⟨hx, hb, hml, hnl, hown, hts, hR, hK, hA, hAc, hinj, hE⟩ := hX
  intro z hF hz H locs ls hP hS hL
  unfold kRs at hF
  split at hF
  · rename_i hi
    have hln : k_sl c < 2147483648 := by
      have : ∀ c, c < 6 → k_sl c < 2147483648 := by decide
      exact this c hc
    refine va_ti hx hb (hE.2.1 c hc).2 hS (c32_in hi.1 hi.2 hln) (v := .int (c32 (k_sv c i.toNat))) (by rw [c32_clamp hi.1 (by omega)]) hd ?_
    exact h _ z hF hz H locs ls hP hS hL
  · cases hF
theorem k_mmax (hX : kOk X d cc n own) {a b : Int} {index : Nat} {G : Int → Option Z} (hd1 : 1 ≤ d) (hst : (st.map (fun v => (k_tr (fun _ => 0) v).category)).sum ≤ 8) (h1 : Cond.methodLink own index Lib.Math.max.name ∈ k_Tg) (h2 : Cond.static Lib.Math.max.name ∈ k_Tg) (h3 : Cond.initialized "java/lang/Math" ∈ k_Tg) (h4 : Cond.code Lib.Math.max.name Lib.Math.max.code 2 (some .int) ∈ k_Tg) (hd : decode cc pc = .ok (.invokestatic index, 3)) (h : ∀ r, kJ X (pc + 3) L (ki r :: st) σ (G r) Θ) : kJ X pc L (ki b :: ki a :: st) σ (kMx a b G) Θ := by
  obtain ⟨⟨p, l, e, R⟩, ⟨s, m, args, below⟩, ⟨meth, cd⟩, ⟨D, K, α, A⟩, ⟨Q, cells, slots, nL⟩⟩ := X
  obtain ⟨hx, hb, hml, hnl, hown, hts, hR, hK, hA, hAc, hinj, hE⟩ := hX
  intro z hF hz H locs ls hP hS hL
  unfold kMx at hF
  split at hF
  · rename_i hi
    refine va_mmax hx hb (by rw [hml]; exact hL.1.symm) hown (hts _ h1) (hts _ h2) (hts _ h3) (hts _ h4) (by omega) (by have := k_cats α st; simp only [List.map_map]; simp only [Function.comp_def]; omega) hR.2.2.1 hR.2.2.2 hd ?_
    have hr := h _ z hF hz H locs ls hP hS hL
    simp only [List.map_cons, k_tr] at hr
    simp only [GT.gt, c32_lt hi.1 hi.2, c32_lt hi.2 hi.1]
    split
    · rename_i hq
      rw [if_pos hq] at hr
      exact hr
    · rename_i hq
      rw [if_neg hq] at hr
      exact hr
  · cases hF
theorem k_mmin (hX : kOk X d cc n own) {a b : Int} {index : Nat} {G : Int → Option Z} (hd1 : 1 ≤ d) (hst : (st.map (fun v => (k_tr (fun _ => 0) v).category)).sum ≤ 8) (h1 : Cond.methodLink own index Lib.Math.min.name ∈ k_Tg) (h2 : Cond.static Lib.Math.min.name ∈ k_Tg) (h3 : Cond.initialized "java/lang/Math" ∈ k_Tg) (h4 : Cond.code Lib.Math.min.name Lib.Math.min.code 2 (some .int) ∈ k_Tg) (hd : decode cc pc = .ok (.invokestatic index, 3)) (h : ∀ r, kJ X (pc + 3) L (ki r :: st) σ (G r) Θ) : kJ X pc L (ki b :: ki a :: st) σ (kMn a b G) Θ := by
  obtain ⟨⟨p, l, e, R⟩, ⟨s, m, args, below⟩, ⟨meth, cd⟩, ⟨D, K, α, A⟩, ⟨Q, cells, slots, nL⟩⟩ := X
  obtain ⟨hx, hb, hml, hnl, hown, hts, hR, hK, hA, hAc, hinj, hE⟩ := hX
  intro z hF hz H locs ls hP hS hL
  unfold kMn at hF
  split at hF
  · rename_i hi
    refine va_mmin hx hb (by rw [hml]; exact hL.1.symm) hown (hts _ h1) (hts _ h2) (hts _ h3) (hts _ h4) (by omega) (by have := k_cats α st; simp only [List.map_map]; simp only [Function.comp_def]; omega) hR.2.2.1 hR.2.2.2 hd ?_
    have hr := h _ z hF hz H locs ls hP hS hL
    simp only [List.map_cons, k_tr] at hr
    simp only [GT.gt, c32_lt hi.1 hi.2, c32_lt hi.2 hi.1]
    split
    · rename_i hq
      rw [if_pos hq] at hr
      exact hr
    · rename_i hq
      rw [if_neg hq] at hr
      exact hr
  · cases hF
end KH
end
section
/-! ===== arraycopy, switches, ends, calls ===== -/
def k_cat (st : List KV) : Nat := (st.map (fun v => (k_tr (fun _ => 0) v).category)).sum
theorem k_cat_eq (α : Nat → Nat) (st : List KV) : ((st.map (k_tr α)).map (fun v => v.category)).sum = k_cat st := by
  rw [List.map_map]
  exact k_cats α st
theorem k_wd_cp {α : Nat → Nat} {K : Nat → ClassId} {σ : KM} {c0 c1 : Nat} {sp dp n : Int} (h : c1 < k_NC) (h0 : k_ty c1 ≠ 0) (g1 : 0 ≤ sp) (g2 : 0 ≤ dp) (g3 : 0 ≤ n) : (k_wd α K σ).set c1 (α c1, .inl (K (k_ty c1), k_ln c1, .inl (va_cpy (fun j => c32 (σ c0 (j : Int))) (fun j => c32 (σ c1 (j : Int))) sp.toNat dp.toNat n.toNat))) = k_wd α K (kCp σ c0 c1 sp dp n) := by
  refine k_wd_set h ?_ (fun c' hc => by funext j; simp [kCp, hc])
  simp only [k_ent, h0, if_false]
  congr 4
  funext j
  simp only [va_cpy, kCp, true_and]
  by_cases hj : dp ≤ (j : Int) ∧ (j : Int) < dp + n
  · rw [if_pos hj, if_pos (by omega)]
    congr 2
    omega
  · rw [if_neg hj, if_neg (by omega)]
section KC
variable {X : KC} {d n : Nat} {cc : ByteArray} {own : String} {pc : Nat} {L : List (Option KV)} {st : List KV} {σ : KM} {Z : Type} {F : Option Z} {Θ : Z → Prop}
theorem k_copy (hX : kOk X d cc n own) {c0 c1 index : Nat} {sp dp m : Int} {G : KM → Option Z} (hd1 : 1 ≤ d) (hst : k_cat st ≤ 8) (h0 : c0 < k_NC) (h1 : c1 < k_NC) (t0 : k_ty c0 = 1) (t1 : k_ty c1 = 1) (w1 : Cond.methodLink own index arraycopyName ∈ k_Tg) (w2 : Cond.native arraycopyName ∈ k_Tg) (w3 : Cond.static arraycopyName ∈ k_Tg) (w4 : Cond.initialized "java/lang/System" ∈ k_Tg) (hd : decode cc pc = .ok (.invokestatic index, 3)) (h : ∀ τ, kJ X (pc + 3) L st τ (G τ) Θ) : kJ X pc L (ki m :: ki dp :: kr c1 :: ki sp :: kr c0 :: st) σ (kCpy σ c0 sp c1 dp m G) Θ := by
  obtain ⟨⟨p, l, e, R⟩, ⟨s, mi, args, below⟩, ⟨meth, cd⟩, ⟨D, K, α, A⟩, ⟨Q, cells, slots, nL⟩⟩ := X
  obtain ⟨hx, hb, hml, hnl, hown, hts, hR, hK, hA, hAc, hinj, hE⟩ := hX
  intro z hF hz H locs ls hP hS hL
  unfold kCpy at hF
  split at hF
  · rename_i hi
    have l0 := k_ln_lt c0
    have l1 := k_ln_lt c1
    have g0 : ∀ x : Int, 0 ≤ x → x < 2147483648 → ¬ c32 x < 0 := by
      intro x h1 h2 h3
      rw [← c32_0, c32_lt ⟨by omega, h2⟩ (by decide)] at h3
      omega
    have e1 : (c32 sp).toNatClampNeg = sp.toNat := c32_clamp hi.1.1 (by omega)
    have e2 : (c32 dp).toNatClampNeg = dp.toNat := c32_clamp hi.1.2.1 (by omega)
    have e3 : (c32 m).toNatClampNeg = m.toNat := c32_clamp hi.1.2.2 (by omega)
    refine va_copyi hx hb (by rw [hml]; exact hL.1.symm) hown (hts _ w1) (hts _ w2) (hts _ w3) (hts _ w4) hK hP (k_wd_D hinj hAc) hS c0 c1 1 1 (ty := .int) (k_aa h0 (by rw [t0]; decide)) (k_aa h1 (by rw [t1]; decide)) (by rw [t0]; rfl) (by rw [t1]; rfl) rfl (g0 _ hi.1.1 (by omega)) (g0 _ hi.1.2.1 (by omega)) (g0 _ hi.1.2.2 (by omega)) (by rw [e1, e3]; omega) (by rw [e2, e3]; omega) (fun i _ => rfl) (by omega) (by
      rw [k_cat_eq]
      have : nativeFrameWords "java/lang/System" "arraycopy" 5 + 11 ≤ 32 := by decide +kernel
      omega) hd (fun H1 locs1 hP1 hD1 hS1 => ?_)
    rw [e1, e2, e3, k_wd_cp h1 (by rw [t1]; decide) hi.1.1 hi.1.2.1 hi.1.2.2] at hP1
    exact h _ z hF hz H1 locs1 ls hP1 hS1 hL
  · cases hF
def k_ts (X : KC) (L : List (Option KV)) (st : List KV) (σ : KM) (Θ : Z → Prop) : List Nat → List (Option Z) → Prop
  | t :: ts, f :: fs => kJ X t L st σ f Θ ∧ k_ts X L st σ Θ ts fs
  | [], [] => True
  | _, _ => False
theorem k_ts_at : ∀ (ts : List Nat) (fs : List (Option Z)) (i : Nat), k_ts X L st σ Θ ts fs → i < fs.length → kJ X (ts.getD i 0) L st σ (fs.getD i none) Θ
  | [], [], i, _, h => by simp at h
  | t :: ts, f :: fs, 0, h, _ => h.1
  | t :: ts, f :: fs, i + 1, h, hi => by
    have := k_ts_at ts fs i h.2 (by simpa using hi)
    simpa using this
theorem k_ts_n : k_ts X L st σ Θ [] [] := trivial
theorem k_ts_c {t : Nat} {f : Option Z} {ts : List Nat} {fs : List (Option Z)} (a : kJ X t L st σ f Θ) (b : k_ts X L st σ Θ ts fs) : k_ts X L st σ Θ (t :: ts) (f :: fs) := ⟨a, b⟩
theorem k_none : kJ X pc L st σ (none : Option Z) Θ := fun z h => by cases h
theorem k_tsw (hX : kOk X d cc n own) {x : Int} {dflt lo hi : Int} {offs : Array Int} {len : Nat} {Fs : List (Option Z)} {E : Option Z} {ts : List Nat} {te : Nat} (hd : decode cc pc = .ok (.tableswitch dflt lo hi offs, len)) (hr : hi = lo + (ts.length : Int) - 1) (ho : offs.toList = ts.map (fun (t : Nat) => (t : Int) - (pc : Int))) (hl : ts.length = Fs.length) (he : (pc : Int) + dflt = (te : Int)) (h1 : k_ts X L st σ Θ ts Fs) (h2 : kJ X te L st σ E Θ) : kJ X pc L (ki x :: st) σ (kSw x lo Fs E) Θ := by
  obtain ⟨⟨p, l, e, R⟩, ⟨s, m, args, below⟩, ⟨meth, cd⟩, ⟨D, K, α, A⟩, ⟨Q, cells, slots, nL⟩⟩ := X
  obtain ⟨hx, hb, hml, hnl, hown, hts, hR, hK, hA, hAc, hinj, hE⟩ := hX
  intro z hF hz H locs ls hP hS hL
  unfold kSw at hF
  split at hF
  · rename_i hk
    have e0 := c32_toInt hk
    split at hF
    · rename_i hc
      have hi' : (x - lo).toNat < Fs.length := by omega
      have e1 : offs[(x - lo).toNat]? = some ((ts.getD (x - lo).toNat 0 : Nat) - (pc : Int)) := by
        rw [← Array.getElem?_toList, ho, List.getElem?_map, List.getElem?_eq_getElem (by omega)]
        simp [List.getD, List.getElem?_eq_getElem (show (x - lo).toNat < ts.length by omega)]
      refine lv_tableIn hx hb hd (by rw [e0]; omega) (by rw [e0]; omega) (by rw [e0]; exact e1) (tgt := ts.getD (x - lo).toNat 0) (by omega) ?_
      exact k_ts_at ts Fs _ h1 hi' z hF hz H locs ls hP hS hL
    · rename_i hc
      exact lv_tableOut hx hb hd (by rw [e0]; omega) he (h2 z hF hz H locs ls hP hS hL)
  · cases hF
theorem k_alen (hX : kOk X d cc n own) {c N : Nat} (hc : c < k_NC) (h1 : k_ty c ≠ 0) (hN : k_ln c = N) (hd : decode cc pc = .ok (.arraylength, 1)) (h : kJ X (pc + 1) L (ki (N : Int) :: st) σ F Θ) : kJ X pc L (kr c :: st) σ F Θ := by
  obtain ⟨⟨p, l, e, R⟩, ⟨s, m, args, below⟩, ⟨meth, cd⟩, ⟨D, K, α, A⟩, ⟨Q, cells, slots, nL⟩⟩ := X
  obtain ⟨hx, hb, hml, hnl, hown, hts, hR, hK, hA, hAc, hinj, hE⟩ := hX
  intro z hF hz H locs ls hP hS hL
  have ht : ∃ ty, (k_tys K)[k_ty c]? = some (K (k_ty c), ty) := by
    have h9 : k_ty c < 4 := by
      have : ∀ c, c < 68 → k_ty c < 4 := by decide
      exact this c hc
    rcases (show k_ty c = 1 ∨ k_ty c = 2 ∨ k_ty c = 3 by omega) with h | h | h <;> rw [h] <;> exact ⟨_, rfl⟩
  obtain ⟨ty, ht⟩ := ht
  refine va_alen hx hb hK hP c _ (k_aa hc h1) ht (v := c32 (N : Int)) ?_ hd (h z hF hz H locs ls hP hS hL)
  show Int32.ofNat (k_ln c) = _
  rw [hN]
  exact Int32.ofInt_eq_ofNat.symm
/-! ends -/
def k_rv (ret : Option FieldType) (r : Int) : Option Value := match ret with
  | none => none
  | some _ => some (.int (c32 r))
def k_Q (ret : Option FieldType) (r : Int) (τ : KM) (D : va_G) (K : Nat → ClassId) (α : Nat → Nat) (sz : Nat) : Array Value → State → Outcome → State → Prop := fun _ s0 oc t => oc = .returned (k_rv ret r) ∧ va_P D k_cls (k_wd α K τ) t.heap ∧ va_F (k_AA α sz) s0 t
def kRet : KC → Option FieldType → Int × KM → Prop
  | ((p, l, e, R), (s, m, args, below), (meth, c), (D, K, α, A), (Q, cells, slots, nL)), ret, q => meth.sig.returnType = ret ∧ meth.locks = false ∧ A = k_AA α s.heap.size ∧ cells = 0 ∧ slots = 0 ∧ Q = MQ below (k_Q ret q.1 q.2 D K α s.heap.size) args s 0 0 A
theorem k_iret (hX : kOk X d cc n own) {r : Int} {q : Int × KM} (hR9 : kRet X (some .int) q) {Θ : Int × KM → Prop} (hT : ∀ z, Θ z → z = q) (hd : decode cc pc = .ok (.ireturn, 1)) : kJ X pc L [ki r] σ (kRetI r σ) Θ := by
  obtain ⟨⟨p, l, e, R⟩, ⟨s, m, args, below⟩, ⟨meth, cd⟩, ⟨D, K, α, A⟩, ⟨Q, cells, slots, nL⟩⟩ := X
  obtain ⟨hx, hb, hml, hnl, hown, hts, hR, hK, hA, hAc, hinj, hE⟩ := hX
  intro z hF hz H locs ls hP hS hL
  obtain ⟨r1, r2, r3, r4, r5, r6⟩ := hR9
  have hz := hT _ hz
  cases hF
  subst hz r3 r4 r5 r6
  exact W.iret (v := c32 r) hx hb r1 (fun t ht hW => ⟨rfl, by rw [ht]; exact hP, hS.F ht⟩) hS.2.2 hd r2
theorem k_vret (hX : kOk X d cc n own) {q : Int × KM} (hR9 : kRet X none q) {Θ : Int × KM → Prop} (hT : ∀ z, Θ z → z = q) (hd : decode cc pc = .ok (.return_, 1)) : kJ X pc L [] σ (kRetI 0 σ) Θ := by
  obtain ⟨⟨p, l, e, R⟩, ⟨s, m, args, below⟩, ⟨meth, cd⟩, ⟨D, K, α, A⟩, ⟨Q, cells, slots, nL⟩⟩ := X
  obtain ⟨hx, hb, hml, hnl, hown, hts, hR, hK, hA, hAc, hinj, hE⟩ := hX
  intro z hF hz H locs ls hP hS hL
  obtain ⟨r1, r2, r3, r4, r5, r6⟩ := hR9
  have hz := hT _ hz
  cases hF
  subst hz r3 r4 r5 r6
  exact W.vret hx hb r1 (fun t ht hW => ⟨rfl, by rw [ht]; exact hP, hS.F ht⟩) hS.2.2 hd r2
theorem k_zret (hX : kOk X d cc n own) {r : Int} {q : Int × KM} (hR9 : kRet X (some .boolean) q) {Θ : Int × KM → Prop} (hT : ∀ z, Θ z → z = q) (hd : decode cc pc = .ok (.ireturn, 1)) : kJ X pc L [ki r] σ (kRetZ r σ) Θ := by
  obtain ⟨⟨p, l, e, R⟩, ⟨s, m, args, below⟩, ⟨meth, cd⟩, ⟨D, K, α, A⟩, ⟨Q, cells, slots, nL⟩⟩ := X
  obtain ⟨hx, hb, hml, hnl, hown, hts, hR, hK, hA, hAc, hinj, hE⟩ := hX
  intro z hF hz H locs ls hP hS hL
  obtain ⟨r1, r2, r3, r4, r5, r6⟩ := hR9
  have hz := hT _ hz
  unfold kRetZ at hF
  split at hF
  · rename_i h01
    cases hF
    subst hz r3 r4 r5 r6
    exact W.zret (v := c32 r) hx hb r1 (by rcases h01 with rfl | rfl <;> decide) (fun t ht hW => ⟨rfl, by rw [ht]; exact hP, hS.F ht⟩) hS.2.2 hd r2
  · cases hF
theorem k_cret (hX : kOk X d cc n own) {r : Int} {q : Int × KM} (hR9 : kRet X (some .char) q) {Θ : Int × KM → Prop} (hT : ∀ z, Θ z → z = q) (hd : decode cc pc = .ok (.ireturn, 1)) : kJ X pc L [ki r] σ (kRetC r σ) Θ := by
  obtain ⟨⟨p, l, e, R⟩, ⟨s, m, args, below⟩, ⟨meth, cd⟩, ⟨D, K, α, A⟩, ⟨Q, cells, slots, nL⟩⟩ := X
  obtain ⟨hx, hb, hml, hnl, hown, hts, hR, hK, hA, hAc, hinj, hE⟩ := hX
  intro z hF hz H locs ls hP hS hL
  obtain ⟨r1, r2, r3, r4, r5, r6⟩ := hR9
  have hz := hT _ hz
  unfold kRetC at hF
  split at hF
  · rename_i h01
    cases hF
    subst hz r3 r4 r5 r6
    have e9 : narrow .char (.int (c32 r)) = .int (c32 r) := by
      have h9 : ∀ k : Fin 256, narrow .char (.int (c32 (k.val : Int))) = .int (c32 (k.val : Int)) := by decide +kernel
      have h8 := h9 ⟨r.toNat, by omega⟩
      rw [show (((⟨r.toNat, by omega⟩ : Fin 256).val : Nat) : Int) = r by show (r.toNat : Int) = r; omega] at h8
      exact h8
    exact W.zret (v := c32 r) hx hb r1 e9 (fun t ht hW => ⟨rfl, by rw [ht]; exact hP, hS.F ht⟩) hS.2.2 hd r2
  · cases hF
end KC
end
section
/-! ===== bits ===== -/
theorem c32_nat (a : Int) : (c32 a).toBitVec.toNat = (a % 4294967296).toNat := by
  show (BitVec.ofInt 32 a).toNat = _
  rw [BitVec.toNat_ofInt]
  rfl
theorem c32_bv {x y : Int32} (h : x.toBitVec.toNat = y.toBitVec.toNat) : x = y := Int32.toBitVec_inj.mp (BitVec.eq_of_toNat_eq h)
theorem c32_and {a b : Int} (h : b = 255 ∨ b = 63 ∨ b = 1) : c32 a &&& c32 b = c32 (a % (b + 1)) := by
  refine c32_bv ?_
  rw [c32_nat, Int32.toBitVec_and, BitVec.toNat_and, c32_nat]
  rcases h with rfl | rfl | rfl
  · rw [show (c32 255).toBitVec.toNat = 2 ^ 8 - 1 by decide, Nat.and_two_pow_sub_one_eq_mod]
    omega
  · rw [show (c32 63).toBitVec.toNat = 2 ^ 6 - 1 by decide, Nat.and_two_pow_sub_one_eq_mod]
    omega
  · rw [show (c32 1).toBitVec.toNat = 2 ^ 1 - 1 by decide, Nat.and_two_pow_sub_one_eq_mod]
    omega
theorem c32_shr {a b : Int} (ha : kin a) (h0 : 0 ≤ b) (h1 : b < 32) : c32 a >>> (c32 b &&& 31) = c32 (a / 2 ^ b.toNat) := by
  have h9 : ∀ k : Fin 32, ((c32 (k.val : Int) &&& 31).toBitVec.smod 32).toNat = k.val := by decide +kernel
  have h8 := h9 ⟨b.toNat, by omega⟩
  rw [show (((⟨b.toNat, by omega⟩ : Fin 32).val : Nat) : Int) = b by show (b.toNat : Int) = b; omega] at h8
  have hp : (0 : Int) < 2 ^ b.toNat := Int.pow_pos (by decide)
  have hd : kin (a / 2 ^ b.toNat) := by
    have e1 : (1 : Int) ≤ 2 ^ b.toNat := hp
    constructor
    · have h2 := ha.1
      rw [Int.le_ediv_iff_mul_le hp]
      have : (-2147483648 : Int) * 2 ^ b.toNat ≤ -2147483648 * 1 := Int.mul_le_mul_of_nonpos_left (by decide) e1
      omega
    · have h2 := ha.2
      rw [Int.ediv_lt_iff_lt_mul hp]
      have : (2147483648 : Int) * 1 ≤ 2147483648 * 2 ^ b.toNat := Int.mul_le_mul_of_nonneg_left e1 (by decide)
      omega
  refine Int32.toInt_inj.mp ?_
  rw [c32_toInt hd]
  show (BitVec.sshiftRight (c32 a).toBitVec ((c32 b &&& 31).toBitVec.smod 32).toNat).toInt = _
  rw [h8, BitVec.toInt_sshiftRight]
  show (c32 a).toInt >>> b.toNat = _
  rw [c32_toInt ha, Int.shiftRight_eq_div_pow]
  norm_cast
theorem c32_ush {a b : Int} (h0 : 0 ≤ b) (h1 : b < 32) : ((c32 a).toUInt32 >>> ((c32 b).toUInt32 &&& Int32.toUInt32 31)).toInt32 = c32 ((a % 4294967296) / 2 ^ b.toNat) := by
  have h9 : ∀ k : Fin 32, (((c32 (k.val : Int)).toUInt32 &&& Int32.toUInt32 31).toBitVec % 32).toNat = k.val := by decide +kernel
  have h8 := h9 ⟨b.toNat, by omega⟩
  rw [show (((⟨b.toNat, by omega⟩ : Fin 32).val : Nat) : Int) = b by show (b.toNat : Int) = b; omega] at h8
  refine c32_bv ?_
  rw [c32_nat]
  show ((c32 a).toUInt32 >>> ((c32 b).toUInt32 &&& Int32.toUInt32 31)).toBitVec.toNat = _
  rw [UInt32.toBitVec_shiftRight, BitVec.ushiftRight_eq', h8, BitVec.toNat_ushiftRight]
  show (c32 a).toBitVec.toNat >>> b.toNat = _
  rw [c32_nat, Nat.shiftRight_eq_div_pow]
  have hp : (0 : Int) < 2 ^ b.toNat := Int.pow_pos (by decide)
  have e1 : (1 : Int) ≤ 2 ^ b.toNat := hp
  have h2 : 0 ≤ a % 4294967296 := Int.emod_nonneg _ (by decide)
  have h3 : a % 4294967296 < 4294967296 := Int.emod_lt_of_pos _ (by decide)
  generalize a % 4294967296 = x at h2 h3
  obtain ⟨y, rfl⟩ := Int.eq_ofNat_of_zero_le h2
  rw [Int.emod_eq_of_lt (Int.ediv_nonneg h2 (by omega))]
  · have e7 : ((y : Int) / 2 ^ b.toNat) = ((y / 2 ^ b.toNat : Nat) : Int) := by
      rw [Int.natCast_ediv, Int.natCast_pow]
      rfl
    rw [e7, Int.toNat_natCast, Int.toNat_natCast]
  · rw [Int.ediv_lt_iff_lt_mul hp]
    have : (4294967296 : Int) * 1 ≤ 4294967296 * 2 ^ b.toNat := Int.mul_le_mul_of_nonneg_left e1 (by decide)
    omega
theorem c32_i2b (a : Int) : (c32 a).toInt8.toInt32 = c32 (kI2b a) := by
  refine Int32.toInt_inj.mp ?_
  have hk : kin (kI2b a) := by unfold kI2b kin; omega
  rw [Int8.toInt_toInt32, Int32.toInt_toInt8, c32_toInt hk]
  show ((c32 a).toInt).bmod 256 = _
  rw [show (c32 a).toInt = a.bmod 4294967296 from Int32.toInt_ofInt, Int.bmod_def, Int.bmod_def]
  unfold kI2b
  split <;> split <;> omega
section KB
variable {X : KC} {d n : Nat} {cc : ByteArray} {own : String} {pc : Nat} {L : List (Option KV)} {st : List KV} {σ : KM} {Z : Type} {F : Option Z} {Θ : Z → Prop}
theorem k_i2b (hX : kOk X d cc n own) {a : Int} (hd : decode cc pc = .ok (.i2b, 1)) (h : kJ X (pc + 1) L (ki (kI2b a) :: st) σ F Θ) : kJ X pc L (ki a :: st) σ F Θ := by
  obtain ⟨⟨p, l, e, R⟩, ⟨s, m, args, below⟩, ⟨meth, cd⟩, ⟨D, K, α, A⟩, ⟨Q, cells, slots, nL⟩⟩ := X
  obtain ⟨hx, hb, hml, hnl, hown, hts, hR, hK, hA, hAc, hinj, hE⟩ := hX
  intro z hF hz H locs ls hP hS hL
  exact lv_i2b hx hb hd (c32_i2b a) (h z hF hz H locs ls hP hS hL)
theorem k_iand (hX : kOk X d cc n own) {a b : Int} {G : Int → Option Z} (hd : decode cc pc = .ok (.iand, 1)) (h : ∀ r, kJ X (pc + 1) L (ki r :: st) σ (G r) Θ) : kJ X pc L (ki b :: ki a :: st) σ (kAnd a b G) Θ := by
  obtain ⟨⟨p, l, e, R⟩, ⟨s, m, args, below⟩, ⟨meth, cd⟩, ⟨D, K, α, A⟩, ⟨Q, cells, slots, nL⟩⟩ := X
  obtain ⟨hx, hb, hml, hnl, hown, hts, hR, hK, hA, hAc, hinj, hE⟩ := hX
  intro z hF hz H locs ls hP hS hL
  unfold kAnd at hF
  split at hF
  · rename_i hc
    refine lv_iand hx hb hd ?_
    rw [c32_and hc]
    exact h _ z hF hz H locs ls hP hS hL
  · cases hF
theorem k_ishr (hX : kOk X d cc n own) {a b : Int} {G : Int → Option Z} (hd : decode cc pc = .ok (.ishr, 1)) (h : ∀ r, kJ X (pc + 1) L (ki r :: st) σ (G r) Θ) : kJ X pc L (ki b :: ki a :: st) σ (kShr a b G) Θ := by
  obtain ⟨⟨p, l, e, R⟩, ⟨s, m, args, below⟩, ⟨meth, cd⟩, ⟨D, K, α, A⟩, ⟨Q, cells, slots, nL⟩⟩ := X
  obtain ⟨hx, hb, hml, hnl, hown, hts, hR, hK, hA, hAc, hinj, hE⟩ := hX
  intro z hF hz H locs ls hP hS hL
  unfold kShr at hF
  split at hF
  · rename_i hc
    refine lv_ishr hx hb hd ?_
    rw [c32_shr hc.1 hc.2.1 hc.2.2]
    exact h _ z hF hz H locs ls hP hS hL
  · cases hF
theorem k_iushr (hX : kOk X d cc n own) {a b : Int} {G : Int → Option Z} (hd : decode cc pc = .ok (.iushr, 1)) (h : ∀ r, kJ X (pc + 1) L (ki r :: st) σ (G r) Θ) : kJ X pc L (ki b :: ki a :: st) σ (kUsh a b G) Θ := by
  obtain ⟨⟨p, l, e, R⟩, ⟨s, m, args, below⟩, ⟨meth, cd⟩, ⟨D, K, α, A⟩, ⟨Q, cells, slots, nL⟩⟩ := X
  obtain ⟨hx, hb, hml, hnl, hown, hts, hR, hK, hA, hAc, hinj, hE⟩ := hX
  intro z hF hz H locs ls hP hS hL
  unfold kUsh at hF
  split at hF
  · rename_i hc
    refine lv_iushr hx hb hd (c32_ush hc.1 hc.2) ?_
    exact h _ z hF hz H locs ls hP hS hL
  · cases hF
end KB
end
section
/-! ===== what a method does, told by a pure function; calls ===== -/
def k_rm (d : Nat) : Room := { frames := d, cells := 0, slots := 0, locals := 40 * d }
def k_Pre (D : va_G) (K : Nat → ClassId) (α : Nat → Nat) (sz : Nat) (σ : KM) (U : State) : Prop := U.heap.size = sz ∧ va_K D k_cls (k_tys K) U ∧ va_P D k_cls (k_wd α K σ) U.heap ∧ k_inj α ∧ k_ext α (k_AA α sz) U U.heap
def kSem (d : Nat) (y : MethodName) (cc : ByteArray) (nL : Nat) (ret : Option FieldType) (av : List KV) (σ : KM) (G : Option (Int × KM)) : Prop :=
  ∀ (r : Int) (τ : KM), G = some (r, τ) → ∀ (l : Launch) (D : va_G) (K : Nat → ClassId) (α : Nat → Nat) (sz : Nat), Met l y (.code y cc nL ret :: k_Tg) (k_rm d) (va_Pc (av.map (k_tr α)) (k_Pre D K α sz σ)) (k_Q ret r τ D K α sz) 0 0 (k_AA α sz)
def k_e1 : List KV → List (Option KV)
  | [] => []
  | .inr (.inl v) :: r => some (kl v) :: none :: k_e1 r
  | .inl v :: r => some (ki v) :: k_e1 r
  | .inr (.inr c) :: r => some (kr c) :: k_e1 r
def k_e0 (n : Nat) (av : List KV) : List (Option KV) := k_e1 av ++ List.replicate (n - (k_e1 av).length) none
theorem k_lgl (x : Int64) (w : List Value) : (lg_sl (.long x :: w)).length = (lg_sl w).length + 2 := by
  show ([Slot.val (.long x), Slot.second] ++ lg_sl w).length = _
  simp
theorem k_lgi (x : Int32) (w : List Value) : (lg_sl (.int x :: w)).length = (lg_sl w).length + 1 := by
  show ([Slot.val (.int x)] ++ lg_sl w).length = _
  simp
theorem k_lgr (x : Nat) (w : List Value) : (lg_sl (.ref x :: w)).length = (lg_sl w).length + 1 := by
  show ([Slot.val (.ref x)] ++ lg_sl w).length = _
  simp
theorem k_e1_len (α : Nat → Nat) : ∀ av : List KV, (lg_sl (av.map (k_tr α))).length = (k_e1 av).length
  | [] => rfl
  | .inr (.inl v) :: r => by
    have := k_e1_len α r
    rw [List.map_cons]
    simp only [k_tr, k_lgl, k_e1, List.length_cons, this]
  | .inl v :: r => by
    have := k_e1_len α r
    rw [List.map_cons]
    simp only [k_tr, k_lgi, k_e1, List.length_cons, this]
  | .inr (.inr c) :: r => by
    have := k_e1_len α r
    rw [List.map_cons]
    simp only [k_tr, k_lgr, k_e1, List.length_cons, this]
theorem k_e1_at (α : Nat → Nat) : ∀ (av : List KV) (b i : Nat) (v : KV), (k_e1 av)[i]? = some (some v) → (b + i, k_tr α v) ∈ lv_args b (av.map (k_tr α))
  | [], b, i, v, h => by simp [k_e1] at h
  | .inr (.inl w) :: r, b, 0, v, h => by
    simp [k_e1] at h
    subst h
    exact List.mem_cons_self
  | .inr (.inl w) :: r, b, 1, v, h => by simp [k_e1] at h
  | .inr (.inl w) :: r, b, i + 2, v, h => by
    have := k_e1_at α r (b + 2) i v (by simpa [k_e1] using h)
    rw [show b + (i + 2) = b + 2 + i by omega]
    exact List.mem_cons_of_mem _ this
  | .inl w :: r, b, 0, v, h => by
    simp [k_e1] at h
    subst h
    exact List.mem_cons_self
  | .inl w :: r, b, i + 1, v, h => by
    have := k_e1_at α r (b + 1) i v (by simpa [k_e1] using h)
    rw [show b + (i + 1) = b + 1 + i by omega]
    exact List.mem_cons_of_mem _ this
  | .inr (.inr w) :: r, b, 0, v, h => by
    simp [k_e1] at h
    subst h
    exact List.mem_cons_self
  | .inr (.inr w) :: r, b, i + 1, v, h => by
    have := k_e1_at α r (b + 1) i v (by simpa [k_e1] using h)
    rw [show b + (i + 1) = b + 1 + i by omega]
    exact List.mem_cons_of_mem _ this
theorem kSem.of {d nL : Nat} {y : MethodName} {cc : ByteArray} {ret : Option FieldType} {av : List KV} {σ : KM} {G : Option (Int × KM)} {L0 : List (Option KV)} (hy : plainName y.cls = true) (hl : (k_e1 av).length ≤ nL) (hL0 : k_e0 nL av = L0) (h : ∀ (X : KC) (q : Int × KM), kOk X d cc nL y.cls → kRet X ret q → kJ X 0 L0 [] σ G (fun z => z = q)) : kSem d y cc nL ret av σ G := by
  intro r τ hG l D K α sz
  refine Met.ofW (cc := cc) (maxL := nL) (ret := ret) hy rfl ?_
  intro p e s m args below meth c s₁ B hml hv
  obtain ⟨rfl, hsz, hK, hP, hinj, hE⟩ := hv
  have hts := atoms_spec (ws := .code y cc nL ret :: k_Tg) B.pre
  have hown : s.vm.findClass y.cls = some m.cls := findClass_of_methodNamed B.named
  subst hsz
  have hlen := k_e1_len α av
  have hle := lv_entry (av.map (k_tr α)) (n := nL) (by rw [hlen]; exact hl)
  rw [lg_entry_eq]
  generalize (lg_sl (av.map (k_tr α)) ++ List.replicate (nL - (lg_sl (av.map (k_tr α))).length) Slot.unset).toArray = ls at hle ⊢
  have hX : kOk ((p, l, e, (headSpec (.code y cc nL ret :: k_Tg) (k_rm d)).room), (s, m, (av.map (k_tr α)).toArray, below), (meth, c), (D, K, α, k_AA α s.heap.size), (MQ below (k_Q ret r τ D K α s.heap.size) (av.map (k_tr α)).toArray s 0 0 (k_AA α s.heap.size), 0, 0, nL)) d cc nL y.cls :=
    ⟨B.exec, B.bytes, hml, rfl, hown, fun w hw => hts w (List.mem_cons_of_mem _ hw), ⟨Nat.le_refl _, Nat.le_refl _, Nat.zero_le _, Nat.zero_le _⟩, hK, fun q hq => Or.inr hq, fun c hc => Or.inl ⟨c, hc, rfl⟩, hinj, hE⟩
  refine h _ (r, τ) hX ⟨B.returns, B.notSynchronized, rfl, rfl, rfl, rfl⟩ (r, τ) hG rfl s.heap [] ls hP va_S.rf ⟨hle.1, hle.2.1, ?_, fun i v hi => ?_⟩
  · rw [← hL0]
    simp only [k_e0, List.length_append, List.length_replicate]
    omega
  · refine hle.2.2 (i, k_tr α v) ?_
    have := k_e1_at α av 0 i v (by
      rw [← hL0] at hi
      unfold k_e0 at hi
      by_cases hlt : i < (k_e1 av).length
      · rwa [List.getElem?_append_left hlt] at hi
      · rw [List.getElem?_append_right (by omega)] at hi
        have := (List.mem_of_getElem? hi)
        simp at this)
    rwa [Nat.zero_add] at this
/-! a call, behind which the frame goes on -/
def k_push (ret : Option FieldType) (r : Int) (st : List KV) : List KV := match ret with
  | none => st
  | some _ => ki r :: st
theorem k_push_tr (α : Nat → Nat) (ret : Option FieldType) (r : Int) (st : List KV) : (k_rv ret r).toList ++ st.map (k_tr α) = (k_push ret r st).map (k_tr α) := by
  cases ret <;> rfl
theorem k_goodIn {ws : List Cond} (h : ∀ w ∈ ws, w ∈ k_Tg) : GoodIn k_Tg ws := fun w hw => ⟨h w hw, good_of_word (List.mem_filter.mp (h w hw)).2⟩
theorem k_blind {av : List Value} {D : va_G} {K : Nat → ClassId} {α : Nat → Nat} {sz : Nat} {σ : KM} : FrameBlind (va_Pc av (k_Pre D K α sz σ)) := by
  intro a U g mk q
  obtain ⟨q0, q1, q2, q3, q4, q5⟩ := q
  exact ⟨q0, q1, va_K.moved (u := U) (U := U.calling g mk a) (Vm.Alike.refl U.vm) q2, q3, q4, q5.same (s := U) (U := U.calling g mk a) rfl⟩
section KCL
variable {p : Program} {l : Launch} {e : Env} {R : Room} {s : State} {m : MethodId} {args : Array Value} {below : List Frame} {meth : Method} {c : Code} {H : Heap} {locs : List Loc} {cells slots : Nat} {Q : State → Prop}
theorem k_run {pc : Nat} {ls : Array Slot} {st0 rest : List Value} {ret : Option FieldType} {r : Int} {τ : KM} {D : va_G} {K : Nat → ClassId} {α : Nat → Nat} {A : Nat → Prop} {a : Array Value} (hr : va_Run p l e R s m args below meth c H locs cells slots 0 0 (F0 m pc ls st0) rest (k_Q ret r τ D K α H.size a) (k_AA α H.size)) (hS : va_S A s.heap H locs) (hA : ∀ q, k_AA α H.size q → A q)
    (kk : ∀ (H1 : Heap) (locs1 : List Loc), va_P D k_cls (k_wd α K τ) H1 → va_S A s.heap H1 locs1 → W p l e R s m args below meth c H1 locs1 cells slots Q (F0 m (pc + 3) ls ((k_rv ret r).toList ++ rest))) : W p l e R s m args below meth c H locs cells slots Q (F0 m pc ls st0) := by
  intro T hT X
  obtain ⟨v, st₀, t, T', L, h0, X', hL, e1, e2, ⟨hv, hp, hz, hk⟩, st⟩ := hr T hT X
  have hv : v = k_rv ret r := Outcome.returned.inj hv
  subst hv
  rw [h0] at hz hk
  obtain ⟨t2, a1, b1⟩ := kk T'.heap (locs ++ L) (by rw [e1]; exact hp)
    ⟨Nat.le_trans hS.1 (by rw [e1]; exact hz), fun q h1 h2 => by rw [e1, hk q (Nat.lt_of_lt_of_le h1 hS.1) (fun z => h2 (hA q z))]; exact hS.2.1 q h1 h2, fun q hq => by
      rcases List.mem_append.mp hq with h | h
      · exact hS.2.2 q h
      · exact hA _ (hL q h)⟩ T' rfl X'
  exact ⟨t2, st t2 a1, b1⟩
end KCL
section KCM
variable {X : KC} {d n : Nat} {cc : ByteArray} {own : String} {pc : Nat} {L : List (Option KV)} {st : List KV} {σ : KM} {Z : Type} {Θ : Z → Prop}
variable {d' maxL index np : Nat} {y : MethodName} {bytes : ByteArray} {ret : Option FieldType} {av : List KV} {C : Option (Int × KM)} {G : Int → KM → Option Z}
/-- what a callee's words and room need -/
def k_cal (d d' maxL np : Nat) (y : MethodName) (bytes : ByteArray) (ret : Option FieldType) : Prop := (d' + 1 ≤ d ∧ maxL ≤ 21) ∧ Cond.code y bytes maxL ret ∈ k_Tg ∧ Cond.initialized y.cls ∈ k_Tg ∧ (y.cls ≠ "java/lang/invoke/MethodHandle" ∧ y.cls ≠ "java/lang/invoke/VarHandle" ∧ (parseMethodDescriptor y.desc).map (fun q => q.parameters.length) = some np)
theorem k_AA_sub {α : Nat → Nat} {A : Nat → Prop} {sz0 sz : Nat} (h1 : ∀ q, sz0 ≤ q → A q) (h2 : ∀ c, c < k_NC → A (α c)) (h : sz0 ≤ sz) : ∀ q, k_AA α sz q → A q := by
  intro q hq
  rcases hq with ⟨c, hc, rfl⟩ | hq
  · exact h2 c hc
  · exact h1 q (by omega)
theorem k_callS (hX : kOk X d cc n own) (hS9 : kSem d' y bytes maxL ret av σ C) (hc : k_cal d d' maxL np y bytes ret) (hn : av.length = np) (w1 : Cond.methodLink own index y ∈ k_Tg) (w2 : Cond.static y ∈ k_Tg) (hst : k_cat st ≤ 8) (hd : decode cc pc = .ok (.invokestatic index, 3)) (h : ∀ r τ, kJ X (pc + 3) L (k_push ret r st) τ (G r τ) Θ) : kJ X pc L (av.reverse ++ st) σ (kCall C G) Θ := by
  obtain ⟨⟨p, l, e, R⟩, ⟨s, m, args, below⟩, ⟨meth, cd⟩, ⟨D, K, α, A⟩, ⟨Q, cells, slots, nL⟩⟩ := X
  obtain ⟨hx, hb, hml, hnl, hown, hts, hR, hK, hA, hAc, hinj, hE⟩ := hX
  intro z hF hz H locs ls hP hS hL
  unfold kCall at hF
  split at hF
  · cases hF
  · rename_i q
    obtain ⟨r, τ⟩ := q
    have hsub := k_AA_sub (α := α) hA hAc hS.1
    have hM := hS9 r τ rfl l D K α H.size
    refine k_run (va_runS (As := av.map (k_tr α)) (rest := st.map (k_tr α)) (n := np) ⟨hx, hb, hml, hown, hts⟩ hM ⟨callB_of np hts (k_goodIn (fun w hw => ?_)) rfl rfl rfl (hts _ hc.2.2.1) (hts _ w1) hc.2.2.2 ⟨?_, ?_⟩, hts _ w2⟩ ⟨k_blind, fun U hU hW => ⟨rfl, by rw [hU], va_K.moved hW.alike hK, by rw [hU]; exact hP, hinj, by rw [hU]; exact k_ext.warm hW hsub hS.2.1 hE⟩⟩ rfl (by simpa using hn) hL.1 (by simp) ?_ hd ⟨hR.2.2.1, hR.2.2.2⟩) hS hsub (fun H1 locs1 hP1 hS1 => ?_)
    · rcases List.mem_cons.mp hw with rfl | hw
      · exact hc.2.1
      · exact hw
    · show d' + 1 ≤ _
      exact Nat.le_trans hc.1.1 hR.1
    · show 8 + (maxL + 11) + 40 * d' ≤ _
      have := hc.1
      have := hR.2.1
      omega
    · show 2 * 0 + _ ≤ 8
      rw [k_cat_eq]
      omega
    · rw [k_push_tr]
      exact h r τ z hF hz H1 locs1 ls hP1 hS1 hL
theorem k_callSN (hX : kOk X d cc n own) (hS9 : kSem d' y bytes maxL ret av σ C) (hc : k_cal d d' maxL np y bytes ret) (hn : av.length = np) (w1 : Cond.methodLinkNest own index y "KeyPath" ∈ k_nest) (w2 : Cond.static y ∈ k_Tg) (hst : k_cat st ≤ 8) (hd : decode cc pc = .ok (.invokestatic index, 3)) (h : ∀ r τ, kJ X (pc + 3) L (k_push ret r st) τ (G r τ) Θ) : kJ X pc L (av.reverse ++ st) σ (kCall C G) Θ := by
  obtain ⟨⟨p, l, e, R⟩, ⟨s, m, args, below⟩, ⟨meth, cd⟩, ⟨D, K, α, A⟩, ⟨Q, cells, slots, nL⟩⟩ := X
  obtain ⟨hx, hb, hml, hnl, hown, hts, hR, hK, hA, hAc, hinj, hE⟩ := hX
  intro z hF hz H locs ls hP hS hL
  unfold kCall at hF
  split at hF
  · cases hF
  · rename_i q
    obtain ⟨r, τ⟩ := q
    have hsub := k_AA_sub (α := α) hA hAc hS.1
    have hM := hS9 r τ rfl l D K α H.size
    refine k_run (va_runSN (As := av.map (k_tr α)) (rest := st.map (k_tr α)) (n := np) ⟨hx, hb, hml, hown, hts⟩ hM ⟨va_cnB np hts (k_goodIn (fun w hw => ?_)) rfl rfl rfl (hE.1 _ w1) (hts _ hc.2.2.1) hc.2.2.2 ⟨?_, ?_⟩, hts _ w2, trivial⟩ ⟨k_blind, fun U hU hW => ⟨rfl, by rw [hU], va_K.moved hW.alike hK, by rw [hU]; exact hP, hinj, by rw [hU]; exact k_ext.warm hW hsub hS.2.1 hE⟩⟩ rfl (by simpa using hn) hL.1 (by simp) ?_ hd ⟨hR.2.2.1, hR.2.2.2⟩) hS hsub (fun H1 locs1 hP1 hS1 => ?_)
    · rcases List.mem_cons.mp hw with rfl | hw
      · exact hc.2.1
      · exact hw
    · show d' + 1 ≤ _
      exact Nat.le_trans hc.1.1 hR.1
    · show 8 + (maxL + 11) + 40 * d' ≤ _
      have := hc.1
      have := hR.2.1
      omega
    · show 2 * 0 + _ ≤ 8
      rw [k_cat_eq]
      omega
    · rw [k_push_tr]
      exact h r τ z hF hz H1 locs1 ls hP1 hS1 hL
theorem k_callV (hX : kOk X d cc n own) {q0 : Nat} (h0 : q0 < k_NC) (ht : k_ty q0 = 0) {vc : vw_C} (hcl : k_cls[k_ci q0]? = some vc) (hyc : vc.1 = y.cls) (hS9 : kSem d' y bytes maxL ret (kr q0 :: av) σ C) (hc : k_cal d d' maxL np y bytes ret) (hn : av.length = np) (w1 : Cond.methodLink own index y ∈ k_Tg) (w2 : Cond.instanceMethod y ∈ k_Tg) (w3 : Cond.selects y.cls y y ∈ k_Tg) (hst : k_cat st ≤ 8) (hd : decode cc pc = .ok (.invokevirtual index, 3)) (h : ∀ r τ, kJ X (pc + 3) L (k_push ret r st) τ (G r τ) Θ) : kJ X pc L (av.reverse ++ kr q0 :: st) σ (kCall C G) Θ := by
  obtain ⟨⟨p, l, e, R⟩, ⟨s, m, args, below⟩, ⟨meth, cd⟩, ⟨D, K, α, A⟩, ⟨Q, cells, slots, nL⟩⟩ := X
  obtain ⟨hx, hb, hml, hnl, hown, hts, hR, hK, hA, hAc, hinj, hE⟩ := hX
  intro z hF hz H locs ls hP hS hL
  unfold kCall at hF
  split at hF
  · cases hF
  · rename_i q
    obtain ⟨r, τ⟩ := q
    have hsub := k_AA_sub (α := α) hA hAc hS.1
    have hM := hS9 r τ rfl l D K α H.size
    have hrec := va_recv hK hP hcl (k_ao h0 ht)
    rw [hyc] at hrec
    refine k_run (va_runV (As := av.map (k_tr α)) (rest := st.map (k_tr α)) (n := np) (C := y.cls) (b := α q0) ⟨hx, hb, hml, hown, hts⟩ hM ⟨callB_of np hts (k_goodIn (fun w hw => ?_)) rfl rfl rfl (hts _ hc.2.2.1) (hts _ w1) hc.2.2.2 ⟨?_, ?_⟩, hts _ w2, hts _ w3⟩ ⟨k_blind, hrec, fun U hU hW => ⟨rfl, by rw [hU], va_K.moved hW.alike hK, by rw [hU]; exact hP, hinj, by rw [hU]; exact k_ext.warm hW hsub hS.2.1 hE⟩⟩ rfl (by simpa using hn) hL.1 (by simp [k_tr]) ?_ hd ⟨hR.2.2.1, hR.2.2.2⟩) hS hsub (fun H1 locs1 hP1 hS1 => ?_)
    · rcases List.mem_cons.mp hw with rfl | hw
      · exact hc.2.1
      · exact hw
    · show d' + 1 ≤ _
      exact Nat.le_trans hc.1.1 hR.1
    · show 8 + (maxL + 11) + 40 * d' ≤ _
      have := hc.1
      have := hR.2.1
      omega
    · show 2 * 0 + _ ≤ 8
      rw [k_cat_eq]
      omega
    · rw [k_push_tr]
      exact h r τ z hF hz H1 locs1 ls hP1 hS1 hL
end KCM
end
