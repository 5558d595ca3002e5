-- ===== PART A: goes FIRST, ahead of the names: the tables' words, and 'selects' of the private methods out of them =====
/-- a private method of a class that the tables say can be made, by its rows of tables_1 -/
def lw_okq (q : MethodName × Nat) : Prop := (q.1.cls ≠ "java/lang/invoke/MethodHandle" ∧ q.1.cls ≠ "java/lang/invoke/VarHandle") ∧ Cond.instantiable q.1.cls q.2 ∈ tables_1 ∧ Cond.privateMethod q.1 ∈ tables_1 ∧ Cond.instanceMethod q.1 ∈ tables_1
theorem lw_p0 : lw_okq (⟨"RingingRock", "finding", "(I)I"⟩, 12) := ⟨⟨by decide +kernel, by decide +kernel⟩, List.mem_of_getElem? (i := 15) (by decide +kernel), List.mem_of_getElem? (i := 191) (by decide +kernel), List.mem_of_getElem? (i := 192) (by decide +kernel)⟩
theorem lw_p1 : lw_okq (⟨"RingingRock", "isCrew", "(I)Z"⟩, 12) := ⟨⟨by decide +kernel, by decide +kernel⟩, List.mem_of_getElem? (i := 15) (by decide +kernel), List.mem_of_getElem? (i := 238) (by decide +kernel), List.mem_of_getElem? (i := 239) (by decide +kernel)⟩
theorem lw_p2 : lw_okq (⟨"RingingRock$Rock", "knock", "(I)V"⟩, 4) := ⟨⟨by decide +kernel, by decide +kernel⟩, List.mem_of_getElem? (i := 29) (by decide +kernel), List.mem_of_getElem? (i := 306) (by decide +kernel), List.mem_of_getElem? (i := 307) (by decide +kernel)⟩
theorem lw_p3 : lw_okq (⟨"RingingRock$Rock", "cellsComeIntoAt", "(I)J"⟩, 4) := ⟨⟨by decide +kernel, by decide +kernel⟩, List.mem_of_getElem? (i := 29) (by decide +kernel), List.mem_of_getElem? (i := 313) (by decide +kernel), List.mem_of_getElem? (i := 314) (by decide +kernel)⟩
theorem lw_p4 : lw_okq (⟨"RingingRock", "orNone", "(I)I"⟩, 12) := ⟨⟨by decide +kernel, by decide +kernel⟩, List.mem_of_getElem? (i := 15) (by decide +kernel), List.mem_of_getElem? (i := 326) (by decide +kernel), List.mem_of_getElem? (i := 327) (by decide +kernel)⟩
theorem lw_p5 : lw_okq (⟨"RingingRock$Mine", "heardBy", "(II)I"⟩, 14) := ⟨⟨by decide +kernel, by decide +kernel⟩, List.mem_of_getElem? (i := 23) (by decide +kernel), List.mem_of_getElem? (i := 340) (by decide +kernel), List.mem_of_getElem? (i := 341) (by decide +kernel)⟩
theorem lw_p6 : lw_okq (⟨"RingingRock", "listenForEchoes", "(II)V"⟩, 12) := ⟨⟨by decide +kernel, by decide +kernel⟩, List.mem_of_getElem? (i := 15) (by decide +kernel), List.mem_of_getElem? (i := 366) (by decide +kernel), List.mem_of_getElem? (i := 367) (by decide +kernel)⟩
theorem lw_p7 : lw_okq (⟨"RingingRock", "echoOf", "(II)I"⟩, 12) := ⟨⟨by decide +kernel, by decide +kernel⟩, List.mem_of_getElem? (i := 15) (by decide +kernel), List.mem_of_getElem? (i := 386) (by decide +kernel), List.mem_of_getElem? (i := 387) (by decide +kernel)⟩
theorem lw_p8 : lw_okq (⟨"RingingRock", "echoBehind", "(II)I"⟩, 12) := ⟨⟨by decide +kernel, by decide +kernel⟩, List.mem_of_getElem? (i := 15) (by decide +kernel), List.mem_of_getElem? (i := 400) (by decide +kernel), List.mem_of_getElem? (i := 401) (by decide +kernel)⟩
theorem lw_p9 : lw_okq (⟨"RingingRock", "areTwoCrews", "(II)Z"⟩, 12) := ⟨⟨by decide +kernel, by decide +kernel⟩, List.mem_of_getElem? (i := 15) (by decide +kernel), List.mem_of_getElem? (i := 429) (by decide +kernel), List.mem_of_getElem? (i := 430) (by decide +kernel)⟩
theorem lw_p10 : lw_okq (⟨"RingingRock", "fillLongestTimes", "()V"⟩, 12) := ⟨⟨by decide +kernel, by decide +kernel⟩, List.mem_of_getElem? (i := 15) (by decide +kernel), List.mem_of_getElem? (i := 451) (by decide +kernel), List.mem_of_getElem? (i := 452) (by decide +kernel)⟩
theorem lw_p11 : lw_okq (⟨"RingingRock", "hearersAs", "(II)I"⟩, 12) := ⟨⟨by decide +kernel, by decide +kernel⟩, List.mem_of_getElem? (i := 15) (by decide +kernel), List.mem_of_getElem? (i := 463) (by decide +kernel), List.mem_of_getElem? (i := 464) (by decide +kernel)⟩
theorem lw_p12 : lw_okq (⟨"RingingRock", "beginMaps", "()I"⟩, 12) := ⟨⟨by decide +kernel, by decide +kernel⟩, List.mem_of_getElem? (i := 15) (by decide +kernel), List.mem_of_getElem? (i := 504) (by decide +kernel), List.mem_of_getElem? (i := 505) (by decide +kernel)⟩
theorem lw_p13 : lw_okq (⟨"RingingRock", "draftFitsAs", "(I)Z"⟩, 12) := ⟨⟨by decide +kernel, by decide +kernel⟩, List.mem_of_getElem? (i := 15) (by decide +kernel), List.mem_of_getElem? (i := 528) (by decide +kernel), List.mem_of_getElem? (i := 529) (by decide +kernel)⟩
theorem lw_p14 : lw_okq (⟨"RingingRock", "leastFit", "()I"⟩, 12) := ⟨⟨by decide +kernel, by decide +kernel⟩, List.mem_of_getElem? (i := 15) (by decide +kernel), List.mem_of_getElem? (i := 541) (by decide +kernel), List.mem_of_getElem? (i := 542) (by decide +kernel)⟩
theorem lw_p15 : lw_okq (⟨"RingingRock", "nearestFit", "()I"⟩, 12) := ⟨⟨by decide +kernel, by decide +kernel⟩, List.mem_of_getElem? (i := 15) (by decide +kernel), List.mem_of_getElem? (i := 545) (by decide +kernel), List.mem_of_getElem? (i := 546) (by decide +kernel)⟩
def lw_privs_1 : List (MethodName × Nat) := [(⟨"RingingRock", "finding", "(I)I"⟩, 12), (⟨"RingingRock", "isCrew", "(I)Z"⟩, 12), (⟨"RingingRock$Rock", "knock", "(I)V"⟩, 4), (⟨"RingingRock$Rock", "cellsComeIntoAt", "(I)J"⟩, 4), (⟨"RingingRock", "orNone", "(I)I"⟩, 12), (⟨"RingingRock$Mine", "heardBy", "(II)I"⟩, 14), (⟨"RingingRock", "listenForEchoes", "(II)V"⟩, 12), (⟨"RingingRock", "echoOf", "(II)I"⟩, 12), (⟨"RingingRock", "echoBehind", "(II)I"⟩, 12), (⟨"RingingRock", "areTwoCrews", "(II)Z"⟩, 12), (⟨"RingingRock", "fillLongestTimes", "()V"⟩, 12), (⟨"RingingRock", "hearersAs", "(II)I"⟩, 12), (⟨"RingingRock", "beginMaps", "()I"⟩, 12), (⟨"RingingRock", "draftFitsAs", "(I)Z"⟩, 12), (⟨"RingingRock", "leastFit", "()I"⟩, 12), (⟨"RingingRock", "nearestFit", "()I"⟩, 12)]
theorem lw_r1 : ∀ q ∈ lw_privs_1, lw_okq q := List.forall_mem_cons.mpr ⟨lw_p0, List.forall_mem_cons.mpr ⟨lw_p1, List.forall_mem_cons.mpr ⟨lw_p2, List.forall_mem_cons.mpr ⟨lw_p3, List.forall_mem_cons.mpr ⟨lw_p4, List.forall_mem_cons.mpr ⟨lw_p5, List.forall_mem_cons.mpr ⟨lw_p6, List.forall_mem_cons.mpr ⟨lw_p7, List.forall_mem_cons.mpr ⟨lw_p8, List.forall_mem_cons.mpr ⟨lw_p9, List.forall_mem_cons.mpr ⟨lw_p10, List.forall_mem_cons.mpr ⟨lw_p11, List.forall_mem_cons.mpr ⟨lw_p12, List.forall_mem_cons.mpr ⟨lw_p13, List.forall_mem_cons.mpr ⟨lw_p14, List.forall_mem_cons.mpr ⟨lw_p15, fun _ h => absurd h List.not_mem_nil⟩⟩⟩⟩⟩⟩⟩⟩⟩⟩⟩⟩⟩⟩⟩⟩
theorem lw_p16 : lw_okq (⟨"RingingRock", "greatestFit", "()I"⟩, 12) := ⟨⟨by decide +kernel, by decide +kernel⟩, List.mem_of_getElem? (i := 15) (by decide +kernel), List.mem_of_getElem? (i := 554) (by decide +kernel), List.mem_of_getElem? (i := 555) (by decide +kernel)⟩
theorem lw_p17 : lw_okq (⟨"RingingRock", "markTimesOfCrews", "()V"⟩, 12) := ⟨⟨by decide +kernel, by decide +kernel⟩, List.mem_of_getElem? (i := 15) (by decide +kernel), List.mem_of_getElem? (i := 575) (by decide +kernel), List.mem_of_getElem? (i := 576) (by decide +kernel)⟩
theorem lw_p18 : lw_okq (⟨"RingingRock", "crewOfMostTimes", "()I"⟩, 12) := ⟨⟨by decide +kernel, by decide +kernel⟩, List.mem_of_getElem? (i := 15) (by decide +kernel), List.mem_of_getElem? (i := 581) (by decide +kernel), List.mem_of_getElem? (i := 582) (by decide +kernel)⟩
theorem lw_p19 : lw_okq (⟨"RingingRock$Mine", "draw", "()I"⟩, 14) := ⟨⟨by decide +kernel, by decide +kernel⟩, List.mem_of_getElem? (i := 23) (by decide +kernel), List.mem_of_getElem? (i := 616) (by decide +kernel), List.mem_of_getElem? (i := 617) (by decide +kernel)⟩
theorem lw_p20 : lw_okq (⟨"RingingRock$Tape", "nextToken", "()V"⟩, 6) := ⟨⟨by decide +kernel, by decide +kernel⟩, List.mem_of_getElem? (i := 115) (by decide +kernel), List.mem_of_getElem? (i := 659) (by decide +kernel), List.mem_of_getElem? (i := 660) (by decide +kernel)⟩
theorem lw_p21 : lw_okq (⟨"RingingRock$Tape", "endWord", "()V"⟩, 6) := ⟨⟨by decide +kernel, by decide +kernel⟩, List.mem_of_getElem? (i := 115) (by decide +kernel), List.mem_of_getElem? (i := 667) (by decide +kernel), List.mem_of_getElem? (i := 668) (by decide +kernel)⟩
theorem lw_p22 : lw_okq (⟨"RingingRock$Tape", "endNumber", "()V"⟩, 6) := ⟨⟨by decide +kernel, by decide +kernel⟩, List.mem_of_getElem? (i := 115) (by decide +kernel), List.mem_of_getElem? (i := 674) (by decide +kernel), List.mem_of_getElem? (i := 675) (by decide +kernel)⟩
theorem lw_p23 : lw_okq (⟨"RingingRock$Tape", "readItem", "(LRingingRock$Mine;)Z"⟩, 6) := ⟨⟨by decide +kernel, by decide +kernel⟩, List.mem_of_getElem? (i := 115) (by decide +kernel), List.mem_of_getElem? (i := 679) (by decide +kernel), List.mem_of_getElem? (i := 680) (by decide +kernel)⟩
theorem lw_p24 : lw_okq (⟨"RingingRock$Tape", "kindTold", "()I"⟩, 6) := ⟨⟨by decide +kernel, by decide +kernel⟩, List.mem_of_getElem? (i := 115) (by decide +kernel), List.mem_of_getElem? (i := 683) (by decide +kernel), List.mem_of_getElem? (i := 684) (by decide +kernel)⟩
theorem lw_p25 : lw_okq (⟨"RingingRock$Tape", "isWord", "(Ljava/lang/String;)Z"⟩, 6) := ⟨⟨by decide +kernel, by decide +kernel⟩, List.mem_of_getElem? (i := 115) (by decide +kernel), List.mem_of_getElem? (i := 688) (by decide +kernel), List.mem_of_getElem? (i := 689) (by decide +kernel)⟩
theorem lw_p26 : lw_okq (⟨"RingingRock$Tape", "readCrew", "(LRingingRock$Mine;I)Z"⟩, 6) := ⟨⟨by decide +kernel, by decide +kernel⟩, List.mem_of_getElem? (i := 115) (by decide +kernel), List.mem_of_getElem? (i := 746) (by decide +kernel), List.mem_of_getElem? (i := 747) (by decide +kernel)⟩
theorem lw_p27 : lw_okq (⟨"RingingRock$Tape", "isNumber", "(II)Z"⟩, 6) := ⟨⟨by decide +kernel, by decide +kernel⟩, List.mem_of_getElem? (i := 115) (by decide +kernel), List.mem_of_getElem? (i := 751) (by decide +kernel), List.mem_of_getElem? (i := 752) (by decide +kernel)⟩
theorem lw_p28 : lw_okq (⟨"RingingRock$Tape", "stuffTold", "()I"⟩, 6) := ⟨⟨by decide +kernel, by decide +kernel⟩, List.mem_of_getElem? (i := 115) (by decide +kernel), List.mem_of_getElem? (i := 758) (by decide +kernel), List.mem_of_getElem? (i := 759) (by decide +kernel)⟩
theorem lw_p29 : lw_okq (⟨"RingingRock$Tape", "readStuff", "(LRingingRock$Mine;I)Z"⟩, 6) := ⟨⟨by decide +kernel, by decide +kernel⟩, List.mem_of_getElem? (i := 115) (by decide +kernel), List.mem_of_getElem? (i := 767) (by decide +kernel), List.mem_of_getElem? (i := 768) (by decide +kernel)⟩
theorem lw_p30 : lw_okq (⟨"RingingRock$Tape", "readHeard", "(LRingingRock$Mine;)Z"⟩, 6) := ⟨⟨by decide +kernel, by decide +kernel⟩, List.mem_of_getElem? (i := 115) (by decide +kernel), List.mem_of_getElem? (i := 774) (by decide +kernel), List.mem_of_getElem? (i := 775) (by decide +kernel)⟩
theorem lw_p31 : lw_okq (⟨"RingingRock$Tape", "readUnsure", "(LRingingRock$Mine;)Z"⟩, 6) := ⟨⟨by decide +kernel, by decide +kernel⟩, List.mem_of_getElem? (i := 115) (by decide +kernel), List.mem_of_getElem? (i := 780) (by decide +kernel), List.mem_of_getElem? (i := 781) (by decide +kernel)⟩
def lw_privs_2 : List (MethodName × Nat) := [(⟨"RingingRock", "greatestFit", "()I"⟩, 12), (⟨"RingingRock", "markTimesOfCrews", "()V"⟩, 12), (⟨"RingingRock", "crewOfMostTimes", "()I"⟩, 12), (⟨"RingingRock$Mine", "draw", "()I"⟩, 14), (⟨"RingingRock$Tape", "nextToken", "()V"⟩, 6), (⟨"RingingRock$Tape", "endWord", "()V"⟩, 6), (⟨"RingingRock$Tape", "endNumber", "()V"⟩, 6), (⟨"RingingRock$Tape", "readItem", "(LRingingRock$Mine;)Z"⟩, 6), (⟨"RingingRock$Tape", "kindTold", "()I"⟩, 6), (⟨"RingingRock$Tape", "isWord", "(Ljava/lang/String;)Z"⟩, 6), (⟨"RingingRock$Tape", "readCrew", "(LRingingRock$Mine;I)Z"⟩, 6), (⟨"RingingRock$Tape", "isNumber", "(II)Z"⟩, 6), (⟨"RingingRock$Tape", "stuffTold", "()I"⟩, 6), (⟨"RingingRock$Tape", "readStuff", "(LRingingRock$Mine;I)Z"⟩, 6), (⟨"RingingRock$Tape", "readHeard", "(LRingingRock$Mine;)Z"⟩, 6), (⟨"RingingRock$Tape", "readUnsure", "(LRingingRock$Mine;)Z"⟩, 6)]
theorem lw_r2 : ∀ q ∈ lw_privs_2, lw_okq q := List.forall_mem_cons.mpr ⟨lw_p16, List.forall_mem_cons.mpr ⟨lw_p17, List.forall_mem_cons.mpr ⟨lw_p18, List.forall_mem_cons.mpr ⟨lw_p19, List.forall_mem_cons.mpr ⟨lw_p20, List.forall_mem_cons.mpr ⟨lw_p21, List.forall_mem_cons.mpr ⟨lw_p22, List.forall_mem_cons.mpr ⟨lw_p23, List.forall_mem_cons.mpr ⟨lw_p24, List.forall_mem_cons.mpr ⟨lw_p25, List.forall_mem_cons.mpr ⟨lw_p26, List.forall_mem_cons.mpr ⟨lw_p27, List.forall_mem_cons.mpr ⟨lw_p28, List.forall_mem_cons.mpr ⟨lw_p29, List.forall_mem_cons.mpr ⟨lw_p30, List.forall_mem_cons.mpr ⟨lw_p31, fun _ h => absurd h List.not_mem_nil⟩⟩⟩⟩⟩⟩⟩⟩⟩⟩⟩⟩⟩⟩⟩⟩
theorem lw_p32 : lw_okq (⟨"RingingRock", "isMissing", "(I)Z"⟩, 12) := ⟨⟨by decide +kernel, by decide +kernel⟩, List.mem_of_getElem? (i := 15) (by decide +kernel), List.mem_of_getElem? (i := 814) (by decide +kernel), List.mem_of_getElem? (i := 815) (by decide +kernel)⟩
theorem lw_p33 : lw_okq (⟨"RingingRock", "hasNumbers", "(III)Z"⟩, 12) := ⟨⟨by decide +kernel, by decide +kernel⟩, List.mem_of_getElem? (i := 15) (by decide +kernel), List.mem_of_getElem? (i := 825) (by decide +kernel), List.mem_of_getElem? (i := 826) (by decide +kernel)⟩
theorem lw_p34 : lw_okq (⟨"RingingRock", "numberOf", "(II)I"⟩, 12) := ⟨⟨by decide +kernel, by decide +kernel⟩, List.mem_of_getElem? (i := 15) (by decide +kernel), List.mem_of_getElem? (i := 836) (by decide +kernel), List.mem_of_getElem? (i := 837) (by decide +kernel)⟩
theorem lw_p35 : lw_okq (⟨"RingingRockModel", "become", "(II)I"⟩, 36) := ⟨⟨by decide +kernel, by decide +kernel⟩, List.mem_of_getElem? (i := 868) (by decide +kernel), List.mem_of_getElem? (i := 1011) (by decide +kernel), List.mem_of_getElem? (i := 1012) (by decide +kernel)⟩
theorem lw_p36 : lw_okq (⟨"RingingRockModel", "finding", "(I)I"⟩, 36) := ⟨⟨by decide +kernel, by decide +kernel⟩, List.mem_of_getElem? (i := 868) (by decide +kernel), List.mem_of_getElem? (i := 1016) (by decide +kernel), List.mem_of_getElem? (i := 1017) (by decide +kernel)⟩
theorem lw_p37 : lw_okq (⟨"RingingRockModel", "comes", "(III)I"⟩, 36) := ⟨⟨by decide +kernel, by decide +kernel⟩, List.mem_of_getElem? (i := 868) (by decide +kernel), List.mem_of_getElem? (i := 1028) (by decide +kernel), List.mem_of_getElem? (i := 1029) (by decide +kernel)⟩
theorem lw_p38 : lw_okq (⟨"RingingRockModel", "isCrew", "(I)Z"⟩, 36) := ⟨⟨by decide +kernel, by decide +kernel⟩, List.mem_of_getElem? (i := 868) (by decide +kernel), List.mem_of_getElem? (i := 1039) (by decide +kernel), List.mem_of_getElem? (i := 1040) (by decide +kernel)⟩
theorem lw_p39 : lw_okq (⟨"RingingRockModel", "crewIs", "(II)I"⟩, 36) := ⟨⟨by decide +kernel, by decide +kernel⟩, List.mem_of_getElem? (i := 868) (by decide +kernel), List.mem_of_getElem? (i := 1043) (by decide +kernel), List.mem_of_getElem? (i := 1044) (by decide +kernel)⟩
theorem lw_p40 : lw_okq (⟨"RingingRockModel", "carries", "(I)I"⟩, 36) := ⟨⟨by decide +kernel, by decide +kernel⟩, List.mem_of_getElem? (i := 868) (by decide +kernel), List.mem_of_getElem? (i := 1047) (by decide +kernel), List.mem_of_getElem? (i := 1048) (by decide +kernel)⟩
theorem lw_p41 : lw_okq (⟨"RingingRockModel", "starts", "(I)I"⟩, 36) := ⟨⟨by decide +kernel, by decide +kernel⟩, List.mem_of_getElem? (i := 868) (by decide +kernel), List.mem_of_getElem? (i := 1051) (by decide +kernel), List.mem_of_getElem? (i := 1052) (by decide +kernel)⟩
theorem lw_p42 : lw_okq (⟨"RingingRockModel", "hearsBy", "(I)I"⟩, 36) := ⟨⟨by decide +kernel, by decide +kernel⟩, List.mem_of_getElem? (i := 868) (by decide +kernel), List.mem_of_getElem? (i := 1061) (by decide +kernel), List.mem_of_getElem? (i := 1062) (by decide +kernel)⟩
theorem lw_p43 : lw_okq (⟨"RingingRockModel", "cellsOf", "(I)J"⟩, 36) := ⟨⟨by decide +kernel, by decide +kernel⟩, List.mem_of_getElem? (i := 868) (by decide +kernel), List.mem_of_getElem? (i := 1073) (by decide +kernel), List.mem_of_getElem? (i := 1074) (by decide +kernel)⟩
theorem lw_p44 : lw_okq (⟨"RingingRockModel", "stuffIs", "(I)I"⟩, 36) := ⟨⟨by decide +kernel, by decide +kernel⟩, List.mem_of_getElem? (i := 868) (by decide +kernel), List.mem_of_getElem? (i := 1077) (by decide +kernel), List.mem_of_getElem? (i := 1078) (by decide +kernel)⟩
theorem lw_p45 : lw_okq (⟨"RingingRockModel", "isUnsure", "(I)Z"⟩, 36) := ⟨⟨by decide +kernel, by decide +kernel⟩, List.mem_of_getElem? (i := 868) (by decide +kernel), List.mem_of_getElem? (i := 1085) (by decide +kernel), List.mem_of_getElem? (i := 1086) (by decide +kernel)⟩
theorem lw_p46 : lw_okq (⟨"RingingRockModel", "getsUnsure", "(I)I"⟩, 36) := ⟨⟨by decide +kernel, by decide +kernel⟩, List.mem_of_getElem? (i := 868) (by decide +kernel), List.mem_of_getElem? (i := 1090) (by decide +kernel), List.mem_of_getElem? (i := 1091) (by decide +kernel)⟩
theorem lw_p47 : lw_okq (⟨"RingingRockModel", "timeOf", "(II)I"⟩, 36) := ⟨⟨by decide +kernel, by decide +kernel⟩, List.mem_of_getElem? (i := 868) (by decide +kernel), List.mem_of_getElem? (i := 1102) (by decide +kernel), List.mem_of_getElem? (i := 1103) (by decide +kernel)⟩
def lw_privs_3 : List (MethodName × Nat) := [(⟨"RingingRock", "isMissing", "(I)Z"⟩, 12), (⟨"RingingRock", "hasNumbers", "(III)Z"⟩, 12), (⟨"RingingRock", "numberOf", "(II)I"⟩, 12), (⟨"RingingRockModel", "become", "(II)I"⟩, 36), (⟨"RingingRockModel", "finding", "(I)I"⟩, 36), (⟨"RingingRockModel", "comes", "(III)I"⟩, 36), (⟨"RingingRockModel", "isCrew", "(I)Z"⟩, 36), (⟨"RingingRockModel", "crewIs", "(II)I"⟩, 36), (⟨"RingingRockModel", "carries", "(I)I"⟩, 36), (⟨"RingingRockModel", "starts", "(I)I"⟩, 36), (⟨"RingingRockModel", "hearsBy", "(I)I"⟩, 36), (⟨"RingingRockModel", "cellsOf", "(I)J"⟩, 36), (⟨"RingingRockModel", "stuffIs", "(I)I"⟩, 36), (⟨"RingingRockModel", "isUnsure", "(I)Z"⟩, 36), (⟨"RingingRockModel", "getsUnsure", "(I)I"⟩, 36), (⟨"RingingRockModel", "timeOf", "(II)I"⟩, 36)]
theorem lw_r3 : ∀ q ∈ lw_privs_3, lw_okq q := List.forall_mem_cons.mpr ⟨lw_p32, List.forall_mem_cons.mpr ⟨lw_p33, List.forall_mem_cons.mpr ⟨lw_p34, List.forall_mem_cons.mpr ⟨lw_p35, List.forall_mem_cons.mpr ⟨lw_p36, List.forall_mem_cons.mpr ⟨lw_p37, List.forall_mem_cons.mpr ⟨lw_p38, List.forall_mem_cons.mpr ⟨lw_p39, List.forall_mem_cons.mpr ⟨lw_p40, List.forall_mem_cons.mpr ⟨lw_p41, List.forall_mem_cons.mpr ⟨lw_p42, List.forall_mem_cons.mpr ⟨lw_p43, List.forall_mem_cons.mpr ⟨lw_p44, List.forall_mem_cons.mpr ⟨lw_p45, List.forall_mem_cons.mpr ⟨lw_p46, List.forall_mem_cons.mpr ⟨lw_p47, fun _ h => absurd h List.not_mem_nil⟩⟩⟩⟩⟩⟩⟩⟩⟩⟩⟩⟩⟩⟩⟩⟩
theorem lw_p48 : lw_okq (⟨"RingingRockModel", "findTimes", "(IZ[I)V"⟩, 36) := ⟨⟨by decide +kernel, by decide +kernel⟩, List.mem_of_getElem? (i := 868) (by decide +kernel), List.mem_of_getElem? (i := 1106) (by decide +kernel), List.mem_of_getElem? (i := 1107) (by decide +kernel)⟩
theorem lw_p49 : lw_okq (⟨"RingingRockModel", "isHole", "(I)Z"⟩, 36) := ⟨⟨by decide +kernel, by decide +kernel⟩, List.mem_of_getElem? (i := 868) (by decide +kernel), List.mem_of_getElem? (i := 1110) (by decide +kernel), List.mem_of_getElem? (i := 1111) (by decide +kernel)⟩
theorem lw_p50 : lw_okq (⟨"RingingRockModel", "told", "(I)I"⟩, 36) := ⟨⟨by decide +kernel, by decide +kernel⟩, List.mem_of_getElem? (i := 868) (by decide +kernel), List.mem_of_getElem? (i := 1120) (by decide +kernel), List.mem_of_getElem? (i := 1121) (by decide +kernel)⟩
theorem lw_p51 : lw_okq (⟨"RingingRockModel", "findHeard", "(I[I)V"⟩, 36) := ⟨⟨by decide +kernel, by decide +kernel⟩, List.mem_of_getElem? (i := 868) (by decide +kernel), List.mem_of_getElem? (i := 1129) (by decide +kernel), List.mem_of_getElem? (i := 1130) (by decide +kernel)⟩
theorem lw_p52 : lw_okq (⟨"RingingRockModel", "reachOf", "(I)J"⟩, 36) := ⟨⟨by decide +kernel, by decide +kernel⟩, List.mem_of_getElem? (i := 868) (by decide +kernel), List.mem_of_getElem? (i := 1137) (by decide +kernel), List.mem_of_getElem? (i := 1138) (by decide +kernel)⟩
theorem lw_p53 : lw_okq (⟨"RingingRockModel", "doesHear", "(II)Z"⟩, 36) := ⟨⟨by decide +kernel, by decide +kernel⟩, List.mem_of_getElem? (i := 868) (by decide +kernel), List.mem_of_getElem? (i := 1145) (by decide +kernel), List.mem_of_getElem? (i := 1146) (by decide +kernel)⟩
theorem lw_p54 : lw_okq (⟨"RingingRockModel", "findBoth", "(II)V"⟩, 36) := ⟨⟨by decide +kernel, by decide +kernel⟩, List.mem_of_getElem? (i := 868) (by decide +kernel), List.mem_of_getElem? (i := 1153) (by decide +kernel), List.mem_of_getElem? (i := 1154) (by decide +kernel)⟩
theorem lw_p55 : lw_okq (⟨"RingingRockModel", "echoOf", "(II)I"⟩, 36) := ⟨⟨by decide +kernel, by decide +kernel⟩, List.mem_of_getElem? (i := 868) (by decide +kernel), List.mem_of_getElem? (i := 1157) (by decide +kernel), List.mem_of_getElem? (i := 1158) (by decide +kernel)⟩
theorem lw_p56 : lw_okq (⟨"RingingRockModel", "silentNow", "()J"⟩, 36) := ⟨⟨by decide +kernel, by decide +kernel⟩, List.mem_of_getElem? (i := 868) (by decide +kernel), List.mem_of_getElem? (i := 1178) (by decide +kernel), List.mem_of_getElem? (i := 1179) (by decide +kernel)⟩
theorem lw_p57 : lw_okq (⟨"RingingRockModel", "areTwo", "(II)Z"⟩, 36) := ⟨⟨by decide +kernel, by decide +kernel⟩, List.mem_of_getElem? (i := 868) (by decide +kernel), List.mem_of_getElem? (i := 1188) (by decide +kernel), List.mem_of_getElem? (i := 1189) (by decide +kernel)⟩
theorem lw_p58 : lw_okq (⟨"RingingRockModel", "heardBy", "(I)I"⟩, 36) := ⟨⟨by decide +kernel, by decide +kernel⟩, List.mem_of_getElem? (i := 868) (by decide +kernel), List.mem_of_getElem? (i := 1210) (by decide +kernel), List.mem_of_getElem? (i := 1211) (by decide +kernel)⟩
theorem lw_p59 : lw_okq (⟨"RingingRockModel", "enters", "(III)I"⟩, 36) := ⟨⟨by decide +kernel, by decide +kernel⟩, List.mem_of_getElem? (i := 868) (by decide +kernel), List.mem_of_getElem? (i := 1225) (by decide +kernel), List.mem_of_getElem? (i := 1226) (by decide +kernel)⟩
theorem lw_p60 : lw_okq (⟨"RingingRockModel", "doesFit", "()Z"⟩, 36) := ⟨⟨by decide +kernel, by decide +kernel⟩, List.mem_of_getElem? (i := 868) (by decide +kernel), List.mem_of_getElem? (i := 1237) (by decide +kernel), List.mem_of_getElem? (i := 1238) (by decide +kernel)⟩
theorem lw_p61 : lw_okq (⟨"RingingRockModel", "firstWrong", "()I"⟩, 36) := ⟨⟨by decide +kernel, by decide +kernel⟩, List.mem_of_getElem? (i := 868) (by decide +kernel), List.mem_of_getElem? (i := 1241) (by decide +kernel), List.mem_of_getElem? (i := 1242) (by decide +kernel)⟩
theorem lw_p62 : lw_okq (⟨"RingingRockModel", "goThrough", "()V"⟩, 36) := ⟨⟨by decide +kernel, by decide +kernel⟩, List.mem_of_getElem? (i := 868) (by decide +kernel), List.mem_of_getElem? (i := 1249) (by decide +kernel), List.mem_of_getElem? (i := 1250) (by decide +kernel)⟩
theorem lw_p63 : lw_okq (⟨"RingingRockModel", "mapNow", "()I"⟩, 36) := ⟨⟨by decide +kernel, by decide +kernel⟩, List.mem_of_getElem? (i := 868) (by decide +kernel), List.mem_of_getElem? (i := 1253) (by decide +kernel), List.mem_of_getElem? (i := 1254) (by decide +kernel)⟩
def lw_privs_4 : List (MethodName × Nat) := [(⟨"RingingRockModel", "findTimes", "(IZ[I)V"⟩, 36), (⟨"RingingRockModel", "isHole", "(I)Z"⟩, 36), (⟨"RingingRockModel", "told", "(I)I"⟩, 36), (⟨"RingingRockModel", "findHeard", "(I[I)V"⟩, 36), (⟨"RingingRockModel", "reachOf", "(I)J"⟩, 36), (⟨"RingingRockModel", "doesHear", "(II)Z"⟩, 36), (⟨"RingingRockModel", "findBoth", "(II)V"⟩, 36), (⟨"RingingRockModel", "echoOf", "(II)I"⟩, 36), (⟨"RingingRockModel", "silentNow", "()J"⟩, 36), (⟨"RingingRockModel", "areTwo", "(II)Z"⟩, 36), (⟨"RingingRockModel", "heardBy", "(I)I"⟩, 36), (⟨"RingingRockModel", "enters", "(III)I"⟩, 36), (⟨"RingingRockModel", "doesFit", "()Z"⟩, 36), (⟨"RingingRockModel", "firstWrong", "()I"⟩, 36), (⟨"RingingRockModel", "goThrough", "()V"⟩, 36), (⟨"RingingRockModel", "mapNow", "()I"⟩, 36)]
theorem lw_r4 : ∀ q ∈ lw_privs_4, lw_okq q := List.forall_mem_cons.mpr ⟨lw_p48, List.forall_mem_cons.mpr ⟨lw_p49, List.forall_mem_cons.mpr ⟨lw_p50, List.forall_mem_cons.mpr ⟨lw_p51, List.forall_mem_cons.mpr ⟨lw_p52, List.forall_mem_cons.mpr ⟨lw_p53, List.forall_mem_cons.mpr ⟨lw_p54, List.forall_mem_cons.mpr ⟨lw_p55, List.forall_mem_cons.mpr ⟨lw_p56, List.forall_mem_cons.mpr ⟨lw_p57, List.forall_mem_cons.mpr ⟨lw_p58, List.forall_mem_cons.mpr ⟨lw_p59, List.forall_mem_cons.mpr ⟨lw_p60, List.forall_mem_cons.mpr ⟨lw_p61, List.forall_mem_cons.mpr ⟨lw_p62, List.forall_mem_cons.mpr ⟨lw_p63, fun _ h => absurd h List.not_mem_nil⟩⟩⟩⟩⟩⟩⟩⟩⟩⟩⟩⟩⟩⟩⟩⟩
theorem lw_p64 : lw_okq (⟨"RingingRockModel", "nextFit", "(I)I"⟩, 36) := ⟨⟨by decide +kernel, by decide +kernel⟩, List.mem_of_getElem? (i := 868) (by decide +kernel), List.mem_of_getElem? (i := 1257) (by decide +kernel), List.mem_of_getElem? (i := 1258) (by decide +kernel)⟩
theorem lw_p65 : lw_okq (⟨"RingingRockModel", "maps", "()I"⟩, 36) := ⟨⟨by decide +kernel, by decide +kernel⟩, List.mem_of_getElem? (i := 868) (by decide +kernel), List.mem_of_getElem? (i := 1261) (by decide +kernel), List.mem_of_getElem? (i := 1262) (by decide +kernel)⟩
theorem lw_p66 : lw_okq (⟨"RingingRockModel", "lay", "(I)V"⟩, 36) := ⟨⟨by decide +kernel, by decide +kernel⟩, List.mem_of_getElem? (i := 868) (by decide +kernel), List.mem_of_getElem? (i := 1265) (by decide +kernel), List.mem_of_getElem? (i := 1266) (by decide +kernel)⟩
theorem lw_p67 : lw_okq (⟨"RingingRockModel", "unlike", "(II)I"⟩, 36) := ⟨⟨by decide +kernel, by decide +kernel⟩, List.mem_of_getElem? (i := 868) (by decide +kernel), List.mem_of_getElem? (i := 1285) (by decide +kernel), List.mem_of_getElem? (i := 1286) (by decide +kernel)⟩
theorem lw_p68 : lw_okq (⟨"RingingRockModel", "dryNow", "()J"⟩, 36) := ⟨⟨by decide +kernel, by decide +kernel⟩, List.mem_of_getElem? (i := 868) (by decide +kernel), List.mem_of_getElem? (i := 1293) (by decide +kernel), List.mem_of_getElem? (i := 1294) (by decide +kernel)⟩
theorem lw_p69 : lw_okq (⟨"RingingRockModel", "findCosts", "(IJ)V"⟩, 36) := ⟨⟨by decide +kernel, by decide +kernel⟩, List.mem_of_getElem? (i := 868) (by decide +kernel), List.mem_of_getElem? (i := 1297) (by decide +kernel), List.mem_of_getElem? (i := 1298) (by decide +kernel)⟩
theorem lw_p70 : lw_okq (⟨"RingingRockModel", "costOf", "(I)I"⟩, 36) := ⟨⟨by decide +kernel, by decide +kernel⟩, List.mem_of_getElem? (i := 868) (by decide +kernel), List.mem_of_getElem? (i := 1301) (by decide +kernel), List.mem_of_getElem? (i := 1302) (by decide +kernel)⟩
theorem lw_p71 : lw_okq (⟨"RingingRockModel", "dryInAll", "()J"⟩, 36) := ⟨⟨by decide +kernel, by decide +kernel⟩, List.mem_of_getElem? (i := 868) (by decide +kernel), List.mem_of_getElem? (i := 1309) (by decide +kernel), List.mem_of_getElem? (i := 1310) (by decide +kernel)⟩
theorem lw_p72 : lw_okq (⟨"RingingRockModel", "isTooLate", "(I)Z"⟩, 36) := ⟨⟨by decide +kernel, by decide +kernel⟩, List.mem_of_getElem? (i := 868) (by decide +kernel), List.mem_of_getElem? (i := 1321) (by decide +kernel), List.mem_of_getElem? (i := 1322) (by decide +kernel)⟩
theorem lw_p73 : lw_okq (⟨"RingingRockModel", "yearsGo", "(I)I"⟩, 36) := ⟨⟨by decide +kernel, by decide +kernel⟩, List.mem_of_getElem? (i := 868) (by decide +kernel), List.mem_of_getElem? (i := 1325) (by decide +kernel), List.mem_of_getElem? (i := 1326) (by decide +kernel)⟩
theorem lw_p74 : lw_okq (⟨"RingingRockModel", "drawn", "(I)I"⟩, 36) := ⟨⟨by decide +kernel, by decide +kernel⟩, List.mem_of_getElem? (i := 868) (by decide +kernel), List.mem_of_getElem? (i := 1329) (by decide +kernel), List.mem_of_getElem? (i := 1330) (by decide +kernel)⟩
theorem lw_p75 : lw_okq (⟨"RingingRockModel", "putBack", "(I)I"⟩, 36) := ⟨⟨by decide +kernel, by decide +kernel⟩, List.mem_of_getElem? (i := 868) (by decide +kernel), List.mem_of_getElem? (i := 1341) (by decide +kernel), List.mem_of_getElem? (i := 1342) (by decide +kernel)⟩
theorem lw_p76 : lw_okq (⟨"RingingRockModel", "next", "()V"⟩, 36) := ⟨⟨by decide +kernel, by decide +kernel⟩, List.mem_of_getElem? (i := 868) (by decide +kernel), List.mem_of_getElem? (i := 1365) (by decide +kernel), List.mem_of_getElem? (i := 1366) (by decide +kernel)⟩
theorem lw_p77 : lw_okq (⟨"RingingRockModel", "byteAt", "(I)I"⟩, 36) := ⟨⟨by decide +kernel, by decide +kernel⟩, List.mem_of_getElem? (i := 868) (by decide +kernel), List.mem_of_getElem? (i := 1369) (by decide +kernel), List.mem_of_getElem? (i := 1370) (by decide +kernel)⟩
theorem lw_p78 : lw_okq (⟨"RingingRockModel", "readItem", "()V"⟩, 36) := ⟨⟨by decide +kernel, by decide +kernel⟩, List.mem_of_getElem? (i := 868) (by decide +kernel), List.mem_of_getElem? (i := 1373) (by decide +kernel), List.mem_of_getElem? (i := 1374) (by decide +kernel)⟩
theorem lw_p79 : lw_okq (⟨"RingingRockModel", "oneOf", "([Ljava/lang/String;)I"⟩, 36) := ⟨⟨by decide +kernel, by decide +kernel⟩, List.mem_of_getElem? (i := 868) (by decide +kernel), List.mem_of_getElem? (i := 1377) (by decide +kernel), List.mem_of_getElem? (i := 1378) (by decide +kernel)⟩
def lw_privs_5 : List (MethodName × Nat) := [(⟨"RingingRockModel", "nextFit", "(I)I"⟩, 36), (⟨"RingingRockModel", "maps", "()I"⟩, 36), (⟨"RingingRockModel", "lay", "(I)V"⟩, 36), (⟨"RingingRockModel", "unlike", "(II)I"⟩, 36), (⟨"RingingRockModel", "dryNow", "()J"⟩, 36), (⟨"RingingRockModel", "findCosts", "(IJ)V"⟩, 36), (⟨"RingingRockModel", "costOf", "(I)I"⟩, 36), (⟨"RingingRockModel", "dryInAll", "()J"⟩, 36), (⟨"RingingRockModel", "isTooLate", "(I)Z"⟩, 36), (⟨"RingingRockModel", "yearsGo", "(I)I"⟩, 36), (⟨"RingingRockModel", "drawn", "(I)I"⟩, 36), (⟨"RingingRockModel", "putBack", "(I)I"⟩, 36), (⟨"RingingRockModel", "next", "()V"⟩, 36), (⟨"RingingRockModel", "byteAt", "(I)I"⟩, 36), (⟨"RingingRockModel", "readItem", "()V"⟩, 36), (⟨"RingingRockModel", "oneOf", "([Ljava/lang/String;)I"⟩, 36)]
theorem lw_r5 : ∀ q ∈ lw_privs_5, lw_okq q := List.forall_mem_cons.mpr ⟨lw_p64, List.forall_mem_cons.mpr ⟨lw_p65, List.forall_mem_cons.mpr ⟨lw_p66, List.forall_mem_cons.mpr ⟨lw_p67, List.forall_mem_cons.mpr ⟨lw_p68, List.forall_mem_cons.mpr ⟨lw_p69, List.forall_mem_cons.mpr ⟨lw_p70, List.forall_mem_cons.mpr ⟨lw_p71, List.forall_mem_cons.mpr ⟨lw_p72, List.forall_mem_cons.mpr ⟨lw_p73, List.forall_mem_cons.mpr ⟨lw_p74, List.forall_mem_cons.mpr ⟨lw_p75, List.forall_mem_cons.mpr ⟨lw_p76, List.forall_mem_cons.mpr ⟨lw_p77, List.forall_mem_cons.mpr ⟨lw_p78, List.forall_mem_cons.mpr ⟨lw_p79, fun _ h => absurd h List.not_mem_nil⟩⟩⟩⟩⟩⟩⟩⟩⟩⟩⟩⟩⟩⟩⟩⟩
theorem lw_p80 : lw_okq (⟨"RingingRockModel", "isWord", "(Ljava/lang/String;)Z"⟩, 36) := ⟨⟨by decide +kernel, by decide +kernel⟩, List.mem_of_getElem? (i := 868) (by decide +kernel), List.mem_of_getElem? (i := 1381) (by decide +kernel), List.mem_of_getElem? (i := 1382) (by decide +kernel)⟩
theorem lw_p81 : lw_okq (⟨"RingingRockModel", "must", "(Z)V"⟩, 36) := ⟨⟨by decide +kernel, by decide +kernel⟩, List.mem_of_getElem? (i := 868) (by decide +kernel), List.mem_of_getElem? (i := 1387) (by decide +kernel), List.mem_of_getElem? (i := 1388) (by decide +kernel)⟩
theorem lw_p82 : lw_okq (⟨"RingingRockModel", "isNext", "(Ljava/lang/String;)Z"⟩, 36) := ⟨⟨by decide +kernel, by decide +kernel⟩, List.mem_of_getElem? (i := 868) (by decide +kernel), List.mem_of_getElem? (i := 1392) (by decide +kernel), List.mem_of_getElem? (i := 1393) (by decide +kernel)⟩
theorem lw_p83 : lw_okq (⟨"RingingRockModel", "number", "(II)I"⟩, 36) := ⟨⟨by decide +kernel, by decide +kernel⟩, List.mem_of_getElem? (i := 868) (by decide +kernel), List.mem_of_getElem? (i := 1396) (by decide +kernel), List.mem_of_getElem? (i := 1397) (by decide +kernel)⟩
theorem lw_p84 : lw_okq (⟨"RingingRockModel", "item", "(IIII)V"⟩, 36) := ⟨⟨by decide +kernel, by decide +kernel⟩, List.mem_of_getElem? (i := 868) (by decide +kernel), List.mem_of_getElem? (i := 1401) (by decide +kernel), List.mem_of_getElem? (i := 1402) (by decide +kernel)⟩
theorem lw_p85 : lw_okq (⟨"RingingRockModel", "readUnsure", "()V"⟩, 36) := ⟨⟨by decide +kernel, by decide +kernel⟩, List.mem_of_getElem? (i := 868) (by decide +kernel), List.mem_of_getElem? (i := 1407) (by decide +kernel), List.mem_of_getElem? (i := 1408) (by decide +kernel)⟩
theorem lw_p86 : lw_okq (⟨"RingingRockModel", "isSo", "(I)I"⟩, 36) := ⟨⟨by decide +kernel, by decide +kernel⟩, List.mem_of_getElem? (i := 868) (by decide +kernel), List.mem_of_getElem? (i := 1412) (by decide +kernel), List.mem_of_getElem? (i := 1413) (by decide +kernel)⟩
def lw_privs_6 : List (MethodName × Nat) := [(⟨"RingingRockModel", "isWord", "(Ljava/lang/String;)Z"⟩, 36), (⟨"RingingRockModel", "must", "(Z)V"⟩, 36), (⟨"RingingRockModel", "isNext", "(Ljava/lang/String;)Z"⟩, 36), (⟨"RingingRockModel", "number", "(II)I"⟩, 36), (⟨"RingingRockModel", "item", "(IIII)V"⟩, 36), (⟨"RingingRockModel", "readUnsure", "()V"⟩, 36), (⟨"RingingRockModel", "isSo", "(I)I"⟩, 36)]
theorem lw_r6 : ∀ q ∈ lw_privs_6, lw_okq q := List.forall_mem_cons.mpr ⟨lw_p80, List.forall_mem_cons.mpr ⟨lw_p81, List.forall_mem_cons.mpr ⟨lw_p82, List.forall_mem_cons.mpr ⟨lw_p83, List.forall_mem_cons.mpr ⟨lw_p84, List.forall_mem_cons.mpr ⟨lw_p85, List.forall_mem_cons.mpr ⟨lw_p86, fun _ h => absurd h List.not_mem_nil⟩⟩⟩⟩⟩⟩⟩
def lw_privs : List (MethodName × Nat) := lw_privs_1 ++ (lw_privs_2 ++ (lw_privs_3 ++ (lw_privs_4 ++ (lw_privs_5 ++ (lw_privs_6)))))
def lw_tbl : List Cond := k2_sels lw_privs ++ tables_1
theorem lw_privs_ok : ∀ q ∈ lw_privs, lw_okq q := by
  show ∀ q ∈ lw_privs_1 ++ (lw_privs_2 ++ (lw_privs_3 ++ (lw_privs_4 ++ (lw_privs_5 ++ (lw_privs_6))))), lw_okq q
  exact List.forall_mem_append.mpr ⟨lw_r1, List.forall_mem_append.mpr ⟨lw_r2, List.forall_mem_append.mpr ⟨lw_r3, List.forall_mem_append.mpr ⟨lw_r4, List.forall_mem_append.mpr ⟨lw_r5, lw_r6⟩⟩⟩⟩⟩
def RX0 : String := "RingingRock$Mine"
def TX0 : u_T := fun k => match k with
  | 0 => ("RingingRock$Mine", "rock", "LRingingRock$Rock;", true)
  | 1 => ("RingingRock$Mine", "kinds", "[I", true)
  | 2 => ("RingingRock$Mine", "places", "[I", true)
  | 3 => ("RingingRock$Mine", "forces", "[I", true)
  | 4 => ("RingingRock$Mine", "crews", "I", false)
  | 5 => ("RingingRock$Mine", "unsureCells", "[I", true)
  | 6 => ("RingingRock$Mine", "unsures", "I", false)
  | 7 => ("RingingRock$Mine", "bookFroms", "[I", true)
  | 8 => ("RingingRock$Mine", "bookTos", "[I", true)
  | 9 => ("RingingRock$Mine", "bookTimes", "[I", true)
  | 10 => ("RingingRock$Mine", "books", "I", false)
  | 11 => ("RingingRock$Mine", "spots", "[I", true)
  | 12 => ("RingingRock$Mine", "year", "I", false)
  | _ => ("RingingRock$Mine", "z", "I", false)
def tyX0 : Nat → FieldType := fun k => match k with
  | 0 => .object "RingingRock$Rock"
  | 1 => .array .int
  | 2 => .array .int
  | 3 => .array .int
  | 4 => .int
  | 5 => .array .int
  | 6 => .int
  | 7 => .array .int
  | 8 => .array .int
  | 9 => .array .int
  | 10 => .int
  | 11 => .array .int
  | 12 => .int
  | _ => .int
theorem nmX0 : ∀ a, a < 14 → ∀ b, b < 14 → a ≠ b → (TX0 a).2.1 ≠ (TX0 b).2.1 := by decide +kernel
theorem tyX0_ok : ∀ k, k < 14 → parseFieldDescriptor (TX0 k).2.2.1 = some (tyX0 k) := by decide +kernel
abbrev cX0_init : ByteArray := prog_2_method_1_code
def yX0_init : MethodName := ⟨RX0, "<init>", "()V"⟩
abbrev cX0_become : ByteArray := prog_2_method_2_code
def yX0_become : MethodName := ⟨RX0, "become", "(LRingingRock$Mine;)V"⟩
abbrev cX0_addCrew : ByteArray := prog_2_method_3_code
def yX0_addCrew : MethodName := ⟨RX0, "addCrew", "(III)V"⟩
abbrev cX0_addBook : ByteArray := prog_2_method_4_code
def yX0_addBook : MethodName := ⟨RX0, "addBook", "(III)V"⟩
abbrev cX0_addUnsure : ByteArray := prog_2_method_5_code
def yX0_addUnsure : MethodName := ⟨RX0, "addUnsure", "(I)V"⟩
abbrev cX0_isUnsure : ByteArray := prog_2_method_6_code
def yX0_isUnsure : MethodName := ⟨RX0, "isUnsure", "(I)Z"⟩
abbrev cX0_kindOf : ByteArray := prog_2_method_7_code
def yX0_kindOf : MethodName := ⟨RX0, "kindOf", "(I)I"⟩
abbrev cX0_placeOf : ByteArray := prog_2_method_8_code
def yX0_placeOf : MethodName := ⟨RX0, "placeOf", "(I)I"⟩
abbrev cX0_forceOf : ByteArray := prog_2_method_9_code
def yX0_forceOf : MethodName := ⟨RX0, "forceOf", "(I)I"⟩
abbrev cX0_carriesOf : ByteArray := prog_2_method_10_code
def yX0_carriesOf : MethodName := ⟨RX0, "carriesOf", "(I)I"⟩
abbrev cX0_holes : ByteArray := prog_2_method_11_code
def yX0_holes : MethodName := ⟨RX0, "holes", "()I"⟩
abbrev cX0_heldSpots : ByteArray := prog_2_method_12_code
def yX0_heldSpots : MethodName := ⟨RX0, "heldSpots", "()I"⟩
abbrev cX0_heardAt : ByteArray := prog_2_method_13_code
def yX0_heardAt : MethodName := ⟨RX0, "heardAt", "(II)I"⟩
abbrev cX0_fillHeard : ByteArray := prog_2_method_14_code
def yX0_fillHeard : MethodName := ⟨RX0, "fillHeard", "(I[I)V"⟩
abbrev cX0_heardBy : ByteArray := prog_2_method_15_code
def yX0_heardBy : MethodName := ⟨RX0, "heardBy", "(II)I"⟩
abbrev cX0_reachOf : ByteArray := prog_2_method_16_code
def yX0_reachOf : MethodName := ⟨RX0, "reachOf", "(I)J"⟩
abbrev cX0_silentCells : ByteArray := prog_2_method_17_code
def yX0_silentCells : MethodName := ⟨RX0, "silentCells", "()J"⟩
abbrev cX0_mapCount : ByteArray := prog_2_method_18_code
def yX0_mapCount : MethodName := ⟨RX0, "mapCount", "()I"⟩
abbrev cX0_mapNow : ByteArray := prog_2_method_19_code
def yX0_mapNow : MethodName := ⟨RX0, "mapNow", "()I"⟩
abbrev cX0_layMap : ByteArray := prog_2_method_20_code
def yX0_layMap : MethodName := ⟨RX0, "layMap", "(I)V"⟩
abbrev cX0_unlikeCells : ByteArray := prog_2_method_21_code
def yX0_unlikeCells : MethodName := ⟨RX0, "unlikeCells", "(LRingingRock$Mine;)I"⟩
abbrev cX0_firstWrong : ByteArray := prog_2_method_22_code
def yX0_firstWrong : MethodName := ⟨RX0, "firstWrong", "()I"⟩
abbrev cX0_goOneYear : ByteArray := prog_2_method_23_code
def yX0_goOneYear : MethodName := ⟨RX0, "goOneYear", "()V"⟩
abbrev cX0_draw : ByteArray := prog_2_method_24_code
def yX0_draw : MethodName := ⟨RX0, "draw", "()I"⟩
def RX1 : String := "RingingRock$Rock"
def TX1 : u_T := fun k => match k with
  | 0 => ("RingingRock$Rock", "sets", "[J", true)
  | 1 => ("RingingRock$Rock", "coming", "[J", true)
  | 2 => ("RingingRock$Rock", "reached", "J", false)
  | _ => ("RingingRock$Rock", "latest", "I", false)
def tyX1 : Nat → FieldType := fun k => match k with
  | 0 => .array .long
  | 1 => .array .long
  | 2 => .long
  | _ => .int
theorem nmX1 : ∀ a, a < 4 → ∀ b, b < 4 → a ≠ b → (TX1 a).2.1 ≠ (TX1 b).2.1 := by decide +kernel
theorem tyX1_ok : ∀ k, k < 4 → parseFieldDescriptor (TX1 k).2.2.1 = some (tyX1 k) := by decide +kernel
abbrev cX1_init : ByteArray := prog_3_method_1_code
def yX1_init : MethodName := ⟨RX1, "<init>", "()V"⟩
abbrev cX1_becomeRock : ByteArray := prog_3_method_2_code
def yX1_becomeRock : MethodName := ⟨RX1, "becomeRock", "(LRingingRock$Rock;)V"⟩
abbrev cX1_cellsOf : ByteArray := prog_3_method_3_code
def yX1_cellsOf : MethodName := ⟨RX1, "cellsOf", "(I)J"⟩
abbrev cX1_stuffAt : ByteArray := prog_3_method_4_code
def yX1_stuffAt : MethodName := ⟨RX1, "stuffAt", "(I)I"⟩
abbrev cX1_paceOf : ByteArray := prog_3_method_5_code
def yX1_paceOf : MethodName := ⟨RX1, "paceOf", "(I)I"⟩
abbrev cX1_put : ByteArray := prog_3_method_6_code
def yX1_put : MethodName := ⟨RX1, "put", "(II)V"⟩
abbrev cX1_dryCells : ByteArray := prog_3_method_7_code
def yX1_dryCells : MethodName := ⟨RX1, "dryCells", "()J"⟩
abbrev cX1_timeBetween : ByteArray := prog_3_method_8_code
def yX1_timeBetween : MethodName := ⟨RX1, "timeBetween", "(II)I"⟩
abbrev cX1_cellsWithin : ByteArray := prog_3_method_9_code
def yX1_cellsWithin : MethodName := ⟨RX1, "cellsWithin", "(II)J"⟩
abbrev cX1_timesFrom : ByteArray := prog_3_method_10_code
def yX1_timesFrom : MethodName := ⟨RX1, "timesFrom", "(I[I)V"⟩
abbrev cX1_timesTo : ByteArray := prog_3_method_11_code
def yX1_timesTo : MethodName := ⟨RX1, "timesTo", "(I[I)V"⟩
abbrev cX1_knock : ByteArray := prog_3_method_12_code
def yX1_knock : MethodName := ⟨RX1, "knock", "(I)V"⟩
abbrev cX1_cellsComeIntoAt : ByteArray := prog_3_method_13_code
def yX1_cellsComeIntoAt : MethodName := ⟨RX1, "cellsComeIntoAt", "(I)J"⟩
def RX2 : String := "RingingRock$Tape"
def TX2 : u_T := fun k => match k with
  | 0 => ("RingingRock$Tape", "bytes", "[I", true)
  | 1 => ("RingingRock$Tape", "size", "I", false)
  | 2 => ("RingingRock$Tape", "token", "I", false)
  | 3 => ("RingingRock$Tape", "tokenStart", "I", false)
  | 4 => ("RingingRock$Tape", "tokenEnd", "I", false)
  | _ => ("RingingRock$Tape", "number", "I", false)
def tyX2 : Nat → FieldType := fun k => match k with
  | 0 => .array .int
  | 1 => .int
  | 2 => .int
  | 3 => .int
  | 4 => .int
  | _ => .int
theorem nmX2 : ∀ a, a < 6 → ∀ b, b < 6 → a ≠ b → (TX2 a).2.1 ≠ (TX2 b).2.1 := by decide +kernel
theorem tyX2_ok : ∀ k, k < 6 → parseFieldDescriptor (TX2 k).2.2.1 = some (tyX2 k) := by decide +kernel
abbrev cX2_init : ByteArray := prog_4_method_1_code
def yX2_init : MethodName := ⟨RX2, "<init>", "()V"⟩
abbrev cX2_add : ByteArray := prog_4_method_2_code
def yX2_add : MethodName := ⟨RX2, "add", "(I)V"⟩
abbrev cX2_readInto : ByteArray := prog_4_method_3_code
def yX2_readInto : MethodName := ⟨RX2, "readInto", "(LRingingRock$Mine;)I"⟩
abbrev cX2_readItem : ByteArray := prog_4_method_4_code
def yX2_readItem : MethodName := ⟨RX2, "readItem", "(LRingingRock$Mine;)Z"⟩
abbrev cX2_readCrew : ByteArray := prog_4_method_5_code
def yX2_readCrew : MethodName := ⟨RX2, "readCrew", "(LRingingRock$Mine;I)Z"⟩
abbrev cX2_readStuff : ByteArray := prog_4_method_6_code
def yX2_readStuff : MethodName := ⟨RX2, "readStuff", "(LRingingRock$Mine;I)Z"⟩
abbrev cX2_readHeard : ByteArray := prog_4_method_7_code
def yX2_readHeard : MethodName := ⟨RX2, "readHeard", "(LRingingRock$Mine;)Z"⟩
abbrev cX2_readUnsure : ByteArray := prog_4_method_8_code
def yX2_readUnsure : MethodName := ⟨RX2, "readUnsure", "(LRingingRock$Mine;)Z"⟩
abbrev cX2_kindTold : ByteArray := prog_4_method_9_code
def yX2_kindTold : MethodName := ⟨RX2, "kindTold", "()I"⟩
abbrev cX2_stuffTold : ByteArray := prog_4_method_10_code
def yX2_stuffTold : MethodName := ⟨RX2, "stuffTold", "()I"⟩
abbrev cX2_isNumber : ByteArray := prog_4_method_11_code
def yX2_isNumber : MethodName := ⟨RX2, "isNumber", "(II)Z"⟩
abbrev cX2_isWord : ByteArray := prog_4_method_12_code
def yX2_isWord : MethodName := ⟨RX2, "isWord", "(Ljava/lang/String;)Z"⟩
abbrev cX2_nextToken : ByteArray := prog_4_method_13_code
def yX2_nextToken : MethodName := ⟨RX2, "nextToken", "()V"⟩
abbrev cX2_endWord : ByteArray := prog_4_method_14_code
def yX2_endWord : MethodName := ⟨RX2, "endWord", "()V"⟩
abbrev cX2_endNumber : ByteArray := prog_4_method_15_code
def yX2_endNumber : MethodName := ⟨RX2, "endNumber", "()V"⟩
abbrev cX2_isLetter : ByteArray := prog_4_method_16_code
def yX2_isLetter : MethodName := ⟨RX2, "isLetter", "(I)Z"⟩
abbrev cX2_isDigit : ByteArray := prog_4_method_17_code
def yX2_isDigit : MethodName := ⟨RX2, "isDigit", "(I)Z"⟩
def RX3 : String := "RingingRock"
def TX3 : u_T := fun k => match k with
  | 0 => ("RingingRock", "now", "LRingingRock$Mine;", true)
  | 1 => ("RingingRock", "kept", "LRingingRock$Mine;", true)
  | 2 => ("RingingRock", "isKept", "Z", false)
  | 3 => ("RingingRock", "draft", "LRingingRock$Mine;", true)
  | 4 => ("RingingRock", "tape", "LRingingRock$Tape;", true)
  | 5 => ("RingingRock", "sheetBits", "[I", true)
  | 6 => ("RingingRock", "sheetSizes", "[I", true)
  | 7 => ("RingingRock", "sheetNumbers", "[I", true)
  | 8 => ("RingingRock", "findings", "[I", true)
  | 9 => ("RingingRock", "times", "[I", true)
  | 10 => ("RingingRock", "otherTimes", "[I", true)
  | _ => ("RingingRock", "seen", "[J", true)
def tyX3 : Nat → FieldType := fun k => match k with
  | 0 => .object "RingingRock$Mine"
  | 1 => .object "RingingRock$Mine"
  | 2 => .boolean
  | 3 => .object "RingingRock$Mine"
  | 4 => .object "RingingRock$Tape"
  | 5 => .array .int
  | 6 => .array .int
  | 7 => .array .int
  | 8 => .array .int
  | 9 => .array .int
  | 10 => .array .int
  | _ => .array .long
theorem nmX3 : ∀ a, a < 12 → ∀ b, b < 12 → a ≠ b → (TX3 a).2.1 ≠ (TX3 b).2.1 := by decide +kernel
theorem tyX3_ok : ∀ k, k < 12 → parseFieldDescriptor (TX3 k).2.2.1 = some (tyX3 k) := by decide +kernel
abbrev cX3_init : ByteArray := prog_1_method_1_code
def yX3_init : MethodName := ⟨RX3, "<init>", "()V"⟩
abbrev cX3_stuff : ByteArray := prog_1_method_2_code
def yX3_stuff : MethodName := ⟨RX3, "stuff", "(II)I"⟩
abbrev cX3_crew : ByteArray := prog_1_method_3_code
def yX3_crew : MethodName := ⟨RX3, "crew", "(II)I"⟩
abbrev cX3_of : ByteArray := prog_1_method_4_code
def yX3_of : MethodName := ⟨RX3, "of", "(II)I"⟩
abbrev cX3_change : ByteArray := prog_1_method_5_code
def yX3_change : MethodName := ⟨RX3, "change", "(III)I"⟩
abbrev cX3_cells : ByteArray := prog_1_method_6_code
def yX3_cells : MethodName := ⟨RX3, "cells", "(I)J"⟩
abbrev cX3_unsure : ByteArray := prog_1_method_7_code
def yX3_unsure : MethodName := ⟨RX3, "unsure", "(I)I"⟩
abbrev cX3_sure : ByteArray := prog_1_method_8_code
def yX3_sure : MethodName := ⟨RX3, "sure", "()I"⟩
abbrev cX3_time : ByteArray := prog_1_method_9_code
def yX3_time : MethodName := ⟨RX3, "time", "(II)I"⟩
abbrev cX3_heard : ByteArray := prog_1_method_10_code
def yX3_heard : MethodName := ⟨RX3, "heard", "(II)I"⟩
abbrev cX3_reach : ByteArray := prog_1_method_11_code
def yX3_reach : MethodName := ⟨RX3, "reach", "(I)J"⟩
abbrev cX3_hears : ByteArray := prog_1_method_12_code
def yX3_hears : MethodName := ⟨RX3, "hears", "(I)I"⟩
abbrev cX3_echo : ByteArray := prog_1_method_13_code
def yX3_echo : MethodName := ⟨RX3, "echo", "(III)I"⟩
abbrev cX3_chord : ByteArray := prog_1_method_14_code
def yX3_chord : MethodName := ⟨RX3, "chord", "(III)I"⟩
abbrev cX3_last : ByteArray := prog_1_method_15_code
def yX3_last : MethodName := ⟨RX3, "last", "(II)I"⟩
abbrev cX3_many : ByteArray := prog_1_method_16_code
def yX3_many : MethodName := ⟨RX3, "many", "(I)I"⟩
abbrev cX3_silent : ByteArray := prog_1_method_17_code
def yX3_silent : MethodName := ⟨RX3, "silent", "()J"⟩
abbrev cX3_lag : ByteArray := prog_1_method_18_code
def yX3_lag : MethodName := ⟨RX3, "lag", "(III)I"⟩
abbrev cX3_apart : ByteArray := prog_1_method_19_code
def yX3_apart : MethodName := ⟨RX3, "apart", "(II)I"⟩
abbrev cX3_from : ByteArray := prog_1_method_20_code
def yX3_from : MethodName := ⟨RX3, "from", "(III)J"⟩
abbrev cX3_middle : ByteArray := prog_1_method_21_code
def yX3_middle : MethodName := ⟨RX3, "middle", "()I"⟩
abbrev cX3_kindFor : ByteArray := prog_1_method_22_code
def yX3_kindFor : MethodName := ⟨RX3, "kindFor", "(I)I"⟩
abbrev cX3_place : ByteArray := prog_1_method_23_code
def yX3_place : MethodName := ⟨RX3, "place", "(I)I"⟩
abbrev cX3_book : ByteArray := prog_1_method_24_code
def yX3_book : MethodName := ⟨RX3, "book", "(III)I"⟩
abbrev cX3_burn : ByteArray := prog_1_method_25_code
def yX3_burn : MethodName := ⟨RX3, "burn", "()I"⟩
abbrev cX3_wrong : ByteArray := prog_1_method_26_code
def yX3_wrong : MethodName := ⟨RX3, "wrong", "()I"⟩
abbrev cX3_fits : ByteArray := prog_1_method_27_code
def yX3_fits : MethodName := ⟨RX3, "fits", "()I"⟩
abbrev cX3_map : ByteArray := prog_1_method_28_code
def yX3_map : MethodName := ⟨RX3, "map", "(I)I"⟩
abbrev cX3_may : ByteArray := prog_1_method_29_code
def yX3_may : MethodName := ⟨RX3, "may", "(I)I"⟩
abbrev cX3_lays : ByteArray := prog_1_method_30_code
def yX3_lays : MethodName := ⟨RX3, "lays", "(I)I"⟩
abbrev cX3_asks : ByteArray := prog_1_method_31_code
def yX3_asks : MethodName := ⟨RX3, "asks", "(I)I"⟩
abbrev cX3_dig : ByteArray := prog_1_method_32_code
def yX3_dig : MethodName := ⟨RX3, "dig", "(II)I"⟩
abbrev cX3_safe : ByteArray := prog_1_method_33_code
def yX3_safe : MethodName := ⟨RX3, "safe", "(II)I"⟩
abbrev cX3_ways : ByteArray := prog_1_method_34_code
def yX3_ways : MethodName := ⟨RX3, "ways", "(I)J"⟩
abbrev cX3_years : ByteArray := prog_1_method_35_code
def yX3_years : MethodName := ⟨RX3, "years", "(I)I"⟩
abbrev cX3_ahead : ByteArray := prog_1_method_36_code
def yX3_ahead : MethodName := ⟨RX3, "ahead", "(II)I"⟩
abbrev cX3_when : ByteArray := prog_1_method_37_code
def yX3_when : MethodName := ⟨RX3, "when", "(II)I"⟩
abbrev cX3_seed : ByteArray := prog_1_method_38_code
def yX3_seed : MethodName := ⟨RX3, "seed", "(I)I"⟩
abbrev cX3_feed : ByteArray := prog_1_method_39_code
def yX3_feed : MethodName := ⟨RX3, "feed", "(II)I"⟩
abbrev cX3_wipe : ByteArray := prog_1_method_40_code
def yX3_wipe : MethodName := ⟨RX3, "wipe", "()I"⟩
abbrev cX3_text : ByteArray := prog_1_method_41_code
def yX3_text : MethodName := ⟨RX3, "text", "()I"⟩
abbrev cX3_hold : ByteArray := prog_1_method_42_code
def yX3_hold : MethodName := ⟨RX3, "hold", "(II)I"⟩
abbrev cX3_as : ByteArray := prog_1_method_43_code
def yX3_as : MethodName := ⟨RX3, "as", "(II)I"⟩
abbrev cX3_sheet : ByteArray := prog_1_method_44_code
def yX3_sheet : MethodName := ⟨RX3, "sheet", "(III)I"⟩
abbrev cX3_write : ByteArray := prog_1_method_45_code
def yX3_write : MethodName := ⟨RX3, "write", "(III)I"⟩
abbrev cX3_copy : ByteArray := prog_1_method_46_code
def yX3_copy : MethodName := ⟨RX3, "copy", "(IIIII)I"⟩
abbrev cX3_load : ByteArray := prog_1_method_47_code
def yX3_load : MethodName := ⟨RX3, "load", "(I)I"⟩
abbrev cX3_judge : ByteArray := prog_1_method_48_code
def yX3_judge : MethodName := ⟨RX3, "judge", "(II)I"⟩
abbrev cX3_image : ByteArray := prog_1_method_49_code
def yX3_image : MethodName := ⟨RX3, "image", "()I"⟩
abbrev cX3_undo : ByteArray := prog_1_method_50_code
def yX3_undo : MethodName := ⟨RX3, "undo", "()I"⟩
abbrev cX3_tear : ByteArray := prog_1_method_51_code
def yX3_tear : MethodName := ⟨RX3, "tear", "()I"⟩
abbrev cX3_count : ByteArray := prog_1_method_52_code
def yX3_count : MethodName := ⟨RX3, "count", "(I)I"⟩
abbrev cX3_status : ByteArray := prog_1_method_53_code
def yX3_status : MethodName := ⟨RX3, "status", "(I)I"⟩
abbrev cX3_finding : ByteArray := prog_1_method_54_code
def yX3_finding : MethodName := ⟨RX3, "finding", "(I)I"⟩
abbrev cX3_orNone : ByteArray := prog_1_method_55_code
def yX3_orNone : MethodName := ⟨RX3, "orNone", "(I)I"⟩
abbrev cX3_isCrew : ByteArray := prog_1_method_56_code
def yX3_isCrew : MethodName := ⟨RX3, "isCrew", "(I)Z"⟩
abbrev cX3_areTwoCrews : ByteArray := prog_1_method_57_code
def yX3_areTwoCrews : MethodName := ⟨RX3, "areTwoCrews", "(II)Z"⟩
abbrev cX3_isMissing : ByteArray := prog_1_method_58_code
def yX3_isMissing : MethodName := ⟨RX3, "isMissing", "(I)Z"⟩
abbrev cX3_numberOf : ByteArray := prog_1_method_59_code
def yX3_numberOf : MethodName := ⟨RX3, "numberOf", "(II)I"⟩
abbrev cX3_hasNumbers : ByteArray := prog_1_method_60_code
def yX3_hasNumbers : MethodName := ⟨RX3, "hasNumbers", "(III)Z"⟩
abbrev cX3_listenForEchoes : ByteArray := prog_1_method_61_code
def yX3_listenForEchoes : MethodName := ⟨RX3, "listenForEchoes", "(II)V"⟩
abbrev cX3_echoOf : ByteArray := prog_1_method_62_code
def yX3_echoOf : MethodName := ⟨RX3, "echoOf", "(II)I"⟩
abbrev cX3_echoBehind : ByteArray := prog_1_method_63_code
def yX3_echoBehind : MethodName := ⟨RX3, "echoBehind", "(II)I"⟩
abbrev cX3_hearersAs : ByteArray := prog_1_method_64_code
def yX3_hearersAs : MethodName := ⟨RX3, "hearersAs", "(II)I"⟩
abbrev cX3_fillLongestTimes : ByteArray := prog_1_method_65_code
def yX3_fillLongestTimes : MethodName := ⟨RX3, "fillLongestTimes", "()V"⟩
abbrev cX3_beginMaps : ByteArray := prog_1_method_66_code
def yX3_beginMaps : MethodName := ⟨RX3, "beginMaps", "()I"⟩
abbrev cX3_draftFitsAs : ByteArray := prog_1_method_67_code
def yX3_draftFitsAs : MethodName := ⟨RX3, "draftFitsAs", "(I)Z"⟩
abbrev cX3_leastFit : ByteArray := prog_1_method_68_code
def yX3_leastFit : MethodName := ⟨RX3, "leastFit", "()I"⟩
abbrev cX3_greatestFit : ByteArray := prog_1_method_69_code
def yX3_greatestFit : MethodName := ⟨RX3, "greatestFit", "()I"⟩
abbrev cX3_nearestFit : ByteArray := prog_1_method_70_code
def yX3_nearestFit : MethodName := ⟨RX3, "nearestFit", "()I"⟩
abbrev cX3_markTimesOfCrews : ByteArray := prog_1_method_71_code
def yX3_markTimesOfCrews : MethodName := ⟨RX3, "markTimesOfCrews", "()V"⟩
abbrev cX3_crewOfMostTimes : ByteArray := prog_1_method_72_code
def yX3_crewOfMostTimes : MethodName := ⟨RX3, "crewOfMostTimes", "()I"⟩
abbrev cX3_lies : ByteArray := prog_1_method_73_code
def yX3_lies : MethodName := ⟨RX3, "lies", "(III)Z"⟩
abbrev cX3_isCell : ByteArray := prog_1_method_74_code
def yX3_isCell : MethodName := ⟨RX3, "isCell", "(I)Z"⟩
abbrev cX3_isStuff : ByteArray := prog_1_method_75_code
def yX3_isStuff : MethodName := ⟨RX3, "isStuff", "(I)Z"⟩
abbrev cX3_isKind : ByteArray := prog_1_method_76_code
def yX3_isKind : MethodName := ⟨RX3, "isKind", "(I)Z"⟩
abbrev cX3_isSpot : ByteArray := prog_1_method_77_code
def yX3_isSpot : MethodName := ⟨RX3, "isSpot", "(I)Z"⟩
abbrev cX3_isSheet : ByteArray := prog_1_method_78_code
def yX3_isSheet : MethodName := ⟨RX3, "isSheet", "(I)Z"⟩
abbrev cX3_at : ByteArray := prog_1_method_79_code
def yX3_at : MethodName := ⟨RX3, "at", "([II)I"⟩
abbrev cX3_exchange : ByteArray := prog_1_method_80_code
def yX3_exchange : MethodName := ⟨RX3, "exchange", "([III)I"⟩
abbrev cX3_bitsAt : ByteArray := prog_1_method_81_code
def yX3_bitsAt : MethodName := ⟨RX3, "bitsAt", "([JI)J"⟩
abbrev cX3_putBits : ByteArray := prog_1_method_82_code
def yX3_putBits : MethodName := ⟨RX3, "putBits", "([JIJ)V"⟩
abbrev cX3_moveNumbers : ByteArray := prog_1_method_83_code
def yX3_moveNumbers : MethodName := ⟨RX3, "moveNumbers", "([IIII)V"⟩
abbrev cX3_copyRow : ByteArray := prog_1_method_84_code
def yX3_copyRow : MethodName := ⟨RX3, "copyRow", "([I[I)V"⟩
abbrev cX3_lowestBits : ByteArray := prog_1_method_85_code
def yX3_lowestBits : MethodName := ⟨RX3, "lowestBits", "(II)I"⟩
abbrev cX3_setOf : ByteArray := prog_1_method_86_code
def yX3_setOf : MethodName := ⟨RX3, "setOf", "(I)J"⟩
abbrev cX3_has : ByteArray := prog_1_method_87_code
def yX3_has : MethodName := ⟨RX3, "has", "(JI)Z"⟩
abbrev cX3_besides : ByteArray := prog_1_method_88_code
def yX3_besides : MethodName := ⟨RX3, "besides", "(J)J"⟩
abbrev cX3_flood : ByteArray := prog_1_method_89_code
def yX3_flood : MethodName := ⟨RX3, "flood", "(JJ)J"⟩
abbrev cX3_costOfWay : ByteArray := prog_1_method_90_code
def yX3_costOfWay : MethodName := ⟨RX3, "costOfWay", "(JJII)I"⟩
abbrev cX3_isOfKind : ByteArray := prog_1_method_91_code
def yX3_isOfKind : MethodName := ⟨RX3, "isOfKind", "(II)Z"⟩
abbrev cX3_carriesAs : ByteArray := prog_1_method_92_code
def yX3_carriesAs : MethodName := ⟨RX3, "carriesAs", "(II)I"⟩
abbrev cX3_startsAs : ByteArray := prog_1_method_93_code
def yX3_startsAs : MethodName := ⟨RX3, "startsAs", "(I)I"⟩
abbrev cX3_hearsByAs : ByteArray := prog_1_method_94_code
def yX3_hearsByAs : MethodName := ⟨RX3, "hearsByAs", "(I)I"⟩
def RX4 : String := "RingingRockModel"
def TX4 : u_T := fun k => match k with
  | 0 => ("RingingRockModel", "now", "[I", true)
  | 1 => ("RingingRockModel", "kept", "[I", true)
  | 2 => ("RingingRockModel", "aside", "[I", true)
  | 3 => ("RingingRockModel", "isKept", "Z", false)
  | 4 => ("RingingRockModel", "found", "[I", true)
  | 5 => ("RingingRockModel", "goesIn", "[I", true)
  | 6 => ("RingingRockModel", "goesOut", "[I", true)
  | 7 => ("RingingRockModel", "heardIn", "[I", true)
  | 8 => ("RingingRockModel", "otherIn", "[I", true)
  | 9 => ("RingingRockModel", "longest", "[I", true)
  | 10 => ("RingingRockModel", "manyFit", "I", false)
  | 11 => ("RingingRockModel", "leastFit", "I", false)
  | 12 => ("RingingRockModel", "nearestFit", "I", false)
  | 13 => ("RingingRockModel", "greatestFit", "I", false)
  | 14 => ("RingingRockModel", "mayBe", "[I", true)
  | 15 => ("RingingRockModel", "isTime", "[Z", true)
  | 16 => ("RingingRockModel", "cost", "[I", true)
  | 17 => ("RingingRockModel", "tape", "[I", true)
  | 18 => ("RingingRockModel", "taped", "I", false)
  | 19 => ("RingingRockModel", "begins", "I", false)
  | 20 => ("RingingRockModel", "ends", "I", false)
  | 21 => ("RingingRockModel", "sort", "I", false)
  | 22 => ("RingingRockModel", "value", "I", false)
  | 23 => ("RingingRockModel", "isWrong", "Z", false)
  | 24 => ("RingingRockModel", "kinds", "[Ljava/lang/String;", true)
  | 25 => ("RingingRockModel", "stuffs", "[Ljava/lang/String;", true)
  | 26 => ("RingingRockModel", "items", "[I", true)
  | 27 => ("RingingRockModel", "itemMany", "I", false)
  | 28 => ("RingingRockModel", "crewThen", "I", false)
  | 29 => ("RingingRockModel", "bookThen", "I", false)
  | 30 => ("RingingRockModel", "unsureThen", "I", false)
  | 31 => ("RingingRockModel", "unsures", "[I", true)
  | 32 => ("RingingRockModel", "widths", "[I", true)
  | 33 => ("RingingRockModel", "sizes", "[I", true)
  | 34 => ("RingingRockModel", "numbers", "[I", true)
  | _ => ("RingingRockModel", "moved", "[I", true)
def tyX4 : Nat → FieldType := fun k => match k with
  | 0 => .array .int
  | 1 => .array .int
  | 2 => .array .int
  | 3 => .boolean
  | 4 => .array .int
  | 5 => .array .int
  | 6 => .array .int
  | 7 => .array .int
  | 8 => .array .int
  | 9 => .array .int
  | 10 => .int
  | 11 => .int
  | 12 => .int
  | 13 => .int
  | 14 => .array .int
  | 15 => .array .boolean
  | 16 => .array .int
  | 17 => .array .int
  | 18 => .int
  | 19 => .int
  | 20 => .int
  | 21 => .int
  | 22 => .int
  | 23 => .boolean
  | 24 => .array (.object "java/lang/String")
  | 25 => .array (.object "java/lang/String")
  | 26 => .array .int
  | 27 => .int
  | 28 => .int
  | 29 => .int
  | 30 => .int
  | 31 => .array .int
  | 32 => .array .int
  | 33 => .array .int
  | 34 => .array .int
  | _ => .array .int
theorem nmX4 : ∀ a, a < 36 → ∀ b, b < 36 → a ≠ b → (TX4 a).2.1 ≠ (TX4 b).2.1 := by decide +kernel
theorem tyX4_ok : ∀ k, k < 36 → parseFieldDescriptor (TX4 k).2.2.1 = some (tyX4 k) := by decide +kernel
abbrev cX4_init : ByteArray := prog_6_method_1_code
def yX4_init : MethodName := ⟨RX4, "<init>", "()V"⟩
abbrev cX4_finding : ByteArray := prog_6_method_2_code
def yX4_finding : MethodName := ⟨RX4, "finding", "(I)I"⟩
abbrev cX4_within : ByteArray := prog_6_method_3_code
def yX4_within : MethodName := ⟨RX4, "within", "(III)Z"⟩
abbrev cX4_become : ByteArray := prog_6_method_4_code
def yX4_become : MethodName := ⟨RX4, "become", "(II)I"⟩
abbrev cX4_copyRow : ByteArray := prog_6_method_5_code
def yX4_copyRow : MethodName := ⟨RX4, "copyRow", "([I[I)V"⟩
abbrev cX4_putBack : ByteArray := prog_6_method_6_code
def yX4_putBack : MethodName := ⟨RX4, "putBack", "(I)I"⟩
abbrev cX4_bits : ByteArray := prog_6_method_7_code
def yX4_bits : MethodName := ⟨RX4, "bits", "(J)I"⟩
abbrev cX4_isCell : ByteArray := prog_6_method_8_code
def yX4_isCell : MethodName := ⟨RX4, "isCell", "(I)Z"⟩
abbrev cX4_isStuff : ByteArray := prog_6_method_9_code
def yX4_isStuff : MethodName := ⟨RX4, "isStuff", "(I)Z"⟩
abbrev cX4_isCrew : ByteArray := prog_6_method_10_code
def yX4_isCrew : MethodName := ⟨RX4, "isCrew", "(I)Z"⟩
abbrev cX4_isKind : ByteArray := prog_6_method_11_code
def yX4_isKind : MethodName := ⟨RX4, "isKind", "(I)Z"⟩
abbrev cX4_at : ByteArray := prog_6_method_12_code
def yX4_at : MethodName := ⟨RX4, "at", "(II)I"⟩
abbrev cX4_crewIs : ByteArray := prog_6_method_13_code
def yX4_crewIs : MethodName := ⟨RX4, "crewIs", "(II)I"⟩
abbrev cX4_stuffIs : ByteArray := prog_6_method_14_code
def yX4_stuffIs : MethodName := ⟨RX4, "stuffIs", "(I)I"⟩
abbrev cX4_stuff : ByteArray := prog_6_method_15_code
def yX4_stuff : MethodName := ⟨RX4, "stuff", "(II)I"⟩
abbrev cX4_comes : ByteArray := prog_6_method_16_code
def yX4_comes : MethodName := ⟨RX4, "comes", "(III)I"⟩
abbrev cX4_crew : ByteArray := prog_6_method_17_code
def yX4_crew : MethodName := ⟨RX4, "crew", "(II)I"⟩
abbrev cX4_above : ByteArray := prog_6_method_18_code
def yX4_above : MethodName := ⟨RX4, "above", "(I)I"⟩
abbrev cX4_isUnder : ByteArray := prog_6_method_19_code
def yX4_isUnder : MethodName := ⟨RX4, "isUnder", "(II)Z"⟩
abbrev cX4_carries : ByteArray := prog_6_method_20_code
def yX4_carries : MethodName := ⟨RX4, "carries", "(I)I"⟩
abbrev cX4_starts : ByteArray := prog_6_method_21_code
def yX4_starts : MethodName := ⟨RX4, "starts", "(I)I"⟩
abbrev cX4_hearsBy : ByteArray := prog_6_method_22_code
def yX4_hearsBy : MethodName := ⟨RX4, "hearsBy", "(I)I"⟩
abbrev cX4_of : ByteArray := prog_6_method_23_code
def yX4_of : MethodName := ⟨RX4, "of", "(II)I"⟩
abbrev cX4_change : ByteArray := prog_6_method_24_code
def yX4_change : MethodName := ⟨RX4, "change", "(III)I"⟩
abbrev cX4_cellsOf : ByteArray := prog_6_method_25_code
def yX4_cellsOf : MethodName := ⟨RX4, "cellsOf", "(I)J"⟩
abbrev cX4_cells : ByteArray := prog_6_method_26_code
def yX4_cells : MethodName := ⟨RX4, "cells", "(I)J"⟩
abbrev cX4_isUnsure : ByteArray := prog_6_method_27_code
def yX4_isUnsure : MethodName := ⟨RX4, "isUnsure", "(I)Z"⟩
abbrev cX4_getsUnsure : ByteArray := prog_6_method_28_code
def yX4_getsUnsure : MethodName := ⟨RX4, "getsUnsure", "(I)I"⟩
abbrev cX4_unsure : ByteArray := prog_6_method_29_code
def yX4_unsure : MethodName := ⟨RX4, "unsure", "(I)I"⟩
abbrev cX4_sure : ByteArray := prog_6_method_30_code
def yX4_sure : MethodName := ⟨RX4, "sure", "()I"⟩
abbrev cX4_pace : ByteArray := prog_6_method_31_code
def yX4_pace : MethodName := ⟨RX4, "pace", "(I)I"⟩
abbrev cX4_beside : ByteArray := prog_6_method_32_code
def yX4_beside : MethodName := ⟨RX4, "beside", "(II)I"⟩
abbrev cX4_isHole : ByteArray := prog_6_method_33_code
def yX4_isHole : MethodName := ⟨RX4, "isHole", "(I)Z"⟩
abbrev cX4_findTimes : ByteArray := prog_6_method_34_code
def yX4_findTimes : MethodName := ⟨RX4, "findTimes", "(IZ[I)V"⟩
abbrev cX4_timeOf : ByteArray := prog_6_method_35_code
def yX4_timeOf : MethodName := ⟨RX4, "timeOf", "(II)I"⟩
abbrev cX4_told : ByteArray := prog_6_method_36_code
def yX4_told : MethodName := ⟨RX4, "told", "(I)I"⟩
abbrev cX4_time : ByteArray := prog_6_method_37_code
def yX4_time : MethodName := ⟨RX4, "time", "(II)I"⟩
abbrev cX4_findHeard : ByteArray := prog_6_method_38_code
def yX4_findHeard : MethodName := ⟨RX4, "findHeard", "(I[I)V"⟩
abbrev cX4_heard : ByteArray := prog_6_method_39_code
def yX4_heard : MethodName := ⟨RX4, "heard", "(II)I"⟩
abbrev cX4_reachOf : ByteArray := prog_6_method_40_code
def yX4_reachOf : MethodName := ⟨RX4, "reachOf", "(I)J"⟩
abbrev cX4_reach : ByteArray := prog_6_method_41_code
def yX4_reach : MethodName := ⟨RX4, "reach", "(I)J"⟩
abbrev cX4_doesHear : ByteArray := prog_6_method_42_code
def yX4_doesHear : MethodName := ⟨RX4, "doesHear", "(II)Z"⟩
abbrev cX4_hears : ByteArray := prog_6_method_43_code
def yX4_hears : MethodName := ⟨RX4, "hears", "(I)I"⟩
abbrev cX4_echoOf : ByteArray := prog_6_method_44_code
def yX4_echoOf : MethodName := ⟨RX4, "echoOf", "(II)I"⟩
abbrev cX4_findBoth : ByteArray := prog_6_method_45_code
def yX4_findBoth : MethodName := ⟨RX4, "findBoth", "(II)V"⟩
abbrev cX4_echo : ByteArray := prog_6_method_46_code
def yX4_echo : MethodName := ⟨RX4, "echo", "(III)I"⟩
abbrev cX4_chord : ByteArray := prog_6_method_47_code
def yX4_chord : MethodName := ⟨RX4, "chord", "(III)I"⟩
abbrev cX4_last : ByteArray := prog_6_method_48_code
def yX4_last : MethodName := ⟨RX4, "last", "(II)I"⟩
abbrev cX4_many : ByteArray := prog_6_method_49_code
def yX4_many : MethodName := ⟨RX4, "many", "(I)I"⟩
abbrev cX4_silentNow : ByteArray := prog_6_method_50_code
def yX4_silentNow : MethodName := ⟨RX4, "silentNow", "()J"⟩
abbrev cX4_silent : ByteArray := prog_6_method_51_code
def yX4_silent : MethodName := ⟨RX4, "silent", "()J"⟩
abbrev cX4_areTwo : ByteArray := prog_6_method_52_code
def yX4_areTwo : MethodName := ⟨RX4, "areTwo", "(II)Z"⟩
abbrev cX4_lag : ByteArray := prog_6_method_53_code
def yX4_lag : MethodName := ⟨RX4, "lag", "(III)I"⟩
abbrev cX4_apart : ByteArray := prog_6_method_54_code
def yX4_apart : MethodName := ⟨RX4, "apart", "(II)I"⟩
abbrev cX4_from : ByteArray := prog_6_method_55_code
def yX4_from : MethodName := ⟨RX4, "from", "(III)J"⟩
abbrev cX4_middle : ByteArray := prog_6_method_56_code
def yX4_middle : MethodName := ⟨RX4, "middle", "()I"⟩
abbrev cX4_heardBy : ByteArray := prog_6_method_57_code
def yX4_heardBy : MethodName := ⟨RX4, "heardBy", "(I)I"⟩
abbrev cX4_kindFor : ByteArray := prog_6_method_58_code
def yX4_kindFor : MethodName := ⟨RX4, "kindFor", "(I)I"⟩
abbrev cX4_place : ByteArray := prog_6_method_59_code
def yX4_place : MethodName := ⟨RX4, "place", "(I)I"⟩
abbrev cX4_enters : ByteArray := prog_6_method_60_code
def yX4_enters : MethodName := ⟨RX4, "enters", "(III)I"⟩
abbrev cX4_book : ByteArray := prog_6_method_61_code
def yX4_book : MethodName := ⟨RX4, "book", "(III)I"⟩
abbrev cX4_burn : ByteArray := prog_6_method_62_code
def yX4_burn : MethodName := ⟨RX4, "burn", "()I"⟩
abbrev cX4_firstWrong : ByteArray := prog_6_method_63_code
def yX4_firstWrong : MethodName := ⟨RX4, "firstWrong", "()I"⟩
abbrev cX4_doesFit : ByteArray := prog_6_method_64_code
def yX4_doesFit : MethodName := ⟨RX4, "doesFit", "()Z"⟩
abbrev cX4_wrong : ByteArray := prog_6_method_65_code
def yX4_wrong : MethodName := ⟨RX4, "wrong", "()I"⟩
abbrev cX4_maps : ByteArray := prog_6_method_66_code
def yX4_maps : MethodName := ⟨RX4, "maps", "()I"⟩
abbrev cX4_mapNow : ByteArray := prog_6_method_67_code
def yX4_mapNow : MethodName := ⟨RX4, "mapNow", "()I"⟩
abbrev cX4_lay : ByteArray := prog_6_method_68_code
def yX4_lay : MethodName := ⟨RX4, "lay", "(I)V"⟩
abbrev cX4_nextFit : ByteArray := prog_6_method_69_code
def yX4_nextFit : MethodName := ⟨RX4, "nextFit", "(I)I"⟩
abbrev cX4_goThrough : ByteArray := prog_6_method_70_code
def yX4_goThrough : MethodName := ⟨RX4, "goThrough", "()V"⟩
abbrev cX4_fits : ByteArray := prog_6_method_71_code
def yX4_fits : MethodName := ⟨RX4, "fits", "()I"⟩
abbrev cX4_map : ByteArray := prog_6_method_72_code
def yX4_map : MethodName := ⟨RX4, "map", "(I)I"⟩
abbrev cX4_may : ByteArray := prog_6_method_73_code
def yX4_may : MethodName := ⟨RX4, "may", "(I)I"⟩
abbrev cX4_lays : ByteArray := prog_6_method_74_code
def yX4_lays : MethodName := ⟨RX4, "lays", "(I)I"⟩
abbrev cX4_unlike : ByteArray := prog_6_method_75_code
def yX4_unlike : MethodName := ⟨RX4, "unlike", "(II)I"⟩
abbrev cX4_asks : ByteArray := prog_6_method_76_code
def yX4_asks : MethodName := ⟨RX4, "asks", "(I)I"⟩
abbrev cX4_dryNow : ByteArray := prog_6_method_77_code
def yX4_dryNow : MethodName := ⟨RX4, "dryNow", "()J"⟩
abbrev cX4_dryInAll : ByteArray := prog_6_method_78_code
def yX4_dryInAll : MethodName := ⟨RX4, "dryInAll", "()J"⟩
abbrev cX4_findCosts : ByteArray := prog_6_method_79_code
def yX4_findCosts : MethodName := ⟨RX4, "findCosts", "(IJ)V"⟩
abbrev cX4_costOf : ByteArray := prog_6_method_80_code
def yX4_costOf : MethodName := ⟨RX4, "costOf", "(I)I"⟩
abbrev cX4_dig : ByteArray := prog_6_method_81_code
def yX4_dig : MethodName := ⟨RX4, "dig", "(II)I"⟩
abbrev cX4_safe : ByteArray := prog_6_method_82_code
def yX4_safe : MethodName := ⟨RX4, "safe", "(II)I"⟩
abbrev cX4_ways : ByteArray := prog_6_method_83_code
def yX4_ways : MethodName := ⟨RX4, "ways", "(I)J"⟩
abbrev cX4_drawn : ByteArray := prog_6_method_84_code
def yX4_drawn : MethodName := ⟨RX4, "drawn", "(I)I"⟩
abbrev cX4_yearsGo : ByteArray := prog_6_method_85_code
def yX4_yearsGo : MethodName := ⟨RX4, "yearsGo", "(I)I"⟩
abbrev cX4_isTooLate : ByteArray := prog_6_method_86_code
def yX4_isTooLate : MethodName := ⟨RX4, "isTooLate", "(I)Z"⟩
abbrev cX4_years : ByteArray := prog_6_method_87_code
def yX4_years : MethodName := ⟨RX4, "years", "(I)I"⟩
abbrev cX4_ahead : ByteArray := prog_6_method_88_code
def yX4_ahead : MethodName := ⟨RX4, "ahead", "(II)I"⟩
abbrev cX4_when : ByteArray := prog_6_method_89_code
def yX4_when : MethodName := ⟨RX4, "when", "(II)I"⟩
abbrev cX4_seed : ByteArray := prog_6_method_90_code
def yX4_seed : MethodName := ⟨RX4, "seed", "(I)I"⟩
abbrev cX4_feed : ByteArray := prog_6_method_91_code
def yX4_feed : MethodName := ⟨RX4, "feed", "(II)I"⟩
abbrev cX4_wipe : ByteArray := prog_6_method_92_code
def yX4_wipe : MethodName := ⟨RX4, "wipe", "()I"⟩
abbrev cX4_byteAt : ByteArray := prog_6_method_93_code
def yX4_byteAt : MethodName := ⟨RX4, "byteAt", "(I)I"⟩
abbrev cX4_next : ByteArray := prog_6_method_94_code
def yX4_next : MethodName := ⟨RX4, "next", "()V"⟩
abbrev cX4_isWord : ByteArray := prog_6_method_95_code
def yX4_isWord : MethodName := ⟨RX4, "isWord", "(Ljava/lang/String;)Z"⟩
abbrev cX4_must : ByteArray := prog_6_method_96_code
def yX4_must : MethodName := ⟨RX4, "must", "(Z)V"⟩
abbrev cX4_number : ByteArray := prog_6_method_97_code
def yX4_number : MethodName := ⟨RX4, "number", "(II)I"⟩
abbrev cX4_item : ByteArray := prog_6_method_98_code
def yX4_item : MethodName := ⟨RX4, "item", "(IIII)V"⟩
abbrev cX4_oneOf : ByteArray := prog_6_method_99_code
def yX4_oneOf : MethodName := ⟨RX4, "oneOf", "([Ljava/lang/String;)I"⟩
abbrev cX4_isNext : ByteArray := prog_6_method_100_code
def yX4_isNext : MethodName := ⟨RX4, "isNext", "(Ljava/lang/String;)Z"⟩
abbrev cX4_readUnsure : ByteArray := prog_6_method_101_code
def yX4_readUnsure : MethodName := ⟨RX4, "readUnsure", "()V"⟩
abbrev cX4_readItem : ByteArray := prog_6_method_102_code
def yX4_readItem : MethodName := ⟨RX4, "readItem", "()V"⟩
abbrev cX4_isSo : ByteArray := prog_6_method_103_code
def yX4_isSo : MethodName := ⟨RX4, "isSo", "(I)I"⟩
abbrev cX4_text : ByteArray := prog_6_method_104_code
def yX4_text : MethodName := ⟨RX4, "text", "()I"⟩
abbrev cX4_isSpot : ByteArray := prog_6_method_105_code
def yX4_isSpot : MethodName := ⟨RX4, "isSpot", "(I)Z"⟩
abbrev cX4_hold : ByteArray := prog_6_method_106_code
def yX4_hold : MethodName := ⟨RX4, "hold", "(II)I"⟩
abbrev cX4_as : ByteArray := prog_6_method_107_code
def yX4_as : MethodName := ⟨RX4, "as", "(II)I"⟩
abbrev cX4_isSheet : ByteArray := prog_6_method_108_code
def yX4_isSheet : MethodName := ⟨RX4, "isSheet", "(I)Z"⟩
abbrev cX4_cutTo : ByteArray := prog_6_method_109_code
def yX4_cutTo : MethodName := ⟨RX4, "cutTo", "(II)I"⟩
abbrev cX4_sheet : ByteArray := prog_6_method_110_code
def yX4_sheet : MethodName := ⟨RX4, "sheet", "(III)I"⟩
abbrev cX4_write : ByteArray := prog_6_method_111_code
def yX4_write : MethodName := ⟨RX4, "write", "(III)I"⟩
abbrev cX4_copy : ByteArray := prog_6_method_112_code
def yX4_copy : MethodName := ⟨RX4, "copy", "(IIIII)I"⟩
abbrev cX4_load : ByteArray := prog_6_method_113_code
def yX4_load : MethodName := ⟨RX4, "load", "(I)I"⟩
abbrev cX4_judge : ByteArray := prog_6_method_114_code
def yX4_judge : MethodName := ⟨RX4, "judge", "(II)I"⟩
abbrev cX4_image : ByteArray := prog_6_method_115_code
def yX4_image : MethodName := ⟨RX4, "image", "()I"⟩
abbrev cX4_undo : ByteArray := prog_6_method_116_code
def yX4_undo : MethodName := ⟨RX4, "undo", "()I"⟩
abbrev cX4_tear : ByteArray := prog_6_method_117_code
def yX4_tear : MethodName := ⟨RX4, "tear", "()I"⟩
abbrev cX4_count : ByteArray := prog_6_method_118_code
def yX4_count : MethodName := ⟨RX4, "count", "(I)I"⟩
abbrev cX4_status : ByteArray := prog_6_method_119_code
def yX4_status : MethodName := ⟨RX4, "status", "(I)I"⟩
def RJx145de : String := "java/io/Serializable"
def RJx9f9b0 : String := "java/lang/CharSequence"
def RJxb160c : String := "java/lang/Comparable"
def RJ13 : String := "java/lang/Long"
abbrev cJ13_bitCount_95d88 : ByteArray := prog_7_method_50_code
def yJ13_bitCount_95d88 : MethodName := ⟨RJ13, "bitCount", "(J)I"⟩
def RJ9 : String := "java/lang/Math"
abbrev cJ9_max_7cf53 : ByteArray := prog_8_method_65_code
def yJ9_max_7cf53 : MethodName := ⟨RJ9, "max", "(II)I"⟩
abbrev cJ9_min_7cf53 : ByteArray := prog_8_method_69_code
def yJ9_min_7cf53 : MethodName := ⟨RJ9, "min", "(II)I"⟩
def RJ0 : String := "java/lang/String"
abbrev cJ0_length_8abf5 : ByteArray := prog_9_method_54_code
def yJ0_length_8abf5 : MethodName := ⟨RJ0, "length", "()I"⟩
abbrev cJ0_charAt_5068e : ByteArray := prog_9_method_56_code
def yJ0_charAt_5068e : MethodName := ⟨RJ0, "charAt", "(I)C"⟩
abbrev cJ0_coder_7d493 : ByteArray := prog_9_method_152_code
def yJ0_coder_7d493 : MethodName := ⟨RJ0, "coder", "()B"⟩
abbrev cJ0_isLatin1_aae02 : ByteArray := prog_9_method_154_code
def yJ0_isLatin1_aae02 : MethodName := ⟨RJ0, "isLatin1", "()Z"⟩
abbrev cJ0_checkIndex_df160 : ByteArray := prog_9_method_155_code
def yJ0_checkIndex_df160 : MethodName := ⟨RJ0, "checkIndex", "(II)V"⟩
def RJ1 : String := "java/lang/StringLatin1"
abbrev cJ1_charAt_3b067 : ByteArray := prog_10_method_2_code
def yJ1_charAt_3b067 : MethodName := ⟨RJ1, "charAt", "([BI)C"⟩
def RJ2 : String := "java/lang/StringUTF16"
abbrev cJ2_getChar_3b067 : ByteArray := prog_11_method_5_code
def yJ2_getChar_3b067 : MethodName := ⟨RJ2, "getChar", "([BI)C"⟩
abbrev cJ2_length_9d52b : ByteArray := prog_11_method_6_code
def yJ2_length_9d52b : MethodName := ⟨RJ2, "length", "([B)I"⟩
abbrev cJ2_charAt_3b067 : ByteArray := prog_11_method_83_code
def yJ2_charAt_3b067 : MethodName := ⟨RJ2, "charAt", "([BI)C"⟩
abbrev cJ2_checkIndex_2214a : ByteArray := prog_11_method_91_code
def yJ2_checkIndex_2214a : MethodName := ⟨RJ2, "checkIndex", "(I[B)V"⟩
def RJ10 : String := "java/lang/System"
def RJxfd54e : String := "java/lang/constant/Constable"
def RJx3cf43 : String := "java/lang/constant/ConstantDesc"
def RJ7 : String := "java/util/Arrays"
abbrev cJ7_fill_d0a16 : ByteArray := prog_13_method_101_code
def yJ7_fill_d0a16 : MethodName := ⟨RJ7, "fill", "([JJ)V"⟩
abbrev cJ7_fill_53178 : ByteArray := prog_13_method_103_code
def yJ7_fill_53178 : MethodName := ⟨RJ7, "fill", "([II)V"⟩
def RJ3 : String := "jdk/internal/util/Preconditions"
abbrev cJ3_checkIndex_8e157 : ByteArray := prog_14_method_11_code
def yJ3_checkIndex_8e157 : MethodName := ⟨RJ3, "checkIndex", "(IILjava/util/function/BiFunction;)I"⟩
abbrev vwCl : List vw_C := [(RX0, TX0, 14), (RX1, TX1, 4), (RX2, TX2, 6), (RX3, TX3, 12), (RX4, TX4, 36)]
