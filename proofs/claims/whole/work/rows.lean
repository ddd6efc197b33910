section
-- ===== PART A: goes FIRST, ahead of the names: the tables' words, and 'selects' of the private methods out of them =====
/-- a private method of a class that the tables say can be made, by its rows of tables_1 -/
def lw_okq (q : MethodName × Nat) : Prop := (q.1.cls ≠ "java/lang/invoke/MethodHandle" ∧ q.1.cls ≠ "java/lang/invoke/VarHandle") ∧ Cond.instantiable q.1.cls q.2 ∈ tables_1 ∧ Cond.privateMethod q.1 ∈ tables_1 ∧ Cond.instanceMethod q.1 ∈ tables_1
theorem lw_p0 : lw_okq (⟨"FogKept", "finding", "(I)I"⟩, 7) := ⟨⟨by decide +kernel, by decide +kernel⟩, List.mem_of_getElem? (i := 14) (by decide +kernel), List.mem_of_getElem? (i := 156) (by decide +kernel), List.mem_of_getElem? (i := 157) (by decide +kernel)⟩
theorem lw_p1 : lw_okq (⟨"FogKept$Moor", "bringAlong", "(I)V"⟩, 11) := ⟨⟨by decide +kernel, by decide +kernel⟩, List.mem_of_getElem? (i := 22) (by decide +kernel), List.mem_of_getElem? (i := 227) (by decide +kernel), List.mem_of_getElem? (i := 228) (by decide +kernel)⟩
theorem lw_p2 : lw_okq (⟨"FogKept", "areTwo", "(II)Z"⟩, 7) := ⟨⟨by decide +kernel, by decide +kernel⟩, List.mem_of_getElem? (i := 14) (by decide +kernel), List.mem_of_getElem? (i := 263) (by decide +kernel), List.mem_of_getElem? (i := 264) (by decide +kernel)⟩
theorem lw_p3 : lw_okq (⟨"FogKept$Moor", "lift", "()V"⟩, 11) := ⟨⟨by decide +kernel, by decide +kernel⟩, List.mem_of_getElem? (i := 22) (by decide +kernel), List.mem_of_getElem? (i := 299) (by decide +kernel), List.mem_of_getElem? (i := 300) (by decide +kernel)⟩
theorem lw_p4 : lw_okq (⟨"FogKept$Moor", "go", "(I)V"⟩, 11) := ⟨⟨by decide +kernel, by decide +kernel⟩, List.mem_of_getElem? (i := 22) (by decide +kernel), List.mem_of_getElem? (i := 303) (by decide +kernel), List.mem_of_getElem? (i := 304) (by decide +kernel)⟩
theorem lw_p5 : lw_okq (⟨"FogKept$Moor", "collide", "()V"⟩, 11) := ⟨⟨by decide +kernel, by decide +kernel⟩, List.mem_of_getElem? (i := 22) (by decide +kernel), List.mem_of_getElem? (i := 310) (by decide +kernel), List.mem_of_getElem? (i := 311) (by decide +kernel)⟩
theorem lw_p6 : lw_okq (⟨"FogKept$Moor", "nextFreeBeside", "(I)I"⟩, 11) := ⟨⟨by decide +kernel, by decide +kernel⟩, List.mem_of_getElem? (i := 22) (by decide +kernel), List.mem_of_getElem? (i := 314) (by decide +kernel), List.mem_of_getElem? (i := 315) (by decide +kernel)⟩
theorem lw_p7 : lw_okq (⟨"FogKept", "firstFromNow", "(III)I"⟩, 7) := ⟨⟨by decide +kernel, by decide +kernel⟩, List.mem_of_getElem? (i := 14) (by decide +kernel), List.mem_of_getElem? (i := 347) (by decide +kernel), List.mem_of_getElem? (i := 348) (by decide +kernel)⟩
theorem lw_p8 : lw_okq (⟨"FogKept", "firstInTrial", "(IIII)I"⟩, 7) := ⟨⟨by decide +kernel, by decide +kernel⟩, List.mem_of_getElem? (i := 14) (by decide +kernel), List.mem_of_getElem? (i := 351) (by decide +kernel), List.mem_of_getElem? (i := 352) (by decide +kernel)⟩
theorem lw_p9 : lw_okq (⟨"FogKept", "trialShows", "(III)Z"⟩, 7) := ⟨⟨by decide +kernel, by decide +kernel⟩, List.mem_of_getElem? (i := 14) (by decide +kernel), List.mem_of_getElem? (i := 355) (by decide +kernel), List.mem_of_getElem? (i := 356) (by decide +kernel)⟩
theorem lw_p10 : lw_okq (⟨"FogKept", "orNone", "(I)I"⟩, 7) := ⟨⟨by decide +kernel, by decide +kernel⟩, List.mem_of_getElem? (i := 14) (by decide +kernel), List.mem_of_getElem? (i := 361) (by decide +kernel), List.mem_of_getElem? (i := 362) (by decide +kernel)⟩
theorem lw_p11 : lw_okq (⟨"FogKept", "soonestChoice", "(IIIII)I"⟩, 7) := ⟨⟨by decide +kernel, by decide +kernel⟩, List.mem_of_getElem? (i := 14) (by decide +kernel), List.mem_of_getElem? (i := 382) (by decide +kernel), List.mem_of_getElem? (i := 383) (by decide +kernel)⟩
theorem lw_p12 : lw_okq (⟨"FogKept", "suppose", "(III)V"⟩, 7) := ⟨⟨by decide +kernel, by decide +kernel⟩, List.mem_of_getElem? (i := 14) (by decide +kernel), List.mem_of_getElem? (i := 386) (by decide +kernel), List.mem_of_getElem? (i := 387) (by decide +kernel)⟩
theorem lw_p13 : lw_okq (⟨"FogKept", "fullestChoice", "(IIII)I"⟩, 7) := ⟨⟨by decide +kernel, by decide +kernel⟩, List.mem_of_getElem? (i := 14) (by decide +kernel), List.mem_of_getElem? (i := 406) (by decide +kernel), List.mem_of_getElem? (i := 407) (by decide +kernel)⟩
theorem lw_p14 : lw_okq (⟨"FogKept$Tape", "look", "()V"⟩, 7) := ⟨⟨by decide +kernel, by decide +kernel⟩, List.mem_of_getElem? (i := 78) (by decide +kernel), List.mem_of_getElem? (i := 438) (by decide +kernel), List.mem_of_getElem? (i := 439) (by decide +kernel)⟩
theorem lw_p15 : lw_okq (⟨"FogKept$Tape", "weigh", "()V"⟩, 7) := ⟨⟨by decide +kernel, by decide +kernel⟩, List.mem_of_getElem? (i := 78) (by decide +kernel), List.mem_of_getElem? (i := 445) (by decide +kernel), List.mem_of_getElem? (i := 446) (by decide +kernel)⟩
def lw_privs_1 : List (MethodName × Nat) := [(⟨"FogKept", "finding", "(I)I"⟩, 7), (⟨"FogKept$Moor", "bringAlong", "(I)V"⟩, 11), (⟨"FogKept", "areTwo", "(II)Z"⟩, 7), (⟨"FogKept$Moor", "lift", "()V"⟩, 11), (⟨"FogKept$Moor", "go", "(I)V"⟩, 11), (⟨"FogKept$Moor", "collide", "()V"⟩, 11), (⟨"FogKept$Moor", "nextFreeBeside", "(I)I"⟩, 11), (⟨"FogKept", "firstFromNow", "(III)I"⟩, 7), (⟨"FogKept", "firstInTrial", "(IIII)I"⟩, 7), (⟨"FogKept", "trialShows", "(III)Z"⟩, 7), (⟨"FogKept", "orNone", "(I)I"⟩, 7), (⟨"FogKept", "soonestChoice", "(IIIII)I"⟩, 7), (⟨"FogKept", "suppose", "(III)V"⟩, 7), (⟨"FogKept", "fullestChoice", "(IIII)I"⟩, 7), (⟨"FogKept$Tape", "look", "()V"⟩, 7), (⟨"FogKept$Tape", "weigh", "()V"⟩, 7)]
theorem lw_r1 : ∀ q ∈ lw_privs_1, lw_okq q := List.forall_mem_cons.mpr ⟨lw_p0, List.forall_mem_cons.mpr ⟨lw_p1, List.forall_mem_cons.mpr ⟨lw_p2, List.forall_mem_cons.mpr ⟨lw_p3, List.forall_mem_cons.mpr ⟨lw_p4, List.forall_mem_cons.mpr ⟨lw_p5, List.forall_mem_cons.mpr ⟨lw_p6, List.forall_mem_cons.mpr ⟨lw_p7, List.forall_mem_cons.mpr ⟨lw_p8, List.forall_mem_cons.mpr ⟨lw_p9, List.forall_mem_cons.mpr ⟨lw_p10, List.forall_mem_cons.mpr ⟨lw_p11, List.forall_mem_cons.mpr ⟨lw_p12, List.forall_mem_cons.mpr ⟨lw_p13, List.forall_mem_cons.mpr ⟨lw_p14, List.forall_mem_cons.mpr ⟨lw_p15, fun _ h => absurd h List.not_mem_nil⟩⟩⟩⟩⟩⟩⟩⟩⟩⟩⟩⟩⟩⟩⟩⟩
theorem lw_p16 : lw_okq (⟨"FogKept$Tape", "takeItem", "(LFogKept$Moor;)Z"⟩, 7) := ⟨⟨by decide +kernel, by decide +kernel⟩, List.mem_of_getElem? (i := 78) (by decide +kernel), List.mem_of_getElem? (i := 452) (by decide +kernel), List.mem_of_getElem? (i := 453) (by decide +kernel)⟩
theorem lw_p17 : lw_okq (⟨"FogKept$Tape", "kindNamed", "()I"⟩, 7) := ⟨⟨by decide +kernel, by decide +kernel⟩, List.mem_of_getElem? (i := 78) (by decide +kernel), List.mem_of_getElem? (i := 456) (by decide +kernel), List.mem_of_getElem? (i := 457) (by decide +kernel)⟩
theorem lw_p18 : lw_okq (⟨"FogKept$Tape", "isWord", "(Ljava/lang/String;)Z"⟩, 7) := ⟨⟨by decide +kernel, by decide +kernel⟩, List.mem_of_getElem? (i := 78) (by decide +kernel), List.mem_of_getElem? (i := 469) (by decide +kernel), List.mem_of_getElem? (i := 470) (by decide +kernel)⟩
theorem lw_p19 : lw_okq (⟨"FogKept$Tape", "takeWalker", "(LFogKept$Moor;I)Z"⟩, 7) := ⟨⟨by decide +kernel, by decide +kernel⟩, List.mem_of_getElem? (i := 78) (by decide +kernel), List.mem_of_getElem? (i := 521) (by decide +kernel), List.mem_of_getElem? (i := 522) (by decide +kernel)⟩
theorem lw_p20 : lw_okq (⟨"FogKept$Tape", "takeWord", "(Ljava/lang/String;)Z"⟩, 7) := ⟨⟨by decide +kernel, by decide +kernel⟩, List.mem_of_getElem? (i := 78) (by decide +kernel), List.mem_of_getElem? (i := 527) (by decide +kernel), List.mem_of_getElem? (i := 528) (by decide +kernel)⟩
theorem lw_p21 : lw_okq (⟨"FogKept$Tape", "takeNumber", "(II)Z"⟩, 7) := ⟨⟨by decide +kernel, by decide +kernel⟩, List.mem_of_getElem? (i := 78) (by decide +kernel), List.mem_of_getElem? (i := 531) (by decide +kernel), List.mem_of_getElem? (i := 532) (by decide +kernel)⟩
theorem lw_p22 : lw_okq (⟨"FogKept$Tape", "takeDayHours", "(LFogKept$Moor;Z)Z"⟩, 7) := ⟨⟨by decide +kernel, by decide +kernel⟩, List.mem_of_getElem? (i := 78) (by decide +kernel), List.mem_of_getElem? (i := 540) (by decide +kernel), List.mem_of_getElem? (i := 541) (by decide +kernel)⟩
theorem lw_p23 : lw_okq (⟨"FogKept", "sheetOf", "(I)LFogKept$Sheet;"⟩, 7) := ⟨⟨by decide +kernel, by decide +kernel⟩, List.mem_of_getElem? (i := 14) (by decide +kernel), List.mem_of_getElem? (i := 552) (by decide +kernel), List.mem_of_getElem? (i := 553) (by decide +kernel)⟩
theorem lw_p24 : lw_okq (⟨"FogKept", "sheetAndWalkerFinding", "(II)I"⟩, 7) := ⟨⟨by decide +kernel, by decide +kernel⟩, List.mem_of_getElem? (i := 14) (by decide +kernel), List.mem_of_getElem? (i := 592) (by decide +kernel), List.mem_of_getElem? (i := 593) (by decide +kernel)⟩
theorem lw_p25 : lw_okq (⟨"FogKept", "trialGoesBy", "(LFogKept$Sheet;I)Z"⟩, 7) := ⟨⟨by decide +kernel, by decide +kernel⟩, List.mem_of_getElem? (i := 14) (by decide +kernel), List.mem_of_getElem? (i := 600) (by decide +kernel), List.mem_of_getElem? (i := 601) (by decide +kernel)⟩
theorem lw_p26 : lw_okq (⟨"FogKeptModel", "becomes", "(II)I"⟩, 18) := ⟨⟨by decide +kernel, by decide +kernel⟩, List.mem_of_getElem? (i := 624) (by decide +kernel), List.mem_of_getElem? (i := 693) (by decide +kernel), List.mem_of_getElem? (i := 694) (by decide +kernel)⟩
theorem lw_p27 : lw_okq (⟨"FogKeptModel", "finds", "(I)I"⟩, 18) := ⟨⟨by decide +kernel, by decide +kernel⟩, List.mem_of_getElem? (i := 624) (by decide +kernel), List.mem_of_getElem? (i := 698) (by decide +kernel), List.mem_of_getElem? (i := 699) (by decide +kernel)⟩
theorem lw_p28 : lw_okq (⟨"FogKeptModel", "thoseAt", "(I)I"⟩, 18) := ⟨⟨by decide +kernel, by decide +kernel⟩, List.mem_of_getElem? (i := 624) (by decide +kernel), List.mem_of_getElem? (i := 714) (by decide +kernel), List.mem_of_getElem? (i := 715) (by decide +kernel)⟩
theorem lw_p29 : lw_okq (⟨"FogKeptModel", "its", "(II)I"⟩, 18) := ⟨⟨by decide +kernel, by decide +kernel⟩, List.mem_of_getElem? (i := 624) (by decide +kernel), List.mem_of_getElem? (i := 718) (by decide +kernel), List.mem_of_getElem? (i := 719) (by decide +kernel)⟩
theorem lw_p30 : lw_okq (⟨"FogKeptModel", "adds", "(II)I"⟩, 18) := ⟨⟨by decide +kernel, by decide +kernel⟩, List.mem_of_getElem? (i := 624) (by decide +kernel), List.mem_of_getElem? (i := 734) (by decide +kernel), List.mem_of_getElem? (i := 735) (by decide +kernel)⟩
theorem lw_p31 : lw_okq (⟨"FogKeptModel", "isWalker", "(I)Z"⟩, 18) := ⟨⟨by decide +kernel, by decide +kernel⟩, List.mem_of_getElem? (i := 624) (by decide +kernel), List.mem_of_getElem? (i := 742) (by decide +kernel), List.mem_of_getElem? (i := 743) (by decide +kernel)⟩
def lw_privs_2 : List (MethodName × Nat) := [(⟨"FogKept$Tape", "takeItem", "(LFogKept$Moor;)Z"⟩, 7), (⟨"FogKept$Tape", "kindNamed", "()I"⟩, 7), (⟨"FogKept$Tape", "isWord", "(Ljava/lang/String;)Z"⟩, 7), (⟨"FogKept$Tape", "takeWalker", "(LFogKept$Moor;I)Z"⟩, 7), (⟨"FogKept$Tape", "takeWord", "(Ljava/lang/String;)Z"⟩, 7), (⟨"FogKept$Tape", "takeNumber", "(II)Z"⟩, 7), (⟨"FogKept$Tape", "takeDayHours", "(LFogKept$Moor;Z)Z"⟩, 7), (⟨"FogKept", "sheetOf", "(I)LFogKept$Sheet;"⟩, 7), (⟨"FogKept", "sheetAndWalkerFinding", "(II)I"⟩, 7), (⟨"FogKept", "trialGoesBy", "(LFogKept$Sheet;I)Z"⟩, 7), (⟨"FogKeptModel", "becomes", "(II)I"⟩, 18), (⟨"FogKeptModel", "finds", "(I)I"⟩, 18), (⟨"FogKeptModel", "thoseAt", "(I)I"⟩, 18), (⟨"FogKeptModel", "its", "(II)I"⟩, 18), (⟨"FogKeptModel", "adds", "(II)I"⟩, 18), (⟨"FogKeptModel", "isWalker", "(I)Z"⟩, 18)]
theorem lw_r2 : ∀ q ∈ lw_privs_2, lw_okq q := List.forall_mem_cons.mpr ⟨lw_p16, List.forall_mem_cons.mpr ⟨lw_p17, List.forall_mem_cons.mpr ⟨lw_p18, List.forall_mem_cons.mpr ⟨lw_p19, List.forall_mem_cons.mpr ⟨lw_p20, List.forall_mem_cons.mpr ⟨lw_p21, List.forall_mem_cons.mpr ⟨lw_p22, List.forall_mem_cons.mpr ⟨lw_p23, List.forall_mem_cons.mpr ⟨lw_p24, List.forall_mem_cons.mpr ⟨lw_p25, List.forall_mem_cons.mpr ⟨lw_p26, List.forall_mem_cons.mpr ⟨lw_p27, List.forall_mem_cons.mpr ⟨lw_p28, List.forall_mem_cons.mpr ⟨lw_p29, List.forall_mem_cons.mpr ⟨lw_p30, List.forall_mem_cons.mpr ⟨lw_p31, fun _ h => absurd h List.not_mem_nil⟩⟩⟩⟩⟩⟩⟩⟩⟩⟩⟩⟩⟩⟩⟩⟩
theorem lw_p32 : lw_okq (⟨"FogKeptModel", "stepsOf", "(I)I"⟩, 18) := ⟨⟨by decide +kernel, by decide +kernel⟩, List.mem_of_getElem? (i := 624) (by decide +kernel), List.mem_of_getElem? (i := 747) (by decide +kernel), List.mem_of_getElem? (i := 748) (by decide +kernel)⟩
theorem lw_p33 : lw_okq (⟨"FogKeptModel", "turnsOf", "(I)I"⟩, 18) := ⟨⟨by decide +kernel, by decide +kernel⟩, List.mem_of_getElem? (i := 624) (by decide +kernel), List.mem_of_getElem? (i := 751) (by decide +kernel), List.mem_of_getElem? (i := 752) (by decide +kernel)⟩
theorem lw_p34 : lw_okq (⟨"FogKeptModel", "comesTo", "(II)V"⟩, 18) := ⟨⟨by decide +kernel, by decide +kernel⟩, List.mem_of_getElem? (i := 624) (by decide +kernel), List.mem_of_getElem? (i := 764) (by decide +kernel), List.mem_of_getElem? (i := 765) (by decide +kernel)⟩
theorem lw_p35 : lw_okq (⟨"FogKeptModel", "isFree", "(I)Z"⟩, 18) := ⟨⟨by decide +kernel, by decide +kernel⟩, List.mem_of_getElem? (i := 624) (by decide +kernel), List.mem_of_getElem? (i := 768) (by decide +kernel), List.mem_of_getElem? (i := 769) (by decide +kernel)⟩
theorem lw_p36 : lw_okq (⟨"FogKeptModel", "lets", "(I)I"⟩, 18) := ⟨⟨by decide +kernel, by decide +kernel⟩, List.mem_of_getElem? (i := 624) (by decide +kernel), List.mem_of_getElem? (i := 789) (by decide +kernel), List.mem_of_getElem? (i := 790) (by decide +kernel)⟩
theorem lw_p37 : lw_okq (⟨"FogKeptModel", "isFreed", "(I)V"⟩, 18) := ⟨⟨by decide +kernel, by decide +kernel⟩, List.mem_of_getElem? (i := 624) (by decide +kernel), List.mem_of_getElem? (i := 793) (by decide +kernel), List.mem_of_getElem? (i := 794) (by decide +kernel)⟩
theorem lw_p38 : lw_okq (⟨"FogKeptModel", "areTwo", "(II)Z"⟩, 18) := ⟨⟨by decide +kernel, by decide +kernel⟩, List.mem_of_getElem? (i := 624) (by decide +kernel), List.mem_of_getElem? (i := 801) (by decide +kernel), List.mem_of_getElem? (i := 802) (by decide +kernel)⟩
theorem lw_p39 : lw_okq (⟨"FogKeptModel", "keeps", "(II)V"⟩, 18) := ⟨⟨by decide +kernel, by decide +kernel⟩, List.mem_of_getElem? (i := 624) (by decide +kernel), List.mem_of_getElem? (i := 805) (by decide +kernel), List.mem_of_getElem? (i := 806) (by decide +kernel)⟩
theorem lw_p40 : lw_okq (⟨"FogKeptModel", "thoseKept", "()I"⟩, 18) := ⟨⟨by decide +kernel, by decide +kernel⟩, List.mem_of_getElem? (i := 624) (by decide +kernel), List.mem_of_getElem? (i := 809) (by decide +kernel), List.mem_of_getElem? (i := 810) (by decide +kernel)⟩
theorem lw_p41 : lw_okq (⟨"FogKeptModel", "hoursGo", "(I)V"⟩, 18) := ⟨⟨by decide +kernel, by decide +kernel⟩, List.mem_of_getElem? (i := 624) (by decide +kernel), List.mem_of_getElem? (i := 822) (by decide +kernel), List.mem_of_getElem? (i := 823) (by decide +kernel)⟩
theorem lw_p42 : lw_okq (⟨"FogKeptModel", "goesHour", "()V"⟩, 18) := ⟨⟨by decide +kernel, by decide +kernel⟩, List.mem_of_getElem? (i := 624) (by decide +kernel), List.mem_of_getElem? (i := 826) (by decide +kernel), List.mem_of_getElem? (i := 827) (by decide +kernel)⟩
theorem lw_p43 : lw_okq (⟨"FogKeptModel", "isFoggy", "()Z"⟩, 18) := ⟨⟨by decide +kernel, by decide +kernel⟩, List.mem_of_getElem? (i := 624) (by decide +kernel), List.mem_of_getElem? (i := 830) (by decide +kernel), List.mem_of_getElem? (i := 831) (by decide +kernel)⟩
theorem lw_p44 : lw_okq (⟨"FogKeptModel", "goes", "(I)V"⟩, 18) := ⟨⟨by decide +kernel, by decide +kernel⟩, List.mem_of_getElem? (i := 624) (by decide +kernel), List.mem_of_getElem? (i := 834) (by decide +kernel), List.mem_of_getElem? (i := 835) (by decide +kernel)⟩
theorem lw_p45 : lw_okq (⟨"FogKeptModel", "turns", "(I)V"⟩, 18) := ⟨⟨by decide +kernel, by decide +kernel⟩, List.mem_of_getElem? (i := 624) (by decide +kernel), List.mem_of_getElem? (i := 838) (by decide +kernel), List.mem_of_getElem? (i := 839) (by decide +kernel)⟩
theorem lw_p46 : lw_okq (⟨"FogKeptModel", "meetAt", "(I)V"⟩, 18) := ⟨⟨by decide +kernel, by decide +kernel⟩, List.mem_of_getElem? (i := 624) (by decide +kernel), List.mem_of_getElem? (i := 845) (by decide +kernel), List.mem_of_getElem? (i := 846) (by decide +kernel)⟩
theorem lw_p47 : lw_okq (⟨"FogKeptModel", "thoseGlad", "()I"⟩, 18) := ⟨⟨by decide +kernel, by decide +kernel⟩, List.mem_of_getElem? (i := 624) (by decide +kernel), List.mem_of_getElem? (i := 853) (by decide +kernel), List.mem_of_getElem? (i := 854) (by decide +kernel)⟩
def lw_privs_3 : List (MethodName × Nat) := [(⟨"FogKeptModel", "stepsOf", "(I)I"⟩, 18), (⟨"FogKeptModel", "turnsOf", "(I)I"⟩, 18), (⟨"FogKeptModel", "comesTo", "(II)V"⟩, 18), (⟨"FogKeptModel", "isFree", "(I)Z"⟩, 18), (⟨"FogKeptModel", "lets", "(I)I"⟩, 18), (⟨"FogKeptModel", "isFreed", "(I)V"⟩, 18), (⟨"FogKeptModel", "areTwo", "(II)Z"⟩, 18), (⟨"FogKeptModel", "keeps", "(II)V"⟩, 18), (⟨"FogKeptModel", "thoseKept", "()I"⟩, 18), (⟨"FogKeptModel", "hoursGo", "(I)V"⟩, 18), (⟨"FogKeptModel", "goesHour", "()V"⟩, 18), (⟨"FogKeptModel", "isFoggy", "()Z"⟩, 18), (⟨"FogKeptModel", "goes", "(I)V"⟩, 18), (⟨"FogKeptModel", "turns", "(I)V"⟩, 18), (⟨"FogKeptModel", "meetAt", "(I)V"⟩, 18), (⟨"FogKeptModel", "thoseGlad", "()I"⟩, 18)]
theorem lw_r3 : ∀ q ∈ lw_privs_3, lw_okq q := List.forall_mem_cons.mpr ⟨lw_p32, List.forall_mem_cons.mpr ⟨lw_p33, List.forall_mem_cons.mpr ⟨lw_p34, List.forall_mem_cons.mpr ⟨lw_p35, List.forall_mem_cons.mpr ⟨lw_p36, List.forall_mem_cons.mpr ⟨lw_p37, List.forall_mem_cons.mpr ⟨lw_p38, List.forall_mem_cons.mpr ⟨lw_p39, List.forall_mem_cons.mpr ⟨lw_p40, List.forall_mem_cons.mpr ⟨lw_p41, List.forall_mem_cons.mpr ⟨lw_p42, List.forall_mem_cons.mpr ⟨lw_p43, List.forall_mem_cons.mpr ⟨lw_p44, List.forall_mem_cons.mpr ⟨lw_p45, List.forall_mem_cons.mpr ⟨lw_p46, List.forall_mem_cons.mpr ⟨lw_p47, fun _ h => absurd h List.not_mem_nil⟩⟩⟩⟩⟩⟩⟩⟩⟩⟩⟩⟩⟩⟩⟩⟩
theorem lw_p48 : lw_okq (⟨"FogKeptModel", "isGlad", "(I)Z"⟩, 18) := ⟨⟨by decide +kernel, by decide +kernel⟩, List.mem_of_getElem? (i := 624) (by decide +kernel), List.mem_of_getElem? (i := 857) (by decide +kernel), List.mem_of_getElem? (i := 858) (by decide +kernel)⟩
theorem lw_p49 : lw_okq (⟨"FogKeptModel", "laysAside", "()V"⟩, 18) := ⟨⟨by decide +kernel, by decide +kernel⟩, List.mem_of_getElem? (i := 624) (by decide +kernel), List.mem_of_getElem? (i := 866) (by decide +kernel), List.mem_of_getElem? (i := 867) (by decide +kernel)⟩
theorem lw_p50 : lw_okq (⟨"FogKeptModel", "takesBack", "(I)I"⟩, 18) := ⟨⟨by decide +kernel, by decide +kernel⟩, List.mem_of_getElem? (i := 624) (by decide +kernel), List.mem_of_getElem? (i := 870) (by decide +kernel), List.mem_of_getElem? (i := 871) (by decide +kernel)⟩
theorem lw_p51 : lw_okq (⟨"FogKeptModel", "foundSo", "(III)I"⟩, 18) := ⟨⟨by decide +kernel, by decide +kernel⟩, List.mem_of_getElem? (i := 624) (by decide +kernel), List.mem_of_getElem? (i := 878) (by decide +kernel), List.mem_of_getElem? (i := 879) (by decide +kernel)⟩
theorem lw_p52 : lw_okq (⟨"FogKeptModel", "firstSo", "(IIII)I"⟩, 18) := ⟨⟨by decide +kernel, by decide +kernel⟩, List.mem_of_getElem? (i := 624) (by decide +kernel), List.mem_of_getElem? (i := 882) (by decide +kernel), List.mem_of_getElem? (i := 883) (by decide +kernel)⟩
theorem lw_p53 : lw_okq (⟨"FogKeptModel", "isSo", "(III)Z"⟩, 18) := ⟨⟨by decide +kernel, by decide +kernel⟩, List.mem_of_getElem? (i := 624) (by decide +kernel), List.mem_of_getElem? (i := 886) (by decide +kernel), List.mem_of_getElem? (i := 887) (by decide +kernel)⟩
theorem lw_p54 : lw_okq (⟨"FogKeptModel", "begins", "(I)V"⟩, 18) := ⟨⟨by decide +kernel, by decide +kernel⟩, List.mem_of_getElem? (i := 624) (by decide +kernel), List.mem_of_getElem? (i := 907) (by decide +kernel), List.mem_of_getElem? (i := 908) (by decide +kernel)⟩
theorem lw_p55 : lw_okq (⟨"FogKeptModel", "tries", "(II)V"⟩, 18) := ⟨⟨by decide +kernel, by decide +kernel⟩, List.mem_of_getElem? (i := 624) (by decide +kernel), List.mem_of_getElem? (i := 911) (by decide +kernel), List.mem_of_getElem? (i := 912) (by decide +kernel)⟩
theorem lw_p56 : lw_okq (⟨"FogKeptModel", "bestOrNone", "()I"⟩, 18) := ⟨⟨by decide +kernel, by decide +kernel⟩, List.mem_of_getElem? (i := 624) (by decide +kernel), List.mem_of_getElem? (i := 915) (by decide +kernel), List.mem_of_getElem? (i := 916) (by decide +kernel)⟩
theorem lw_p57 : lw_okq (⟨"FogKeptModel", "saves", "()V"⟩, 18) := ⟨⟨by decide +kernel, by decide +kernel⟩, List.mem_of_getElem? (i := 624) (by decide +kernel), List.mem_of_getElem? (i := 957) (by decide +kernel), List.mem_of_getElem? (i := 958) (by decide +kernel)⟩
theorem lw_p58 : lw_okq (⟨"FogKeptModel", "token", "()V"⟩, 18) := ⟨⟨by decide +kernel, by decide +kernel⟩, List.mem_of_getElem? (i := 624) (by decide +kernel), List.mem_of_getElem? (i := 961) (by decide +kernel), List.mem_of_getElem? (i := 962) (by decide +kernel)⟩
theorem lw_p59 : lw_okq (⟨"FogKeptModel", "byteAt", "(I)I"⟩, 18) := ⟨⟨by decide +kernel, by decide +kernel⟩, List.mem_of_getElem? (i := 624) (by decide +kernel), List.mem_of_getElem? (i := 965) (by decide +kernel), List.mem_of_getElem? (i := 966) (by decide +kernel)⟩
theorem lw_p60 : lw_okq (⟨"FogKeptModel", "item", "()V"⟩, 18) := ⟨⟨by decide +kernel, by decide +kernel⟩, List.mem_of_getElem? (i := 624) (by decide +kernel), List.mem_of_getElem? (i := 979) (by decide +kernel), List.mem_of_getElem? (i := 980) (by decide +kernel)⟩
theorem lw_p61 : lw_okq (⟨"FogKeptModel", "kindHere", "()I"⟩, 18) := ⟨⟨by decide +kernel, by decide +kernel⟩, List.mem_of_getElem? (i := 624) (by decide +kernel), List.mem_of_getElem? (i := 983) (by decide +kernel), List.mem_of_getElem? (i := 984) (by decide +kernel)⟩
theorem lw_p62 : lw_okq (⟨"FogKeptModel", "word", "()J"⟩, 18) := ⟨⟨by decide +kernel, by decide +kernel⟩, List.mem_of_getElem? (i := 624) (by decide +kernel), List.mem_of_getElem? (i := 987) (by decide +kernel), List.mem_of_getElem? (i := 988) (by decide +kernel)⟩
theorem lw_p63 : lw_okq (⟨"FogKeptModel", "walkerItem", "(I)V"⟩, 18) := ⟨⟨by decide +kernel, by decide +kernel⟩, List.mem_of_getElem? (i := 624) (by decide +kernel), List.mem_of_getElem? (i := 1000) (by decide +kernel), List.mem_of_getElem? (i := 1001) (by decide +kernel)⟩
def lw_privs_4 : List (MethodName × Nat) := [(⟨"FogKeptModel", "isGlad", "(I)Z"⟩, 18), (⟨"FogKeptModel", "laysAside", "()V"⟩, 18), (⟨"FogKeptModel", "takesBack", "(I)I"⟩, 18), (⟨"FogKeptModel", "foundSo", "(III)I"⟩, 18), (⟨"FogKeptModel", "firstSo", "(IIII)I"⟩, 18), (⟨"FogKeptModel", "isSo", "(III)Z"⟩, 18), (⟨"FogKeptModel", "begins", "(I)V"⟩, 18), (⟨"FogKeptModel", "tries", "(II)V"⟩, 18), (⟨"FogKeptModel", "bestOrNone", "()I"⟩, 18), (⟨"FogKeptModel", "saves", "()V"⟩, 18), (⟨"FogKeptModel", "token", "()V"⟩, 18), (⟨"FogKeptModel", "byteAt", "(I)I"⟩, 18), (⟨"FogKeptModel", "item", "()V"⟩, 18), (⟨"FogKeptModel", "kindHere", "()I"⟩, 18), (⟨"FogKeptModel", "word", "()J"⟩, 18), (⟨"FogKeptModel", "walkerItem", "(I)V"⟩, 18)]
theorem lw_r4 : ∀ q ∈ lw_privs_4, lw_okq q := List.forall_mem_cons.mpr ⟨lw_p48, List.forall_mem_cons.mpr ⟨lw_p49, List.forall_mem_cons.mpr ⟨lw_p50, List.forall_mem_cons.mpr ⟨lw_p51, List.forall_mem_cons.mpr ⟨lw_p52, List.forall_mem_cons.mpr ⟨lw_p53, List.forall_mem_cons.mpr ⟨lw_p54, List.forall_mem_cons.mpr ⟨lw_p55, List.forall_mem_cons.mpr ⟨lw_p56, List.forall_mem_cons.mpr ⟨lw_p57, List.forall_mem_cons.mpr ⟨lw_p58, List.forall_mem_cons.mpr ⟨lw_p59, List.forall_mem_cons.mpr ⟨lw_p60, List.forall_mem_cons.mpr ⟨lw_p61, List.forall_mem_cons.mpr ⟨lw_p62, List.forall_mem_cons.mpr ⟨lw_p63, fun _ h => absurd h List.not_mem_nil⟩⟩⟩⟩⟩⟩⟩⟩⟩⟩⟩⟩⟩⟩⟩⟩
theorem lw_p64 : lw_okq (⟨"FogKeptModel", "must", "(Z)V"⟩, 18) := ⟨⟨by decide +kernel, by decide +kernel⟩, List.mem_of_getElem? (i := 624) (by decide +kernel), List.mem_of_getElem? (i := 1004) (by decide +kernel), List.mem_of_getElem? (i := 1005) (by decide +kernel)⟩
theorem lw_p65 : lw_okq (⟨"FogKeptModel", "number", "(II)V"⟩, 18) := ⟨⟨by decide +kernel, by decide +kernel⟩, List.mem_of_getElem? (i := 624) (by decide +kernel), List.mem_of_getElem? (i := 1009) (by decide +kernel), List.mem_of_getElem? (i := 1010) (by decide +kernel)⟩
theorem lw_p66 : lw_okq (⟨"FogKeptModel", "partItem", "(JII)V"⟩, 18) := ⟨⟨by decide +kernel, by decide +kernel⟩, List.mem_of_getElem? (i := 624) (by decide +kernel), List.mem_of_getElem? (i := 1014) (by decide +kernel), List.mem_of_getElem? (i := 1015) (by decide +kernel)⟩
theorem lw_p67 : lw_okq (⟨"FogKeptModel", "fogItem", "(Z)V"⟩, 18) := ⟨⟨by decide +kernel, by decide +kernel⟩, List.mem_of_getElem? (i := 624) (by decide +kernel), List.mem_of_getElem? (i := 1020) (by decide +kernel), List.mem_of_getElem? (i := 1021) (by decide +kernel)⟩
theorem lw_p68 : lw_okq (⟨"FogKeptModel", "putsBack", "()V"⟩, 18) := ⟨⟨by decide +kernel, by decide +kernel⟩, List.mem_of_getElem? (i := 624) (by decide +kernel), List.mem_of_getElem? (i := 1026) (by decide +kernel), List.mem_of_getElem? (i := 1027) (by decide +kernel)⟩
theorem lw_p69 : lw_okq (⟨"FogKeptModel", "wrongSheet", "(I)I"⟩, 18) := ⟨⟨by decide +kernel, by decide +kernel⟩, List.mem_of_getElem? (i := 624) (by decide +kernel), List.mem_of_getElem? (i := 1042) (by decide +kernel), List.mem_of_getElem? (i := 1043) (by decide +kernel)⟩
theorem lw_p70 : lw_okq (⟨"FogKeptModel", "wrongBook", "(II)I"⟩, 18) := ⟨⟨by decide +kernel, by decide +kernel⟩, List.mem_of_getElem? (i := 624) (by decide +kernel), List.mem_of_getElem? (i := 1062) (by decide +kernel), List.mem_of_getElem? (i := 1063) (by decide +kernel)⟩
theorem lw_p71 : lw_okq (⟨"FogKeptModel", "isBook", "(II)Z"⟩, 18) := ⟨⟨by decide +kernel, by decide +kernel⟩, List.mem_of_getElem? (i := 624) (by decide +kernel), List.mem_of_getElem? (i := 1070) (by decide +kernel), List.mem_of_getElem? (i := 1071) (by decide +kernel)⟩
def lw_privs_5 : List (MethodName × Nat) := [(⟨"FogKeptModel", "must", "(Z)V"⟩, 18), (⟨"FogKeptModel", "number", "(II)V"⟩, 18), (⟨"FogKeptModel", "partItem", "(JII)V"⟩, 18), (⟨"FogKeptModel", "fogItem", "(Z)V"⟩, 18), (⟨"FogKeptModel", "putsBack", "()V"⟩, 18), (⟨"FogKeptModel", "wrongSheet", "(I)I"⟩, 18), (⟨"FogKeptModel", "wrongBook", "(II)I"⟩, 18), (⟨"FogKeptModel", "isBook", "(II)Z"⟩, 18)]
theorem lw_r5 : ∀ q ∈ lw_privs_5, lw_okq q := List.forall_mem_cons.mpr ⟨lw_p64, List.forall_mem_cons.mpr ⟨lw_p65, List.forall_mem_cons.mpr ⟨lw_p66, List.forall_mem_cons.mpr ⟨lw_p67, List.forall_mem_cons.mpr ⟨lw_p68, List.forall_mem_cons.mpr ⟨lw_p69, List.forall_mem_cons.mpr ⟨lw_p70, List.forall_mem_cons.mpr ⟨lw_p71, fun _ h => absurd h List.not_mem_nil⟩⟩⟩⟩⟩⟩⟩⟩
def lw_privs : List (MethodName × Nat) := lw_privs_1 ++ (lw_privs_2 ++ (lw_privs_3 ++ (lw_privs_4 ++ (lw_privs_5))))
def lw_tbl : List Cond := k2_sels lw_privs ++ tables_1
theorem lw_privs_ok : ∀ q ∈ lw_privs, lw_okq q := by
  show ∀ q ∈ lw_privs_1 ++ (lw_privs_2 ++ (lw_privs_3 ++ (lw_privs_4 ++ (lw_privs_5)))), lw_okq q
  exact List.forall_mem_append.mpr ⟨lw_r1, List.forall_mem_append.mpr ⟨lw_r2, List.forall_mem_append.mpr ⟨lw_r3, List.forall_mem_append.mpr ⟨lw_r4, lw_r5⟩⟩⟩⟩
end
section
def RX0 : String := "FogKept$Moor"
def TX0 : u_T := fun k => match k with
  | 0 => ("FogKept$Moor", "time", "I", false)
  | 1 => ("FogKept$Moor", "fogHours", "I", false)
  | 2 => ("FogKept$Moor", "villageCell", "I", false)
  | 3 => ("FogKept$Moor", "walkers", "I", false)
  | 4 => ("FogKept$Moor", "kinds", "[I", true)
  | 5 => ("FogKept$Moor", "cells", "[I", true)
  | 6 => ("FogKept$Moor", "starts", "[I", true)
  | 7 => ("FogKept$Moor", "headings", "[I", true)
  | 8 => ("FogKept$Moor", "hopes", "[I", true)
  | 9 => ("FogKept$Moor", "partners", "[I", true)
  | _ => ("FogKept$Moor", "names", "[I", true)
def tyX0 : Nat → FieldType := fun k => match k with
  | 0 => .int
  | 1 => .int
  | 2 => .int
  | 3 => .int
  | 4 => .array .int
  | 5 => .array .int
  | 6 => .array .int
  | 7 => .array .int
  | 8 => .array .int
  | 9 => .array .int
  | _ => .array .int
abbrev wsX00 : List Cond := u_ws RX0 TX0 11
theorem nmX0 : ∀ a, a < 11 → ∀ b, b < 11 → a ≠ b → (TX0 a).2.1 ≠ (TX0 b).2.1 := by decide +kernel
theorem tyX0_ok : ∀ k, k < 11 → parseFieldDescriptor (TX0 k).2.2.1 = some (tyX0 k) := by decide +kernel
abbrev cX0_init : ByteArray := prog_2_method_1_code
def yX0_init : MethodName := ⟨RX0, "<init>", "()V"⟩
abbrev cX0_takeFrom : ByteArray := prog_2_method_2_code
def yX0_takeFrom : MethodName := ⟨RX0, "takeFrom", "(LFogKept$Moor;)V"⟩
abbrev cX0_has : ByteArray := prog_2_method_3_code
def yX0_has : MethodName := ⟨RX0, "has", "(I)Z"⟩
abbrev cX0_hasRoom : ByteArray := prog_2_method_4_code
def yX0_hasRoom : MethodName := ⟨RX0, "hasRoom", "()Z"⟩
abbrev cX0_come : ByteArray := prog_2_method_5_code
def yX0_come : MethodName := ⟨RX0, "come", "(II)I"⟩
abbrev cX0_tell : ByteArray := prog_2_method_6_code
def yX0_tell : MethodName := ⟨RX0, "tell", "(II)I"⟩
abbrev cX0_isFree : ByteArray := prog_2_method_7_code
def yX0_isFree : MethodName := ⟨RX0, "isFree", "(I)Z"⟩
abbrev cX0_isGlad : ByteArray := prog_2_method_8_code
def yX0_isGlad : MethodName := ⟨RX0, "isGlad", "(I)Z"⟩
abbrev cX0_isFoggy : ByteArray := prog_2_method_9_code
def yX0_isFoggy : MethodName := ⟨RX0, "isFoggy", "()Z"⟩
abbrev cX0_setAt : ByteArray := prog_2_method_10_code
def yX0_setAt : MethodName := ⟨RX0, "setAt", "(I)I"⟩
abbrev cX0_keptSet : ByteArray := prog_2_method_11_code
def yX0_keptSet : MethodName := ⟨RX0, "keptSet", "()I"⟩
abbrev cX0_gladSet : ByteArray := prog_2_method_12_code
def yX0_gladSet : MethodName := ⟨RX0, "gladSet", "()I"⟩
abbrev cX0_moveTo : ByteArray := prog_2_method_13_code
def yX0_moveTo : MethodName := ⟨RX0, "moveTo", "(II)V"⟩
abbrev cX0_release : ByteArray := prog_2_method_14_code
def yX0_release : MethodName := ⟨RX0, "release", "(I)V"⟩
abbrev cX0_keepTwo : ByteArray := prog_2_method_15_code
def yX0_keepTwo : MethodName := ⟨RX0, "keepTwo", "(II)V"⟩
abbrev cX0_pass : ByteArray := prog_2_method_16_code
def yX0_pass : MethodName := ⟨RX0, "pass", "(I)V"⟩
abbrev cX0_passHour : ByteArray := prog_2_method_17_code
def yX0_passHour : MethodName := ⟨RX0, "passHour", "()V"⟩
abbrev cX0_lift : ByteArray := prog_2_method_18_code
def yX0_lift : MethodName := ⟨RX0, "lift", "()V"⟩
abbrev cX0_go : ByteArray := prog_2_method_19_code
def yX0_go : MethodName := ⟨RX0, "go", "(I)V"⟩
abbrev cX0_bringAlong : ByteArray := prog_2_method_20_code
def yX0_bringAlong : MethodName := ⟨RX0, "bringAlong", "(I)V"⟩
abbrev cX0_collide : ByteArray := prog_2_method_21_code
def yX0_collide : MethodName := ⟨RX0, "collide", "()V"⟩
abbrev cX0_nextFreeBeside : ByteArray := prog_2_method_22_code
def yX0_nextFreeBeside : MethodName := ⟨RX0, "nextFreeBeside", "(I)I"⟩
def RX1 : String := "FogKept$Sheet"
def TX1 : u_T := fun k => match k with
  | 0 => ("FogKept$Sheet", "bits", "I", false)
  | 1 => ("FogKept$Sheet", "size", "I", false)
  | _ => ("FogKept$Sheet", "numbers", "[J", true)
def tyX1 : Nat → FieldType := fun k => match k with
  | 0 => .int
  | 1 => .int
  | _ => .array .long
abbrev wsX10 : List Cond := u_ws RX1 TX1 3
theorem nmX1 : ∀ a, a < 3 → ∀ b, b < 3 → a ≠ b → (TX1 a).2.1 ≠ (TX1 b).2.1 := by decide +kernel
theorem tyX1_ok : ∀ k, k < 3 → parseFieldDescriptor (TX1 k).2.2.1 = some (tyX1 k) := by decide +kernel
abbrev cX1_init : ByteArray := prog_3_method_1_code
def yX1_init : MethodName := ⟨RX1, "<init>", "()V"⟩
abbrev cX1_isMissing : ByteArray := prog_3_method_2_code
def yX1_isMissing : MethodName := ⟨RX1, "isMissing", "()Z"⟩
abbrev cX1_layOut : ByteArray := prog_3_method_3_code
def yX1_layOut : MethodName := ⟨RX1, "layOut", "(II)V"⟩
abbrev cX1_put : ByteArray := prog_3_method_4_code
def yX1_put : MethodName := ⟨RX1, "put", "(IJ)V"⟩
abbrev cX1_hasRun : ByteArray := prog_3_method_5_code
def yX1_hasRun : MethodName := ⟨RX1, "hasRun", "(II)Z"⟩
def RX2 : String := "FogKept$Tape"
def TX2 : u_T := fun k => match k with
  | 0 => ("FogKept$Tape", "length", "I", false)
  | 1 => ("FogKept$Tape", "bytes", "[I", true)
  | 2 => ("FogKept$Tape", "type", "I", false)
  | 3 => ("FogKept$Tape", "start", "I", false)
  | 4 => ("FogKept$Tape", "behind", "I", false)
  | 5 => ("FogKept$Tape", "value", "I", false)
  | _ => ("FogKept$Tape", "taken", "I", false)
def tyX2 : Nat → FieldType := fun k => match k with
  | 0 => .int
  | 1 => .array .int
  | 2 => .int
  | 3 => .int
  | 4 => .int
  | 5 => .int
  | _ => .int
abbrev wsX20 : List Cond := u_ws RX2 TX2 7
theorem nmX2 : ∀ a, a < 7 → ∀ b, b < 7 → a ≠ b → (TX2 a).2.1 ≠ (TX2 b).2.1 := by decide +kernel
theorem tyX2_ok : ∀ k, k < 7 → parseFieldDescriptor (TX2 k).2.2.1 = some (tyX2 k) := by decide +kernel
abbrev cX2_init : ByteArray := prog_4_method_1_code
def yX2_init : MethodName := ⟨RX2, "<init>", "()V"⟩
abbrev cX2_append : ByteArray := prog_4_method_2_code
def yX2_append : MethodName := ⟨RX2, "append", "(II)V"⟩
abbrev cX2_tellItems : ByteArray := prog_4_method_3_code
def yX2_tellItems : MethodName := ⟨RX2, "tellItems", "(LFogKept$Moor;)I"⟩
abbrev cX2_takeItem : ByteArray := prog_4_method_4_code
def yX2_takeItem : MethodName := ⟨RX2, "takeItem", "(LFogKept$Moor;)Z"⟩
abbrev cX2_takeWalker : ByteArray := prog_4_method_5_code
def yX2_takeWalker : MethodName := ⟨RX2, "takeWalker", "(LFogKept$Moor;I)Z"⟩
abbrev cX2_takeDayHours : ByteArray := prog_4_method_6_code
def yX2_takeDayHours : MethodName := ⟨RX2, "takeDayHours", "(LFogKept$Moor;Z)Z"⟩
abbrev cX2_takeWord : ByteArray := prog_4_method_7_code
def yX2_takeWord : MethodName := ⟨RX2, "takeWord", "(Ljava/lang/String;)Z"⟩
abbrev cX2_takeNumber : ByteArray := prog_4_method_8_code
def yX2_takeNumber : MethodName := ⟨RX2, "takeNumber", "(II)Z"⟩
abbrev cX2_kindNamed : ByteArray := prog_4_method_9_code
def yX2_kindNamed : MethodName := ⟨RX2, "kindNamed", "()I"⟩
abbrev cX2_nameOf : ByteArray := prog_4_method_10_code
def yX2_nameOf : MethodName := ⟨RX2, "nameOf", "(I)Ljava/lang/String;"⟩
abbrev cX2_isWord : ByteArray := prog_4_method_11_code
def yX2_isWord : MethodName := ⟨RX2, "isWord", "(Ljava/lang/String;)Z"⟩
abbrev cX2_look : ByteArray := prog_4_method_12_code
def yX2_look : MethodName := ⟨RX2, "look", "()V"⟩
abbrev cX2_weigh : ByteArray := prog_4_method_13_code
def yX2_weigh : MethodName := ⟨RX2, "weigh", "()V"⟩
abbrev cX2_typeOf : ByteArray := prog_4_method_14_code
def yX2_typeOf : MethodName := ⟨RX2, "typeOf", "(I)I"⟩
def RX3 : String := "FogKept"
def TX3 : u_T := fun k => match k with
  | 0 => ("FogKept", "state", "LFogKept$Moor;", true)
  | 1 => ("FogKept", "trial", "LFogKept$Moor;", true)
  | 2 => ("FogKept", "latest", "LFogKept$Moor;", true)
  | 3 => ("FogKept", "hasLatest", "Z", false)
  | 4 => ("FogKept", "tape", "LFogKept$Tape;", true)
  | 5 => ("FogKept", "sheets", "[LFogKept$Sheet;", true)
  | _ => ("FogKept", "found", "[I", true)
def tyX3 : Nat → FieldType := fun k => match k with
  | 0 => .object "FogKept$Moor"
  | 1 => .object "FogKept$Moor"
  | 2 => .object "FogKept$Moor"
  | 3 => .boolean
  | 4 => .object "FogKept$Tape"
  | 5 => .array (.object "FogKept$Sheet")
  | _ => .array .int
abbrev wsX30 : List Cond := u_ws RX3 TX3 7
theorem nmX3 : ∀ a, a < 7 → ∀ b, b < 7 → a ≠ b → (TX3 a).2.1 ≠ (TX3 b).2.1 := by decide +kernel
theorem tyX3_ok : ∀ k, k < 7 → parseFieldDescriptor (TX3 k).2.2.1 = some (tyX3 k) := by decide +kernel
abbrev cX3_init : ByteArray := prog_1_method_1_code
def yX3_init : MethodName := ⟨RX3, "<init>", "()V"⟩
abbrev cX3_fog : ByteArray := prog_1_method_2_code
def yX3_fog : MethodName := ⟨RX3, "fog", "(I)I"⟩
abbrev cX3_village : ByteArray := prog_1_method_3_code
def yX3_village : MethodName := ⟨RX3, "village", "(I)I"⟩
abbrev cX3_at : ByteArray := prog_1_method_4_code
def yX3_at : MethodName := ⟨RX3, "at", "(I)I"⟩
abbrev cX3_walker : ByteArray := prog_1_method_5_code
def yX3_walker : MethodName := ⟨RX3, "walker", "(II)I"⟩
abbrev cX3_of : ByteArray := prog_1_method_6_code
def yX3_of : MethodName := ⟨RX3, "of", "(II)I"⟩
abbrev cX3_set : ByteArray := prog_1_method_7_code
def yX3_set : MethodName := ⟨RX3, "set", "(III)I"⟩
abbrev cX3_turn : ByteArray := prog_1_method_8_code
def yX3_turn : MethodName := ⟨RX3, "turn", "(II)I"⟩
abbrev cX3_as : ByteArray := prog_1_method_9_code
def yX3_as : MethodName := ⟨RX3, "as", "(II)I"⟩
abbrev cX3_free : ByteArray := prog_1_method_10_code
def yX3_free : MethodName := ⟨RX3, "free", "(I)I"⟩
abbrev cX3_keep : ByteArray := prog_1_method_11_code
def yX3_keep : MethodName := ⟨RX3, "keep", "(II)I"⟩
abbrev cX3_hours : ByteArray := prog_1_method_12_code
def yX3_hours : MethodName := ⟨RX3, "hours", "(I)I"⟩
abbrev cX3_now : ByteArray := prog_1_method_13_code
def yX3_now : MethodName := ⟨RX3, "now", "(I)I"⟩
abbrev cX3_on : ByteArray := prog_1_method_14_code
def yX3_on : MethodName := ⟨RX3, "on", "(III)I"⟩
abbrev cX3_meet : ByteArray := prog_1_method_15_code
def yX3_meet : MethodName := ⟨RX3, "meet", "(II)I"⟩
abbrev cX3_when : ByteArray := prog_1_method_16_code
def yX3_when : MethodName := ⟨RX3, "when", "(I)I"⟩
abbrev cX3_till : ByteArray := prog_1_method_17_code
def yX3_till : MethodName := ⟨RX3, "till", "(I)I"⟩
abbrev cX3_glad : ByteArray := prog_1_method_18_code
def yX3_glad : MethodName := ⟨RX3, "glad", "(I)I"⟩
abbrev cX3_heading : ByteArray := prog_1_method_19_code
def yX3_heading : MethodName := ⟨RX3, "heading", "(II)I"⟩
abbrev cX3_begin : ByteArray := prog_1_method_20_code
def yX3_begin : MethodName := ⟨RX3, "begin", "(II)I"⟩
abbrev cX3_kind : ByteArray := prog_1_method_21_code
def yX3_kind : MethodName := ⟨RX3, "kind", "(I)I"⟩
abbrev cX3_hour : ByteArray := prog_1_method_22_code
def yX3_hour : MethodName := ⟨RX3, "hour", "(II)I"⟩
abbrev cX3_hope : ByteArray := prog_1_method_23_code
def yX3_hope : MethodName := ⟨RX3, "hope", "(II)I"⟩
abbrev cX3_more : ByteArray := prog_1_method_24_code
def yX3_more : MethodName := ⟨RX3, "more", "(I)I"⟩
abbrev cX3_best : ByteArray := prog_1_method_25_code
def yX3_best : MethodName := ⟨RX3, "best", "(I)I"⟩
abbrev cX3_feed : ByteArray := prog_1_method_26_code
def yX3_feed : MethodName := ⟨RX3, "feed", "(II)I"⟩
abbrev cX3_wipe : ByteArray := prog_1_method_27_code
def yX3_wipe : MethodName := ⟨RX3, "wipe", "()I"⟩
abbrev cX3_moor : ByteArray := prog_1_method_28_code
def yX3_moor : MethodName := ⟨RX3, "moor", "()I"⟩
abbrev cX3_sheet : ByteArray := prog_1_method_29_code
def yX3_sheet : MethodName := ⟨RX3, "sheet", "(III)I"⟩
abbrev cX3_write : ByteArray := prog_1_method_30_code
def yX3_write : MethodName := ⟨RX3, "write", "(IIJ)J"⟩
abbrev cX3_copy : ByteArray := prog_1_method_31_code
def yX3_copy : MethodName := ⟨RX3, "copy", "(IIIII)I"⟩
abbrev cX3_lays : ByteArray := prog_1_method_32_code
def yX3_lays : MethodName := ⟨RX3, "lays", "(I)I"⟩
abbrev cX3_book : ByteArray := prog_1_method_33_code
def yX3_book : MethodName := ⟨RX3, "book", "(II)I"⟩
abbrev cX3_read : ByteArray := prog_1_method_34_code
def yX3_read : MethodName := ⟨RX3, "read", "(II)I"⟩
abbrev cX3_image : ByteArray := prog_1_method_35_code
def yX3_image : MethodName := ⟨RX3, "image", "()I"⟩
abbrev cX3_undo : ByteArray := prog_1_method_36_code
def yX3_undo : MethodName := ⟨RX3, "undo", "()I"⟩
abbrev cX3_tear : ByteArray := prog_1_method_37_code
def yX3_tear : MethodName := ⟨RX3, "tear", "()I"⟩
abbrev cX3_count : ByteArray := prog_1_method_38_code
def yX3_count : MethodName := ⟨RX3, "count", "(I)I"⟩
abbrev cX3_status : ByteArray := prog_1_method_39_code
def yX3_status : MethodName := ⟨RX3, "status", "(I)I"⟩
abbrev cX3_finding : ByteArray := prog_1_method_40_code
def yX3_finding : MethodName := ⟨RX3, "finding", "(I)I"⟩
abbrev cX3_orNone : ByteArray := prog_1_method_41_code
def yX3_orNone : MethodName := ⟨RX3, "orNone", "(I)I"⟩
abbrev cX3_areTwo : ByteArray := prog_1_method_42_code
def yX3_areTwo : MethodName := ⟨RX3, "areTwo", "(II)Z"⟩
abbrev cX3_sheetOf : ByteArray := prog_1_method_43_code
def yX3_sheetOf : MethodName := ⟨RX3, "sheetOf", "(I)LFogKept$Sheet;"⟩
abbrev cX3_sheetAndWalkerFinding : ByteArray := prog_1_method_44_code
def yX3_sheetAndWalkerFinding : MethodName := ⟨RX3, "sheetAndWalkerFinding", "(II)I"⟩
abbrev cX3_trialGoesBy : ByteArray := prog_1_method_45_code
def yX3_trialGoesBy : MethodName := ⟨RX3, "trialGoesBy", "(LFogKept$Sheet;I)Z"⟩
abbrev cX3_firstFromNow : ByteArray := prog_1_method_46_code
def yX3_firstFromNow : MethodName := ⟨RX3, "firstFromNow", "(III)I"⟩
abbrev cX3_firstInTrial : ByteArray := prog_1_method_47_code
def yX3_firstInTrial : MethodName := ⟨RX3, "firstInTrial", "(IIII)I"⟩
abbrev cX3_trialShows : ByteArray := prog_1_method_48_code
def yX3_trialShows : MethodName := ⟨RX3, "trialShows", "(III)Z"⟩
abbrev cX3_suppose : ByteArray := prog_1_method_49_code
def yX3_suppose : MethodName := ⟨RX3, "suppose", "(III)V"⟩
abbrev cX3_soonestChoice : ByteArray := prog_1_method_50_code
def yX3_soonestChoice : MethodName := ⟨RX3, "soonestChoice", "(IIIII)I"⟩
abbrev cX3_fullestChoice : ByteArray := prog_1_method_51_code
def yX3_fullestChoice : MethodName := ⟨RX3, "fullestChoice", "(IIII)I"⟩
abbrev cX3_isCell : ByteArray := prog_1_method_52_code
def yX3_isCell : MethodName := ⟨RX3, "isCell", "(I)Z"⟩
abbrev cX3_isKind : ByteArray := prog_1_method_53_code
def yX3_isKind : MethodName := ⟨RX3, "isKind", "(I)Z"⟩
abbrev cX3_isOrIsUnder : ByteArray := prog_1_method_54_code
def yX3_isOrIsUnder : MethodName := ⟨RX3, "isOrIsUnder", "(II)Z"⟩
abbrev cX3_valuesOf : ByteArray := prog_1_method_55_code
def yX3_valuesOf : MethodName := ⟨RX3, "valuesOf", "(I)I"⟩
abbrev cX3_widowSteps : ByteArray := prog_1_method_56_code
def yX3_widowSteps : MethodName := ⟨RX3, "widowSteps", "(I)I"⟩
abbrev cX3_everyThird : ByteArray := prog_1_method_57_code
def yX3_everyThird : MethodName := ⟨RX3, "everyThird", "(I)I"⟩
abbrev cX3_stepsOf : ByteArray := prog_1_method_58_code
def yX3_stepsOf : MethodName := ⟨RX3, "stepsOf", "(II)I"⟩
abbrev cX3_turnsOf : ByteArray := prog_1_method_59_code
def yX3_turnsOf : MethodName := ⟨RX3, "turnsOf", "(II)I"⟩
abbrev cX3_cellTowards : ByteArray := prog_1_method_60_code
def yX3_cellTowards : MethodName := ⟨RX3, "cellTowards", "(II)I"⟩
def RX4 : String := "FogKeptModel"
def TX4 : u_T := fun k => match k with
  | 0 => ("FogKeptModel", "s", "[I", true)
  | 1 => ("FogKeptModel", "keptS", "[I", true)
  | 2 => ("FogKeptModel", "other", "[I", true)
  | 3 => ("FogKeptModel", "aside", "[I", true)
  | 4 => ("FogKeptModel", "statuses", "[I", true)
  | 5 => ("FogKeptModel", "isKept", "Z", false)
  | 6 => ("FogKeptModel", "best", "I", false)
  | 7 => ("FogKeptModel", "soonest", "I", false)
  | 8 => ("FogKeptModel", "tape", "[I", true)
  | 9 => ("FogKeptModel", "taped", "I", false)
  | 10 => ("FogKeptModel", "from", "I", false)
  | 11 => ("FogKeptModel", "to", "I", false)
  | 12 => ("FogKeptModel", "value", "I", false)
  | 13 => ("FogKeptModel", "isWrong", "Z", false)
  | 14 => ("FogKeptModel", "bitsOf", "[I", true)
  | 15 => ("FogKeptModel", "sizeOf", "[I", true)
  | 16 => ("FogKeptModel", "numbers", "[J", true)
  | _ => ("FogKeptModel", "moved", "[J", true)
def tyX4 : Nat → FieldType := fun k => match k with
  | 0 => .array .int
  | 1 => .array .int
  | 2 => .array .int
  | 3 => .array .int
  | 4 => .array .int
  | 5 => .boolean
  | 6 => .int
  | 7 => .int
  | 8 => .array .int
  | 9 => .int
  | 10 => .int
  | 11 => .int
  | 12 => .int
  | 13 => .boolean
  | 14 => .array .int
  | 15 => .array .int
  | 16 => .array .long
  | _ => .array .long
abbrev wsX40 : List Cond := u_ws RX4 TX4 18
theorem nmX4 : ∀ a, a < 18 → ∀ b, b < 18 → a ≠ b → (TX4 a).2.1 ≠ (TX4 b).2.1 := by decide +kernel
theorem tyX4_ok : ∀ k, k < 18 → parseFieldDescriptor (TX4 k).2.2.1 = some (tyX4 k) := by decide +kernel
abbrev cX4_init : ByteArray := prog_6_method_1_code
def yX4_init : MethodName := ⟨RX4, "<init>", "()V"⟩
abbrev cX4_in : ByteArray := prog_6_method_2_code
def yX4_in : MethodName := ⟨RX4, "in", "(JJJ)Z"⟩
abbrev cX4_finds : ByteArray := prog_6_method_3_code
def yX4_finds : MethodName := ⟨RX4, "finds", "(I)I"⟩
abbrev cX4_saves : ByteArray := prog_6_method_4_code
def yX4_saves : MethodName := ⟨RX4, "saves", "()V"⟩
abbrev cX4_putsBack : ByteArray := prog_6_method_5_code
def yX4_putsBack : MethodName := ⟨RX4, "putsBack", "()V"⟩
abbrev cX4_laysAside : ByteArray := prog_6_method_6_code
def yX4_laysAside : MethodName := ⟨RX4, "laysAside", "()V"⟩
abbrev cX4_takesBack : ByteArray := prog_6_method_7_code
def yX4_takesBack : MethodName := ⟨RX4, "takesBack", "(I)I"⟩
abbrev cX4_becomes : ByteArray := prog_6_method_8_code
def yX4_becomes : MethodName := ⟨RX4, "becomes", "(II)I"⟩
abbrev cX4_isCell : ByteArray := prog_6_method_9_code
def yX4_isCell : MethodName := ⟨RX4, "isCell", "(I)Z"⟩
abbrev cX4_isWalker : ByteArray := prog_6_method_10_code
def yX4_isWalker : MethodName := ⟨RX4, "isWalker", "(I)Z"⟩
abbrev cX4_areTwo : ByteArray := prog_6_method_11_code
def yX4_areTwo : MethodName := ⟨RX4, "areTwo", "(II)Z"⟩
abbrev cX4_isKind : ByteArray := prog_6_method_12_code
def yX4_isKind : MethodName := ⟨RX4, "isKind", "(I)Z"⟩
abbrev cX4_spotOf : ByteArray := prog_6_method_13_code
def yX4_spotOf : MethodName := ⟨RX4, "spotOf", "(II)I"⟩
abbrev cX4_its : ByteArray := prog_6_method_14_code
def yX4_its : MethodName := ⟨RX4, "its", "(II)I"⟩
abbrev cX4_isFree : ByteArray := prog_6_method_15_code
def yX4_isFree : MethodName := ⟨RX4, "isFree", "(I)Z"⟩
abbrev cX4_fog : ByteArray := prog_6_method_16_code
def yX4_fog : MethodName := ⟨RX4, "fog", "(I)I"⟩
abbrev cX4_village : ByteArray := prog_6_method_17_code
def yX4_village : MethodName := ⟨RX4, "village", "(I)I"⟩
abbrev cX4_thoseAt : ByteArray := prog_6_method_18_code
def yX4_thoseAt : MethodName := ⟨RX4, "thoseAt", "(I)I"⟩
abbrev cX4_at : ByteArray := prog_6_method_19_code
def yX4_at : MethodName := ⟨RX4, "at", "(I)I"⟩
abbrev cX4_adds : ByteArray := prog_6_method_20_code
def yX4_adds : MethodName := ⟨RX4, "adds", "(II)I"⟩
abbrev cX4_walker : ByteArray := prog_6_method_21_code
def yX4_walker : MethodName := ⟨RX4, "walker", "(II)I"⟩
abbrev cX4_stepsOf : ByteArray := prog_6_method_22_code
def yX4_stepsOf : MethodName := ⟨RX4, "stepsOf", "(I)I"⟩
abbrev cX4_turnsOf : ByteArray := prog_6_method_23_code
def yX4_turnsOf : MethodName := ⟨RX4, "turnsOf", "(I)I"⟩
abbrev cX4_of : ByteArray := prog_6_method_24_code
def yX4_of : MethodName := ⟨RX4, "of", "(II)I"⟩
abbrev cX4_isPart : ByteArray := prog_6_method_25_code
def yX4_isPart : MethodName := ⟨RX4, "isPart", "(II)Z"⟩
abbrev cX4_comesTo : ByteArray := prog_6_method_26_code
def yX4_comesTo : MethodName := ⟨RX4, "comesTo", "(II)V"⟩
abbrev cX4_set : ByteArray := prog_6_method_27_code
def yX4_set : MethodName := ⟨RX4, "set", "(III)I"⟩
abbrev cX4_turn : ByteArray := prog_6_method_28_code
def yX4_turn : MethodName := ⟨RX4, "turn", "(II)I"⟩
abbrev cX4_isUnder : ByteArray := prog_6_method_29_code
def yX4_isUnder : MethodName := ⟨RX4, "isUnder", "(II)Z"⟩
abbrev cX4_as : ByteArray := prog_6_method_30_code
def yX4_as : MethodName := ⟨RX4, "as", "(II)I"⟩
abbrev cX4_isFreed : ByteArray := prog_6_method_31_code
def yX4_isFreed : MethodName := ⟨RX4, "isFreed", "(I)V"⟩
abbrev cX4_lets : ByteArray := prog_6_method_32_code
def yX4_lets : MethodName := ⟨RX4, "lets", "(I)I"⟩
abbrev cX4_free : ByteArray := prog_6_method_33_code
def yX4_free : MethodName := ⟨RX4, "free", "(I)I"⟩
abbrev cX4_keeps : ByteArray := prog_6_method_34_code
def yX4_keeps : MethodName := ⟨RX4, "keeps", "(II)V"⟩
abbrev cX4_ones : ByteArray := prog_6_method_35_code
def yX4_ones : MethodName := ⟨RX4, "ones", "(I)I"⟩
abbrev cX4_thoseKept : ByteArray := prog_6_method_36_code
def yX4_thoseKept : MethodName := ⟨RX4, "thoseKept", "()I"⟩
abbrev cX4_keep : ByteArray := prog_6_method_37_code
def yX4_keep : MethodName := ⟨RX4, "keep", "(II)I"⟩
abbrev cX4_isFoggy : ByteArray := prog_6_method_38_code
def yX4_isFoggy : MethodName := ⟨RX4, "isFoggy", "()Z"⟩
abbrev cX4_turns : ByteArray := prog_6_method_39_code
def yX4_turns : MethodName := ⟨RX4, "turns", "(I)V"⟩
abbrev cX4_towards : ByteArray := prog_6_method_40_code
def yX4_towards : MethodName := ⟨RX4, "towards", "(II)I"⟩
abbrev cX4_goes : ByteArray := prog_6_method_41_code
def yX4_goes : MethodName := ⟨RX4, "goes", "(I)V"⟩
abbrev cX4_meetAt : ByteArray := prog_6_method_42_code
def yX4_meetAt : MethodName := ⟨RX4, "meetAt", "(I)V"⟩
abbrev cX4_goesHour : ByteArray := prog_6_method_43_code
def yX4_goesHour : MethodName := ⟨RX4, "goesHour", "()V"⟩
abbrev cX4_hoursGo : ByteArray := prog_6_method_44_code
def yX4_hoursGo : MethodName := ⟨RX4, "hoursGo", "(I)V"⟩
abbrev cX4_hours : ByteArray := prog_6_method_45_code
def yX4_hours : MethodName := ⟨RX4, "hours", "(I)I"⟩
abbrev cX4_isGlad : ByteArray := prog_6_method_46_code
def yX4_isGlad : MethodName := ⟨RX4, "isGlad", "(I)Z"⟩
abbrev cX4_thoseGlad : ByteArray := prog_6_method_47_code
def yX4_thoseGlad : MethodName := ⟨RX4, "thoseGlad", "()I"⟩
abbrev cX4_now : ByteArray := prog_6_method_48_code
def yX4_now : MethodName := ⟨RX4, "now", "(I)I"⟩
abbrev cX4_on : ByteArray := prog_6_method_49_code
def yX4_on : MethodName := ⟨RX4, "on", "(III)I"⟩
abbrev cX4_isSo : ByteArray := prog_6_method_50_code
def yX4_isSo : MethodName := ⟨RX4, "isSo", "(III)Z"⟩
abbrev cX4_firstSo : ByteArray := prog_6_method_51_code
def yX4_firstSo : MethodName := ⟨RX4, "firstSo", "(IIII)I"⟩
abbrev cX4_foundSo : ByteArray := prog_6_method_52_code
def yX4_foundSo : MethodName := ⟨RX4, "foundSo", "(III)I"⟩
abbrev cX4_meet : ByteArray := prog_6_method_53_code
def yX4_meet : MethodName := ⟨RX4, "meet", "(II)I"⟩
abbrev cX4_when : ByteArray := prog_6_method_54_code
def yX4_when : MethodName := ⟨RX4, "when", "(I)I"⟩
abbrev cX4_till : ByteArray := prog_6_method_55_code
def yX4_till : MethodName := ⟨RX4, "till", "(I)I"⟩
abbrev cX4_glad : ByteArray := prog_6_method_56_code
def yX4_glad : MethodName := ⟨RX4, "glad", "(I)I"⟩
abbrev cX4_begins : ByteArray := prog_6_method_57_code
def yX4_begins : MethodName := ⟨RX4, "begins", "(I)V"⟩
abbrev cX4_tries : ByteArray := prog_6_method_58_code
def yX4_tries : MethodName := ⟨RX4, "tries", "(II)V"⟩
abbrev cX4_bestOrNone : ByteArray := prog_6_method_59_code
def yX4_bestOrNone : MethodName := ⟨RX4, "bestOrNone", "()I"⟩
abbrev cX4_heading : ByteArray := prog_6_method_60_code
def yX4_heading : MethodName := ⟨RX4, "heading", "(II)I"⟩
abbrev cX4_begin : ByteArray := prog_6_method_61_code
def yX4_begin : MethodName := ⟨RX4, "begin", "(II)I"⟩
abbrev cX4_kind : ByteArray := prog_6_method_62_code
def yX4_kind : MethodName := ⟨RX4, "kind", "(I)I"⟩
abbrev cX4_hour : ByteArray := prog_6_method_63_code
def yX4_hour : MethodName := ⟨RX4, "hour", "(II)I"⟩
abbrev cX4_hope : ByteArray := prog_6_method_64_code
def yX4_hope : MethodName := ⟨RX4, "hope", "(II)I"⟩
abbrev cX4_more : ByteArray := prog_6_method_65_code
def yX4_more : MethodName := ⟨RX4, "more", "(I)I"⟩
abbrev cX4_best : ByteArray := prog_6_method_66_code
def yX4_best : MethodName := ⟨RX4, "best", "(I)I"⟩
abbrev cX4_feed : ByteArray := prog_6_method_67_code
def yX4_feed : MethodName := ⟨RX4, "feed", "(II)I"⟩
abbrev cX4_wipe : ByteArray := prog_6_method_68_code
def yX4_wipe : MethodName := ⟨RX4, "wipe", "()I"⟩
abbrev cX4_byteAt : ByteArray := prog_6_method_69_code
def yX4_byteAt : MethodName := ⟨RX4, "byteAt", "(I)I"⟩
abbrev cX4_isLetter : ByteArray := prog_6_method_70_code
def yX4_isLetter : MethodName := ⟨RX4, "isLetter", "(I)Z"⟩
abbrev cX4_isDigit : ByteArray := prog_6_method_71_code
def yX4_isDigit : MethodName := ⟨RX4, "isDigit", "(I)Z"⟩
abbrev cX4_token : ByteArray := prog_6_method_72_code
def yX4_token : MethodName := ⟨RX4, "token", "()V"⟩
abbrev cX4_must : ByteArray := prog_6_method_73_code
def yX4_must : MethodName := ⟨RX4, "must", "(Z)V"⟩
abbrev cX4_word : ByteArray := prog_6_method_74_code
def yX4_word : MethodName := ⟨RX4, "word", "()J"⟩
abbrev cX4_number : ByteArray := prog_6_method_75_code
def yX4_number : MethodName := ⟨RX4, "number", "(II)V"⟩
abbrev cX4_kindHere : ByteArray := prog_6_method_76_code
def yX4_kindHere : MethodName := ⟨RX4, "kindHere", "()I"⟩
abbrev cX4_partItem : ByteArray := prog_6_method_77_code
def yX4_partItem : MethodName := ⟨RX4, "partItem", "(JII)V"⟩
abbrev cX4_walkerItem : ByteArray := prog_6_method_78_code
def yX4_walkerItem : MethodName := ⟨RX4, "walkerItem", "(I)V"⟩
abbrev cX4_fogItem : ByteArray := prog_6_method_79_code
def yX4_fogItem : MethodName := ⟨RX4, "fogItem", "(Z)V"⟩
abbrev cX4_item : ByteArray := prog_6_method_80_code
def yX4_item : MethodName := ⟨RX4, "item", "()V"⟩
abbrev cX4_moor : ByteArray := prog_6_method_81_code
def yX4_moor : MethodName := ⟨RX4, "moor", "()I"⟩
abbrev cX4_isOne : ByteArray := prog_6_method_82_code
def yX4_isOne : MethodName := ⟨RX4, "isOne", "(I)Z"⟩
abbrev cX4_sheet : ByteArray := prog_6_method_83_code
def yX4_sheet : MethodName := ⟨RX4, "sheet", "(III)I"⟩
abbrev cX4_narrowed : ByteArray := prog_6_method_84_code
def yX4_narrowed : MethodName := ⟨RX4, "narrowed", "(IJ)J"⟩
abbrev cX4_wrongSheet : ByteArray := prog_6_method_85_code
def yX4_wrongSheet : MethodName := ⟨RX4, "wrongSheet", "(I)I"⟩
abbrev cX4_write : ByteArray := prog_6_method_86_code
def yX4_write : MethodName := ⟨RX4, "write", "(IIJ)J"⟩
abbrev cX4_copy : ByteArray := prog_6_method_87_code
def yX4_copy : MethodName := ⟨RX4, "copy", "(IIIII)I"⟩
abbrev cX4_lays : ByteArray := prog_6_method_88_code
def yX4_lays : MethodName := ⟨RX4, "lays", "(I)I"⟩
abbrev cX4_wrongBook : ByteArray := prog_6_method_89_code
def yX4_wrongBook : MethodName := ⟨RX4, "wrongBook", "(II)I"⟩
abbrev cX4_book : ByteArray := prog_6_method_90_code
def yX4_book : MethodName := ⟨RX4, "book", "(II)I"⟩
abbrev cX4_isBook : ByteArray := prog_6_method_91_code
def yX4_isBook : MethodName := ⟨RX4, "isBook", "(II)Z"⟩
abbrev cX4_read : ByteArray := prog_6_method_92_code
def yX4_read : MethodName := ⟨RX4, "read", "(II)I"⟩
abbrev cX4_image : ByteArray := prog_6_method_93_code
def yX4_image : MethodName := ⟨RX4, "image", "()I"⟩
abbrev cX4_undo : ByteArray := prog_6_method_94_code
def yX4_undo : MethodName := ⟨RX4, "undo", "()I"⟩
abbrev cX4_tear : ByteArray := prog_6_method_95_code
def yX4_tear : MethodName := ⟨RX4, "tear", "()I"⟩
abbrev cX4_count : ByteArray := prog_6_method_96_code
def yX4_count : MethodName := ⟨RX4, "count", "(I)I"⟩
abbrev cX4_status : ByteArray := prog_6_method_97_code
def yX4_status : MethodName := ⟨RX4, "status", "(I)I"⟩
def RJ6 : String := "java/lang/Integer"
def TJ6 : u_T := fun k => match k with
  | _ => ("", "", "", false)
def tyJ6 : Nat → FieldType := fun k => match k with
  | _ => .int
abbrev wsJ60 : List Cond := u_ws RJ6 TJ6 0
theorem nmJ6 : ∀ a, a < 0 → ∀ b, b < 0 → a ≠ b → (TJ6 a).2.1 ≠ (TJ6 b).2.1 := by decide +kernel
theorem tyJ6_ok : ∀ k, k < 0 → parseFieldDescriptor (TJ6 k).2.2.1 = some (tyJ6 k) := by decide +kernel
abbrev cJ6_bitCount_0f7a4 : ByteArray := prog_7_method_49_code
def yJ6_bitCount_0f7a4 : MethodName := ⟨RJ6, "bitCount", "(I)I"⟩
def RJ9 : String := "java/lang/Math"
def TJ9 : u_T := fun k => match k with
  | _ => ("", "", "", false)
def tyJ9 : Nat → FieldType := fun k => match k with
  | _ => .int
abbrev wsJ90 : List Cond := u_ws RJ9 TJ9 0
theorem nmJ9 : ∀ a, a < 0 → ∀ b, b < 0 → a ≠ b → (TJ9 a).2.1 ≠ (TJ9 b).2.1 := by decide +kernel
theorem tyJ9_ok : ∀ k, k < 0 → parseFieldDescriptor (TJ9 k).2.2.1 = some (tyJ9 k) := by decide +kernel
abbrev cJ9_min_7cf53 : ByteArray := prog_8_method_69_code
def yJ9_min_7cf53 : MethodName := ⟨RJ9, "min", "(II)I"⟩
def RJ0 : String := "java/lang/String"
def TJ0 : u_T := fun k => match k with
  | _ => ("", "", "", false)
def tyJ0 : Nat → FieldType := fun k => match k with
  | _ => .int
abbrev wsJ00 : List Cond := u_ws RJ0 TJ0 0
theorem nmJ0 : ∀ a, a < 0 → ∀ b, b < 0 → a ≠ b → (TJ0 a).2.1 ≠ (TJ0 b).2.1 := by decide +kernel
theorem tyJ0_ok : ∀ k, k < 0 → parseFieldDescriptor (TJ0 k).2.2.1 = some (tyJ0 k) := by decide +kernel
abbrev cJ0_length_8abf5 : ByteArray := prog_9_method_54_code
def yJ0_length_8abf5 : MethodName := ⟨RJ0, "length", "()I"⟩
abbrev cJ0_charAt_5068e : ByteArray := prog_9_method_56_code
def yJ0_charAt_5068e : MethodName := ⟨RJ0, "charAt", "(I)C"⟩
abbrev cJ0_coder_7d493 : ByteArray := prog_9_method_152_code
def yJ0_coder_7d493 : MethodName := ⟨RJ0, "coder", "()B"⟩
abbrev cJ0_isLatin1_aae02 : ByteArray := prog_9_method_154_code
def yJ0_isLatin1_aae02 : MethodName := ⟨RJ0, "isLatin1", "()Z"⟩
abbrev cJ0_checkIndex_df160 : ByteArray := prog_9_method_155_code
def yJ0_checkIndex_df160 : MethodName := ⟨RJ0, "checkIndex", "(II)V"⟩
def RJ1 : String := "java/lang/StringLatin1"
def TJ1 : u_T := fun k => match k with
  | _ => ("", "", "", false)
def tyJ1 : Nat → FieldType := fun k => match k with
  | _ => .int
abbrev wsJ10 : List Cond := u_ws RJ1 TJ1 0
theorem nmJ1 : ∀ a, a < 0 → ∀ b, b < 0 → a ≠ b → (TJ1 a).2.1 ≠ (TJ1 b).2.1 := by decide +kernel
theorem tyJ1_ok : ∀ k, k < 0 → parseFieldDescriptor (TJ1 k).2.2.1 = some (tyJ1 k) := by decide +kernel
abbrev cJ1_charAt_3b067 : ByteArray := prog_10_method_2_code
def yJ1_charAt_3b067 : MethodName := ⟨RJ1, "charAt", "([BI)C"⟩
def RJ2 : String := "java/lang/StringUTF16"
def TJ2 : u_T := fun k => match k with
  | _ => ("", "", "", false)
def tyJ2 : Nat → FieldType := fun k => match k with
  | _ => .int
abbrev wsJ20 : List Cond := u_ws RJ2 TJ2 0
theorem nmJ2 : ∀ a, a < 0 → ∀ b, b < 0 → a ≠ b → (TJ2 a).2.1 ≠ (TJ2 b).2.1 := by decide +kernel
theorem tyJ2_ok : ∀ k, k < 0 → parseFieldDescriptor (TJ2 k).2.2.1 = some (tyJ2 k) := by decide +kernel
abbrev cJ2_getChar_3b067 : ByteArray := prog_11_method_5_code
def yJ2_getChar_3b067 : MethodName := ⟨RJ2, "getChar", "([BI)C"⟩
abbrev cJ2_length_9d52b : ByteArray := prog_11_method_6_code
def yJ2_length_9d52b : MethodName := ⟨RJ2, "length", "([B)I"⟩
abbrev cJ2_charAt_3b067 : ByteArray := prog_11_method_83_code
def yJ2_charAt_3b067 : MethodName := ⟨RJ2, "charAt", "([BI)C"⟩
abbrev cJ2_checkIndex_2214a : ByteArray := prog_11_method_91_code
def yJ2_checkIndex_2214a : MethodName := ⟨RJ2, "checkIndex", "(I[B)V"⟩
def RJ10 : String := "java/lang/System"
def TJ10 : u_T := fun k => match k with
  | _ => ("", "", "", false)
def tyJ10 : Nat → FieldType := fun k => match k with
  | _ => .int
abbrev wsJ100 : List Cond := u_ws RJ10 TJ10 0
theorem nmJ10 : ∀ a, a < 0 → ∀ b, b < 0 → a ≠ b → (TJ10 a).2.1 ≠ (TJ10 b).2.1 := by decide +kernel
theorem tyJ10_ok : ∀ k, k < 0 → parseFieldDescriptor (TJ10 k).2.2.1 = some (tyJ10 k) := by decide +kernel
def RJ3 : String := "jdk/internal/util/Preconditions"
def TJ3 : u_T := fun k => match k with
  | _ => ("", "", "", false)
def tyJ3 : Nat → FieldType := fun k => match k with
  | _ => .int
abbrev wsJ30 : List Cond := u_ws RJ3 TJ3 0
theorem nmJ3 : ∀ a, a < 0 → ∀ b, b < 0 → a ≠ b → (TJ3 a).2.1 ≠ (TJ3 b).2.1 := by decide +kernel
theorem tyJ3_ok : ∀ k, k < 0 → parseFieldDescriptor (TJ3 k).2.2.1 = some (tyJ3 k) := by decide +kernel
abbrev cJ3_checkIndex_8e157 : ByteArray := prog_13_method_11_code
def yJ3_checkIndex_8e157 : MethodName := ⟨RJ3, "checkIndex", "(IILjava/util/function/BiFunction;)I"⟩
def RL : String := "FogKeptLaw"
abbrev cL_law : ByteArray := code
def yL_law : MethodName := ⟨RL, "law", "([I)Z"⟩
theorem inX0 : ∀ w ∈ wsX00, w ∈ lw_tbl := by decide +kernel
theorem inX1 : ∀ w ∈ wsX10, w ∈ lw_tbl := by decide +kernel
theorem inX2 : ∀ w ∈ wsX20, w ∈ lw_tbl := by decide +kernel
theorem inX3 : ∀ w ∈ wsX30, w ∈ lw_tbl := by decide +kernel
theorem inX4 : ∀ w ∈ wsX40, w ∈ lw_tbl := by decide +kernel
theorem inJ6 : ∀ w ∈ wsJ60, w ∈ lw_tbl := by decide +kernel
theorem inJ9 : ∀ w ∈ wsJ90, w ∈ lw_tbl := by decide +kernel
theorem inJ0 : ∀ w ∈ wsJ00, w ∈ lw_tbl := by decide +kernel
theorem inJ1 : ∀ w ∈ wsJ10, w ∈ lw_tbl := by decide +kernel
theorem inJ2 : ∀ w ∈ wsJ20, w ∈ lw_tbl := by decide +kernel
theorem inJ10 : ∀ w ∈ wsJ100, w ∈ lw_tbl := by decide +kernel
theorem inJ3 : ∀ w ∈ wsJ30, w ∈ lw_tbl := by decide +kernel
abbrev vwCl : List vw_C := [(RX0, TX0, 11), (RX1, TX1, 3), (RX2, TX2, 7), (RX3, TX3, 7), (RX4, TX4, 18)]
end
section
theorem dX0_init_0 : decode cX0_init 0 = .ok (.aload_n 0, 1) := by decide +kernel
theorem dX0_init_1 : decode cX0_init 1 = .ok (.invokespecial 3, 3) := by decide +kernel
theorem dX0_init_4 : decode cX0_init 4 = .ok (.aload_n 0, 1) := by decide +kernel
theorem dX0_init_5 : decode cX0_init 5 = .ok (.iconst 0, 1) := by decide +kernel
theorem dX0_init_6 : decode cX0_init 6 = .ok (.putfield 9, 3) := by decide +kernel
theorem dX0_init_9 : decode cX0_init 9 = .ok (.aload_n 0, 1) := by decide +kernel
theorem dX0_init_10 : decode cX0_init 10 = .ok (.iconst 0, 1) := by decide +kernel
theorem dX0_init_11 : decode cX0_init 11 = .ok (.putfield 15, 3) := by decide +kernel
theorem dX0_init_14 : decode cX0_init 14 = .ok (.aload_n 0, 1) := by decide +kernel
theorem dX0_init_15 : decode cX0_init 15 = .ok (.bipush 35, 2) := by decide +kernel
theorem dX0_init_17 : decode cX0_init 17 = .ok (.putfield 18, 3) := by decide +kernel
theorem dX0_init_20 : decode cX0_init 20 = .ok (.aload_n 0, 1) := by decide +kernel
theorem dX0_init_21 : decode cX0_init 21 = .ok (.iconst 0, 1) := by decide +kernel
theorem dX0_init_22 : decode cX0_init 22 = .ok (.putfield 21, 3) := by decide +kernel
theorem dX0_init_25 : decode cX0_init 25 = .ok (.aload_n 0, 1) := by decide +kernel
theorem dX0_init_26 : decode cX0_init 26 = .ok (.bipush 8, 2) := by decide +kernel
theorem dX0_init_28 : decode cX0_init 28 = .ok (.newarray .int, 2) := by decide +kernel
theorem dX0_init_30 : decode cX0_init 30 = .ok (.putfield 24, 3) := by decide +kernel
theorem dX0_init_33 : decode cX0_init 33 = .ok (.aload_n 0, 1) := by decide +kernel
theorem dX0_init_34 : decode cX0_init 34 = .ok (.bipush 8, 2) := by decide +kernel
theorem dX0_init_36 : decode cX0_init 36 = .ok (.newarray .int, 2) := by decide +kernel
theorem dX0_init_38 : decode cX0_init 38 = .ok (.putfield 28, 3) := by decide +kernel
theorem dX0_init_41 : decode cX0_init 41 = .ok (.aload_n 0, 1) := by decide +kernel
theorem dX0_init_42 : decode cX0_init 42 = .ok (.bipush 8, 2) := by decide +kernel
theorem dX0_init_44 : decode cX0_init 44 = .ok (.newarray .int, 2) := by decide +kernel
theorem dX0_init_46 : decode cX0_init 46 = .ok (.putfield 31, 3) := by decide +kernel
theorem dX0_init_49 : decode cX0_init 49 = .ok (.aload_n 0, 1) := by decide +kernel
theorem dX0_init_50 : decode cX0_init 50 = .ok (.bipush 8, 2) := by decide +kernel
theorem dX0_init_52 : decode cX0_init 52 = .ok (.newarray .int, 2) := by decide +kernel
theorem dX0_init_54 : decode cX0_init 54 = .ok (.putfield 34, 3) := by decide +kernel
theorem dX0_init_57 : decode cX0_init 57 = .ok (.aload_n 0, 1) := by decide +kernel
theorem dX0_init_58 : decode cX0_init 58 = .ok (.bipush 8, 2) := by decide +kernel
theorem dX0_init_60 : decode cX0_init 60 = .ok (.newarray .int, 2) := by decide +kernel
theorem dX0_init_62 : decode cX0_init 62 = .ok (.putfield 37, 3) := by decide +kernel
theorem dX0_init_65 : decode cX0_init 65 = .ok (.aload_n 0, 1) := by decide +kernel
theorem dX0_init_66 : decode cX0_init 66 = .ok (.bipush 8, 2) := by decide +kernel
theorem dX0_init_68 : decode cX0_init 68 = .ok (.newarray .int, 2) := by decide +kernel
theorem dX0_init_70 : decode cX0_init 70 = .ok (.putfield 40, 3) := by decide +kernel
theorem dX0_init_73 : decode cX0_init 73 = .ok (.aload_n 0, 1) := by decide +kernel
theorem dX0_init_74 : decode cX0_init 74 = .ok (.bipush 8, 2) := by decide +kernel
theorem dX0_init_76 : decode cX0_init 76 = .ok (.newarray .int, 2) := by decide +kernel
theorem dX0_init_78 : decode cX0_init 78 = .ok (.putfield 43, 3) := by decide +kernel
theorem dX0_init_81 : decode cX0_init 81 = .ok (.return_, 1) := by decide +kernel
theorem dX0_takeFrom_0 : decode cX0_takeFrom 0 = .ok (.aload_n 0, 1) := by decide +kernel
theorem dX0_takeFrom_1 : decode cX0_takeFrom 1 = .ok (.aload_n 1, 1) := by decide +kernel
theorem dX0_takeFrom_2 : decode cX0_takeFrom 2 = .ok (.getfield 9, 3) := by decide +kernel
theorem dX0_takeFrom_5 : decode cX0_takeFrom 5 = .ok (.putfield 9, 3) := by decide +kernel
theorem dX0_takeFrom_8 : decode cX0_takeFrom 8 = .ok (.aload_n 0, 1) := by decide +kernel
theorem dX0_takeFrom_9 : decode cX0_takeFrom 9 = .ok (.aload_n 1, 1) := by decide +kernel
theorem dX0_takeFrom_10 : decode cX0_takeFrom 10 = .ok (.getfield 15, 3) := by decide +kernel
theorem dX0_takeFrom_13 : decode cX0_takeFrom 13 = .ok (.putfield 15, 3) := by decide +kernel
theorem dX0_takeFrom_16 : decode cX0_takeFrom 16 = .ok (.aload_n 0, 1) := by decide +kernel
theorem dX0_takeFrom_17 : decode cX0_takeFrom 17 = .ok (.aload_n 1, 1) := by decide +kernel
theorem dX0_takeFrom_18 : decode cX0_takeFrom 18 = .ok (.getfield 18, 3) := by decide +kernel
theorem dX0_takeFrom_21 : decode cX0_takeFrom 21 = .ok (.putfield 18, 3) := by decide +kernel
theorem dX0_takeFrom_24 : decode cX0_takeFrom 24 = .ok (.aload_n 0, 1) := by decide +kernel
theorem dX0_takeFrom_25 : decode cX0_takeFrom 25 = .ok (.aload_n 1, 1) := by decide +kernel
theorem dX0_takeFrom_26 : decode cX0_takeFrom 26 = .ok (.getfield 21, 3) := by decide +kernel
theorem dX0_takeFrom_29 : decode cX0_takeFrom 29 = .ok (.putfield 21, 3) := by decide +kernel
theorem dX0_takeFrom_32 : decode cX0_takeFrom 32 = .ok (.aload_n 1, 1) := by decide +kernel
theorem dX0_takeFrom_33 : decode cX0_takeFrom 33 = .ok (.getfield 24, 3) := by decide +kernel
theorem dX0_takeFrom_36 : decode cX0_takeFrom 36 = .ok (.iconst 0, 1) := by decide +kernel
theorem dX0_takeFrom_37 : decode cX0_takeFrom 37 = .ok (.aload_n 0, 1) := by decide +kernel
theorem dX0_takeFrom_38 : decode cX0_takeFrom 38 = .ok (.getfield 24, 3) := by decide +kernel
theorem dX0_takeFrom_41 : decode cX0_takeFrom 41 = .ok (.iconst 0, 1) := by decide +kernel
theorem dX0_takeFrom_42 : decode cX0_takeFrom 42 = .ok (.bipush 8, 2) := by decide +kernel
theorem dX0_takeFrom_44 : decode cX0_takeFrom 44 = .ok (.invokestatic 46, 3) := by decide +kernel
theorem dX0_takeFrom_47 : decode cX0_takeFrom 47 = .ok (.aload_n 1, 1) := by decide +kernel
theorem dX0_takeFrom_48 : decode cX0_takeFrom 48 = .ok (.getfield 28, 3) := by decide +kernel
theorem dX0_takeFrom_51 : decode cX0_takeFrom 51 = .ok (.iconst 0, 1) := by decide +kernel
theorem dX0_takeFrom_52 : decode cX0_takeFrom 52 = .ok (.aload_n 0, 1) := by decide +kernel
theorem dX0_takeFrom_53 : decode cX0_takeFrom 53 = .ok (.getfield 28, 3) := by decide +kernel
theorem dX0_takeFrom_56 : decode cX0_takeFrom 56 = .ok (.iconst 0, 1) := by decide +kernel
theorem dX0_takeFrom_57 : decode cX0_takeFrom 57 = .ok (.bipush 8, 2) := by decide +kernel
theorem dX0_takeFrom_59 : decode cX0_takeFrom 59 = .ok (.invokestatic 46, 3) := by decide +kernel
theorem dX0_takeFrom_62 : decode cX0_takeFrom 62 = .ok (.aload_n 1, 1) := by decide +kernel
theorem dX0_takeFrom_63 : decode cX0_takeFrom 63 = .ok (.getfield 31, 3) := by decide +kernel
theorem dX0_takeFrom_66 : decode cX0_takeFrom 66 = .ok (.iconst 0, 1) := by decide +kernel
theorem dX0_takeFrom_67 : decode cX0_takeFrom 67 = .ok (.aload_n 0, 1) := by decide +kernel
theorem dX0_takeFrom_68 : decode cX0_takeFrom 68 = .ok (.getfield 31, 3) := by decide +kernel
theorem dX0_takeFrom_71 : decode cX0_takeFrom 71 = .ok (.iconst 0, 1) := by decide +kernel
theorem dX0_takeFrom_72 : decode cX0_takeFrom 72 = .ok (.bipush 8, 2) := by decide +kernel
theorem dX0_takeFrom_74 : decode cX0_takeFrom 74 = .ok (.invokestatic 46, 3) := by decide +kernel
theorem dX0_takeFrom_77 : decode cX0_takeFrom 77 = .ok (.aload_n 1, 1) := by decide +kernel
theorem dX0_takeFrom_78 : decode cX0_takeFrom 78 = .ok (.getfield 34, 3) := by decide +kernel
theorem dX0_takeFrom_81 : decode cX0_takeFrom 81 = .ok (.iconst 0, 1) := by decide +kernel
theorem dX0_takeFrom_82 : decode cX0_takeFrom 82 = .ok (.aload_n 0, 1) := by decide +kernel
theorem dX0_takeFrom_83 : decode cX0_takeFrom 83 = .ok (.getfield 34, 3) := by decide +kernel
theorem dX0_takeFrom_86 : decode cX0_takeFrom 86 = .ok (.iconst 0, 1) := by decide +kernel
theorem dX0_takeFrom_87 : decode cX0_takeFrom 87 = .ok (.bipush 8, 2) := by decide +kernel
theorem dX0_takeFrom_89 : decode cX0_takeFrom 89 = .ok (.invokestatic 46, 3) := by decide +kernel
theorem dX0_takeFrom_92 : decode cX0_takeFrom 92 = .ok (.aload_n 1, 1) := by decide +kernel
theorem dX0_takeFrom_93 : decode cX0_takeFrom 93 = .ok (.getfield 37, 3) := by decide +kernel
theorem dX0_takeFrom_96 : decode cX0_takeFrom 96 = .ok (.iconst 0, 1) := by decide +kernel
theorem dX0_takeFrom_97 : decode cX0_takeFrom 97 = .ok (.aload_n 0, 1) := by decide +kernel
theorem dX0_takeFrom_98 : decode cX0_takeFrom 98 = .ok (.getfield 37, 3) := by decide +kernel
theorem dX0_takeFrom_101 : decode cX0_takeFrom 101 = .ok (.iconst 0, 1) := by decide +kernel
theorem dX0_takeFrom_102 : decode cX0_takeFrom 102 = .ok (.bipush 8, 2) := by decide +kernel
theorem dX0_takeFrom_104 : decode cX0_takeFrom 104 = .ok (.invokestatic 46, 3) := by decide +kernel
theorem dX0_takeFrom_107 : decode cX0_takeFrom 107 = .ok (.aload_n 1, 1) := by decide +kernel
theorem dX0_takeFrom_108 : decode cX0_takeFrom 108 = .ok (.getfield 40, 3) := by decide +kernel
theorem dX0_takeFrom_111 : decode cX0_takeFrom 111 = .ok (.iconst 0, 1) := by decide +kernel
theorem dX0_takeFrom_112 : decode cX0_takeFrom 112 = .ok (.aload_n 0, 1) := by decide +kernel
theorem dX0_takeFrom_113 : decode cX0_takeFrom 113 = .ok (.getfield 40, 3) := by decide +kernel
theorem dX0_takeFrom_116 : decode cX0_takeFrom 116 = .ok (.iconst 0, 1) := by decide +kernel
theorem dX0_takeFrom_117 : decode cX0_takeFrom 117 = .ok (.bipush 8, 2) := by decide +kernel
theorem dX0_takeFrom_119 : decode cX0_takeFrom 119 = .ok (.invokestatic 46, 3) := by decide +kernel
theorem dX0_takeFrom_122 : decode cX0_takeFrom 122 = .ok (.aload_n 1, 1) := by decide +kernel
theorem dX0_takeFrom_123 : decode cX0_takeFrom 123 = .ok (.getfield 43, 3) := by decide +kernel
theorem dX0_takeFrom_126 : decode cX0_takeFrom 126 = .ok (.iconst 0, 1) := by decide +kernel
theorem dX0_takeFrom_127 : decode cX0_takeFrom 127 = .ok (.aload_n 0, 1) := by decide +kernel
theorem dX0_takeFrom_128 : decode cX0_takeFrom 128 = .ok (.getfield 43, 3) := by decide +kernel
theorem dX0_takeFrom_131 : decode cX0_takeFrom 131 = .ok (.iconst 0, 1) := by decide +kernel
theorem dX0_takeFrom_132 : decode cX0_takeFrom 132 = .ok (.bipush 8, 2) := by decide +kernel
theorem dX0_takeFrom_134 : decode cX0_takeFrom 134 = .ok (.invokestatic 46, 3) := by decide +kernel
theorem dX0_takeFrom_137 : decode cX0_takeFrom 137 = .ok (.return_, 1) := by decide +kernel
theorem dX0_has_0 : decode cX0_has 0 = .ok (.iload_n 1, 1) := by decide +kernel
theorem dX0_has_1 : decode cX0_has 1 = .ok (.ifCond .lt 15, 3) := by decide +kernel
theorem dX0_has_4 : decode cX0_has 4 = .ok (.iload_n 1, 1) := by decide +kernel
theorem dX0_has_5 : decode cX0_has 5 = .ok (.aload_n 0, 1) := by decide +kernel
theorem dX0_has_6 : decode cX0_has 6 = .ok (.getfield 21, 3) := by decide +kernel
theorem dX0_has_9 : decode cX0_has 9 = .ok (.if_icmp .ge 7, 3) := by decide +kernel
theorem dX0_has_12 : decode cX0_has 12 = .ok (.iconst 1, 1) := by decide +kernel
theorem dX0_has_13 : decode cX0_has 13 = .ok (.goto 4, 3) := by decide +kernel
theorem dX0_has_16 : decode cX0_has 16 = .ok (.iconst 0, 1) := by decide +kernel
theorem dX0_has_17 : decode cX0_has 17 = .ok (.ireturn, 1) := by decide +kernel
theorem dX0_hasRoom_0 : decode cX0_hasRoom 0 = .ok (.aload_n 0, 1) := by decide +kernel
theorem dX0_hasRoom_1 : decode cX0_hasRoom 1 = .ok (.getfield 21, 3) := by decide +kernel
theorem dX0_hasRoom_4 : decode cX0_hasRoom 4 = .ok (.bipush 8, 2) := by decide +kernel
theorem dX0_hasRoom_6 : decode cX0_hasRoom 6 = .ok (.if_icmp .ge 7, 3) := by decide +kernel
theorem dX0_hasRoom_9 : decode cX0_hasRoom 9 = .ok (.iconst 1, 1) := by decide +kernel
theorem dX0_hasRoom_10 : decode cX0_hasRoom 10 = .ok (.goto 4, 3) := by decide +kernel
theorem dX0_hasRoom_13 : decode cX0_hasRoom 13 = .ok (.iconst 0, 1) := by decide +kernel
theorem dX0_hasRoom_14 : decode cX0_hasRoom 14 = .ok (.ireturn, 1) := by decide +kernel
theorem dX0_come_0 : decode cX0_come 0 = .ok (.aload_n 0, 1) := by decide +kernel
theorem dX0_come_1 : decode cX0_come 1 = .ok (.invokevirtual 52, 3) := by decide +kernel
theorem dX0_come_4 : decode cX0_come 4 = .ok (.ifCond .ne 5, 3) := by decide +kernel
theorem dX0_come_7 : decode cX0_come 7 = .ok (.iconst (-1), 1) := by decide +kernel
theorem dX0_come_8 : decode cX0_come 8 = .ok (.ireturn, 1) := by decide +kernel
theorem dX0_come_9 : decode cX0_come 9 = .ok (.aload_n 0, 1) := by decide +kernel
theorem dX0_come_10 : decode cX0_come 10 = .ok (.getfield 21, 3) := by decide +kernel
theorem dX0_come_13 : decode cX0_come 13 = .ok (.istore_n 3, 1) := by decide +kernel
theorem dX0_come_14 : decode cX0_come 14 = .ok (.aload_n 0, 1) := by decide +kernel
theorem dX0_come_15 : decode cX0_come 15 = .ok (.getfield 24, 3) := by decide +kernel
theorem dX0_come_18 : decode cX0_come 18 = .ok (.iload_n 3, 1) := by decide +kernel
theorem dX0_come_19 : decode cX0_come 19 = .ok (.iload_n 1, 1) := by decide +kernel
theorem dX0_come_20 : decode cX0_come 20 = .ok (.iastore, 1) := by decide +kernel
theorem dX0_come_21 : decode cX0_come 21 = .ok (.aload_n 0, 1) := by decide +kernel
theorem dX0_come_22 : decode cX0_come 22 = .ok (.getfield 28, 3) := by decide +kernel
theorem dX0_come_25 : decode cX0_come 25 = .ok (.iload_n 3, 1) := by decide +kernel
theorem dX0_come_26 : decode cX0_come 26 = .ok (.iload_n 2, 1) := by decide +kernel
theorem dX0_come_27 : decode cX0_come 27 = .ok (.iastore, 1) := by decide +kernel
theorem dX0_come_28 : decode cX0_come 28 = .ok (.aload_n 0, 1) := by decide +kernel
theorem dX0_come_29 : decode cX0_come 29 = .ok (.getfield 31, 3) := by decide +kernel
theorem dX0_come_32 : decode cX0_come 32 = .ok (.iload_n 3, 1) := by decide +kernel
theorem dX0_come_33 : decode cX0_come 33 = .ok (.iload_n 2, 1) := by decide +kernel
theorem dX0_come_34 : decode cX0_come 34 = .ok (.iastore, 1) := by decide +kernel
theorem dX0_come_35 : decode cX0_come 35 = .ok (.aload_n 0, 1) := by decide +kernel
theorem dX0_come_36 : decode cX0_come 36 = .ok (.getfield 34, 3) := by decide +kernel
theorem dX0_come_39 : decode cX0_come 39 = .ok (.iload_n 3, 1) := by decide +kernel
theorem dX0_come_40 : decode cX0_come 40 = .ok (.iconst 0, 1) := by decide +kernel
theorem dX0_come_41 : decode cX0_come 41 = .ok (.iastore, 1) := by decide +kernel
theorem dX0_come_42 : decode cX0_come 42 = .ok (.aload_n 0, 1) := by decide +kernel
theorem dX0_come_43 : decode cX0_come 43 = .ok (.getfield 37, 3) := by decide +kernel
theorem dX0_come_46 : decode cX0_come 46 = .ok (.iload_n 3, 1) := by decide +kernel
theorem dX0_come_47 : decode cX0_come 47 = .ok (.iconst 0, 1) := by decide +kernel
theorem dX0_come_48 : decode cX0_come 48 = .ok (.iastore, 1) := by decide +kernel
theorem dX0_come_49 : decode cX0_come 49 = .ok (.aload_n 0, 1) := by decide +kernel
theorem dX0_come_50 : decode cX0_come 50 = .ok (.getfield 40, 3) := by decide +kernel
theorem dX0_come_53 : decode cX0_come 53 = .ok (.iload_n 3, 1) := by decide +kernel
theorem dX0_come_54 : decode cX0_come 54 = .ok (.iconst (-1), 1) := by decide +kernel
theorem dX0_come_55 : decode cX0_come 55 = .ok (.iastore, 1) := by decide +kernel
theorem dX0_come_56 : decode cX0_come 56 = .ok (.aload_n 0, 1) := by decide +kernel
theorem dX0_come_57 : decode cX0_come 57 = .ok (.getfield 43, 3) := by decide +kernel
theorem dX0_come_60 : decode cX0_come 60 = .ok (.iload_n 3, 1) := by decide +kernel
theorem dX0_come_61 : decode cX0_come 61 = .ok (.iconst (-1), 1) := by decide +kernel
theorem dX0_come_62 : decode cX0_come 62 = .ok (.iastore, 1) := by decide +kernel
theorem dX0_come_63 : decode cX0_come 63 = .ok (.aload_n 0, 1) := by decide +kernel
theorem dX0_come_64 : decode cX0_come 64 = .ok (.dup, 1) := by decide +kernel
theorem dX0_come_65 : decode cX0_come 65 = .ok (.getfield 21, 3) := by decide +kernel
theorem dX0_come_68 : decode cX0_come 68 = .ok (.iconst 1, 1) := by decide +kernel
theorem dX0_come_69 : decode cX0_come 69 = .ok (.iadd, 1) := by decide +kernel
theorem dX0_come_70 : decode cX0_come 70 = .ok (.putfield 21, 3) := by decide +kernel
theorem dX0_come_73 : decode cX0_come 73 = .ok (.iload_n 3, 1) := by decide +kernel
theorem dX0_come_74 : decode cX0_come 74 = .ok (.ireturn, 1) := by decide +kernel
theorem dX0_tell_0 : decode cX0_tell 0 = .ok (.iload_n 2, 1) := by decide +kernel
theorem dX0_tell_1 : decode cX0_tell 1 = .ok (.tableswitch 110 0 7 #[47, 54, 61, 68, 75, 82, 89, 96], 47) := by decide +kernel
theorem dX0_tell_48 : decode cX0_tell 48 = .ok (.aload_n 0, 1) := by decide +kernel
theorem dX0_tell_49 : decode cX0_tell 49 = .ok (.getfield 24, 3) := by decide +kernel
theorem dX0_tell_52 : decode cX0_tell 52 = .ok (.iload_n 1, 1) := by decide +kernel
theorem dX0_tell_53 : decode cX0_tell 53 = .ok (.iaload, 1) := by decide +kernel
theorem dX0_tell_54 : decode cX0_tell 54 = .ok (.ireturn, 1) := by decide +kernel
theorem dX0_tell_55 : decode cX0_tell 55 = .ok (.aload_n 0, 1) := by decide +kernel
theorem dX0_tell_56 : decode cX0_tell 56 = .ok (.getfield 28, 3) := by decide +kernel
theorem dX0_tell_59 : decode cX0_tell 59 = .ok (.iload_n 1, 1) := by decide +kernel
theorem dX0_tell_60 : decode cX0_tell 60 = .ok (.iaload, 1) := by decide +kernel
theorem dX0_tell_61 : decode cX0_tell 61 = .ok (.ireturn, 1) := by decide +kernel
theorem dX0_tell_62 : decode cX0_tell 62 = .ok (.aload_n 0, 1) := by decide +kernel
theorem dX0_tell_63 : decode cX0_tell 63 = .ok (.getfield 31, 3) := by decide +kernel
theorem dX0_tell_66 : decode cX0_tell 66 = .ok (.iload_n 1, 1) := by decide +kernel
theorem dX0_tell_67 : decode cX0_tell 67 = .ok (.iaload, 1) := by decide +kernel
theorem dX0_tell_68 : decode cX0_tell 68 = .ok (.ireturn, 1) := by decide +kernel
theorem dX0_tell_69 : decode cX0_tell 69 = .ok (.aload_n 0, 1) := by decide +kernel
theorem dX0_tell_70 : decode cX0_tell 70 = .ok (.getfield 34, 3) := by decide +kernel
theorem dX0_tell_73 : decode cX0_tell 73 = .ok (.iload_n 1, 1) := by decide +kernel
theorem dX0_tell_74 : decode cX0_tell 74 = .ok (.iaload, 1) := by decide +kernel
theorem dX0_tell_75 : decode cX0_tell 75 = .ok (.ireturn, 1) := by decide +kernel
theorem dX0_tell_76 : decode cX0_tell 76 = .ok (.aload_n 0, 1) := by decide +kernel
theorem dX0_tell_77 : decode cX0_tell 77 = .ok (.getfield 37, 3) := by decide +kernel
theorem dX0_tell_80 : decode cX0_tell 80 = .ok (.iload_n 1, 1) := by decide +kernel
theorem dX0_tell_81 : decode cX0_tell 81 = .ok (.iaload, 1) := by decide +kernel
theorem dX0_tell_82 : decode cX0_tell 82 = .ok (.ireturn, 1) := by decide +kernel
theorem dX0_tell_83 : decode cX0_tell 83 = .ok (.aload_n 0, 1) := by decide +kernel
theorem dX0_tell_84 : decode cX0_tell 84 = .ok (.getfield 40, 3) := by decide +kernel
theorem dX0_tell_87 : decode cX0_tell 87 = .ok (.iload_n 1, 1) := by decide +kernel
theorem dX0_tell_88 : decode cX0_tell 88 = .ok (.iaload, 1) := by decide +kernel
theorem dX0_tell_89 : decode cX0_tell 89 = .ok (.ireturn, 1) := by decide +kernel
theorem dX0_tell_90 : decode cX0_tell 90 = .ok (.aload_n 0, 1) := by decide +kernel
theorem dX0_tell_91 : decode cX0_tell 91 = .ok (.getfield 43, 3) := by decide +kernel
theorem dX0_tell_94 : decode cX0_tell 94 = .ok (.iload_n 1, 1) := by decide +kernel
theorem dX0_tell_95 : decode cX0_tell 95 = .ok (.iaload, 1) := by decide +kernel
theorem dX0_tell_96 : decode cX0_tell 96 = .ok (.ireturn, 1) := by decide +kernel
theorem dX0_tell_97 : decode cX0_tell 97 = .ok (.aload_n 0, 1) := by decide +kernel
theorem dX0_tell_98 : decode cX0_tell 98 = .ok (.getfield 24, 3) := by decide +kernel
theorem dX0_tell_101 : decode cX0_tell 101 = .ok (.iload_n 1, 1) := by decide +kernel
theorem dX0_tell_102 : decode cX0_tell 102 = .ok (.iaload, 1) := by decide +kernel
theorem dX0_tell_103 : decode cX0_tell 103 = .ok (.aload_n 0, 1) := by decide +kernel
theorem dX0_tell_104 : decode cX0_tell 104 = .ok (.getfield 9, 3) := by decide +kernel
theorem dX0_tell_107 : decode cX0_tell 107 = .ok (.invokestatic 56, 3) := by decide +kernel
theorem dX0_tell_110 : decode cX0_tell 110 = .ok (.ireturn, 1) := by decide +kernel
theorem dX0_tell_111 : decode cX0_tell 111 = .ok (.aload_n 0, 1) := by decide +kernel
theorem dX0_tell_112 : decode cX0_tell 112 = .ok (.getfield 24, 3) := by decide +kernel
theorem dX0_tell_115 : decode cX0_tell 115 = .ok (.iload_n 1, 1) := by decide +kernel
theorem dX0_tell_116 : decode cX0_tell 116 = .ok (.iaload, 1) := by decide +kernel
theorem dX0_tell_117 : decode cX0_tell 117 = .ok (.aload_n 0, 1) := by decide +kernel
theorem dX0_tell_118 : decode cX0_tell 118 = .ok (.getfield 9, 3) := by decide +kernel
theorem dX0_tell_121 : decode cX0_tell 121 = .ok (.invokestatic 60, 3) := by decide +kernel
theorem dX0_tell_124 : decode cX0_tell 124 = .ok (.ireturn, 1) := by decide +kernel
theorem dX0_isFree_0 : decode cX0_isFree 0 = .ok (.aload_n 0, 1) := by decide +kernel
theorem dX0_isFree_1 : decode cX0_isFree 1 = .ok (.getfield 40, 3) := by decide +kernel
theorem dX0_isFree_4 : decode cX0_isFree 4 = .ok (.iload_n 1, 1) := by decide +kernel
theorem dX0_isFree_5 : decode cX0_isFree 5 = .ok (.iaload, 1) := by decide +kernel
theorem dX0_isFree_6 : decode cX0_isFree 6 = .ok (.iconst (-1), 1) := by decide +kernel
theorem dX0_isFree_7 : decode cX0_isFree 7 = .ok (.if_icmp .ne 7, 3) := by decide +kernel
theorem dX0_isFree_10 : decode cX0_isFree 10 = .ok (.iconst 1, 1) := by decide +kernel
theorem dX0_isFree_11 : decode cX0_isFree 11 = .ok (.goto 4, 3) := by decide +kernel
theorem dX0_isFree_14 : decode cX0_isFree 14 = .ok (.iconst 0, 1) := by decide +kernel
theorem dX0_isFree_15 : decode cX0_isFree 15 = .ok (.ireturn, 1) := by decide +kernel
theorem dX0_isGlad_0 : decode cX0_isGlad 0 = .ok (.aload_n 0, 1) := by decide +kernel
theorem dX0_isGlad_1 : decode cX0_isGlad 1 = .ok (.iload_n 1, 1) := by decide +kernel
theorem dX0_isGlad_2 : decode cX0_isGlad 2 = .ok (.invokevirtual 63, 3) := by decide +kernel
theorem dX0_isGlad_5 : decode cX0_isGlad 5 = .ok (.ifCond .ne 32, 3) := by decide +kernel
theorem dX0_isGlad_8 : decode cX0_isGlad 8 = .ok (.aload_n 0, 1) := by decide +kernel
theorem dX0_isGlad_9 : decode cX0_isGlad 9 = .ok (.getfield 40, 3) := by decide +kernel
theorem dX0_isGlad_12 : decode cX0_isGlad 12 = .ok (.iload_n 1, 1) := by decide +kernel
theorem dX0_isGlad_13 : decode cX0_isGlad 13 = .ok (.iaload, 1) := by decide +kernel
theorem dX0_isGlad_14 : decode cX0_isGlad 14 = .ok (.iload_n 1, 1) := by decide +kernel
theorem dX0_isGlad_15 : decode cX0_isGlad 15 = .ok (.if_icmp .eq 22, 3) := by decide +kernel
theorem dX0_isGlad_18 : decode cX0_isGlad 18 = .ok (.aload_n 0, 1) := by decide +kernel
theorem dX0_isGlad_19 : decode cX0_isGlad 19 = .ok (.getfield 43, 3) := by decide +kernel
theorem dX0_isGlad_22 : decode cX0_isGlad 22 = .ok (.iload_n 1, 1) := by decide +kernel
theorem dX0_isGlad_23 : decode cX0_isGlad 23 = .ok (.iaload, 1) := by decide +kernel
theorem dX0_isGlad_24 : decode cX0_isGlad 24 = .ok (.aload_n 0, 1) := by decide +kernel
theorem dX0_isGlad_25 : decode cX0_isGlad 25 = .ok (.getfield 37, 3) := by decide +kernel
theorem dX0_isGlad_28 : decode cX0_isGlad 28 = .ok (.iload_n 1, 1) := by decide +kernel
theorem dX0_isGlad_29 : decode cX0_isGlad 29 = .ok (.iaload, 1) := by decide +kernel
theorem dX0_isGlad_30 : decode cX0_isGlad 30 = .ok (.if_icmp .ne 7, 3) := by decide +kernel
theorem dX0_isGlad_33 : decode cX0_isGlad 33 = .ok (.iconst 1, 1) := by decide +kernel
theorem dX0_isGlad_34 : decode cX0_isGlad 34 = .ok (.goto 4, 3) := by decide +kernel
theorem dX0_isGlad_37 : decode cX0_isGlad 37 = .ok (.iconst 0, 1) := by decide +kernel
theorem dX0_isGlad_38 : decode cX0_isGlad 38 = .ok (.ireturn, 1) := by decide +kernel
theorem dX0_isFoggy_0 : decode cX0_isFoggy 0 = .ok (.aload_n 0, 1) := by decide +kernel
theorem dX0_isFoggy_1 : decode cX0_isFoggy 1 = .ok (.getfield 15, 3) := by decide +kernel
theorem dX0_isFoggy_4 : decode cX0_isFoggy 4 = .ok (.aload_n 0, 1) := by decide +kernel
theorem dX0_isFoggy_5 : decode cX0_isFoggy 5 = .ok (.getfield 9, 3) := by decide +kernel
theorem dX0_isFoggy_8 : decode cX0_isFoggy 8 = .ok (.bipush 24, 2) := by decide +kernel
theorem dX0_isFoggy_10 : decode cX0_isFoggy 10 = .ok (.irem, 1) := by decide +kernel
theorem dX0_isFoggy_11 : decode cX0_isFoggy 11 = .ok (.ishr, 1) := by decide +kernel
theorem dX0_isFoggy_12 : decode cX0_isFoggy 12 = .ok (.iconst 1, 1) := by decide +kernel
theorem dX0_isFoggy_13 : decode cX0_isFoggy 13 = .ok (.iand, 1) := by decide +kernel
theorem dX0_isFoggy_14 : decode cX0_isFoggy 14 = .ok (.iconst 1, 1) := by decide +kernel
theorem dX0_isFoggy_15 : decode cX0_isFoggy 15 = .ok (.if_icmp .ne 7, 3) := by decide +kernel
theorem dX0_isFoggy_18 : decode cX0_isFoggy 18 = .ok (.iconst 1, 1) := by decide +kernel
theorem dX0_isFoggy_19 : decode cX0_isFoggy 19 = .ok (.goto 4, 3) := by decide +kernel
theorem dX0_isFoggy_22 : decode cX0_isFoggy 22 = .ok (.iconst 0, 1) := by decide +kernel
theorem dX0_isFoggy_23 : decode cX0_isFoggy 23 = .ok (.ireturn, 1) := by decide +kernel
theorem dX0_setAt_0 : decode cX0_setAt 0 = .ok (.iconst 0, 1) := by decide +kernel
theorem dX0_setAt_1 : decode cX0_setAt 1 = .ok (.istore_n 2, 1) := by decide +kernel
theorem dX0_setAt_2 : decode cX0_setAt 2 = .ok (.iconst 0, 1) := by decide +kernel
theorem dX0_setAt_3 : decode cX0_setAt 3 = .ok (.istore_n 3, 1) := by decide +kernel
theorem dX0_setAt_4 : decode cX0_setAt 4 = .ok (.iload_n 3, 1) := by decide +kernel
theorem dX0_setAt_5 : decode cX0_setAt 5 = .ok (.aload_n 0, 1) := by decide +kernel
theorem dX0_setAt_6 : decode cX0_setAt 6 = .ok (.getfield 21, 3) := by decide +kernel
theorem dX0_setAt_9 : decode cX0_setAt 9 = .ok (.if_icmp .ge 25, 3) := by decide +kernel
theorem dX0_setAt_12 : decode cX0_setAt 12 = .ok (.aload_n 0, 1) := by decide +kernel
theorem dX0_setAt_13 : decode cX0_setAt 13 = .ok (.getfield 28, 3) := by decide +kernel
theorem dX0_setAt_16 : decode cX0_setAt 16 = .ok (.iload_n 3, 1) := by decide +kernel
theorem dX0_setAt_17 : decode cX0_setAt 17 = .ok (.iaload, 1) := by decide +kernel
theorem dX0_setAt_18 : decode cX0_setAt 18 = .ok (.iload_n 1, 1) := by decide +kernel
theorem dX0_setAt_19 : decode cX0_setAt 19 = .ok (.if_icmp .ne 9, 3) := by decide +kernel
theorem dX0_setAt_22 : decode cX0_setAt 22 = .ok (.iload_n 2, 1) := by decide +kernel
theorem dX0_setAt_23 : decode cX0_setAt 23 = .ok (.iconst 1, 1) := by decide +kernel
theorem dX0_setAt_24 : decode cX0_setAt 24 = .ok (.iload_n 3, 1) := by decide +kernel
theorem dX0_setAt_25 : decode cX0_setAt 25 = .ok (.ishl, 1) := by decide +kernel
theorem dX0_setAt_26 : decode cX0_setAt 26 = .ok (.ior, 1) := by decide +kernel
theorem dX0_setAt_27 : decode cX0_setAt 27 = .ok (.istore_n 2, 1) := by decide +kernel
theorem dX0_setAt_28 : decode cX0_setAt 28 = .ok (.iinc 3 1, 3) := by decide +kernel
theorem dX0_setAt_31 : decode cX0_setAt 31 = .ok (.goto (-27), 3) := by decide +kernel
theorem dX0_setAt_34 : decode cX0_setAt 34 = .ok (.iload_n 2, 1) := by decide +kernel
theorem dX0_setAt_35 : decode cX0_setAt 35 = .ok (.ireturn, 1) := by decide +kernel
theorem dX0_keptSet_0 : decode cX0_keptSet 0 = .ok (.iconst 0, 1) := by decide +kernel
theorem dX0_keptSet_1 : decode cX0_keptSet 1 = .ok (.istore_n 1, 1) := by decide +kernel
theorem dX0_keptSet_2 : decode cX0_keptSet 2 = .ok (.iconst 0, 1) := by decide +kernel
theorem dX0_keptSet_3 : decode cX0_keptSet 3 = .ok (.istore_n 2, 1) := by decide +kernel
theorem dX0_keptSet_4 : decode cX0_keptSet 4 = .ok (.iload_n 2, 1) := by decide +kernel
theorem dX0_keptSet_5 : decode cX0_keptSet 5 = .ok (.aload_n 0, 1) := by decide +kernel
theorem dX0_keptSet_6 : decode cX0_keptSet 6 = .ok (.getfield 21, 3) := by decide +kernel
theorem dX0_keptSet_9 : decode cX0_keptSet 9 = .ok (.if_icmp .ge 23, 3) := by decide +kernel
theorem dX0_keptSet_12 : decode cX0_keptSet 12 = .ok (.aload_n 0, 1) := by decide +kernel
theorem dX0_keptSet_13 : decode cX0_keptSet 13 = .ok (.iload_n 2, 1) := by decide +kernel
theorem dX0_keptSet_14 : decode cX0_keptSet 14 = .ok (.invokevirtual 63, 3) := by decide +kernel
theorem dX0_keptSet_17 : decode cX0_keptSet 17 = .ok (.ifCond .ne 9, 3) := by decide +kernel
theorem dX0_keptSet_20 : decode cX0_keptSet 20 = .ok (.iload_n 1, 1) := by decide +kernel
theorem dX0_keptSet_21 : decode cX0_keptSet 21 = .ok (.iconst 1, 1) := by decide +kernel
theorem dX0_keptSet_22 : decode cX0_keptSet 22 = .ok (.iload_n 2, 1) := by decide +kernel
theorem dX0_keptSet_23 : decode cX0_keptSet 23 = .ok (.ishl, 1) := by decide +kernel
theorem dX0_keptSet_24 : decode cX0_keptSet 24 = .ok (.ior, 1) := by decide +kernel
theorem dX0_keptSet_25 : decode cX0_keptSet 25 = .ok (.istore_n 1, 1) := by decide +kernel
theorem dX0_keptSet_26 : decode cX0_keptSet 26 = .ok (.iinc 2 1, 3) := by decide +kernel
theorem dX0_keptSet_29 : decode cX0_keptSet 29 = .ok (.goto (-25), 3) := by decide +kernel
theorem dX0_keptSet_32 : decode cX0_keptSet 32 = .ok (.iload_n 1, 1) := by decide +kernel
theorem dX0_keptSet_33 : decode cX0_keptSet 33 = .ok (.ireturn, 1) := by decide +kernel
theorem dX0_gladSet_0 : decode cX0_gladSet 0 = .ok (.iconst 0, 1) := by decide +kernel
theorem dX0_gladSet_1 : decode cX0_gladSet 1 = .ok (.istore_n 1, 1) := by decide +kernel
theorem dX0_gladSet_2 : decode cX0_gladSet 2 = .ok (.iconst 0, 1) := by decide +kernel
theorem dX0_gladSet_3 : decode cX0_gladSet 3 = .ok (.istore_n 2, 1) := by decide +kernel
theorem dX0_gladSet_4 : decode cX0_gladSet 4 = .ok (.iload_n 2, 1) := by decide +kernel
theorem dX0_gladSet_5 : decode cX0_gladSet 5 = .ok (.aload_n 0, 1) := by decide +kernel
theorem dX0_gladSet_6 : decode cX0_gladSet 6 = .ok (.getfield 21, 3) := by decide +kernel
theorem dX0_gladSet_9 : decode cX0_gladSet 9 = .ok (.if_icmp .ge 23, 3) := by decide +kernel
theorem dX0_gladSet_12 : decode cX0_gladSet 12 = .ok (.aload_n 0, 1) := by decide +kernel
theorem dX0_gladSet_13 : decode cX0_gladSet 13 = .ok (.iload_n 2, 1) := by decide +kernel
theorem dX0_gladSet_14 : decode cX0_gladSet 14 = .ok (.invokevirtual 67, 3) := by decide +kernel
theorem dX0_gladSet_17 : decode cX0_gladSet 17 = .ok (.ifCond .eq 9, 3) := by decide +kernel
theorem dX0_gladSet_20 : decode cX0_gladSet 20 = .ok (.iload_n 1, 1) := by decide +kernel
theorem dX0_gladSet_21 : decode cX0_gladSet 21 = .ok (.iconst 1, 1) := by decide +kernel
theorem dX0_gladSet_22 : decode cX0_gladSet 22 = .ok (.iload_n 2, 1) := by decide +kernel
theorem dX0_gladSet_23 : decode cX0_gladSet 23 = .ok (.ishl, 1) := by decide +kernel
theorem dX0_gladSet_24 : decode cX0_gladSet 24 = .ok (.ior, 1) := by decide +kernel
theorem dX0_gladSet_25 : decode cX0_gladSet 25 = .ok (.istore_n 1, 1) := by decide +kernel
theorem dX0_gladSet_26 : decode cX0_gladSet 26 = .ok (.iinc 2 1, 3) := by decide +kernel
theorem dX0_gladSet_29 : decode cX0_gladSet 29 = .ok (.goto (-25), 3) := by decide +kernel
theorem dX0_gladSet_32 : decode cX0_gladSet 32 = .ok (.iload_n 1, 1) := by decide +kernel
theorem dX0_gladSet_33 : decode cX0_gladSet 33 = .ok (.ireturn, 1) := by decide +kernel
theorem dX0_moveTo_0 : decode cX0_moveTo 0 = .ok (.aload_n 0, 1) := by decide +kernel
theorem dX0_moveTo_1 : decode cX0_moveTo 1 = .ok (.getfield 28, 3) := by decide +kernel
theorem dX0_moveTo_4 : decode cX0_moveTo 4 = .ok (.iload_n 1, 1) := by decide +kernel
theorem dX0_moveTo_5 : decode cX0_moveTo 5 = .ok (.iload_n 2, 1) := by decide +kernel
theorem dX0_moveTo_6 : decode cX0_moveTo 6 = .ok (.iastore, 1) := by decide +kernel
theorem dX0_moveTo_7 : decode cX0_moveTo 7 = .ok (.aload_n 0, 1) := by decide +kernel
theorem dX0_moveTo_8 : decode cX0_moveTo 8 = .ok (.iload_n 1, 1) := by decide +kernel
theorem dX0_moveTo_9 : decode cX0_moveTo 9 = .ok (.invokevirtual 70, 3) := by decide +kernel
theorem dX0_moveTo_12 : decode cX0_moveTo 12 = .ok (.return_, 1) := by decide +kernel
theorem dX0_release_0 : decode cX0_release 0 = .ok (.aload_n 0, 1) := by decide +kernel
theorem dX0_release_1 : decode cX0_release 1 = .ok (.getfield 40, 3) := by decide +kernel
theorem dX0_release_4 : decode cX0_release 4 = .ok (.iload_n 1, 1) := by decide +kernel
theorem dX0_release_5 : decode cX0_release 5 = .ok (.iaload, 1) := by decide +kernel
theorem dX0_release_6 : decode cX0_release 6 = .ok (.istore_n 2, 1) := by decide +kernel
theorem dX0_release_7 : decode cX0_release 7 = .ok (.aload_n 0, 1) := by decide +kernel
theorem dX0_release_8 : decode cX0_release 8 = .ok (.iload_n 2, 1) := by decide +kernel
theorem dX0_release_9 : decode cX0_release 9 = .ok (.invokevirtual 74, 3) := by decide +kernel
theorem dX0_release_12 : decode cX0_release 12 = .ok (.ifCond .eq 17, 3) := by decide +kernel
theorem dX0_release_15 : decode cX0_release 15 = .ok (.aload_n 0, 1) := by decide +kernel
theorem dX0_release_16 : decode cX0_release 16 = .ok (.getfield 40, 3) := by decide +kernel
theorem dX0_release_19 : decode cX0_release 19 = .ok (.iload_n 2, 1) := by decide +kernel
theorem dX0_release_20 : decode cX0_release 20 = .ok (.iconst (-1), 1) := by decide +kernel
theorem dX0_release_21 : decode cX0_release 21 = .ok (.iastore, 1) := by decide +kernel
theorem dX0_release_22 : decode cX0_release 22 = .ok (.aload_n 0, 1) := by decide +kernel
theorem dX0_release_23 : decode cX0_release 23 = .ok (.getfield 43, 3) := by decide +kernel
theorem dX0_release_26 : decode cX0_release 26 = .ok (.iload_n 2, 1) := by decide +kernel
theorem dX0_release_27 : decode cX0_release 27 = .ok (.iconst (-1), 1) := by decide +kernel
theorem dX0_release_28 : decode cX0_release 28 = .ok (.iastore, 1) := by decide +kernel
theorem dX0_release_29 : decode cX0_release 29 = .ok (.aload_n 0, 1) := by decide +kernel
theorem dX0_release_30 : decode cX0_release 30 = .ok (.getfield 40, 3) := by decide +kernel
theorem dX0_release_33 : decode cX0_release 33 = .ok (.iload_n 1, 1) := by decide +kernel
theorem dX0_release_34 : decode cX0_release 34 = .ok (.iconst (-1), 1) := by decide +kernel
theorem dX0_release_35 : decode cX0_release 35 = .ok (.iastore, 1) := by decide +kernel
theorem dX0_release_36 : decode cX0_release 36 = .ok (.aload_n 0, 1) := by decide +kernel
theorem dX0_release_37 : decode cX0_release 37 = .ok (.getfield 43, 3) := by decide +kernel
theorem dX0_release_40 : decode cX0_release 40 = .ok (.iload_n 1, 1) := by decide +kernel
theorem dX0_release_41 : decode cX0_release 41 = .ok (.iconst (-1), 1) := by decide +kernel
theorem dX0_release_42 : decode cX0_release 42 = .ok (.iastore, 1) := by decide +kernel
theorem dX0_release_43 : decode cX0_release 43 = .ok (.return_, 1) := by decide +kernel
theorem dX0_keepTwo_0 : decode cX0_keepTwo 0 = .ok (.aload_n 0, 1) := by decide +kernel
theorem dX0_keepTwo_1 : decode cX0_keepTwo 1 = .ok (.getfield 40, 3) := by decide +kernel
theorem dX0_keepTwo_4 : decode cX0_keepTwo 4 = .ok (.iload_n 1, 1) := by decide +kernel
theorem dX0_keepTwo_5 : decode cX0_keepTwo 5 = .ok (.iload_n 2, 1) := by decide +kernel
theorem dX0_keepTwo_6 : decode cX0_keepTwo 6 = .ok (.iastore, 1) := by decide +kernel
theorem dX0_keepTwo_7 : decode cX0_keepTwo 7 = .ok (.aload_n 0, 1) := by decide +kernel
theorem dX0_keepTwo_8 : decode cX0_keepTwo 8 = .ok (.getfield 43, 3) := by decide +kernel
theorem dX0_keepTwo_11 : decode cX0_keepTwo 11 = .ok (.iload_n 1, 1) := by decide +kernel
theorem dX0_keepTwo_12 : decode cX0_keepTwo 12 = .ok (.aload_n 0, 1) := by decide +kernel
theorem dX0_keepTwo_13 : decode cX0_keepTwo 13 = .ok (.getfield 37, 3) := by decide +kernel
theorem dX0_keepTwo_16 : decode cX0_keepTwo 16 = .ok (.iload_n 2, 1) := by decide +kernel
theorem dX0_keepTwo_17 : decode cX0_keepTwo 17 = .ok (.iaload, 1) := by decide +kernel
theorem dX0_keepTwo_18 : decode cX0_keepTwo 18 = .ok (.iastore, 1) := by decide +kernel
theorem dX0_keepTwo_19 : decode cX0_keepTwo 19 = .ok (.aload_n 0, 1) := by decide +kernel
theorem dX0_keepTwo_20 : decode cX0_keepTwo 20 = .ok (.getfield 40, 3) := by decide +kernel
theorem dX0_keepTwo_23 : decode cX0_keepTwo 23 = .ok (.iload_n 2, 1) := by decide +kernel
theorem dX0_keepTwo_24 : decode cX0_keepTwo 24 = .ok (.iload_n 1, 1) := by decide +kernel
theorem dX0_keepTwo_25 : decode cX0_keepTwo 25 = .ok (.iastore, 1) := by decide +kernel
theorem dX0_keepTwo_26 : decode cX0_keepTwo 26 = .ok (.aload_n 0, 1) := by decide +kernel
theorem dX0_keepTwo_27 : decode cX0_keepTwo 27 = .ok (.getfield 43, 3) := by decide +kernel
theorem dX0_keepTwo_30 : decode cX0_keepTwo 30 = .ok (.iload_n 2, 1) := by decide +kernel
theorem dX0_keepTwo_31 : decode cX0_keepTwo 31 = .ok (.aload_n 0, 1) := by decide +kernel
theorem dX0_keepTwo_32 : decode cX0_keepTwo 32 = .ok (.getfield 37, 3) := by decide +kernel
theorem dX0_keepTwo_35 : decode cX0_keepTwo 35 = .ok (.iload_n 1, 1) := by decide +kernel
theorem dX0_keepTwo_36 : decode cX0_keepTwo 36 = .ok (.iaload, 1) := by decide +kernel
theorem dX0_keepTwo_37 : decode cX0_keepTwo 37 = .ok (.iastore, 1) := by decide +kernel
theorem dX0_keepTwo_38 : decode cX0_keepTwo 38 = .ok (.return_, 1) := by decide +kernel
theorem dX0_pass_0 : decode cX0_pass 0 = .ok (.iconst 0, 1) := by decide +kernel
theorem dX0_pass_1 : decode cX0_pass 1 = .ok (.istore_n 2, 1) := by decide +kernel
theorem dX0_pass_2 : decode cX0_pass 2 = .ok (.iload_n 2, 1) := by decide +kernel
theorem dX0_pass_3 : decode cX0_pass 3 = .ok (.iload_n 1, 1) := by decide +kernel
theorem dX0_pass_4 : decode cX0_pass 4 = .ok (.if_icmp .ge 13, 3) := by decide +kernel
theorem dX0_pass_7 : decode cX0_pass 7 = .ok (.aload_n 0, 1) := by decide +kernel
theorem dX0_pass_8 : decode cX0_pass 8 = .ok (.invokevirtual 77, 3) := by decide +kernel
theorem dX0_pass_11 : decode cX0_pass 11 = .ok (.iinc 2 1, 3) := by decide +kernel
theorem dX0_pass_14 : decode cX0_pass 14 = .ok (.goto (-12), 3) := by decide +kernel
theorem dX0_pass_17 : decode cX0_pass 17 = .ok (.return_, 1) := by decide +kernel
theorem dX0_passHour_0 : decode cX0_passHour 0 = .ok (.aload_n 0, 1) := by decide +kernel
theorem dX0_passHour_1 : decode cX0_passHour 1 = .ok (.invokevirtual 80, 3) := by decide +kernel
theorem dX0_passHour_4 : decode cX0_passHour 4 = .ok (.istore_n 1, 1) := by decide +kernel
theorem dX0_passHour_5 : decode cX0_passHour 5 = .ok (.iload_n 1, 1) := by decide +kernel
theorem dX0_passHour_6 : decode cX0_passHour 6 = .ok (.ifCond .ne 7, 3) := by decide +kernel
theorem dX0_passHour_9 : decode cX0_passHour 9 = .ok (.aload_n 0, 1) := by decide +kernel
theorem dX0_passHour_10 : decode cX0_passHour 10 = .ok (.invokevirtual 83, 3) := by decide +kernel
theorem dX0_passHour_13 : decode cX0_passHour 13 = .ok (.iconst 0, 1) := by decide +kernel
theorem dX0_passHour_14 : decode cX0_passHour 14 = .ok (.istore_n 2, 1) := by decide +kernel
theorem dX0_passHour_15 : decode cX0_passHour 15 = .ok (.iload_n 2, 1) := by decide +kernel
theorem dX0_passHour_16 : decode cX0_passHour 16 = .ok (.aload_n 0, 1) := by decide +kernel
theorem dX0_passHour_17 : decode cX0_passHour 17 = .ok (.getfield 21, 3) := by decide +kernel
theorem dX0_passHour_20 : decode cX0_passHour 20 = .ok (.if_icmp .ge 37, 3) := by decide +kernel
theorem dX0_passHour_23 : decode cX0_passHour 23 = .ok (.aload_n 0, 1) := by decide +kernel
theorem dX0_passHour_24 : decode cX0_passHour 24 = .ok (.iload_n 2, 1) := by decide +kernel
theorem dX0_passHour_25 : decode cX0_passHour 25 = .ok (.invokevirtual 63, 3) := by decide +kernel
theorem dX0_passHour_28 : decode cX0_passHour 28 = .ok (.ifCond .ne 13, 3) := by decide +kernel
theorem dX0_passHour_31 : decode cX0_passHour 31 = .ok (.aload_n 0, 1) := by decide +kernel
theorem dX0_passHour_32 : decode cX0_passHour 32 = .ok (.getfield 40, 3) := by decide +kernel
theorem dX0_passHour_35 : decode cX0_passHour 35 = .ok (.iload_n 2, 1) := by decide +kernel
theorem dX0_passHour_36 : decode cX0_passHour 36 = .ok (.iaload, 1) := by decide +kernel
theorem dX0_passHour_37 : decode cX0_passHour 37 = .ok (.iload_n 2, 1) := by decide +kernel
theorem dX0_passHour_38 : decode cX0_passHour 38 = .ok (.if_icmp .lt 13, 3) := by decide +kernel
theorem dX0_passHour_41 : decode cX0_passHour 41 = .ok (.aload_n 0, 1) := by decide +kernel
theorem dX0_passHour_42 : decode cX0_passHour 42 = .ok (.iload_n 2, 1) := by decide +kernel
theorem dX0_passHour_43 : decode cX0_passHour 43 = .ok (.invokevirtual 86, 3) := by decide +kernel
theorem dX0_passHour_46 : decode cX0_passHour 46 = .ok (.aload_n 0, 1) := by decide +kernel
theorem dX0_passHour_47 : decode cX0_passHour 47 = .ok (.iload_n 2, 1) := by decide +kernel
theorem dX0_passHour_48 : decode cX0_passHour 48 = .ok (.invokevirtual 70, 3) := by decide +kernel
theorem dX0_passHour_51 : decode cX0_passHour 51 = .ok (.iinc 2 1, 3) := by decide +kernel
theorem dX0_passHour_54 : decode cX0_passHour 54 = .ok (.goto (-39), 3) := by decide +kernel
theorem dX0_passHour_57 : decode cX0_passHour 57 = .ok (.iload_n 1, 1) := by decide +kernel
theorem dX0_passHour_58 : decode cX0_passHour 58 = .ok (.ifCond .eq 7, 3) := by decide +kernel
theorem dX0_passHour_61 : decode cX0_passHour 61 = .ok (.aload_n 0, 1) := by decide +kernel
theorem dX0_passHour_62 : decode cX0_passHour 62 = .ok (.invokevirtual 89, 3) := by decide +kernel
theorem dX0_passHour_65 : decode cX0_passHour 65 = .ok (.aload_n 0, 1) := by decide +kernel
theorem dX0_passHour_66 : decode cX0_passHour 66 = .ok (.dup, 1) := by decide +kernel
theorem dX0_passHour_67 : decode cX0_passHour 67 = .ok (.getfield 9, 3) := by decide +kernel
theorem dX0_passHour_70 : decode cX0_passHour 70 = .ok (.iconst 1, 1) := by decide +kernel
theorem dX0_passHour_71 : decode cX0_passHour 71 = .ok (.iadd, 1) := by decide +kernel
theorem dX0_passHour_72 : decode cX0_passHour 72 = .ok (.putfield 9, 3) := by decide +kernel
theorem dX0_passHour_75 : decode cX0_passHour 75 = .ok (.return_, 1) := by decide +kernel
theorem dX0_lift_0 : decode cX0_lift 0 = .ok (.iconst 0, 1) := by decide +kernel
theorem dX0_lift_1 : decode cX0_lift 1 = .ok (.istore_n 1, 1) := by decide +kernel
theorem dX0_lift_2 : decode cX0_lift 2 = .ok (.iload_n 1, 1) := by decide +kernel
theorem dX0_lift_3 : decode cX0_lift 3 = .ok (.aload_n 0, 1) := by decide +kernel
theorem dX0_lift_4 : decode cX0_lift 4 = .ok (.getfield 21, 3) := by decide +kernel
theorem dX0_lift_7 : decode cX0_lift 7 = .ok (.if_icmp .ge 36, 3) := by decide +kernel
theorem dX0_lift_10 : decode cX0_lift 10 = .ok (.aload_n 0, 1) := by decide +kernel
theorem dX0_lift_11 : decode cX0_lift 11 = .ok (.getfield 28, 3) := by decide +kernel
theorem dX0_lift_14 : decode cX0_lift 14 = .ok (.iload_n 1, 1) := by decide +kernel
theorem dX0_lift_15 : decode cX0_lift 15 = .ok (.iaload, 1) := by decide +kernel
theorem dX0_lift_16 : decode cX0_lift 16 = .ok (.aload_n 0, 1) := by decide +kernel
theorem dX0_lift_17 : decode cX0_lift 17 = .ok (.getfield 18, 3) := by decide +kernel
theorem dX0_lift_20 : decode cX0_lift 20 = .ok (.if_icmp .eq 17, 3) := by decide +kernel
theorem dX0_lift_23 : decode cX0_lift 23 = .ok (.aload_n 0, 1) := by decide +kernel
theorem dX0_lift_24 : decode cX0_lift 24 = .ok (.getfield 40, 3) := by decide +kernel
theorem dX0_lift_27 : decode cX0_lift 27 = .ok (.iload_n 1, 1) := by decide +kernel
theorem dX0_lift_28 : decode cX0_lift 28 = .ok (.iconst (-1), 1) := by decide +kernel
theorem dX0_lift_29 : decode cX0_lift 29 = .ok (.iastore, 1) := by decide +kernel
theorem dX0_lift_30 : decode cX0_lift 30 = .ok (.aload_n 0, 1) := by decide +kernel
theorem dX0_lift_31 : decode cX0_lift 31 = .ok (.getfield 43, 3) := by decide +kernel
theorem dX0_lift_34 : decode cX0_lift 34 = .ok (.iload_n 1, 1) := by decide +kernel
theorem dX0_lift_35 : decode cX0_lift 35 = .ok (.iconst (-1), 1) := by decide +kernel
theorem dX0_lift_36 : decode cX0_lift 36 = .ok (.iastore, 1) := by decide +kernel
theorem dX0_lift_37 : decode cX0_lift 37 = .ok (.iinc 1 1, 3) := by decide +kernel
theorem dX0_lift_40 : decode cX0_lift 40 = .ok (.goto (-38), 3) := by decide +kernel
theorem dX0_lift_43 : decode cX0_lift 43 = .ok (.return_, 1) := by decide +kernel
theorem dX0_go_0 : decode cX0_go 0 = .ok (.aload_n 0, 1) := by decide +kernel
theorem dX0_go_1 : decode cX0_go 1 = .ok (.getfield 34, 3) := by decide +kernel
theorem dX0_go_4 : decode cX0_go 4 = .ok (.iload_n 1, 1) := by decide +kernel
theorem dX0_go_5 : decode cX0_go 5 = .ok (.aload_n 0, 1) := by decide +kernel
theorem dX0_go_6 : decode cX0_go 6 = .ok (.getfield 34, 3) := by decide +kernel
theorem dX0_go_9 : decode cX0_go 9 = .ok (.iload_n 1, 1) := by decide +kernel
theorem dX0_go_10 : decode cX0_go 10 = .ok (.iaload, 1) := by decide +kernel
theorem dX0_go_11 : decode cX0_go 11 = .ok (.aload_n 0, 1) := by decide +kernel
theorem dX0_go_12 : decode cX0_go 12 = .ok (.getfield 24, 3) := by decide +kernel
theorem dX0_go_15 : decode cX0_go 15 = .ok (.iload_n 1, 1) := by decide +kernel
theorem dX0_go_16 : decode cX0_go 16 = .ok (.iaload, 1) := by decide +kernel
theorem dX0_go_17 : decode cX0_go 17 = .ok (.aload_n 0, 1) := by decide +kernel
theorem dX0_go_18 : decode cX0_go 18 = .ok (.getfield 9, 3) := by decide +kernel
theorem dX0_go_21 : decode cX0_go 21 = .ok (.invokestatic 60, 3) := by decide +kernel
theorem dX0_go_24 : decode cX0_go 24 = .ok (.iadd, 1) := by decide +kernel
theorem dX0_go_25 : decode cX0_go 25 = .ok (.iconst 4, 1) := by decide +kernel
theorem dX0_go_26 : decode cX0_go 26 = .ok (.irem, 1) := by decide +kernel
theorem dX0_go_27 : decode cX0_go 27 = .ok (.iastore, 1) := by decide +kernel
theorem dX0_go_28 : decode cX0_go 28 = .ok (.aload_n 0, 1) := by decide +kernel
theorem dX0_go_29 : decode cX0_go 29 = .ok (.getfield 24, 3) := by decide +kernel
theorem dX0_go_32 : decode cX0_go 32 = .ok (.iload_n 1, 1) := by decide +kernel
theorem dX0_go_33 : decode cX0_go 33 = .ok (.iaload, 1) := by decide +kernel
theorem dX0_go_34 : decode cX0_go 34 = .ok (.aload_n 0, 1) := by decide +kernel
theorem dX0_go_35 : decode cX0_go 35 = .ok (.getfield 9, 3) := by decide +kernel
theorem dX0_go_38 : decode cX0_go 38 = .ok (.invokestatic 56, 3) := by decide +kernel
theorem dX0_go_41 : decode cX0_go 41 = .ok (.istore_n 2, 1) := by decide +kernel
theorem dX0_go_42 : decode cX0_go 42 = .ok (.iconst 0, 1) := by decide +kernel
theorem dX0_go_43 : decode cX0_go 43 = .ok (.istore_n 3, 1) := by decide +kernel
theorem dX0_go_44 : decode cX0_go 44 = .ok (.iload_n 3, 1) := by decide +kernel
theorem dX0_go_45 : decode cX0_go 45 = .ok (.iload_n 2, 1) := by decide +kernel
theorem dX0_go_46 : decode cX0_go 46 = .ok (.if_icmp .ge 58, 3) := by decide +kernel
theorem dX0_go_49 : decode cX0_go 49 = .ok (.aload_n 0, 1) := by decide +kernel
theorem dX0_go_50 : decode cX0_go 50 = .ok (.getfield 28, 3) := by decide +kernel
theorem dX0_go_53 : decode cX0_go 53 = .ok (.iload_n 1, 1) := by decide +kernel
theorem dX0_go_54 : decode cX0_go 54 = .ok (.iaload, 1) := by decide +kernel
theorem dX0_go_55 : decode cX0_go 55 = .ok (.aload_n 0, 1) := by decide +kernel
theorem dX0_go_56 : decode cX0_go 56 = .ok (.getfield 34, 3) := by decide +kernel
theorem dX0_go_59 : decode cX0_go 59 = .ok (.iload_n 1, 1) := by decide +kernel
theorem dX0_go_60 : decode cX0_go 60 = .ok (.iaload, 1) := by decide +kernel
theorem dX0_go_61 : decode cX0_go 61 = .ok (.invokestatic 92, 3) := by decide +kernel
theorem dX0_go_64 : decode cX0_go 64 = .ok (.istore 4, 2) := by decide +kernel
theorem dX0_go_66 : decode cX0_go 66 = .ok (.iload 4, 2) := by decide +kernel
theorem dX0_go_68 : decode cX0_go 68 = .ok (.ifCond .lt 14, 3) := by decide +kernel
theorem dX0_go_71 : decode cX0_go 71 = .ok (.aload_n 0, 1) := by decide +kernel
theorem dX0_go_72 : decode cX0_go 72 = .ok (.getfield 28, 3) := by decide +kernel
theorem dX0_go_75 : decode cX0_go 75 = .ok (.iload_n 1, 1) := by decide +kernel
theorem dX0_go_76 : decode cX0_go 76 = .ok (.iload 4, 2) := by decide +kernel
theorem dX0_go_78 : decode cX0_go 78 = .ok (.iastore, 1) := by decide +kernel
theorem dX0_go_79 : decode cX0_go 79 = .ok (.goto 19, 3) := by decide +kernel
theorem dX0_go_82 : decode cX0_go 82 = .ok (.aload_n 0, 1) := by decide +kernel
theorem dX0_go_83 : decode cX0_go 83 = .ok (.getfield 34, 3) := by decide +kernel
theorem dX0_go_86 : decode cX0_go 86 = .ok (.iload_n 1, 1) := by decide +kernel
theorem dX0_go_87 : decode cX0_go 87 = .ok (.aload_n 0, 1) := by decide +kernel
theorem dX0_go_88 : decode cX0_go 88 = .ok (.getfield 34, 3) := by decide +kernel
theorem dX0_go_91 : decode cX0_go 91 = .ok (.iload_n 1, 1) := by decide +kernel
theorem dX0_go_92 : decode cX0_go 92 = .ok (.iaload, 1) := by decide +kernel
theorem dX0_go_93 : decode cX0_go 93 = .ok (.iconst 1, 1) := by decide +kernel
theorem dX0_go_94 : decode cX0_go 94 = .ok (.iadd, 1) := by decide +kernel
theorem dX0_go_95 : decode cX0_go 95 = .ok (.iconst 4, 1) := by decide +kernel
theorem dX0_go_96 : decode cX0_go 96 = .ok (.irem, 1) := by decide +kernel
theorem dX0_go_97 : decode cX0_go 97 = .ok (.iastore, 1) := by decide +kernel
theorem dX0_go_98 : decode cX0_go 98 = .ok (.iinc 3 1, 3) := by decide +kernel
theorem dX0_go_101 : decode cX0_go 101 = .ok (.goto (-57), 3) := by decide +kernel
theorem dX0_go_104 : decode cX0_go 104 = .ok (.return_, 1) := by decide +kernel
theorem dX0_bringAlong_0 : decode cX0_bringAlong 0 = .ok (.aload_n 0, 1) := by decide +kernel
theorem dX0_bringAlong_1 : decode cX0_bringAlong 1 = .ok (.getfield 40, 3) := by decide +kernel
theorem dX0_bringAlong_4 : decode cX0_bringAlong 4 = .ok (.iload_n 1, 1) := by decide +kernel
theorem dX0_bringAlong_5 : decode cX0_bringAlong 5 = .ok (.iaload, 1) := by decide +kernel
theorem dX0_bringAlong_6 : decode cX0_bringAlong 6 = .ok (.istore_n 2, 1) := by decide +kernel
theorem dX0_bringAlong_7 : decode cX0_bringAlong 7 = .ok (.aload_n 0, 1) := by decide +kernel
theorem dX0_bringAlong_8 : decode cX0_bringAlong 8 = .ok (.iload_n 2, 1) := by decide +kernel
theorem dX0_bringAlong_9 : decode cX0_bringAlong 9 = .ok (.invokevirtual 74, 3) := by decide +kernel
theorem dX0_bringAlong_12 : decode cX0_bringAlong 12 = .ok (.ifCond .eq 15, 3) := by decide +kernel
theorem dX0_bringAlong_15 : decode cX0_bringAlong 15 = .ok (.aload_n 0, 1) := by decide +kernel
theorem dX0_bringAlong_16 : decode cX0_bringAlong 16 = .ok (.getfield 28, 3) := by decide +kernel
theorem dX0_bringAlong_19 : decode cX0_bringAlong 19 = .ok (.iload_n 2, 1) := by decide +kernel
theorem dX0_bringAlong_20 : decode cX0_bringAlong 20 = .ok (.aload_n 0, 1) := by decide +kernel
theorem dX0_bringAlong_21 : decode cX0_bringAlong 21 = .ok (.getfield 28, 3) := by decide +kernel
theorem dX0_bringAlong_24 : decode cX0_bringAlong 24 = .ok (.iload_n 1, 1) := by decide +kernel
theorem dX0_bringAlong_25 : decode cX0_bringAlong 25 = .ok (.iaload, 1) := by decide +kernel
theorem dX0_bringAlong_26 : decode cX0_bringAlong 26 = .ok (.iastore, 1) := by decide +kernel
theorem dX0_bringAlong_27 : decode cX0_bringAlong 27 = .ok (.return_, 1) := by decide +kernel
theorem dX0_collide_0 : decode cX0_collide 0 = .ok (.iconst 0, 1) := by decide +kernel
theorem dX0_collide_1 : decode cX0_collide 1 = .ok (.istore_n 1, 1) := by decide +kernel
theorem dX0_collide_2 : decode cX0_collide 2 = .ok (.iload_n 1, 1) := by decide +kernel
theorem dX0_collide_3 : decode cX0_collide 3 = .ok (.aload_n 0, 1) := by decide +kernel
theorem dX0_collide_4 : decode cX0_collide 4 = .ok (.getfield 21, 3) := by decide +kernel
theorem dX0_collide_7 : decode cX0_collide 7 = .ok (.if_icmp .ge 71, 3) := by decide +kernel
theorem dX0_collide_10 : decode cX0_collide 10 = .ok (.aload_n 0, 1) := by decide +kernel
theorem dX0_collide_11 : decode cX0_collide 11 = .ok (.iload_n 1, 1) := by decide +kernel
theorem dX0_collide_12 : decode cX0_collide 12 = .ok (.invokevirtual 63, 3) := by decide +kernel
theorem dX0_collide_15 : decode cX0_collide 15 = .ok (.ifCond .eq 57, 3) := by decide +kernel
theorem dX0_collide_18 : decode cX0_collide 18 = .ok (.aload_n 0, 1) := by decide +kernel
theorem dX0_collide_19 : decode cX0_collide 19 = .ok (.iload_n 1, 1) := by decide +kernel
theorem dX0_collide_20 : decode cX0_collide 20 = .ok (.invokevirtual 95, 3) := by decide +kernel
theorem dX0_collide_23 : decode cX0_collide 23 = .ok (.istore_n 2, 1) := by decide +kernel
theorem dX0_collide_24 : decode cX0_collide 24 = .ok (.aload_n 0, 1) := by decide +kernel
theorem dX0_collide_25 : decode cX0_collide 25 = .ok (.iload_n 2, 1) := by decide +kernel
theorem dX0_collide_26 : decode cX0_collide 26 = .ok (.invokevirtual 74, 3) := by decide +kernel
theorem dX0_collide_29 : decode cX0_collide 29 = .ok (.ifCond .eq 12, 3) := by decide +kernel
theorem dX0_collide_32 : decode cX0_collide 32 = .ok (.aload_n 0, 1) := by decide +kernel
theorem dX0_collide_33 : decode cX0_collide 33 = .ok (.iload_n 1, 1) := by decide +kernel
theorem dX0_collide_34 : decode cX0_collide 34 = .ok (.iload_n 2, 1) := by decide +kernel
theorem dX0_collide_35 : decode cX0_collide 35 = .ok (.invokevirtual 99, 3) := by decide +kernel
theorem dX0_collide_38 : decode cX0_collide 38 = .ok (.goto 34, 3) := by decide +kernel
theorem dX0_collide_41 : decode cX0_collide 41 = .ok (.aload_n 0, 1) := by decide +kernel
theorem dX0_collide_42 : decode cX0_collide 42 = .ok (.getfield 24, 3) := by decide +kernel
theorem dX0_collide_45 : decode cX0_collide 45 = .ok (.iload_n 1, 1) := by decide +kernel
theorem dX0_collide_46 : decode cX0_collide 46 = .ok (.iaload, 1) := by decide +kernel
theorem dX0_collide_47 : decode cX0_collide 47 = .ok (.iconst 5, 1) := by decide +kernel
theorem dX0_collide_48 : decode cX0_collide 48 = .ok (.if_icmp .ne 24, 3) := by decide +kernel
theorem dX0_collide_51 : decode cX0_collide 51 = .ok (.aload_n 0, 1) := by decide +kernel
theorem dX0_collide_52 : decode cX0_collide 52 = .ok (.getfield 28, 3) := by decide +kernel
theorem dX0_collide_55 : decode cX0_collide 55 = .ok (.iload_n 1, 1) := by decide +kernel
theorem dX0_collide_56 : decode cX0_collide 56 = .ok (.iaload, 1) := by decide +kernel
theorem dX0_collide_57 : decode cX0_collide 57 = .ok (.aload_n 0, 1) := by decide +kernel
theorem dX0_collide_58 : decode cX0_collide 58 = .ok (.getfield 31, 3) := by decide +kernel
theorem dX0_collide_61 : decode cX0_collide 61 = .ok (.iload_n 1, 1) := by decide +kernel
theorem dX0_collide_62 : decode cX0_collide 62 = .ok (.iaload, 1) := by decide +kernel
theorem dX0_collide_63 : decode cX0_collide 63 = .ok (.if_icmp .ne 9, 3) := by decide +kernel
theorem dX0_collide_66 : decode cX0_collide 66 = .ok (.aload_n 0, 1) := by decide +kernel
theorem dX0_collide_67 : decode cX0_collide 67 = .ok (.iload_n 1, 1) := by decide +kernel
theorem dX0_collide_68 : decode cX0_collide 68 = .ok (.iload_n 1, 1) := by decide +kernel
theorem dX0_collide_69 : decode cX0_collide 69 = .ok (.invokevirtual 99, 3) := by decide +kernel
theorem dX0_collide_72 : decode cX0_collide 72 = .ok (.iinc 1 1, 3) := by decide +kernel
theorem dX0_collide_75 : decode cX0_collide 75 = .ok (.goto (-73), 3) := by decide +kernel
theorem dX0_collide_78 : decode cX0_collide 78 = .ok (.return_, 1) := by decide +kernel
theorem dX0_nextFreeBeside_0 : decode cX0_nextFreeBeside 0 = .ok (.iload_n 1, 1) := by decide +kernel
theorem dX0_nextFreeBeside_1 : decode cX0_nextFreeBeside 1 = .ok (.iconst 1, 1) := by decide +kernel
theorem dX0_nextFreeBeside_2 : decode cX0_nextFreeBeside 2 = .ok (.iadd, 1) := by decide +kernel
theorem dX0_nextFreeBeside_3 : decode cX0_nextFreeBeside 3 = .ok (.istore_n 2, 1) := by decide +kernel
theorem dX0_nextFreeBeside_4 : decode cX0_nextFreeBeside 4 = .ok (.iload_n 2, 1) := by decide +kernel
theorem dX0_nextFreeBeside_5 : decode cX0_nextFreeBeside 5 = .ok (.aload_n 0, 1) := by decide +kernel
theorem dX0_nextFreeBeside_6 : decode cX0_nextFreeBeside 6 = .ok (.getfield 21, 3) := by decide +kernel
theorem dX0_nextFreeBeside_9 : decode cX0_nextFreeBeside 9 = .ok (.if_icmp .ge 34, 3) := by decide +kernel
theorem dX0_nextFreeBeside_12 : decode cX0_nextFreeBeside 12 = .ok (.aload_n 0, 1) := by decide +kernel
theorem dX0_nextFreeBeside_13 : decode cX0_nextFreeBeside 13 = .ok (.getfield 28, 3) := by decide +kernel
theorem dX0_nextFreeBeside_16 : decode cX0_nextFreeBeside 16 = .ok (.iload_n 2, 1) := by decide +kernel
theorem dX0_nextFreeBeside_17 : decode cX0_nextFreeBeside 17 = .ok (.iaload, 1) := by decide +kernel
theorem dX0_nextFreeBeside_18 : decode cX0_nextFreeBeside 18 = .ok (.aload_n 0, 1) := by decide +kernel
theorem dX0_nextFreeBeside_19 : decode cX0_nextFreeBeside 19 = .ok (.getfield 28, 3) := by decide +kernel
theorem dX0_nextFreeBeside_22 : decode cX0_nextFreeBeside 22 = .ok (.iload_n 1, 1) := by decide +kernel
theorem dX0_nextFreeBeside_23 : decode cX0_nextFreeBeside 23 = .ok (.iaload, 1) := by decide +kernel
theorem dX0_nextFreeBeside_24 : decode cX0_nextFreeBeside 24 = .ok (.if_icmp .ne 13, 3) := by decide +kernel
theorem dX0_nextFreeBeside_27 : decode cX0_nextFreeBeside 27 = .ok (.aload_n 0, 1) := by decide +kernel
theorem dX0_nextFreeBeside_28 : decode cX0_nextFreeBeside 28 = .ok (.iload_n 2, 1) := by decide +kernel
theorem dX0_nextFreeBeside_29 : decode cX0_nextFreeBeside 29 = .ok (.invokevirtual 63, 3) := by decide +kernel
theorem dX0_nextFreeBeside_32 : decode cX0_nextFreeBeside 32 = .ok (.ifCond .eq 5, 3) := by decide +kernel
theorem dX0_nextFreeBeside_35 : decode cX0_nextFreeBeside 35 = .ok (.iload_n 2, 1) := by decide +kernel
theorem dX0_nextFreeBeside_36 : decode cX0_nextFreeBeside 36 = .ok (.ireturn, 1) := by decide +kernel
theorem dX0_nextFreeBeside_37 : decode cX0_nextFreeBeside 37 = .ok (.iinc 2 1, 3) := by decide +kernel
theorem dX0_nextFreeBeside_40 : decode cX0_nextFreeBeside 40 = .ok (.goto (-36), 3) := by decide +kernel
theorem dX0_nextFreeBeside_43 : decode cX0_nextFreeBeside 43 = .ok (.iconst (-1), 1) := by decide +kernel
theorem dX0_nextFreeBeside_44 : decode cX0_nextFreeBeside 44 = .ok (.ireturn, 1) := by decide +kernel
theorem dX1_init_0 : decode cX1_init 0 = .ok (.aload_n 0, 1) := by decide +kernel
theorem dX1_init_1 : decode cX1_init 1 = .ok (.invokespecial 3, 3) := by decide +kernel
theorem dX1_init_4 : decode cX1_init 4 = .ok (.aload_n 0, 1) := by decide +kernel
theorem dX1_init_5 : decode cX1_init 5 = .ok (.iconst 0, 1) := by decide +kernel
theorem dX1_init_6 : decode cX1_init 6 = .ok (.putfield 9, 3) := by decide +kernel
theorem dX1_init_9 : decode cX1_init 9 = .ok (.aload_n 0, 1) := by decide +kernel
theorem dX1_init_10 : decode cX1_init 10 = .ok (.iconst 0, 1) := by decide +kernel
theorem dX1_init_11 : decode cX1_init 11 = .ok (.putfield 15, 3) := by decide +kernel
theorem dX1_init_14 : decode cX1_init 14 = .ok (.aload_n 0, 1) := by decide +kernel
theorem dX1_init_15 : decode cX1_init 15 = .ok (.bipush 40, 2) := by decide +kernel
theorem dX1_init_17 : decode cX1_init 17 = .ok (.newarray .long, 2) := by decide +kernel
theorem dX1_init_19 : decode cX1_init 19 = .ok (.putfield 18, 3) := by decide +kernel
theorem dX1_init_22 : decode cX1_init 22 = .ok (.return_, 1) := by decide +kernel
theorem dX1_isMissing_0 : decode cX1_isMissing 0 = .ok (.aload_n 0, 1) := by decide +kernel
theorem dX1_isMissing_1 : decode cX1_isMissing 1 = .ok (.getfield 9, 3) := by decide +kernel
theorem dX1_isMissing_4 : decode cX1_isMissing 4 = .ok (.ifCond .ne 7, 3) := by decide +kernel
theorem dX1_isMissing_7 : decode cX1_isMissing 7 = .ok (.iconst 1, 1) := by decide +kernel
theorem dX1_isMissing_8 : decode cX1_isMissing 8 = .ok (.goto 4, 3) := by decide +kernel
theorem dX1_isMissing_11 : decode cX1_isMissing 11 = .ok (.iconst 0, 1) := by decide +kernel
theorem dX1_isMissing_12 : decode cX1_isMissing 12 = .ok (.ireturn, 1) := by decide +kernel
theorem dX1_layOut_0 : decode cX1_layOut 0 = .ok (.aload_n 0, 1) := by decide +kernel
theorem dX1_layOut_1 : decode cX1_layOut 1 = .ok (.iload_n 1, 1) := by decide +kernel
theorem dX1_layOut_2 : decode cX1_layOut 2 = .ok (.putfield 9, 3) := by decide +kernel
theorem dX1_layOut_5 : decode cX1_layOut 5 = .ok (.aload_n 0, 1) := by decide +kernel
theorem dX1_layOut_6 : decode cX1_layOut 6 = .ok (.iload_n 1, 1) := by decide +kernel
theorem dX1_layOut_7 : decode cX1_layOut 7 = .ok (.ifCond .ne 7, 3) := by decide +kernel
theorem dX1_layOut_10 : decode cX1_layOut 10 = .ok (.iconst 0, 1) := by decide +kernel
theorem dX1_layOut_11 : decode cX1_layOut 11 = .ok (.goto 4, 3) := by decide +kernel
theorem dX1_layOut_14 : decode cX1_layOut 14 = .ok (.iload_n 2, 1) := by decide +kernel
theorem dX1_layOut_15 : decode cX1_layOut 15 = .ok (.putfield 15, 3) := by decide +kernel
theorem dX1_layOut_18 : decode cX1_layOut 18 = .ok (.iconst 0, 1) := by decide +kernel
theorem dX1_layOut_19 : decode cX1_layOut 19 = .ok (.istore_n 3, 1) := by decide +kernel
theorem dX1_layOut_20 : decode cX1_layOut 20 = .ok (.iload_n 3, 1) := by decide +kernel
theorem dX1_layOut_21 : decode cX1_layOut 21 = .ok (.bipush 40, 2) := by decide +kernel
theorem dX1_layOut_23 : decode cX1_layOut 23 = .ok (.if_icmp .ge 16, 3) := by decide +kernel
theorem dX1_layOut_26 : decode cX1_layOut 26 = .ok (.aload_n 0, 1) := by decide +kernel
theorem dX1_layOut_27 : decode cX1_layOut 27 = .ok (.getfield 18, 3) := by decide +kernel
theorem dX1_layOut_30 : decode cX1_layOut 30 = .ok (.iload_n 3, 1) := by decide +kernel
theorem dX1_layOut_31 : decode cX1_layOut 31 = .ok (.lconst 0, 1) := by decide +kernel
theorem dX1_layOut_32 : decode cX1_layOut 32 = .ok (.lastore, 1) := by decide +kernel
theorem dX1_layOut_33 : decode cX1_layOut 33 = .ok (.iinc 3 1, 3) := by decide +kernel
theorem dX1_layOut_36 : decode cX1_layOut 36 = .ok (.goto (-16), 3) := by decide +kernel
theorem dX1_layOut_39 : decode cX1_layOut 39 = .ok (.return_, 1) := by decide +kernel
theorem dX1_put_0 : decode cX1_put 0 = .ok (.aload_n 0, 1) := by decide +kernel
theorem dX1_put_1 : decode cX1_put 1 = .ok (.getfield 9, 3) := by decide +kernel
theorem dX1_put_4 : decode cX1_put 4 = .ok (.bipush 8, 2) := by decide +kernel
theorem dX1_put_6 : decode cX1_put 6 = .ok (.if_icmp .ne 16, 3) := by decide +kernel
theorem dX1_put_9 : decode cX1_put 9 = .ok (.aload_n 0, 1) := by decide +kernel
theorem dX1_put_10 : decode cX1_put 10 = .ok (.getfield 18, 3) := by decide +kernel
theorem dX1_put_13 : decode cX1_put 13 = .ok (.iload_n 1, 1) := by decide +kernel
theorem dX1_put_14 : decode cX1_put 14 = .ok (.lload_n 2, 1) := by decide +kernel
theorem dX1_put_15 : decode cX1_put 15 = .ok (.l2i, 1) := by decide +kernel
theorem dX1_put_16 : decode cX1_put 16 = .ok (.i2b, 1) := by decide +kernel
theorem dX1_put_17 : decode cX1_put 17 = .ok (.i2l, 1) := by decide +kernel
theorem dX1_put_18 : decode cX1_put 18 = .ok (.lastore, 1) := by decide +kernel
theorem dX1_put_19 : decode cX1_put 19 = .ok (.goto 32, 3) := by decide +kernel
theorem dX1_put_22 : decode cX1_put 22 = .ok (.aload_n 0, 1) := by decide +kernel
theorem dX1_put_23 : decode cX1_put 23 = .ok (.getfield 9, 3) := by decide +kernel
theorem dX1_put_26 : decode cX1_put 26 = .ok (.bipush 16, 2) := by decide +kernel
theorem dX1_put_28 : decode cX1_put 28 = .ok (.if_icmp .ne 16, 3) := by decide +kernel
theorem dX1_put_31 : decode cX1_put 31 = .ok (.aload_n 0, 1) := by decide +kernel
theorem dX1_put_32 : decode cX1_put 32 = .ok (.getfield 18, 3) := by decide +kernel
theorem dX1_put_35 : decode cX1_put 35 = .ok (.iload_n 1, 1) := by decide +kernel
theorem dX1_put_36 : decode cX1_put 36 = .ok (.lload_n 2, 1) := by decide +kernel
theorem dX1_put_37 : decode cX1_put 37 = .ok (.l2i, 1) := by decide +kernel
theorem dX1_put_38 : decode cX1_put 38 = .ok (.i2s, 1) := by decide +kernel
theorem dX1_put_39 : decode cX1_put 39 = .ok (.i2l, 1) := by decide +kernel
theorem dX1_put_40 : decode cX1_put 40 = .ok (.lastore, 1) := by decide +kernel
theorem dX1_put_41 : decode cX1_put 41 = .ok (.goto 10, 3) := by decide +kernel
theorem dX1_put_44 : decode cX1_put 44 = .ok (.aload_n 0, 1) := by decide +kernel
theorem dX1_put_45 : decode cX1_put 45 = .ok (.getfield 18, 3) := by decide +kernel
theorem dX1_put_48 : decode cX1_put 48 = .ok (.iload_n 1, 1) := by decide +kernel
theorem dX1_put_49 : decode cX1_put 49 = .ok (.lload_n 2, 1) := by decide +kernel
theorem dX1_put_50 : decode cX1_put 50 = .ok (.lastore, 1) := by decide +kernel
theorem dX1_put_51 : decode cX1_put 51 = .ok (.return_, 1) := by decide +kernel
theorem dX1_hasRun_0 : decode cX1_hasRun 0 = .ok (.iload_n 1, 1) := by decide +kernel
theorem dX1_hasRun_1 : decode cX1_hasRun 1 = .ok (.ifCond .lt 29, 3) := by decide +kernel
theorem dX1_hasRun_4 : decode cX1_hasRun 4 = .ok (.iload_n 2, 1) := by decide +kernel
theorem dX1_hasRun_5 : decode cX1_hasRun 5 = .ok (.ifCond .lt 25, 3) := by decide +kernel
theorem dX1_hasRun_8 : decode cX1_hasRun 8 = .ok (.iload_n 2, 1) := by decide +kernel
theorem dX1_hasRun_9 : decode cX1_hasRun 9 = .ok (.aload_n 0, 1) := by decide +kernel
theorem dX1_hasRun_10 : decode cX1_hasRun 10 = .ok (.getfield 15, 3) := by decide +kernel
theorem dX1_hasRun_13 : decode cX1_hasRun 13 = .ok (.if_icmp .gt 17, 3) := by decide +kernel
theorem dX1_hasRun_16 : decode cX1_hasRun 16 = .ok (.iload_n 1, 1) := by decide +kernel
theorem dX1_hasRun_17 : decode cX1_hasRun 17 = .ok (.aload_n 0, 1) := by decide +kernel
theorem dX1_hasRun_18 : decode cX1_hasRun 18 = .ok (.getfield 15, 3) := by decide +kernel
theorem dX1_hasRun_21 : decode cX1_hasRun 21 = .ok (.iload_n 2, 1) := by decide +kernel
theorem dX1_hasRun_22 : decode cX1_hasRun 22 = .ok (.isub, 1) := by decide +kernel
theorem dX1_hasRun_23 : decode cX1_hasRun 23 = .ok (.if_icmp .gt 7, 3) := by decide +kernel
theorem dX1_hasRun_26 : decode cX1_hasRun 26 = .ok (.iconst 1, 1) := by decide +kernel
theorem dX1_hasRun_27 : decode cX1_hasRun 27 = .ok (.goto 4, 3) := by decide +kernel
theorem dX1_hasRun_30 : decode cX1_hasRun 30 = .ok (.iconst 0, 1) := by decide +kernel
theorem dX1_hasRun_31 : decode cX1_hasRun 31 = .ok (.ireturn, 1) := by decide +kernel
theorem dX2_init_0 : decode cX2_init 0 = .ok (.aload_n 0, 1) := by decide +kernel
theorem dX2_init_1 : decode cX2_init 1 = .ok (.invokespecial 3, 3) := by decide +kernel
theorem dX2_init_4 : decode cX2_init 4 = .ok (.aload_n 0, 1) := by decide +kernel
theorem dX2_init_5 : decode cX2_init 5 = .ok (.iconst 0, 1) := by decide +kernel
theorem dX2_init_6 : decode cX2_init 6 = .ok (.putfield 9, 3) := by decide +kernel
theorem dX2_init_9 : decode cX2_init 9 = .ok (.aload_n 0, 1) := by decide +kernel
theorem dX2_init_10 : decode cX2_init 10 = .ok (.bipush 120, 2) := by decide +kernel
theorem dX2_init_12 : decode cX2_init 12 = .ok (.newarray .int, 2) := by decide +kernel
theorem dX2_init_14 : decode cX2_init 14 = .ok (.putfield 15, 3) := by decide +kernel
theorem dX2_init_17 : decode cX2_init 17 = .ok (.aload_n 0, 1) := by decide +kernel
theorem dX2_init_18 : decode cX2_init 18 = .ok (.iconst 0, 1) := by decide +kernel
theorem dX2_init_19 : decode cX2_init 19 = .ok (.putfield 19, 3) := by decide +kernel
theorem dX2_init_22 : decode cX2_init 22 = .ok (.aload_n 0, 1) := by decide +kernel
theorem dX2_init_23 : decode cX2_init 23 = .ok (.iconst 0, 1) := by decide +kernel
theorem dX2_init_24 : decode cX2_init 24 = .ok (.putfield 22, 3) := by decide +kernel
theorem dX2_init_27 : decode cX2_init 27 = .ok (.aload_n 0, 1) := by decide +kernel
theorem dX2_init_28 : decode cX2_init 28 = .ok (.iconst 0, 1) := by decide +kernel
theorem dX2_init_29 : decode cX2_init 29 = .ok (.putfield 25, 3) := by decide +kernel
theorem dX2_init_32 : decode cX2_init 32 = .ok (.aload_n 0, 1) := by decide +kernel
theorem dX2_init_33 : decode cX2_init 33 = .ok (.iconst 0, 1) := by decide +kernel
theorem dX2_init_34 : decode cX2_init 34 = .ok (.putfield 28, 3) := by decide +kernel
theorem dX2_init_37 : decode cX2_init 37 = .ok (.aload_n 0, 1) := by decide +kernel
theorem dX2_init_38 : decode cX2_init 38 = .ok (.iconst 0, 1) := by decide +kernel
theorem dX2_init_39 : decode cX2_init 39 = .ok (.putfield 31, 3) := by decide +kernel
theorem dX2_init_42 : decode cX2_init 42 = .ok (.return_, 1) := by decide +kernel
theorem dX2_append_0 : decode cX2_append 0 = .ok (.iload_n 2, 1) := by decide +kernel
theorem dX2_append_1 : decode cX2_append 1 = .ok (.iconst 1, 1) := by decide +kernel
theorem dX2_append_2 : decode cX2_append 2 = .ok (.isub, 1) := by decide +kernel
theorem dX2_append_3 : decode cX2_append 3 = .ok (.istore_n 3, 1) := by decide +kernel
theorem dX2_append_4 : decode cX2_append 4 = .ok (.iload_n 3, 1) := by decide +kernel
theorem dX2_append_5 : decode cX2_append 5 = .ok (.ifCond .lt 47, 3) := by decide +kernel
theorem dX2_append_8 : decode cX2_append 8 = .ok (.aload_n 0, 1) := by decide +kernel
theorem dX2_append_9 : decode cX2_append 9 = .ok (.getfield 9, 3) := by decide +kernel
theorem dX2_append_12 : decode cX2_append 12 = .ok (.bipush 120, 2) := by decide +kernel
theorem dX2_append_14 : decode cX2_append 14 = .ok (.if_icmp .ge 38, 3) := by decide +kernel
theorem dX2_append_17 : decode cX2_append 17 = .ok (.aload_n 0, 1) := by decide +kernel
theorem dX2_append_18 : decode cX2_append 18 = .ok (.getfield 15, 3) := by decide +kernel
theorem dX2_append_21 : decode cX2_append 21 = .ok (.aload_n 0, 1) := by decide +kernel
theorem dX2_append_22 : decode cX2_append 22 = .ok (.getfield 9, 3) := by decide +kernel
theorem dX2_append_25 : decode cX2_append 25 = .ok (.iload_n 1, 1) := by decide +kernel
theorem dX2_append_26 : decode cX2_append 26 = .ok (.bipush 8, 2) := by decide +kernel
theorem dX2_append_28 : decode cX2_append 28 = .ok (.iload_n 3, 1) := by decide +kernel
theorem dX2_append_29 : decode cX2_append 29 = .ok (.imul, 1) := by decide +kernel
theorem dX2_append_30 : decode cX2_append 30 = .ok (.ishr, 1) := by decide +kernel
theorem dX2_append_31 : decode cX2_append 31 = .ok (.sipush 255, 3) := by decide +kernel
theorem dX2_append_34 : decode cX2_append 34 = .ok (.iand, 1) := by decide +kernel
theorem dX2_append_35 : decode cX2_append 35 = .ok (.iastore, 1) := by decide +kernel
theorem dX2_append_36 : decode cX2_append 36 = .ok (.aload_n 0, 1) := by decide +kernel
theorem dX2_append_37 : decode cX2_append 37 = .ok (.dup, 1) := by decide +kernel
theorem dX2_append_38 : decode cX2_append 38 = .ok (.getfield 9, 3) := by decide +kernel
theorem dX2_append_41 : decode cX2_append 41 = .ok (.iconst 1, 1) := by decide +kernel
theorem dX2_append_42 : decode cX2_append 42 = .ok (.iadd, 1) := by decide +kernel
theorem dX2_append_43 : decode cX2_append 43 = .ok (.putfield 9, 3) := by decide +kernel
theorem dX2_append_46 : decode cX2_append 46 = .ok (.iinc 3 (-1), 3) := by decide +kernel
theorem dX2_append_49 : decode cX2_append 49 = .ok (.goto (-45), 3) := by decide +kernel
theorem dX2_append_52 : decode cX2_append 52 = .ok (.return_, 1) := by decide +kernel
theorem dX2_tellItems_0 : decode cX2_tellItems 0 = .ok (.aload_n 0, 1) := by decide +kernel
theorem dX2_tellItems_1 : decode cX2_tellItems 1 = .ok (.iconst 0, 1) := by decide +kernel
theorem dX2_tellItems_2 : decode cX2_tellItems 2 = .ok (.putfield 25, 3) := by decide +kernel
theorem dX2_tellItems_5 : decode cX2_tellItems 5 = .ok (.aload_n 0, 1) := by decide +kernel
theorem dX2_tellItems_6 : decode cX2_tellItems 6 = .ok (.invokevirtual 34, 3) := by decide +kernel
theorem dX2_tellItems_9 : decode cX2_tellItems 9 = .ok (.iconst 1, 1) := by decide +kernel
theorem dX2_tellItems_10 : decode cX2_tellItems 10 = .ok (.istore_n 2, 1) := by decide +kernel
theorem dX2_tellItems_11 : decode cX2_tellItems 11 = .ok (.iload_n 2, 1) := by decide +kernel
theorem dX2_tellItems_12 : decode cX2_tellItems 12 = .ok (.bipush 120, 2) := by decide +kernel
theorem dX2_tellItems_14 : decode cX2_tellItems 14 = .ok (.if_icmp .gt 52, 3) := by decide +kernel
theorem dX2_tellItems_17 : decode cX2_tellItems 17 = .ok (.aload_n 0, 1) := by decide +kernel
theorem dX2_tellItems_18 : decode cX2_tellItems 18 = .ok (.aload_n 1, 1) := by decide +kernel
theorem dX2_tellItems_19 : decode cX2_tellItems 19 = .ok (.invokevirtual 37, 3) := by decide +kernel
theorem dX2_tellItems_22 : decode cX2_tellItems 22 = .ok (.ifCond .ne 10, 3) := by decide +kernel
theorem dX2_tellItems_25 : decode cX2_tellItems 25 = .ok (.iconst (-1), 1) := by decide +kernel
theorem dX2_tellItems_26 : decode cX2_tellItems 26 = .ok (.aload_n 0, 1) := by decide +kernel
theorem dX2_tellItems_27 : decode cX2_tellItems 27 = .ok (.getfield 22, 3) := by decide +kernel
theorem dX2_tellItems_30 : decode cX2_tellItems 30 = .ok (.isub, 1) := by decide +kernel
theorem dX2_tellItems_31 : decode cX2_tellItems 31 = .ok (.ireturn, 1) := by decide +kernel
theorem dX2_tellItems_32 : decode cX2_tellItems 32 = .ok (.aload_n 0, 1) := by decide +kernel
theorem dX2_tellItems_33 : decode cX2_tellItems 33 = .ok (.getfield 19, 3) := by decide +kernel
theorem dX2_tellItems_36 : decode cX2_tellItems 36 = .ok (.ifCond .ne 5, 3) := by decide +kernel
theorem dX2_tellItems_39 : decode cX2_tellItems 39 = .ok (.iload_n 2, 1) := by decide +kernel
theorem dX2_tellItems_40 : decode cX2_tellItems 40 = .ok (.ireturn, 1) := by decide +kernel
theorem dX2_tellItems_41 : decode cX2_tellItems 41 = .ok (.aload_n 0, 1) := by decide +kernel
theorem dX2_tellItems_42 : decode cX2_tellItems 42 = .ok (.getfield 19, 3) := by decide +kernel
theorem dX2_tellItems_45 : decode cX2_tellItems 45 = .ok (.iconst 3, 1) := by decide +kernel
theorem dX2_tellItems_46 : decode cX2_tellItems 46 = .ok (.if_icmp .eq 10, 3) := by decide +kernel
theorem dX2_tellItems_49 : decode cX2_tellItems 49 = .ok (.iconst (-1), 1) := by decide +kernel
theorem dX2_tellItems_50 : decode cX2_tellItems 50 = .ok (.aload_n 0, 1) := by decide +kernel
theorem dX2_tellItems_51 : decode cX2_tellItems 51 = .ok (.getfield 22, 3) := by decide +kernel
theorem dX2_tellItems_54 : decode cX2_tellItems 54 = .ok (.isub, 1) := by decide +kernel
theorem dX2_tellItems_55 : decode cX2_tellItems 55 = .ok (.ireturn, 1) := by decide +kernel
theorem dX2_tellItems_56 : decode cX2_tellItems 56 = .ok (.aload_n 0, 1) := by decide +kernel
theorem dX2_tellItems_57 : decode cX2_tellItems 57 = .ok (.invokevirtual 34, 3) := by decide +kernel
theorem dX2_tellItems_60 : decode cX2_tellItems 60 = .ok (.iinc 2 1, 3) := by decide +kernel
theorem dX2_tellItems_63 : decode cX2_tellItems 63 = .ok (.goto (-52), 3) := by decide +kernel
theorem dX2_tellItems_66 : decode cX2_tellItems 66 = .ok (.iconst (-1), 1) := by decide +kernel
theorem dX2_tellItems_67 : decode cX2_tellItems 67 = .ok (.aload_n 0, 1) := by decide +kernel
theorem dX2_tellItems_68 : decode cX2_tellItems 68 = .ok (.getfield 22, 3) := by decide +kernel
theorem dX2_tellItems_71 : decode cX2_tellItems 71 = .ok (.isub, 1) := by decide +kernel
theorem dX2_tellItems_72 : decode cX2_tellItems 72 = .ok (.ireturn, 1) := by decide +kernel
theorem dX2_takeItem_0 : decode cX2_takeItem 0 = .ok (.aload_n 0, 1) := by decide +kernel
theorem dX2_takeItem_1 : decode cX2_takeItem 1 = .ok (.invokevirtual 41, 3) := by decide +kernel
theorem dX2_takeItem_4 : decode cX2_takeItem 4 = .ok (.istore_n 2, 1) := by decide +kernel
theorem dX2_takeItem_5 : decode cX2_takeItem 5 = .ok (.iload_n 2, 1) := by decide +kernel
theorem dX2_takeItem_6 : decode cX2_takeItem 6 = .ok (.ifCond .lt 10, 3) := by decide +kernel
theorem dX2_takeItem_9 : decode cX2_takeItem 9 = .ok (.aload_n 0, 1) := by decide +kernel
theorem dX2_takeItem_10 : decode cX2_takeItem 10 = .ok (.aload_n 1, 1) := by decide +kernel
theorem dX2_takeItem_11 : decode cX2_takeItem 11 = .ok (.iload_n 2, 1) := by decide +kernel
theorem dX2_takeItem_12 : decode cX2_takeItem 12 = .ok (.invokevirtual 45, 3) := by decide +kernel
theorem dX2_takeItem_15 : decode cX2_takeItem 15 = .ok (.ireturn, 1) := by decide +kernel
theorem dX2_takeItem_16 : decode cX2_takeItem 16 = .ok (.aload_n 0, 1) := by decide +kernel
theorem dX2_takeItem_17 : decode cX2_takeItem 17 = .ok (.ldc 49, 2) := by decide +kernel
theorem dX2_takeItem_19 : decode cX2_takeItem 19 = .ok (.invokevirtual 51, 3) := by decide +kernel
theorem dX2_takeItem_22 : decode cX2_takeItem 22 = .ok (.ifCond .eq 10, 3) := by decide +kernel
theorem dX2_takeItem_25 : decode cX2_takeItem 25 = .ok (.aload_n 0, 1) := by decide +kernel
theorem dX2_takeItem_26 : decode cX2_takeItem 26 = .ok (.aload_n 1, 1) := by decide +kernel
theorem dX2_takeItem_27 : decode cX2_takeItem 27 = .ok (.iconst 1, 1) := by decide +kernel
theorem dX2_takeItem_28 : decode cX2_takeItem 28 = .ok (.invokevirtual 55, 3) := by decide +kernel
theorem dX2_takeItem_31 : decode cX2_takeItem 31 = .ok (.ireturn, 1) := by decide +kernel
theorem dX2_takeItem_32 : decode cX2_takeItem 32 = .ok (.aload_n 0, 1) := by decide +kernel
theorem dX2_takeItem_33 : decode cX2_takeItem 33 = .ok (.ldc 59, 2) := by decide +kernel
theorem dX2_takeItem_35 : decode cX2_takeItem 35 = .ok (.invokevirtual 51, 3) := by decide +kernel
theorem dX2_takeItem_38 : decode cX2_takeItem 38 = .ok (.ifCond .eq 10, 3) := by decide +kernel
theorem dX2_takeItem_41 : decode cX2_takeItem 41 = .ok (.aload_n 0, 1) := by decide +kernel
theorem dX2_takeItem_42 : decode cX2_takeItem 42 = .ok (.aload_n 1, 1) := by decide +kernel
theorem dX2_takeItem_43 : decode cX2_takeItem 43 = .ok (.iconst 0, 1) := by decide +kernel
theorem dX2_takeItem_44 : decode cX2_takeItem 44 = .ok (.invokevirtual 55, 3) := by decide +kernel
theorem dX2_takeItem_47 : decode cX2_takeItem 47 = .ok (.ireturn, 1) := by decide +kernel
theorem dX2_takeItem_48 : decode cX2_takeItem 48 = .ok (.aload_n 0, 1) := by decide +kernel
theorem dX2_takeItem_49 : decode cX2_takeItem 49 = .ok (.ldc 61, 2) := by decide +kernel
theorem dX2_takeItem_51 : decode cX2_takeItem 51 = .ok (.invokevirtual 51, 3) := by decide +kernel
theorem dX2_takeItem_54 : decode cX2_takeItem 54 = .ok (.ifCond .eq 23, 3) := by decide +kernel
theorem dX2_takeItem_57 : decode cX2_takeItem 57 = .ok (.aload_n 0, 1) := by decide +kernel
theorem dX2_takeItem_58 : decode cX2_takeItem 58 = .ok (.iconst 0, 1) := by decide +kernel
theorem dX2_takeItem_59 : decode cX2_takeItem 59 = .ok (.bipush 35, 2) := by decide +kernel
theorem dX2_takeItem_61 : decode cX2_takeItem 61 = .ok (.invokevirtual 63, 3) := by decide +kernel
theorem dX2_takeItem_64 : decode cX2_takeItem 64 = .ok (.ifCond .eq 13, 3) := by decide +kernel
theorem dX2_takeItem_67 : decode cX2_takeItem 67 = .ok (.aload_n 1, 1) := by decide +kernel
theorem dX2_takeItem_68 : decode cX2_takeItem 68 = .ok (.aload_n 0, 1) := by decide +kernel
theorem dX2_takeItem_69 : decode cX2_takeItem 69 = .ok (.getfield 31, 3) := by decide +kernel
theorem dX2_takeItem_72 : decode cX2_takeItem 72 = .ok (.putfield 67, 3) := by decide +kernel
theorem dX2_takeItem_75 : decode cX2_takeItem 75 = .ok (.iconst 1, 1) := by decide +kernel
theorem dX2_takeItem_76 : decode cX2_takeItem 76 = .ok (.ireturn, 1) := by decide +kernel
theorem dX2_takeItem_77 : decode cX2_takeItem 77 = .ok (.iconst 0, 1) := by decide +kernel
theorem dX2_takeItem_78 : decode cX2_takeItem 78 = .ok (.ireturn, 1) := by decide +kernel
theorem dX2_takeWalker_0 : decode cX2_takeWalker 0 = .ok (.aload_n 1, 1) := by decide +kernel
theorem dX2_takeWalker_1 : decode cX2_takeWalker 1 = .ok (.invokevirtual 72, 3) := by decide +kernel
theorem dX2_takeWalker_4 : decode cX2_takeWalker 4 = .ok (.ifCond .ne 5, 3) := by decide +kernel
theorem dX2_takeWalker_7 : decode cX2_takeWalker 7 = .ok (.iconst 0, 1) := by decide +kernel
theorem dX2_takeWalker_8 : decode cX2_takeWalker 8 = .ok (.ireturn, 1) := by decide +kernel
theorem dX2_takeWalker_9 : decode cX2_takeWalker 9 = .ok (.aload_n 0, 1) := by decide +kernel
theorem dX2_takeWalker_10 : decode cX2_takeWalker 10 = .ok (.invokevirtual 34, 3) := by decide +kernel
theorem dX2_takeWalker_13 : decode cX2_takeWalker 13 = .ok (.aload_n 0, 1) := by decide +kernel
theorem dX2_takeWalker_14 : decode cX2_takeWalker 14 = .ok (.ldc 76, 2) := by decide +kernel
theorem dX2_takeWalker_16 : decode cX2_takeWalker 16 = .ok (.invokevirtual 51, 3) := by decide +kernel
theorem dX2_takeWalker_19 : decode cX2_takeWalker 19 = .ok (.ifCond .eq 13, 3) := by decide +kernel
theorem dX2_takeWalker_22 : decode cX2_takeWalker 22 = .ok (.aload_n 0, 1) := by decide +kernel
theorem dX2_takeWalker_23 : decode cX2_takeWalker 23 = .ok (.iconst 0, 1) := by decide +kernel
theorem dX2_takeWalker_24 : decode cX2_takeWalker 24 = .ok (.bipush 35, 2) := by decide +kernel
theorem dX2_takeWalker_26 : decode cX2_takeWalker 26 = .ok (.invokevirtual 63, 3) := by decide +kernel
theorem dX2_takeWalker_29 : decode cX2_takeWalker 29 = .ok (.ifCond .ne 5, 3) := by decide +kernel
theorem dX2_takeWalker_32 : decode cX2_takeWalker 32 = .ok (.iconst 0, 1) := by decide +kernel
theorem dX2_takeWalker_33 : decode cX2_takeWalker 33 = .ok (.ireturn, 1) := by decide +kernel
theorem dX2_takeWalker_34 : decode cX2_takeWalker 34 = .ok (.aload_n 1, 1) := by decide +kernel
theorem dX2_takeWalker_35 : decode cX2_takeWalker 35 = .ok (.iload_n 2, 1) := by decide +kernel
theorem dX2_takeWalker_36 : decode cX2_takeWalker 36 = .ok (.aload_n 0, 1) := by decide +kernel
theorem dX2_takeWalker_37 : decode cX2_takeWalker 37 = .ok (.getfield 31, 3) := by decide +kernel
theorem dX2_takeWalker_40 : decode cX2_takeWalker 40 = .ok (.invokevirtual 78, 3) := by decide +kernel
theorem dX2_takeWalker_43 : decode cX2_takeWalker 43 = .ok (.istore_n 3, 1) := by decide +kernel
theorem dX2_takeWalker_44 : decode cX2_takeWalker 44 = .ok (.aload_n 1, 1) := by decide +kernel
theorem dX2_takeWalker_45 : decode cX2_takeWalker 45 = .ok (.iload_n 3, 1) := by decide +kernel
theorem dX2_takeWalker_46 : decode cX2_takeWalker 46 = .ok (.invokevirtual 82, 3) := by decide +kernel
theorem dX2_takeWalker_49 : decode cX2_takeWalker 49 = .ok (.ifCond .ne 5, 3) := by decide +kernel
theorem dX2_takeWalker_52 : decode cX2_takeWalker 52 = .ok (.iconst 0, 1) := by decide +kernel
theorem dX2_takeWalker_53 : decode cX2_takeWalker 53 = .ok (.ireturn, 1) := by decide +kernel
theorem dX2_takeWalker_54 : decode cX2_takeWalker 54 = .ok (.aload_n 0, 1) := by decide +kernel
theorem dX2_takeWalker_55 : decode cX2_takeWalker 55 = .ok (.ldc 86, 2) := by decide +kernel
theorem dX2_takeWalker_57 : decode cX2_takeWalker 57 = .ok (.invokevirtual 51, 3) := by decide +kernel
theorem dX2_takeWalker_60 : decode cX2_takeWalker 60 = .ok (.ifCond .eq 24, 3) := by decide +kernel
theorem dX2_takeWalker_63 : decode cX2_takeWalker 63 = .ok (.aload_n 0, 1) := by decide +kernel
theorem dX2_takeWalker_64 : decode cX2_takeWalker 64 = .ok (.iconst 0, 1) := by decide +kernel
theorem dX2_takeWalker_65 : decode cX2_takeWalker 65 = .ok (.iconst 3, 1) := by decide +kernel
theorem dX2_takeWalker_66 : decode cX2_takeWalker 66 = .ok (.invokevirtual 63, 3) := by decide +kernel
theorem dX2_takeWalker_69 : decode cX2_takeWalker 69 = .ok (.ifCond .ne 5, 3) := by decide +kernel
theorem dX2_takeWalker_72 : decode cX2_takeWalker 72 = .ok (.iconst 0, 1) := by decide +kernel
theorem dX2_takeWalker_73 : decode cX2_takeWalker 73 = .ok (.ireturn, 1) := by decide +kernel
theorem dX2_takeWalker_74 : decode cX2_takeWalker 74 = .ok (.aload_n 1, 1) := by decide +kernel
theorem dX2_takeWalker_75 : decode cX2_takeWalker 75 = .ok (.getfield 88, 3) := by decide +kernel
theorem dX2_takeWalker_78 : decode cX2_takeWalker 78 = .ok (.iload_n 3, 1) := by decide +kernel
theorem dX2_takeWalker_79 : decode cX2_takeWalker 79 = .ok (.aload_n 0, 1) := by decide +kernel
theorem dX2_takeWalker_80 : decode cX2_takeWalker 80 = .ok (.getfield 31, 3) := by decide +kernel
theorem dX2_takeWalker_83 : decode cX2_takeWalker 83 = .ok (.iastore, 1) := by decide +kernel
theorem dX2_takeWalker_84 : decode cX2_takeWalker 84 = .ok (.aload_n 0, 1) := by decide +kernel
theorem dX2_takeWalker_85 : decode cX2_takeWalker 85 = .ok (.ldc 91, 2) := by decide +kernel
theorem dX2_takeWalker_87 : decode cX2_takeWalker 87 = .ok (.invokevirtual 51, 3) := by decide +kernel
theorem dX2_takeWalker_90 : decode cX2_takeWalker 90 = .ok (.ifCond .eq 25, 3) := by decide +kernel
theorem dX2_takeWalker_93 : decode cX2_takeWalker 93 = .ok (.aload_n 0, 1) := by decide +kernel
theorem dX2_takeWalker_94 : decode cX2_takeWalker 94 = .ok (.iconst 0, 1) := by decide +kernel
theorem dX2_takeWalker_95 : decode cX2_takeWalker 95 = .ok (.bipush 15, 2) := by decide +kernel
theorem dX2_takeWalker_97 : decode cX2_takeWalker 97 = .ok (.invokevirtual 63, 3) := by decide +kernel
theorem dX2_takeWalker_100 : decode cX2_takeWalker 100 = .ok (.ifCond .ne 5, 3) := by decide +kernel
theorem dX2_takeWalker_103 : decode cX2_takeWalker 103 = .ok (.iconst 0, 1) := by decide +kernel
theorem dX2_takeWalker_104 : decode cX2_takeWalker 104 = .ok (.ireturn, 1) := by decide +kernel
theorem dX2_takeWalker_105 : decode cX2_takeWalker 105 = .ok (.aload_n 1, 1) := by decide +kernel
theorem dX2_takeWalker_106 : decode cX2_takeWalker 106 = .ok (.getfield 93, 3) := by decide +kernel
theorem dX2_takeWalker_109 : decode cX2_takeWalker 109 = .ok (.iload_n 3, 1) := by decide +kernel
theorem dX2_takeWalker_110 : decode cX2_takeWalker 110 = .ok (.aload_n 0, 1) := by decide +kernel
theorem dX2_takeWalker_111 : decode cX2_takeWalker 111 = .ok (.getfield 31, 3) := by decide +kernel
theorem dX2_takeWalker_114 : decode cX2_takeWalker 114 = .ok (.iastore, 1) := by decide +kernel
theorem dX2_takeWalker_115 : decode cX2_takeWalker 115 = .ok (.iconst 1, 1) := by decide +kernel
theorem dX2_takeWalker_116 : decode cX2_takeWalker 116 = .ok (.ireturn, 1) := by decide +kernel
theorem dX2_takeDayHours_0 : decode cX2_takeDayHours 0 = .ok (.aload_n 0, 1) := by decide +kernel
theorem dX2_takeDayHours_1 : decode cX2_takeDayHours 1 = .ok (.iconst 0, 1) := by decide +kernel
theorem dX2_takeDayHours_2 : decode cX2_takeDayHours 2 = .ok (.bipush 23, 2) := by decide +kernel
theorem dX2_takeDayHours_4 : decode cX2_takeDayHours 4 = .ok (.invokevirtual 63, 3) := by decide +kernel
theorem dX2_takeDayHours_7 : decode cX2_takeDayHours 7 = .ok (.ifCond .ne 5, 3) := by decide +kernel
theorem dX2_takeDayHours_10 : decode cX2_takeDayHours 10 = .ok (.iconst 0, 1) := by decide +kernel
theorem dX2_takeDayHours_11 : decode cX2_takeDayHours 11 = .ok (.ireturn, 1) := by decide +kernel
theorem dX2_takeDayHours_12 : decode cX2_takeDayHours 12 = .ok (.aload_n 0, 1) := by decide +kernel
theorem dX2_takeDayHours_13 : decode cX2_takeDayHours 13 = .ok (.getfield 31, 3) := by decide +kernel
theorem dX2_takeDayHours_16 : decode cX2_takeDayHours 16 = .ok (.istore_n 3, 1) := by decide +kernel
theorem dX2_takeDayHours_17 : decode cX2_takeDayHours 17 = .ok (.aload_n 0, 1) := by decide +kernel
theorem dX2_takeDayHours_18 : decode cX2_takeDayHours 18 = .ok (.ldc 95, 2) := by decide +kernel
theorem dX2_takeDayHours_20 : decode cX2_takeDayHours 20 = .ok (.invokevirtual 51, 3) := by decide +kernel
theorem dX2_takeDayHours_23 : decode cX2_takeDayHours 23 = .ok (.ifCond .eq 15, 3) := by decide +kernel
theorem dX2_takeDayHours_26 : decode cX2_takeDayHours 26 = .ok (.aload_n 0, 1) := by decide +kernel
theorem dX2_takeDayHours_27 : decode cX2_takeDayHours 27 = .ok (.iload_n 3, 1) := by decide +kernel
theorem dX2_takeDayHours_28 : decode cX2_takeDayHours 28 = .ok (.bipush 23, 2) := by decide +kernel
theorem dX2_takeDayHours_30 : decode cX2_takeDayHours 30 = .ok (.invokevirtual 63, 3) := by decide +kernel
theorem dX2_takeDayHours_33 : decode cX2_takeDayHours 33 = .ok (.ifCond .ne 5, 3) := by decide +kernel
theorem dX2_takeDayHours_36 : decode cX2_takeDayHours 36 = .ok (.iconst 0, 1) := by decide +kernel
theorem dX2_takeDayHours_37 : decode cX2_takeDayHours 37 = .ok (.ireturn, 1) := by decide +kernel
theorem dX2_takeDayHours_38 : decode cX2_takeDayHours 38 = .ok (.iload_n 3, 1) := by decide +kernel
theorem dX2_takeDayHours_39 : decode cX2_takeDayHours 39 = .ok (.istore 4, 2) := by decide +kernel
theorem dX2_takeDayHours_41 : decode cX2_takeDayHours 41 = .ok (.iload 4, 2) := by decide +kernel
theorem dX2_takeDayHours_43 : decode cX2_takeDayHours 43 = .ok (.aload_n 0, 1) := by decide +kernel
theorem dX2_takeDayHours_44 : decode cX2_takeDayHours 44 = .ok (.getfield 31, 3) := by decide +kernel
theorem dX2_takeDayHours_47 : decode cX2_takeDayHours 47 = .ok (.if_icmp .gt 44, 3) := by decide +kernel
theorem dX2_takeDayHours_50 : decode cX2_takeDayHours 50 = .ok (.iload_n 2, 1) := by decide +kernel
theorem dX2_takeDayHours_51 : decode cX2_takeDayHours 51 = .ok (.ifCond .eq 19, 3) := by decide +kernel
theorem dX2_takeDayHours_54 : decode cX2_takeDayHours 54 = .ok (.aload_n 1, 1) := by decide +kernel
theorem dX2_takeDayHours_55 : decode cX2_takeDayHours 55 = .ok (.dup, 1) := by decide +kernel
theorem dX2_takeDayHours_56 : decode cX2_takeDayHours 56 = .ok (.getfield 97, 3) := by decide +kernel
theorem dX2_takeDayHours_59 : decode cX2_takeDayHours 59 = .ok (.iconst 1, 1) := by decide +kernel
theorem dX2_takeDayHours_60 : decode cX2_takeDayHours 60 = .ok (.iload 4, 2) := by decide +kernel
theorem dX2_takeDayHours_62 : decode cX2_takeDayHours 62 = .ok (.ishl, 1) := by decide +kernel
theorem dX2_takeDayHours_63 : decode cX2_takeDayHours 63 = .ok (.ior, 1) := by decide +kernel
theorem dX2_takeDayHours_64 : decode cX2_takeDayHours 64 = .ok (.putfield 97, 3) := by decide +kernel
theorem dX2_takeDayHours_67 : decode cX2_takeDayHours 67 = .ok (.goto 18, 3) := by decide +kernel
theorem dX2_takeDayHours_70 : decode cX2_takeDayHours 70 = .ok (.aload_n 1, 1) := by decide +kernel
theorem dX2_takeDayHours_71 : decode cX2_takeDayHours 71 = .ok (.dup, 1) := by decide +kernel
theorem dX2_takeDayHours_72 : decode cX2_takeDayHours 72 = .ok (.getfield 97, 3) := by decide +kernel
theorem dX2_takeDayHours_75 : decode cX2_takeDayHours 75 = .ok (.iconst 1, 1) := by decide +kernel
theorem dX2_takeDayHours_76 : decode cX2_takeDayHours 76 = .ok (.iload 4, 2) := by decide +kernel
theorem dX2_takeDayHours_78 : decode cX2_takeDayHours 78 = .ok (.ishl, 1) := by decide +kernel
theorem dX2_takeDayHours_79 : decode cX2_takeDayHours 79 = .ok (.iconst (-1), 1) := by decide +kernel
theorem dX2_takeDayHours_80 : decode cX2_takeDayHours 80 = .ok (.ixor, 1) := by decide +kernel
theorem dX2_takeDayHours_81 : decode cX2_takeDayHours 81 = .ok (.iand, 1) := by decide +kernel
theorem dX2_takeDayHours_82 : decode cX2_takeDayHours 82 = .ok (.putfield 97, 3) := by decide +kernel
theorem dX2_takeDayHours_85 : decode cX2_takeDayHours 85 = .ok (.iinc 4 1, 3) := by decide +kernel
theorem dX2_takeDayHours_88 : decode cX2_takeDayHours 88 = .ok (.goto (-47), 3) := by decide +kernel
theorem dX2_takeDayHours_91 : decode cX2_takeDayHours 91 = .ok (.iconst 1, 1) := by decide +kernel
theorem dX2_takeDayHours_92 : decode cX2_takeDayHours 92 = .ok (.ireturn, 1) := by decide +kernel
theorem dX2_takeWord_0 : decode cX2_takeWord 0 = .ok (.aload_n 0, 1) := by decide +kernel
theorem dX2_takeWord_1 : decode cX2_takeWord 1 = .ok (.aload_n 1, 1) := by decide +kernel
theorem dX2_takeWord_2 : decode cX2_takeWord 2 = .ok (.invokevirtual 100, 3) := by decide +kernel
theorem dX2_takeWord_5 : decode cX2_takeWord 5 = .ok (.ifCond .ne 5, 3) := by decide +kernel
theorem dX2_takeWord_8 : decode cX2_takeWord 8 = .ok (.iconst 0, 1) := by decide +kernel
theorem dX2_takeWord_9 : decode cX2_takeWord 9 = .ok (.ireturn, 1) := by decide +kernel
theorem dX2_takeWord_10 : decode cX2_takeWord 10 = .ok (.aload_n 0, 1) := by decide +kernel
theorem dX2_takeWord_11 : decode cX2_takeWord 11 = .ok (.invokevirtual 34, 3) := by decide +kernel
theorem dX2_takeWord_14 : decode cX2_takeWord 14 = .ok (.iconst 1, 1) := by decide +kernel
theorem dX2_takeWord_15 : decode cX2_takeWord 15 = .ok (.ireturn, 1) := by decide +kernel
theorem dX2_takeNumber_0 : decode cX2_takeNumber 0 = .ok (.aload_n 0, 1) := by decide +kernel
theorem dX2_takeNumber_1 : decode cX2_takeNumber 1 = .ok (.getfield 19, 3) := by decide +kernel
theorem dX2_takeNumber_4 : decode cX2_takeNumber 4 = .ok (.iconst 2, 1) := by decide +kernel
theorem dX2_takeNumber_5 : decode cX2_takeNumber 5 = .ok (.if_icmp .ne 19, 3) := by decide +kernel
theorem dX2_takeNumber_8 : decode cX2_takeNumber 8 = .ok (.aload_n 0, 1) := by decide +kernel
theorem dX2_takeNumber_9 : decode cX2_takeNumber 9 = .ok (.getfield 28, 3) := by decide +kernel
theorem dX2_takeNumber_12 : decode cX2_takeNumber 12 = .ok (.iload_n 1, 1) := by decide +kernel
theorem dX2_takeNumber_13 : decode cX2_takeNumber 13 = .ok (.if_icmp .lt 11, 3) := by decide +kernel
theorem dX2_takeNumber_16 : decode cX2_takeNumber 16 = .ok (.aload_n 0, 1) := by decide +kernel
theorem dX2_takeNumber_17 : decode cX2_takeNumber 17 = .ok (.getfield 28, 3) := by decide +kernel
theorem dX2_takeNumber_20 : decode cX2_takeNumber 20 = .ok (.iload_n 2, 1) := by decide +kernel
theorem dX2_takeNumber_21 : decode cX2_takeNumber 21 = .ok (.if_icmp .le 5, 3) := by decide +kernel
theorem dX2_takeNumber_24 : decode cX2_takeNumber 24 = .ok (.iconst 0, 1) := by decide +kernel
theorem dX2_takeNumber_25 : decode cX2_takeNumber 25 = .ok (.ireturn, 1) := by decide +kernel
theorem dX2_takeNumber_26 : decode cX2_takeNumber 26 = .ok (.aload_n 0, 1) := by decide +kernel
theorem dX2_takeNumber_27 : decode cX2_takeNumber 27 = .ok (.aload_n 0, 1) := by decide +kernel
theorem dX2_takeNumber_28 : decode cX2_takeNumber 28 = .ok (.getfield 28, 3) := by decide +kernel
theorem dX2_takeNumber_31 : decode cX2_takeNumber 31 = .ok (.putfield 31, 3) := by decide +kernel
theorem dX2_takeNumber_34 : decode cX2_takeNumber 34 = .ok (.aload_n 0, 1) := by decide +kernel
theorem dX2_takeNumber_35 : decode cX2_takeNumber 35 = .ok (.invokevirtual 34, 3) := by decide +kernel
theorem dX2_takeNumber_38 : decode cX2_takeNumber 38 = .ok (.iconst 1, 1) := by decide +kernel
theorem dX2_takeNumber_39 : decode cX2_takeNumber 39 = .ok (.ireturn, 1) := by decide +kernel
theorem dX2_kindNamed_0 : decode cX2_kindNamed 0 = .ok (.iconst 0, 1) := by decide +kernel
theorem dX2_kindNamed_1 : decode cX2_kindNamed 1 = .ok (.istore_n 1, 1) := by decide +kernel
theorem dX2_kindNamed_2 : decode cX2_kindNamed 2 = .ok (.iload_n 1, 1) := by decide +kernel
theorem dX2_kindNamed_3 : decode cX2_kindNamed 3 = .ok (.bipush 6, 2) := by decide +kernel
theorem dX2_kindNamed_5 : decode cX2_kindNamed 5 = .ok (.if_icmp .ge 22, 3) := by decide +kernel
theorem dX2_kindNamed_8 : decode cX2_kindNamed 8 = .ok (.aload_n 0, 1) := by decide +kernel
theorem dX2_kindNamed_9 : decode cX2_kindNamed 9 = .ok (.iload_n 1, 1) := by decide +kernel
theorem dX2_kindNamed_10 : decode cX2_kindNamed 10 = .ok (.invokestatic 103, 3) := by decide +kernel
theorem dX2_kindNamed_13 : decode cX2_kindNamed 13 = .ok (.invokevirtual 100, 3) := by decide +kernel
theorem dX2_kindNamed_16 : decode cX2_kindNamed 16 = .ok (.ifCond .eq 5, 3) := by decide +kernel
theorem dX2_kindNamed_19 : decode cX2_kindNamed 19 = .ok (.iload_n 1, 1) := by decide +kernel
theorem dX2_kindNamed_20 : decode cX2_kindNamed 20 = .ok (.ireturn, 1) := by decide +kernel
theorem dX2_kindNamed_21 : decode cX2_kindNamed 21 = .ok (.iinc 1 1, 3) := by decide +kernel
theorem dX2_kindNamed_24 : decode cX2_kindNamed 24 = .ok (.goto (-22), 3) := by decide +kernel
theorem dX2_kindNamed_27 : decode cX2_kindNamed 27 = .ok (.iconst (-1), 1) := by decide +kernel
theorem dX2_kindNamed_28 : decode cX2_kindNamed 28 = .ok (.ireturn, 1) := by decide +kernel
theorem dX2_nameOf_0 : decode cX2_nameOf 0 = .ok (.iload_n 0, 1) := by decide +kernel
theorem dX2_nameOf_1 : decode cX2_nameOf 1 = .ok (.tableswitch 50 0 4 #[35, 38, 41, 44, 47], 35) := by decide +kernel
theorem dX2_nameOf_36 : decode cX2_nameOf 36 = .ok (.ldc 107, 2) := by decide +kernel
theorem dX2_nameOf_38 : decode cX2_nameOf 38 = .ok (.areturn, 1) := by decide +kernel
theorem dX2_nameOf_39 : decode cX2_nameOf 39 = .ok (.ldc 109, 2) := by decide +kernel
theorem dX2_nameOf_41 : decode cX2_nameOf 41 = .ok (.areturn, 1) := by decide +kernel
theorem dX2_nameOf_42 : decode cX2_nameOf 42 = .ok (.ldc 111, 2) := by decide +kernel
theorem dX2_nameOf_44 : decode cX2_nameOf 44 = .ok (.areturn, 1) := by decide +kernel
theorem dX2_nameOf_45 : decode cX2_nameOf 45 = .ok (.ldc 113, 2) := by decide +kernel
theorem dX2_nameOf_47 : decode cX2_nameOf 47 = .ok (.areturn, 1) := by decide +kernel
theorem dX2_nameOf_48 : decode cX2_nameOf 48 = .ok (.ldc 115, 2) := by decide +kernel
theorem dX2_nameOf_50 : decode cX2_nameOf 50 = .ok (.areturn, 1) := by decide +kernel
theorem dX2_nameOf_51 : decode cX2_nameOf 51 = .ok (.ldc 117, 2) := by decide +kernel
theorem dX2_nameOf_53 : decode cX2_nameOf 53 = .ok (.areturn, 1) := by decide +kernel
theorem dX2_isWord_0 : decode cX2_isWord 0 = .ok (.aload_n 0, 1) := by decide +kernel
theorem dX2_isWord_1 : decode cX2_isWord 1 = .ok (.getfield 19, 3) := by decide +kernel
theorem dX2_isWord_4 : decode cX2_isWord 4 = .ok (.iconst 1, 1) := by decide +kernel
theorem dX2_isWord_5 : decode cX2_isWord 5 = .ok (.if_icmp .ne 19, 3) := by decide +kernel
theorem dX2_isWord_8 : decode cX2_isWord 8 = .ok (.aload_n 0, 1) := by decide +kernel
theorem dX2_isWord_9 : decode cX2_isWord 9 = .ok (.getfield 25, 3) := by decide +kernel
theorem dX2_isWord_12 : decode cX2_isWord 12 = .ok (.aload_n 0, 1) := by decide +kernel
theorem dX2_isWord_13 : decode cX2_isWord 13 = .ok (.getfield 22, 3) := by decide +kernel
theorem dX2_isWord_16 : decode cX2_isWord 16 = .ok (.isub, 1) := by decide +kernel
theorem dX2_isWord_17 : decode cX2_isWord 17 = .ok (.aload_n 1, 1) := by decide +kernel
theorem dX2_isWord_18 : decode cX2_isWord 18 = .ok (.invokevirtual 119, 3) := by decide +kernel
theorem dX2_isWord_21 : decode cX2_isWord 21 = .ok (.if_icmp .eq 5, 3) := by decide +kernel
theorem dX2_isWord_24 : decode cX2_isWord 24 = .ok (.iconst 0, 1) := by decide +kernel
theorem dX2_isWord_25 : decode cX2_isWord 25 = .ok (.ireturn, 1) := by decide +kernel
theorem dX2_isWord_26 : decode cX2_isWord 26 = .ok (.iconst 0, 1) := by decide +kernel
theorem dX2_isWord_27 : decode cX2_isWord 27 = .ok (.istore_n 2, 1) := by decide +kernel
theorem dX2_isWord_28 : decode cX2_isWord 28 = .ok (.iload_n 2, 1) := by decide +kernel
theorem dX2_isWord_29 : decode cX2_isWord 29 = .ok (.aload_n 1, 1) := by decide +kernel
theorem dX2_isWord_30 : decode cX2_isWord 30 = .ok (.invokevirtual 119, 3) := by decide +kernel
theorem dX2_isWord_33 : decode cX2_isWord 33 = .ok (.if_icmp .ge 30, 3) := by decide +kernel
theorem dX2_isWord_36 : decode cX2_isWord 36 = .ok (.aload_n 0, 1) := by decide +kernel
theorem dX2_isWord_37 : decode cX2_isWord 37 = .ok (.getfield 15, 3) := by decide +kernel
theorem dX2_isWord_40 : decode cX2_isWord 40 = .ok (.aload_n 0, 1) := by decide +kernel
theorem dX2_isWord_41 : decode cX2_isWord 41 = .ok (.getfield 22, 3) := by decide +kernel
theorem dX2_isWord_44 : decode cX2_isWord 44 = .ok (.iload_n 2, 1) := by decide +kernel
theorem dX2_isWord_45 : decode cX2_isWord 45 = .ok (.iadd, 1) := by decide +kernel
theorem dX2_isWord_46 : decode cX2_isWord 46 = .ok (.iaload, 1) := by decide +kernel
theorem dX2_isWord_47 : decode cX2_isWord 47 = .ok (.aload_n 1, 1) := by decide +kernel
theorem dX2_isWord_48 : decode cX2_isWord 48 = .ok (.iload_n 2, 1) := by decide +kernel
theorem dX2_isWord_49 : decode cX2_isWord 49 = .ok (.invokevirtual 123, 3) := by decide +kernel
theorem dX2_isWord_52 : decode cX2_isWord 52 = .ok (.if_icmp .eq 5, 3) := by decide +kernel
theorem dX2_isWord_55 : decode cX2_isWord 55 = .ok (.iconst 0, 1) := by decide +kernel
theorem dX2_isWord_56 : decode cX2_isWord 56 = .ok (.ireturn, 1) := by decide +kernel
theorem dX2_isWord_57 : decode cX2_isWord 57 = .ok (.iinc 2 1, 3) := by decide +kernel
theorem dX2_isWord_60 : decode cX2_isWord 60 = .ok (.goto (-32), 3) := by decide +kernel
theorem dX2_isWord_63 : decode cX2_isWord 63 = .ok (.iconst 1, 1) := by decide +kernel
theorem dX2_isWord_64 : decode cX2_isWord 64 = .ok (.ireturn, 1) := by decide +kernel
theorem dX2_look_0 : decode cX2_look 0 = .ok (.aload_n 0, 1) := by decide +kernel
theorem dX2_look_1 : decode cX2_look 1 = .ok (.aload_n 0, 1) := by decide +kernel
theorem dX2_look_2 : decode cX2_look 2 = .ok (.getfield 25, 3) := by decide +kernel
theorem dX2_look_5 : decode cX2_look 5 = .ok (.putfield 22, 3) := by decide +kernel
theorem dX2_look_8 : decode cX2_look 8 = .ok (.aload_n 0, 1) := by decide +kernel
theorem dX2_look_9 : decode cX2_look 9 = .ok (.getfield 22, 3) := by decide +kernel
theorem dX2_look_12 : decode cX2_look 12 = .ok (.aload_n 0, 1) := by decide +kernel
theorem dX2_look_13 : decode cX2_look 13 = .ok (.getfield 9, 3) := by decide +kernel
theorem dX2_look_16 : decode cX2_look 16 = .ok (.if_icmp .ge 30, 3) := by decide +kernel
theorem dX2_look_19 : decode cX2_look 19 = .ok (.aload_n 0, 1) := by decide +kernel
theorem dX2_look_20 : decode cX2_look 20 = .ok (.getfield 15, 3) := by decide +kernel
theorem dX2_look_23 : decode cX2_look 23 = .ok (.aload_n 0, 1) := by decide +kernel
theorem dX2_look_24 : decode cX2_look 24 = .ok (.getfield 22, 3) := by decide +kernel
theorem dX2_look_27 : decode cX2_look 27 = .ok (.iaload, 1) := by decide +kernel
theorem dX2_look_28 : decode cX2_look 28 = .ok (.bipush 32, 2) := by decide +kernel
theorem dX2_look_30 : decode cX2_look 30 = .ok (.if_icmp .ne 16, 3) := by decide +kernel
theorem dX2_look_33 : decode cX2_look 33 = .ok (.aload_n 0, 1) := by decide +kernel
theorem dX2_look_34 : decode cX2_look 34 = .ok (.dup, 1) := by decide +kernel
theorem dX2_look_35 : decode cX2_look 35 = .ok (.getfield 22, 3) := by decide +kernel
theorem dX2_look_38 : decode cX2_look 38 = .ok (.iconst 1, 1) := by decide +kernel
theorem dX2_look_39 : decode cX2_look 39 = .ok (.iadd, 1) := by decide +kernel
theorem dX2_look_40 : decode cX2_look 40 = .ok (.putfield 22, 3) := by decide +kernel
theorem dX2_look_43 : decode cX2_look 43 = .ok (.goto (-35), 3) := by decide +kernel
theorem dX2_look_46 : decode cX2_look 46 = .ok (.aload_n 0, 1) := by decide +kernel
theorem dX2_look_47 : decode cX2_look 47 = .ok (.getfield 22, 3) := by decide +kernel
theorem dX2_look_50 : decode cX2_look 50 = .ok (.aload_n 0, 1) := by decide +kernel
theorem dX2_look_51 : decode cX2_look 51 = .ok (.getfield 9, 3) := by decide +kernel
theorem dX2_look_54 : decode cX2_look 54 = .ok (.if_icmp .lt 17, 3) := by decide +kernel
theorem dX2_look_57 : decode cX2_look 57 = .ok (.aload_n 0, 1) := by decide +kernel
theorem dX2_look_58 : decode cX2_look 58 = .ok (.iconst 0, 1) := by decide +kernel
theorem dX2_look_59 : decode cX2_look 59 = .ok (.putfield 19, 3) := by decide +kernel
theorem dX2_look_62 : decode cX2_look 62 = .ok (.aload_n 0, 1) := by decide +kernel
theorem dX2_look_63 : decode cX2_look 63 = .ok (.aload_n 0, 1) := by decide +kernel
theorem dX2_look_64 : decode cX2_look 64 = .ok (.getfield 22, 3) := by decide +kernel
theorem dX2_look_67 : decode cX2_look 67 = .ok (.putfield 25, 3) := by decide +kernel
theorem dX2_look_70 : decode cX2_look 70 = .ok (.return_, 1) := by decide +kernel
theorem dX2_look_71 : decode cX2_look 71 = .ok (.aload_n 0, 1) := by decide +kernel
theorem dX2_look_72 : decode cX2_look 72 = .ok (.aload_n 0, 1) := by decide +kernel
theorem dX2_look_73 : decode cX2_look 73 = .ok (.getfield 15, 3) := by decide +kernel
theorem dX2_look_76 : decode cX2_look 76 = .ok (.aload_n 0, 1) := by decide +kernel
theorem dX2_look_77 : decode cX2_look 77 = .ok (.getfield 22, 3) := by decide +kernel
theorem dX2_look_80 : decode cX2_look 80 = .ok (.iaload, 1) := by decide +kernel
theorem dX2_look_81 : decode cX2_look 81 = .ok (.invokestatic 127, 3) := by decide +kernel
theorem dX2_look_84 : decode cX2_look 84 = .ok (.putfield 19, 3) := by decide +kernel
theorem dX2_look_87 : decode cX2_look 87 = .ok (.aload_n 0, 1) := by decide +kernel
theorem dX2_look_88 : decode cX2_look 88 = .ok (.aload_n 0, 1) := by decide +kernel
theorem dX2_look_89 : decode cX2_look 89 = .ok (.getfield 22, 3) := by decide +kernel
theorem dX2_look_92 : decode cX2_look 92 = .ok (.iconst 1, 1) := by decide +kernel
theorem dX2_look_93 : decode cX2_look 93 = .ok (.iadd, 1) := by decide +kernel
theorem dX2_look_94 : decode cX2_look 94 = .ok (.putfield 25, 3) := by decide +kernel
theorem dX2_look_97 : decode cX2_look 97 = .ok (.aload_n 0, 1) := by decide +kernel
theorem dX2_look_98 : decode cX2_look 98 = .ok (.getfield 19, 3) := by decide +kernel
theorem dX2_look_101 : decode cX2_look 101 = .ok (.iconst 1, 1) := by decide +kernel
theorem dX2_look_102 : decode cX2_look 102 = .ok (.if_icmp .eq 11, 3) := by decide +kernel
theorem dX2_look_105 : decode cX2_look 105 = .ok (.aload_n 0, 1) := by decide +kernel
theorem dX2_look_106 : decode cX2_look 106 = .ok (.getfield 19, 3) := by decide +kernel
theorem dX2_look_109 : decode cX2_look 109 = .ok (.iconst 2, 1) := by decide +kernel
theorem dX2_look_110 : decode cX2_look 110 = .ok (.if_icmp .ne 46, 3) := by decide +kernel
theorem dX2_look_113 : decode cX2_look 113 = .ok (.aload_n 0, 1) := by decide +kernel
theorem dX2_look_114 : decode cX2_look 114 = .ok (.getfield 25, 3) := by decide +kernel
theorem dX2_look_117 : decode cX2_look 117 = .ok (.aload_n 0, 1) := by decide +kernel
theorem dX2_look_118 : decode cX2_look 118 = .ok (.getfield 9, 3) := by decide +kernel
theorem dX2_look_121 : decode cX2_look 121 = .ok (.if_icmp .ge 35, 3) := by decide +kernel
theorem dX2_look_124 : decode cX2_look 124 = .ok (.aload_n 0, 1) := by decide +kernel
theorem dX2_look_125 : decode cX2_look 125 = .ok (.getfield 15, 3) := by decide +kernel
theorem dX2_look_128 : decode cX2_look 128 = .ok (.aload_n 0, 1) := by decide +kernel
theorem dX2_look_129 : decode cX2_look 129 = .ok (.getfield 25, 3) := by decide +kernel
theorem dX2_look_132 : decode cX2_look 132 = .ok (.iaload, 1) := by decide +kernel
theorem dX2_look_133 : decode cX2_look 133 = .ok (.invokestatic 127, 3) := by decide +kernel
theorem dX2_look_136 : decode cX2_look 136 = .ok (.aload_n 0, 1) := by decide +kernel
theorem dX2_look_137 : decode cX2_look 137 = .ok (.getfield 19, 3) := by decide +kernel
theorem dX2_look_140 : decode cX2_look 140 = .ok (.if_icmp .ne 16, 3) := by decide +kernel
theorem dX2_look_143 : decode cX2_look 143 = .ok (.aload_n 0, 1) := by decide +kernel
theorem dX2_look_144 : decode cX2_look 144 = .ok (.dup, 1) := by decide +kernel
theorem dX2_look_145 : decode cX2_look 145 = .ok (.getfield 25, 3) := by decide +kernel
theorem dX2_look_148 : decode cX2_look 148 = .ok (.iconst 1, 1) := by decide +kernel
theorem dX2_look_149 : decode cX2_look 149 = .ok (.iadd, 1) := by decide +kernel
theorem dX2_look_150 : decode cX2_look 150 = .ok (.putfield 25, 3) := by decide +kernel
theorem dX2_look_153 : decode cX2_look 153 = .ok (.goto (-40), 3) := by decide +kernel
theorem dX2_look_156 : decode cX2_look 156 = .ok (.aload_n 0, 1) := by decide +kernel
theorem dX2_look_157 : decode cX2_look 157 = .ok (.getfield 19, 3) := by decide +kernel
theorem dX2_look_160 : decode cX2_look 160 = .ok (.iconst 2, 1) := by decide +kernel
theorem dX2_look_161 : decode cX2_look 161 = .ok (.if_icmp .ne 7, 3) := by decide +kernel
theorem dX2_look_164 : decode cX2_look 164 = .ok (.aload_n 0, 1) := by decide +kernel
theorem dX2_look_165 : decode cX2_look 165 = .ok (.invokevirtual 131, 3) := by decide +kernel
theorem dX2_look_168 : decode cX2_look 168 = .ok (.return_, 1) := by decide +kernel
theorem dX2_weigh_0 : decode cX2_weigh 0 = .ok (.aload_n 0, 1) := by decide +kernel
theorem dX2_weigh_1 : decode cX2_weigh 1 = .ok (.iconst 0, 1) := by decide +kernel
theorem dX2_weigh_2 : decode cX2_weigh 2 = .ok (.putfield 28, 3) := by decide +kernel
theorem dX2_weigh_5 : decode cX2_weigh 5 = .ok (.aload_n 0, 1) := by decide +kernel
theorem dX2_weigh_6 : decode cX2_weigh 6 = .ok (.getfield 22, 3) := by decide +kernel
theorem dX2_weigh_9 : decode cX2_weigh 9 = .ok (.istore_n 1, 1) := by decide +kernel
theorem dX2_weigh_10 : decode cX2_weigh 10 = .ok (.iload_n 1, 1) := by decide +kernel
theorem dX2_weigh_11 : decode cX2_weigh 11 = .ok (.aload_n 0, 1) := by decide +kernel
theorem dX2_weigh_12 : decode cX2_weigh 12 = .ok (.getfield 25, 3) := by decide +kernel
theorem dX2_weigh_15 : decode cX2_weigh 15 = .ok (.if_icmp .ge 36, 3) := by decide +kernel
theorem dX2_weigh_18 : decode cX2_weigh 18 = .ok (.aload_n 0, 1) := by decide +kernel
theorem dX2_weigh_19 : decode cX2_weigh 19 = .ok (.aload_n 0, 1) := by decide +kernel
theorem dX2_weigh_20 : decode cX2_weigh 20 = .ok (.getfield 28, 3) := by decide +kernel
theorem dX2_weigh_23 : decode cX2_weigh 23 = .ok (.bipush 10, 2) := by decide +kernel
theorem dX2_weigh_25 : decode cX2_weigh 25 = .ok (.imul, 1) := by decide +kernel
theorem dX2_weigh_26 : decode cX2_weigh 26 = .ok (.aload_n 0, 1) := by decide +kernel
theorem dX2_weigh_27 : decode cX2_weigh 27 = .ok (.getfield 15, 3) := by decide +kernel
theorem dX2_weigh_30 : decode cX2_weigh 30 = .ok (.iload_n 1, 1) := by decide +kernel
theorem dX2_weigh_31 : decode cX2_weigh 31 = .ok (.iaload, 1) := by decide +kernel
theorem dX2_weigh_32 : decode cX2_weigh 32 = .ok (.iadd, 1) := by decide +kernel
theorem dX2_weigh_33 : decode cX2_weigh 33 = .ok (.bipush 48, 2) := by decide +kernel
theorem dX2_weigh_35 : decode cX2_weigh 35 = .ok (.isub, 1) := by decide +kernel
theorem dX2_weigh_36 : decode cX2_weigh 36 = .ok (.sipush 1000, 3) := by decide +kernel
theorem dX2_weigh_39 : decode cX2_weigh 39 = .ok (.invokestatic 134, 3) := by decide +kernel
theorem dX2_weigh_42 : decode cX2_weigh 42 = .ok (.putfield 28, 3) := by decide +kernel
theorem dX2_weigh_45 : decode cX2_weigh 45 = .ok (.iinc 1 1, 3) := by decide +kernel
theorem dX2_weigh_48 : decode cX2_weigh 48 = .ok (.goto (-38), 3) := by decide +kernel
theorem dX2_weigh_51 : decode cX2_weigh 51 = .ok (.return_, 1) := by decide +kernel
theorem dX2_typeOf_0 : decode cX2_typeOf 0 = .ok (.iload_n 0, 1) := by decide +kernel
theorem dX2_typeOf_1 : decode cX2_typeOf 1 = .ok (.bipush 97, 2) := by decide +kernel
theorem dX2_typeOf_3 : decode cX2_typeOf 3 = .ok (.if_icmp .lt 11, 3) := by decide +kernel
theorem dX2_typeOf_6 : decode cX2_typeOf 6 = .ok (.iload_n 0, 1) := by decide +kernel
theorem dX2_typeOf_7 : decode cX2_typeOf 7 = .ok (.bipush 122, 2) := by decide +kernel
theorem dX2_typeOf_9 : decode cX2_typeOf 9 = .ok (.if_icmp .gt 5, 3) := by decide +kernel
theorem dX2_typeOf_12 : decode cX2_typeOf 12 = .ok (.iconst 1, 1) := by decide +kernel
theorem dX2_typeOf_13 : decode cX2_typeOf 13 = .ok (.ireturn, 1) := by decide +kernel
theorem dX2_typeOf_14 : decode cX2_typeOf 14 = .ok (.iload_n 0, 1) := by decide +kernel
theorem dX2_typeOf_15 : decode cX2_typeOf 15 = .ok (.bipush 48, 2) := by decide +kernel
theorem dX2_typeOf_17 : decode cX2_typeOf 17 = .ok (.if_icmp .lt 11, 3) := by decide +kernel
theorem dX2_typeOf_20 : decode cX2_typeOf 20 = .ok (.iload_n 0, 1) := by decide +kernel
theorem dX2_typeOf_21 : decode cX2_typeOf 21 = .ok (.bipush 57, 2) := by decide +kernel
theorem dX2_typeOf_23 : decode cX2_typeOf 23 = .ok (.if_icmp .gt 5, 3) := by decide +kernel
theorem dX2_typeOf_26 : decode cX2_typeOf 26 = .ok (.iconst 2, 1) := by decide +kernel
theorem dX2_typeOf_27 : decode cX2_typeOf 27 = .ok (.ireturn, 1) := by decide +kernel
theorem dX2_typeOf_28 : decode cX2_typeOf 28 = .ok (.iload_n 0, 1) := by decide +kernel
theorem dX2_typeOf_29 : decode cX2_typeOf 29 = .ok (.bipush 59, 2) := by decide +kernel
theorem dX2_typeOf_31 : decode cX2_typeOf 31 = .ok (.if_icmp .ne 7, 3) := by decide +kernel
theorem dX2_typeOf_34 : decode cX2_typeOf 34 = .ok (.iconst 3, 1) := by decide +kernel
theorem dX2_typeOf_35 : decode cX2_typeOf 35 = .ok (.goto 4, 3) := by decide +kernel
theorem dX2_typeOf_38 : decode cX2_typeOf 38 = .ok (.iconst 4, 1) := by decide +kernel
theorem dX2_typeOf_39 : decode cX2_typeOf 39 = .ok (.ireturn, 1) := by decide +kernel
theorem dJ0_length_8abf5_0 : decode cJ0_length_8abf5 0 = .ok (.aload_n 0, 1) := by decide +kernel
theorem dJ0_length_8abf5_1 : decode cJ0_length_8abf5 1 = .ok (.getfield 9, 3) := by decide +kernel
theorem dJ0_length_8abf5_4 : decode cJ0_length_8abf5 4 = .ok (.arraylength, 1) := by decide +kernel
theorem dJ0_length_8abf5_5 : decode cJ0_length_8abf5 5 = .ok (.aload_n 0, 1) := by decide +kernel
theorem dJ0_length_8abf5_6 : decode cJ0_length_8abf5 6 = .ok (.invokevirtual 335, 3) := by decide +kernel
theorem dJ0_length_8abf5_9 : decode cJ0_length_8abf5 9 = .ok (.ishr, 1) := by decide +kernel
theorem dJ0_length_8abf5_10 : decode cJ0_length_8abf5 10 = .ok (.ireturn, 1) := by decide +kernel
theorem dJ0_charAt_5068e_0 : decode cJ0_charAt_5068e 0 = .ok (.aload_n 0, 1) := by decide +kernel
theorem dJ0_charAt_5068e_1 : decode cJ0_charAt_5068e 1 = .ok (.invokevirtual 492, 3) := by decide +kernel
theorem dJ0_charAt_5068e_4 : decode cJ0_charAt_5068e 4 = .ok (.ifCond .eq 12, 3) := by decide +kernel
theorem dJ0_charAt_5068e_7 : decode cJ0_charAt_5068e 7 = .ok (.aload_n 0, 1) := by decide +kernel
theorem dJ0_charAt_5068e_8 : decode cJ0_charAt_5068e 8 = .ok (.getfield 9, 3) := by decide +kernel
theorem dJ0_charAt_5068e_11 : decode cJ0_charAt_5068e 11 = .ok (.iload_n 1, 1) := by decide +kernel
theorem dJ0_charAt_5068e_12 : decode cJ0_charAt_5068e 12 = .ok (.invokestatic 495, 3) := by decide +kernel
theorem dJ0_charAt_5068e_15 : decode cJ0_charAt_5068e 15 = .ok (.ireturn, 1) := by decide +kernel
theorem dJ0_charAt_5068e_16 : decode cJ0_charAt_5068e 16 = .ok (.aload_n 0, 1) := by decide +kernel
theorem dJ0_charAt_5068e_17 : decode cJ0_charAt_5068e 17 = .ok (.getfield 9, 3) := by decide +kernel
theorem dJ0_charAt_5068e_20 : decode cJ0_charAt_5068e 20 = .ok (.iload_n 1, 1) := by decide +kernel
theorem dJ0_charAt_5068e_21 : decode cJ0_charAt_5068e 21 = .ok (.invokestatic 498, 3) := by decide +kernel
theorem dJ0_charAt_5068e_24 : decode cJ0_charAt_5068e 24 = .ok (.ireturn, 1) := by decide +kernel
theorem dJ0_coder_7d493_0 : decode cJ0_coder_7d493 0 = .ok (.getstatic 38, 3) := by decide +kernel
theorem dJ0_coder_7d493_3 : decode cJ0_coder_7d493 3 = .ok (.ifCond .eq 10, 3) := by decide +kernel
theorem dJ0_coder_7d493_6 : decode cJ0_coder_7d493 6 = .ok (.aload_n 0, 1) := by decide +kernel
theorem dJ0_coder_7d493_7 : decode cJ0_coder_7d493 7 = .ok (.getfield 15, 3) := by decide +kernel
theorem dJ0_coder_7d493_10 : decode cJ0_coder_7d493 10 = .ok (.goto 4, 3) := by decide +kernel
theorem dJ0_coder_7d493_13 : decode cJ0_coder_7d493 13 = .ok (.iconst 1, 1) := by decide +kernel
theorem dJ0_coder_7d493_14 : decode cJ0_coder_7d493 14 = .ok (.ireturn, 1) := by decide +kernel
theorem dJ0_isLatin1_aae02_0 : decode cJ0_isLatin1_aae02 0 = .ok (.getstatic 38, 3) := by decide +kernel
theorem dJ0_isLatin1_aae02_3 : decode cJ0_isLatin1_aae02 3 = .ok (.ifCond .eq 14, 3) := by decide +kernel
theorem dJ0_isLatin1_aae02_6 : decode cJ0_isLatin1_aae02 6 = .ok (.aload_n 0, 1) := by decide +kernel
theorem dJ0_isLatin1_aae02_7 : decode cJ0_isLatin1_aae02 7 = .ok (.getfield 15, 3) := by decide +kernel
theorem dJ0_isLatin1_aae02_10 : decode cJ0_isLatin1_aae02 10 = .ok (.ifCond .ne 7, 3) := by decide +kernel
theorem dJ0_isLatin1_aae02_13 : decode cJ0_isLatin1_aae02 13 = .ok (.iconst 1, 1) := by decide +kernel
theorem dJ0_isLatin1_aae02_14 : decode cJ0_isLatin1_aae02 14 = .ok (.goto 4, 3) := by decide +kernel
theorem dJ0_isLatin1_aae02_17 : decode cJ0_isLatin1_aae02 17 = .ok (.iconst 0, 1) := by decide +kernel
theorem dJ0_isLatin1_aae02_18 : decode cJ0_isLatin1_aae02 18 = .ok (.ireturn, 1) := by decide +kernel
theorem dJ0_checkIndex_df160_0 : decode cJ0_checkIndex_df160 0 = .ok (.iload_n 0, 1) := by decide +kernel
theorem dJ0_checkIndex_df160_1 : decode cJ0_checkIndex_df160 1 = .ok (.iload_n 1, 1) := by decide +kernel
theorem dJ0_checkIndex_df160_2 : decode cJ0_checkIndex_df160 2 = .ok (.getstatic 1053, 3) := by decide +kernel
theorem dJ0_checkIndex_df160_5 : decode cJ0_checkIndex_df160 5 = .ok (.invokestatic 1059, 3) := by decide +kernel
theorem dJ0_checkIndex_df160_8 : decode cJ0_checkIndex_df160 8 = .ok (.pop, 1) := by decide +kernel
theorem dJ0_checkIndex_df160_9 : decode cJ0_checkIndex_df160 9 = .ok (.return_, 1) := by decide +kernel
theorem dJ1_charAt_3b067_0 : decode cJ1_charAt_3b067 0 = .ok (.iload_n 1, 1) := by decide +kernel
theorem dJ1_charAt_3b067_1 : decode cJ1_charAt_3b067 1 = .ok (.aload_n 0, 1) := by decide +kernel
theorem dJ1_charAt_3b067_2 : decode cJ1_charAt_3b067 2 = .ok (.arraylength, 1) := by decide +kernel
theorem dJ1_charAt_3b067_3 : decode cJ1_charAt_3b067 3 = .ok (.invokestatic 9, 3) := by decide +kernel
theorem dJ1_charAt_3b067_6 : decode cJ1_charAt_3b067 6 = .ok (.aload_n 0, 1) := by decide +kernel
theorem dJ1_charAt_3b067_7 : decode cJ1_charAt_3b067 7 = .ok (.iload_n 1, 1) := by decide +kernel
theorem dJ1_charAt_3b067_8 : decode cJ1_charAt_3b067 8 = .ok (.baload, 1) := by decide +kernel
theorem dJ1_charAt_3b067_9 : decode cJ1_charAt_3b067 9 = .ok (.sipush 255, 3) := by decide +kernel
theorem dJ1_charAt_3b067_12 : decode cJ1_charAt_3b067 12 = .ok (.iand, 1) := by decide +kernel
theorem dJ1_charAt_3b067_13 : decode cJ1_charAt_3b067 13 = .ok (.i2c, 1) := by decide +kernel
theorem dJ1_charAt_3b067_14 : decode cJ1_charAt_3b067 14 = .ok (.ireturn, 1) := by decide +kernel
theorem dJ2_getChar_3b067_0 : decode cJ2_getChar_3b067 0 = .ok (.getstatic 44, 3) := by decide +kernel
theorem dJ2_getChar_3b067_3 : decode cJ2_getChar_3b067 3 = .ok (.ifCond .ne 25, 3) := by decide +kernel
theorem dJ2_getChar_3b067_6 : decode cJ2_getChar_3b067 6 = .ok (.iload_n 1, 1) := by decide +kernel
theorem dJ2_getChar_3b067_7 : decode cJ2_getChar_3b067 7 = .ok (.ifCond .lt 11, 3) := by decide +kernel
theorem dJ2_getChar_3b067_10 : decode cJ2_getChar_3b067 10 = .ok (.iload_n 1, 1) := by decide +kernel
theorem dJ2_getChar_3b067_11 : decode cJ2_getChar_3b067 11 = .ok (.aload_n 0, 1) := by decide +kernel
theorem dJ2_getChar_3b067_12 : decode cJ2_getChar_3b067 12 = .ok (.invokestatic 48, 3) := by decide +kernel
theorem dJ2_getChar_3b067_15 : decode cJ2_getChar_3b067 15 = .ok (.if_icmp .lt 13, 3) := by decide +kernel
theorem dJ2_getChar_3b067_18 : decode cJ2_getChar_3b067 18 = .ok (.new 52, 3) := by decide +kernel
theorem dJ2_getChar_3b067_21 : decode cJ2_getChar_3b067 21 = .ok (.dup, 1) := by decide +kernel
theorem dJ2_getChar_3b067_22 : decode cJ2_getChar_3b067 22 = .ok (.ldc 54, 2) := by decide +kernel
theorem dJ2_getChar_3b067_24 : decode cJ2_getChar_3b067 24 = .ok (.invokespecial 56, 3) := by decide +kernel
theorem dJ2_getChar_3b067_27 : decode cJ2_getChar_3b067 27 = .ok (.athrow, 1) := by decide +kernel
theorem dJ2_getChar_3b067_28 : decode cJ2_getChar_3b067 28 = .ok (.iload_n 1, 1) := by decide +kernel
theorem dJ2_getChar_3b067_29 : decode cJ2_getChar_3b067 29 = .ok (.iconst 1, 1) := by decide +kernel
theorem dJ2_getChar_3b067_30 : decode cJ2_getChar_3b067 30 = .ok (.ishl, 1) := by decide +kernel
theorem dJ2_getChar_3b067_31 : decode cJ2_getChar_3b067 31 = .ok (.istore_n 1, 1) := by decide +kernel
theorem dJ2_getChar_3b067_32 : decode cJ2_getChar_3b067 32 = .ok (.aload_n 0, 1) := by decide +kernel
theorem dJ2_getChar_3b067_33 : decode cJ2_getChar_3b067 33 = .ok (.iload_n 1, 1) := by decide +kernel
theorem dJ2_getChar_3b067_34 : decode cJ2_getChar_3b067 34 = .ok (.iinc 1 1, 3) := by decide +kernel
theorem dJ2_getChar_3b067_37 : decode cJ2_getChar_3b067 37 = .ok (.baload, 1) := by decide +kernel
theorem dJ2_getChar_3b067_38 : decode cJ2_getChar_3b067 38 = .ok (.sipush 255, 3) := by decide +kernel
theorem dJ2_getChar_3b067_41 : decode cJ2_getChar_3b067 41 = .ok (.iand, 1) := by decide +kernel
theorem dJ2_getChar_3b067_42 : decode cJ2_getChar_3b067 42 = .ok (.getstatic 59, 3) := by decide +kernel
theorem dJ2_getChar_3b067_45 : decode cJ2_getChar_3b067 45 = .ok (.ishl, 1) := by decide +kernel
theorem dJ2_getChar_3b067_46 : decode cJ2_getChar_3b067 46 = .ok (.aload_n 0, 1) := by decide +kernel
theorem dJ2_getChar_3b067_47 : decode cJ2_getChar_3b067 47 = .ok (.iload_n 1, 1) := by decide +kernel
theorem dJ2_getChar_3b067_48 : decode cJ2_getChar_3b067 48 = .ok (.baload, 1) := by decide +kernel
theorem dJ2_getChar_3b067_49 : decode cJ2_getChar_3b067 49 = .ok (.sipush 255, 3) := by decide +kernel
theorem dJ2_getChar_3b067_52 : decode cJ2_getChar_3b067 52 = .ok (.iand, 1) := by decide +kernel
theorem dJ2_getChar_3b067_53 : decode cJ2_getChar_3b067 53 = .ok (.getstatic 63, 3) := by decide +kernel
theorem dJ2_getChar_3b067_56 : decode cJ2_getChar_3b067 56 = .ok (.ishl, 1) := by decide +kernel
theorem dJ2_getChar_3b067_57 : decode cJ2_getChar_3b067 57 = .ok (.ior, 1) := by decide +kernel
theorem dJ2_getChar_3b067_58 : decode cJ2_getChar_3b067 58 = .ok (.i2c, 1) := by decide +kernel
theorem dJ2_getChar_3b067_59 : decode cJ2_getChar_3b067 59 = .ok (.ireturn, 1) := by decide +kernel
theorem dJ2_length_9d52b_0 : decode cJ2_length_9d52b 0 = .ok (.aload_n 0, 1) := by decide +kernel
theorem dJ2_length_9d52b_1 : decode cJ2_length_9d52b 1 = .ok (.arraylength, 1) := by decide +kernel
theorem dJ2_length_9d52b_2 : decode cJ2_length_9d52b 2 = .ok (.iconst 1, 1) := by decide +kernel
theorem dJ2_length_9d52b_3 : decode cJ2_length_9d52b 3 = .ok (.ishr, 1) := by decide +kernel
theorem dJ2_length_9d52b_4 : decode cJ2_length_9d52b 4 = .ok (.ireturn, 1) := by decide +kernel
theorem dJ2_charAt_3b067_0 : decode cJ2_charAt_3b067 0 = .ok (.iload_n 1, 1) := by decide +kernel
theorem dJ2_charAt_3b067_1 : decode cJ2_charAt_3b067 1 = .ok (.aload_n 0, 1) := by decide +kernel
theorem dJ2_charAt_3b067_2 : decode cJ2_charAt_3b067 2 = .ok (.invokestatic 67, 3) := by decide +kernel
theorem dJ2_charAt_3b067_5 : decode cJ2_charAt_3b067 5 = .ok (.aload_n 0, 1) := by decide +kernel
theorem dJ2_charAt_3b067_6 : decode cJ2_charAt_3b067 6 = .ok (.iload_n 1, 1) := by decide +kernel
theorem dJ2_charAt_3b067_7 : decode cJ2_charAt_3b067 7 = .ok (.invokestatic 71, 3) := by decide +kernel
theorem dJ2_charAt_3b067_10 : decode cJ2_charAt_3b067 10 = .ok (.ireturn, 1) := by decide +kernel
theorem dJ2_checkIndex_2214a_0 : decode cJ2_checkIndex_2214a 0 = .ok (.iload_n 0, 1) := by decide +kernel
theorem dJ2_checkIndex_2214a_1 : decode cJ2_checkIndex_2214a 1 = .ok (.aload_n 1, 1) := by decide +kernel
theorem dJ2_checkIndex_2214a_2 : decode cJ2_checkIndex_2214a 2 = .ok (.invokestatic 48, 3) := by decide +kernel
theorem dJ2_checkIndex_2214a_5 : decode cJ2_checkIndex_2214a 5 = .ok (.invokestatic 414, 3) := by decide +kernel
theorem dJ2_checkIndex_2214a_8 : decode cJ2_checkIndex_2214a 8 = .ok (.return_, 1) := by decide +kernel
theorem dJ3_checkIndex_8e157_0 : decode cJ3_checkIndex_8e157 0 = .ok (.iload_n 0, 1) := by decide +kernel
theorem dJ3_checkIndex_8e157_1 : decode cJ3_checkIndex_8e157 1 = .ok (.ifCond .lt 8, 3) := by decide +kernel
theorem dJ3_checkIndex_8e157_4 : decode cJ3_checkIndex_8e157 4 = .ok (.iload_n 0, 1) := by decide +kernel
theorem dJ3_checkIndex_8e157_5 : decode cJ3_checkIndex_8e157 5 = .ok (.iload_n 1, 1) := by decide +kernel
theorem dJ3_checkIndex_8e157_6 : decode cJ3_checkIndex_8e157 6 = .ok (.if_icmp .lt 10, 3) := by decide +kernel
theorem dJ3_checkIndex_8e157_9 : decode cJ3_checkIndex_8e157 9 = .ok (.aload_n 2, 1) := by decide +kernel
theorem dJ3_checkIndex_8e157_10 : decode cJ3_checkIndex_8e157 10 = .ok (.iload_n 0, 1) := by decide +kernel
theorem dJ3_checkIndex_8e157_11 : decode cJ3_checkIndex_8e157 11 = .ok (.iload_n 1, 1) := by decide +kernel
theorem dJ3_checkIndex_8e157_12 : decode cJ3_checkIndex_8e157 12 = .ok (.invokestatic 95, 3) := by decide +kernel
theorem dJ3_checkIndex_8e157_15 : decode cJ3_checkIndex_8e157 15 = .ok (.athrow, 1) := by decide +kernel
theorem dJ3_checkIndex_8e157_16 : decode cJ3_checkIndex_8e157 16 = .ok (.iload_n 0, 1) := by decide +kernel
theorem dJ3_checkIndex_8e157_17 : decode cJ3_checkIndex_8e157 17 = .ok (.ireturn, 1) := by decide +kernel
theorem dJ6_bitCount_0f7a4_0 : decode cJ6_bitCount_0f7a4 0 = .ok (.iload_n 0, 1) := by decide +kernel
theorem dJ6_bitCount_0f7a4_1 : decode cJ6_bitCount_0f7a4 1 = .ok (.iload_n 0, 1) := by decide +kernel
theorem dJ6_bitCount_0f7a4_2 : decode cJ6_bitCount_0f7a4 2 = .ok (.iconst 1, 1) := by decide +kernel
theorem dJ6_bitCount_0f7a4_3 : decode cJ6_bitCount_0f7a4 3 = .ok (.iushr, 1) := by decide +kernel
theorem dJ6_bitCount_0f7a4_4 : decode cJ6_bitCount_0f7a4 4 = .ok (.ldc_w 265, 3) := by decide +kernel
theorem dJ6_bitCount_0f7a4_7 : decode cJ6_bitCount_0f7a4 7 = .ok (.iand, 1) := by decide +kernel
theorem dJ6_bitCount_0f7a4_8 : decode cJ6_bitCount_0f7a4 8 = .ok (.isub, 1) := by decide +kernel
theorem dJ6_bitCount_0f7a4_9 : decode cJ6_bitCount_0f7a4 9 = .ok (.istore_n 0, 1) := by decide +kernel
theorem dJ6_bitCount_0f7a4_10 : decode cJ6_bitCount_0f7a4 10 = .ok (.iload_n 0, 1) := by decide +kernel
theorem dJ6_bitCount_0f7a4_11 : decode cJ6_bitCount_0f7a4 11 = .ok (.ldc_w 266, 3) := by decide +kernel
theorem dJ6_bitCount_0f7a4_14 : decode cJ6_bitCount_0f7a4 14 = .ok (.iand, 1) := by decide +kernel
theorem dJ6_bitCount_0f7a4_15 : decode cJ6_bitCount_0f7a4 15 = .ok (.iload_n 0, 1) := by decide +kernel
theorem dJ6_bitCount_0f7a4_16 : decode cJ6_bitCount_0f7a4 16 = .ok (.iconst 2, 1) := by decide +kernel
theorem dJ6_bitCount_0f7a4_17 : decode cJ6_bitCount_0f7a4 17 = .ok (.iushr, 1) := by decide +kernel
theorem dJ6_bitCount_0f7a4_18 : decode cJ6_bitCount_0f7a4 18 = .ok (.ldc_w 266, 3) := by decide +kernel
theorem dJ6_bitCount_0f7a4_21 : decode cJ6_bitCount_0f7a4 21 = .ok (.iand, 1) := by decide +kernel
theorem dJ6_bitCount_0f7a4_22 : decode cJ6_bitCount_0f7a4 22 = .ok (.iadd, 1) := by decide +kernel
theorem dJ6_bitCount_0f7a4_23 : decode cJ6_bitCount_0f7a4 23 = .ok (.istore_n 0, 1) := by decide +kernel
theorem dJ6_bitCount_0f7a4_24 : decode cJ6_bitCount_0f7a4 24 = .ok (.iload_n 0, 1) := by decide +kernel
theorem dJ6_bitCount_0f7a4_25 : decode cJ6_bitCount_0f7a4 25 = .ok (.iload_n 0, 1) := by decide +kernel
theorem dJ6_bitCount_0f7a4_26 : decode cJ6_bitCount_0f7a4 26 = .ok (.iconst 4, 1) := by decide +kernel
theorem dJ6_bitCount_0f7a4_27 : decode cJ6_bitCount_0f7a4 27 = .ok (.iushr, 1) := by decide +kernel
theorem dJ6_bitCount_0f7a4_28 : decode cJ6_bitCount_0f7a4 28 = .ok (.iadd, 1) := by decide +kernel
theorem dJ6_bitCount_0f7a4_29 : decode cJ6_bitCount_0f7a4 29 = .ok (.ldc_w 267, 3) := by decide +kernel
theorem dJ6_bitCount_0f7a4_32 : decode cJ6_bitCount_0f7a4 32 = .ok (.iand, 1) := by decide +kernel
theorem dJ6_bitCount_0f7a4_33 : decode cJ6_bitCount_0f7a4 33 = .ok (.istore_n 0, 1) := by decide +kernel
theorem dJ6_bitCount_0f7a4_34 : decode cJ6_bitCount_0f7a4 34 = .ok (.iload_n 0, 1) := by decide +kernel
theorem dJ6_bitCount_0f7a4_35 : decode cJ6_bitCount_0f7a4 35 = .ok (.iload_n 0, 1) := by decide +kernel
theorem dJ6_bitCount_0f7a4_36 : decode cJ6_bitCount_0f7a4 36 = .ok (.bipush 8, 2) := by decide +kernel
theorem dJ6_bitCount_0f7a4_38 : decode cJ6_bitCount_0f7a4 38 = .ok (.iushr, 1) := by decide +kernel
theorem dJ6_bitCount_0f7a4_39 : decode cJ6_bitCount_0f7a4 39 = .ok (.iadd, 1) := by decide +kernel
theorem dJ6_bitCount_0f7a4_40 : decode cJ6_bitCount_0f7a4 40 = .ok (.istore_n 0, 1) := by decide +kernel
theorem dJ6_bitCount_0f7a4_41 : decode cJ6_bitCount_0f7a4 41 = .ok (.iload_n 0, 1) := by decide +kernel
theorem dJ6_bitCount_0f7a4_42 : decode cJ6_bitCount_0f7a4 42 = .ok (.iload_n 0, 1) := by decide +kernel
theorem dJ6_bitCount_0f7a4_43 : decode cJ6_bitCount_0f7a4 43 = .ok (.bipush 16, 2) := by decide +kernel
theorem dJ6_bitCount_0f7a4_45 : decode cJ6_bitCount_0f7a4 45 = .ok (.iushr, 1) := by decide +kernel
theorem dJ6_bitCount_0f7a4_46 : decode cJ6_bitCount_0f7a4 46 = .ok (.iadd, 1) := by decide +kernel
theorem dJ6_bitCount_0f7a4_47 : decode cJ6_bitCount_0f7a4 47 = .ok (.istore_n 0, 1) := by decide +kernel
theorem dJ6_bitCount_0f7a4_48 : decode cJ6_bitCount_0f7a4 48 = .ok (.iload_n 0, 1) := by decide +kernel
theorem dJ6_bitCount_0f7a4_49 : decode cJ6_bitCount_0f7a4 49 = .ok (.bipush 63, 2) := by decide +kernel
theorem dJ6_bitCount_0f7a4_51 : decode cJ6_bitCount_0f7a4 51 = .ok (.iand, 1) := by decide +kernel
theorem dJ6_bitCount_0f7a4_52 : decode cJ6_bitCount_0f7a4 52 = .ok (.ireturn, 1) := by decide +kernel
theorem dJ9_min_7cf53_0 : decode cJ9_min_7cf53 0 = .ok (.iload_n 0, 1) := by decide +kernel
theorem dJ9_min_7cf53_1 : decode cJ9_min_7cf53 1 = .ok (.iload_n 1, 1) := by decide +kernel
theorem dJ9_min_7cf53_2 : decode cJ9_min_7cf53 2 = .ok (.if_icmp .gt 7, 3) := by decide +kernel
theorem dJ9_min_7cf53_5 : decode cJ9_min_7cf53 5 = .ok (.iload_n 0, 1) := by decide +kernel
theorem dJ9_min_7cf53_6 : decode cJ9_min_7cf53 6 = .ok (.goto 4, 3) := by decide +kernel
theorem dJ9_min_7cf53_9 : decode cJ9_min_7cf53 9 = .ok (.iload_n 1, 1) := by decide +kernel
theorem dJ9_min_7cf53_10 : decode cJ9_min_7cf53 10 = .ok (.ireturn, 1) := by decide +kernel
end
section
theorem dX3_init_0 : decode cX3_init 0 = .ok (.aload_n 0, 1) := by decide +kernel
theorem dX3_init_1 : decode cX3_init 1 = .ok (.invokespecial 1, 3) := by decide +kernel
theorem dX3_init_4 : decode cX3_init 4 = .ok (.aload_n 0, 1) := by decide +kernel
theorem dX3_init_5 : decode cX3_init 5 = .ok (.new 7, 3) := by decide +kernel
theorem dX3_init_8 : decode cX3_init 8 = .ok (.dup, 1) := by decide +kernel
theorem dX3_init_9 : decode cX3_init 9 = .ok (.invokespecial 9, 3) := by decide +kernel
theorem dX3_init_12 : decode cX3_init 12 = .ok (.putfield 10, 3) := by decide +kernel
theorem dX3_init_15 : decode cX3_init 15 = .ok (.aload_n 0, 1) := by decide +kernel
theorem dX3_init_16 : decode cX3_init 16 = .ok (.new 7, 3) := by decide +kernel
theorem dX3_init_19 : decode cX3_init 19 = .ok (.dup, 1) := by decide +kernel
theorem dX3_init_20 : decode cX3_init 20 = .ok (.invokespecial 9, 3) := by decide +kernel
theorem dX3_init_23 : decode cX3_init 23 = .ok (.putfield 16, 3) := by decide +kernel
theorem dX3_init_26 : decode cX3_init 26 = .ok (.aload_n 0, 1) := by decide +kernel
theorem dX3_init_27 : decode cX3_init 27 = .ok (.new 7, 3) := by decide +kernel
theorem dX3_init_30 : decode cX3_init 30 = .ok (.dup, 1) := by decide +kernel
theorem dX3_init_31 : decode cX3_init 31 = .ok (.invokespecial 9, 3) := by decide +kernel
theorem dX3_init_34 : decode cX3_init 34 = .ok (.putfield 19, 3) := by decide +kernel
theorem dX3_init_37 : decode cX3_init 37 = .ok (.aload_n 0, 1) := by decide +kernel
theorem dX3_init_38 : decode cX3_init 38 = .ok (.iconst 0, 1) := by decide +kernel
theorem dX3_init_39 : decode cX3_init 39 = .ok (.putfield 22, 3) := by decide +kernel
theorem dX3_init_42 : decode cX3_init 42 = .ok (.aload_n 0, 1) := by decide +kernel
theorem dX3_init_43 : decode cX3_init 43 = .ok (.new 26, 3) := by decide +kernel
theorem dX3_init_46 : decode cX3_init 46 = .ok (.dup, 1) := by decide +kernel
theorem dX3_init_47 : decode cX3_init 47 = .ok (.invokespecial 28, 3) := by decide +kernel
theorem dX3_init_50 : decode cX3_init 50 = .ok (.putfield 29, 3) := by decide +kernel
theorem dX3_init_53 : decode cX3_init 53 = .ok (.aload_n 0, 1) := by decide +kernel
theorem dX3_init_54 : decode cX3_init 54 = .ok (.iconst 4, 1) := by decide +kernel
theorem dX3_init_55 : decode cX3_init 55 = .ok (.anewarray 33, 3) := by decide +kernel
theorem dX3_init_58 : decode cX3_init 58 = .ok (.putfield 35, 3) := by decide +kernel
theorem dX3_init_61 : decode cX3_init 61 = .ok (.aload_n 0, 1) := by decide +kernel
theorem dX3_init_62 : decode cX3_init 62 = .ok (.bipush 7, 2) := by decide +kernel
theorem dX3_init_64 : decode cX3_init 64 = .ok (.newarray .int, 2) := by decide +kernel
theorem dX3_init_66 : decode cX3_init 66 = .ok (.putfield 39, 3) := by decide +kernel
theorem dX3_init_69 : decode cX3_init 69 = .ok (.iconst 0, 1) := by decide +kernel
theorem dX3_init_70 : decode cX3_init 70 = .ok (.istore_n 1, 1) := by decide +kernel
theorem dX3_init_71 : decode cX3_init 71 = .ok (.iload_n 1, 1) := by decide +kernel
theorem dX3_init_72 : decode cX3_init 72 = .ok (.iconst 4, 1) := by decide +kernel
theorem dX3_init_73 : decode cX3_init 73 = .ok (.if_icmp .ge 22, 3) := by decide +kernel
theorem dX3_init_76 : decode cX3_init 76 = .ok (.aload_n 0, 1) := by decide +kernel
theorem dX3_init_77 : decode cX3_init 77 = .ok (.getfield 35, 3) := by decide +kernel
theorem dX3_init_80 : decode cX3_init 80 = .ok (.iload_n 1, 1) := by decide +kernel
theorem dX3_init_81 : decode cX3_init 81 = .ok (.new 33, 3) := by decide +kernel
theorem dX3_init_84 : decode cX3_init 84 = .ok (.dup, 1) := by decide +kernel
theorem dX3_init_85 : decode cX3_init 85 = .ok (.invokespecial 43, 3) := by decide +kernel
theorem dX3_init_88 : decode cX3_init 88 = .ok (.aastore, 1) := by decide +kernel
theorem dX3_init_89 : decode cX3_init 89 = .ok (.iinc 1 1, 3) := by decide +kernel
theorem dX3_init_92 : decode cX3_init 92 = .ok (.goto (-21), 3) := by decide +kernel
theorem dX3_init_95 : decode cX3_init 95 = .ok (.return_, 1) := by decide +kernel
theorem dX3_fog_0 : decode cX3_fog 0 = .ok (.iload_n 1, 1) := by decide +kernel
theorem dX3_fog_1 : decode cX3_fog 1 = .ok (.ifCond .lt 9, 3) := by decide +kernel
theorem dX3_fog_4 : decode cX3_fog 4 = .ok (.iload_n 1, 1) := by decide +kernel
theorem dX3_fog_5 : decode cX3_fog 5 = .ok (.ldc 44, 2) := by decide +kernel
theorem dX3_fog_7 : decode cX3_fog 7 = .ok (.if_icmp .le 10, 3) := by decide +kernel
theorem dX3_fog_10 : decode cX3_fog 10 = .ok (.aload_n 0, 1) := by decide +kernel
theorem dX3_fog_11 : decode cX3_fog 11 = .ok (.ldc 45, 2) := by decide +kernel
theorem dX3_fog_13 : decode cX3_fog 13 = .ok (.invokevirtual 46, 3) := by decide +kernel
theorem dX3_fog_16 : decode cX3_fog 16 = .ok (.ireturn, 1) := by decide +kernel
theorem dX3_fog_17 : decode cX3_fog 17 = .ok (.aload_n 0, 1) := by decide +kernel
theorem dX3_fog_18 : decode cX3_fog 18 = .ok (.getfield 10, 3) := by decide +kernel
theorem dX3_fog_21 : decode cX3_fog 21 = .ok (.getfield 50, 3) := by decide +kernel
theorem dX3_fog_24 : decode cX3_fog 24 = .ok (.istore_n 2, 1) := by decide +kernel
theorem dX3_fog_25 : decode cX3_fog 25 = .ok (.aload_n 0, 1) := by decide +kernel
theorem dX3_fog_26 : decode cX3_fog 26 = .ok (.getfield 10, 3) := by decide +kernel
theorem dX3_fog_29 : decode cX3_fog 29 = .ok (.iload_n 1, 1) := by decide +kernel
theorem dX3_fog_30 : decode cX3_fog 30 = .ok (.putfield 50, 3) := by decide +kernel
theorem dX3_fog_33 : decode cX3_fog 33 = .ok (.iload_n 2, 1) := by decide +kernel
theorem dX3_fog_34 : decode cX3_fog 34 = .ok (.ireturn, 1) := by decide +kernel
theorem dX3_village_0 : decode cX3_village 0 = .ok (.iload_n 1, 1) := by decide +kernel
theorem dX3_village_1 : decode cX3_village 1 = .ok (.invokestatic 54, 3) := by decide +kernel
theorem dX3_village_4 : decode cX3_village 4 = .ok (.ifCond .ne 10, 3) := by decide +kernel
theorem dX3_village_7 : decode cX3_village 7 = .ok (.aload_n 0, 1) := by decide +kernel
theorem dX3_village_8 : decode cX3_village 8 = .ok (.ldc 45, 2) := by decide +kernel
theorem dX3_village_10 : decode cX3_village 10 = .ok (.invokevirtual 46, 3) := by decide +kernel
theorem dX3_village_13 : decode cX3_village 13 = .ok (.ireturn, 1) := by decide +kernel
theorem dX3_village_14 : decode cX3_village 14 = .ok (.aload_n 0, 1) := by decide +kernel
theorem dX3_village_15 : decode cX3_village 15 = .ok (.getfield 10, 3) := by decide +kernel
theorem dX3_village_18 : decode cX3_village 18 = .ok (.getfield 58, 3) := by decide +kernel
theorem dX3_village_21 : decode cX3_village 21 = .ok (.istore_n 2, 1) := by decide +kernel
theorem dX3_village_22 : decode cX3_village 22 = .ok (.aload_n 0, 1) := by decide +kernel
theorem dX3_village_23 : decode cX3_village 23 = .ok (.getfield 10, 3) := by decide +kernel
theorem dX3_village_26 : decode cX3_village 26 = .ok (.iload_n 1, 1) := by decide +kernel
theorem dX3_village_27 : decode cX3_village 27 = .ok (.putfield 58, 3) := by decide +kernel
theorem dX3_village_30 : decode cX3_village 30 = .ok (.iload_n 2, 1) := by decide +kernel
theorem dX3_village_31 : decode cX3_village 31 = .ok (.ireturn, 1) := by decide +kernel
theorem dX3_at_0 : decode cX3_at 0 = .ok (.iload_n 1, 1) := by decide +kernel
theorem dX3_at_1 : decode cX3_at 1 = .ok (.invokestatic 54, 3) := by decide +kernel
theorem dX3_at_4 : decode cX3_at 4 = .ok (.ifCond .ne 10, 3) := by decide +kernel
theorem dX3_at_7 : decode cX3_at 7 = .ok (.aload_n 0, 1) := by decide +kernel
theorem dX3_at_8 : decode cX3_at 8 = .ok (.ldc 45, 2) := by decide +kernel
theorem dX3_at_10 : decode cX3_at 10 = .ok (.invokevirtual 46, 3) := by decide +kernel
theorem dX3_at_13 : decode cX3_at 13 = .ok (.ireturn, 1) := by decide +kernel
theorem dX3_at_14 : decode cX3_at 14 = .ok (.aload_n 0, 1) := by decide +kernel
theorem dX3_at_15 : decode cX3_at 15 = .ok (.getfield 10, 3) := by decide +kernel
theorem dX3_at_18 : decode cX3_at 18 = .ok (.iload_n 1, 1) := by decide +kernel
theorem dX3_at_19 : decode cX3_at 19 = .ok (.invokevirtual 61, 3) := by decide +kernel
theorem dX3_at_22 : decode cX3_at 22 = .ok (.ireturn, 1) := by decide +kernel
theorem dX3_walker_0 : decode cX3_walker 0 = .ok (.iload_n 1, 1) := by decide +kernel
theorem dX3_walker_1 : decode cX3_walker 1 = .ok (.invokestatic 64, 3) := by decide +kernel
theorem dX3_walker_4 : decode cX3_walker 4 = .ok (.ifCond .eq 10, 3) := by decide +kernel
theorem dX3_walker_7 : decode cX3_walker 7 = .ok (.iload_n 2, 1) := by decide +kernel
theorem dX3_walker_8 : decode cX3_walker 8 = .ok (.invokestatic 54, 3) := by decide +kernel
theorem dX3_walker_11 : decode cX3_walker 11 = .ok (.ifCond .ne 10, 3) := by decide +kernel
theorem dX3_walker_14 : decode cX3_walker 14 = .ok (.aload_n 0, 1) := by decide +kernel
theorem dX3_walker_15 : decode cX3_walker 15 = .ok (.ldc 45, 2) := by decide +kernel
theorem dX3_walker_17 : decode cX3_walker 17 = .ok (.invokevirtual 46, 3) := by decide +kernel
theorem dX3_walker_20 : decode cX3_walker 20 = .ok (.ireturn, 1) := by decide +kernel
theorem dX3_walker_21 : decode cX3_walker 21 = .ok (.aload_n 0, 1) := by decide +kernel
theorem dX3_walker_22 : decode cX3_walker 22 = .ok (.getfield 10, 3) := by decide +kernel
theorem dX3_walker_25 : decode cX3_walker 25 = .ok (.invokevirtual 67, 3) := by decide +kernel
theorem dX3_walker_28 : decode cX3_walker 28 = .ok (.ifCond .ne 10, 3) := by decide +kernel
theorem dX3_walker_31 : decode cX3_walker 31 = .ok (.aload_n 0, 1) := by decide +kernel
theorem dX3_walker_32 : decode cX3_walker 32 = .ok (.ldc 71, 2) := by decide +kernel
theorem dX3_walker_34 : decode cX3_walker 34 = .ok (.invokevirtual 46, 3) := by decide +kernel
theorem dX3_walker_37 : decode cX3_walker 37 = .ok (.ireturn, 1) := by decide +kernel
theorem dX3_walker_38 : decode cX3_walker 38 = .ok (.aload_n 0, 1) := by decide +kernel
theorem dX3_walker_39 : decode cX3_walker 39 = .ok (.getfield 10, 3) := by decide +kernel
theorem dX3_walker_42 : decode cX3_walker 42 = .ok (.iload_n 1, 1) := by decide +kernel
theorem dX3_walker_43 : decode cX3_walker 43 = .ok (.iload_n 2, 1) := by decide +kernel
theorem dX3_walker_44 : decode cX3_walker 44 = .ok (.invokevirtual 72, 3) := by decide +kernel
theorem dX3_walker_47 : decode cX3_walker 47 = .ok (.ireturn, 1) := by decide +kernel
theorem dX3_of_0 : decode cX3_of 0 = .ok (.aload_n 0, 1) := by decide +kernel
theorem dX3_of_1 : decode cX3_of 1 = .ok (.getfield 10, 3) := by decide +kernel
theorem dX3_of_4 : decode cX3_of 4 = .ok (.iload_n 1, 1) := by decide +kernel
theorem dX3_of_5 : decode cX3_of 5 = .ok (.invokevirtual 76, 3) := by decide +kernel
theorem dX3_of_8 : decode cX3_of 8 = .ok (.ifCond .eq 13, 3) := by decide +kernel
theorem dX3_of_11 : decode cX3_of 11 = .ok (.iload_n 2, 1) := by decide +kernel
theorem dX3_of_12 : decode cX3_of 12 = .ok (.ifCond .lt 9, 3) := by decide +kernel
theorem dX3_of_15 : decode cX3_of 15 = .ok (.iload_n 2, 1) := by decide +kernel
theorem dX3_of_16 : decode cX3_of 16 = .ok (.bipush 8, 2) := by decide +kernel
theorem dX3_of_18 : decode cX3_of 18 = .ok (.if_icmp .le 10, 3) := by decide +kernel
theorem dX3_of_21 : decode cX3_of 21 = .ok (.aload_n 0, 1) := by decide +kernel
theorem dX3_of_22 : decode cX3_of 22 = .ok (.ldc 45, 2) := by decide +kernel
theorem dX3_of_24 : decode cX3_of 24 = .ok (.invokevirtual 46, 3) := by decide +kernel
theorem dX3_of_27 : decode cX3_of 27 = .ok (.ireturn, 1) := by decide +kernel
theorem dX3_of_28 : decode cX3_of 28 = .ok (.aload_n 0, 1) := by decide +kernel
theorem dX3_of_29 : decode cX3_of 29 = .ok (.getfield 10, 3) := by decide +kernel
theorem dX3_of_32 : decode cX3_of 32 = .ok (.iload_n 1, 1) := by decide +kernel
theorem dX3_of_33 : decode cX3_of 33 = .ok (.iload_n 2, 1) := by decide +kernel
theorem dX3_of_34 : decode cX3_of 34 = .ok (.invokevirtual 79, 3) := by decide +kernel
theorem dX3_of_37 : decode cX3_of 37 = .ok (.ireturn, 1) := by decide +kernel
theorem dX3_set_0 : decode cX3_set 0 = .ok (.aload_n 0, 1) := by decide +kernel
theorem dX3_set_1 : decode cX3_set 1 = .ok (.getfield 10, 3) := by decide +kernel
theorem dX3_set_4 : decode cX3_set 4 = .ok (.iload_n 1, 1) := by decide +kernel
theorem dX3_set_5 : decode cX3_set 5 = .ok (.invokevirtual 76, 3) := by decide +kernel
theorem dX3_set_8 : decode cX3_set 8 = .ok (.ifCond .eq 25, 3) := by decide +kernel
theorem dX3_set_11 : decode cX3_set 11 = .ok (.iload_n 2, 1) := by decide +kernel
theorem dX3_set_12 : decode cX3_set 12 = .ok (.iconst 1, 1) := by decide +kernel
theorem dX3_set_13 : decode cX3_set 13 = .ok (.if_icmp .lt 20, 3) := by decide +kernel
theorem dX3_set_16 : decode cX3_set 16 = .ok (.iload_n 2, 1) := by decide +kernel
theorem dX3_set_17 : decode cX3_set 17 = .ok (.iconst 4, 1) := by decide +kernel
theorem dX3_set_18 : decode cX3_set 18 = .ok (.if_icmp .gt 15, 3) := by decide +kernel
theorem dX3_set_21 : decode cX3_set 21 = .ok (.iload_n 3, 1) := by decide +kernel
theorem dX3_set_22 : decode cX3_set 22 = .ok (.ifCond .lt 11, 3) := by decide +kernel
theorem dX3_set_25 : decode cX3_set 25 = .ok (.iload_n 3, 1) := by decide +kernel
theorem dX3_set_26 : decode cX3_set 26 = .ok (.iload_n 2, 1) := by decide +kernel
theorem dX3_set_27 : decode cX3_set 27 = .ok (.invokestatic 82, 3) := by decide +kernel
theorem dX3_set_30 : decode cX3_set 30 = .ok (.if_icmp .lt 10, 3) := by decide +kernel
theorem dX3_set_33 : decode cX3_set 33 = .ok (.aload_n 0, 1) := by decide +kernel
theorem dX3_set_34 : decode cX3_set 34 = .ok (.ldc 45, 2) := by decide +kernel
theorem dX3_set_36 : decode cX3_set 36 = .ok (.invokevirtual 46, 3) := by decide +kernel
theorem dX3_set_39 : decode cX3_set 39 = .ok (.ireturn, 1) := by decide +kernel
theorem dX3_set_40 : decode cX3_set 40 = .ok (.aload_n 0, 1) := by decide +kernel
theorem dX3_set_41 : decode cX3_set 41 = .ok (.getfield 10, 3) := by decide +kernel
theorem dX3_set_44 : decode cX3_set 44 = .ok (.iload_n 1, 1) := by decide +kernel
theorem dX3_set_45 : decode cX3_set 45 = .ok (.iload_n 2, 1) := by decide +kernel
theorem dX3_set_46 : decode cX3_set 46 = .ok (.invokevirtual 79, 3) := by decide +kernel
theorem dX3_set_49 : decode cX3_set 49 = .ok (.istore 4, 2) := by decide +kernel
theorem dX3_set_51 : decode cX3_set 51 = .ok (.iload_n 2, 1) := by decide +kernel
theorem dX3_set_52 : decode cX3_set 52 = .ok (.tableswitch 66 1 3 #[28, 40, 53], 28) := by decide +kernel
theorem dX3_set_80 : decode cX3_set 80 = .ok (.aload_n 0, 1) := by decide +kernel
theorem dX3_set_81 : decode cX3_set 81 = .ok (.getfield 10, 3) := by decide +kernel
theorem dX3_set_84 : decode cX3_set 84 = .ok (.iload_n 1, 1) := by decide +kernel
theorem dX3_set_85 : decode cX3_set 85 = .ok (.iload_n 3, 1) := by decide +kernel
theorem dX3_set_86 : decode cX3_set 86 = .ok (.invokevirtual 85, 3) := by decide +kernel
theorem dX3_set_89 : decode cX3_set 89 = .ok (.goto 39, 3) := by decide +kernel
theorem dX3_set_92 : decode cX3_set 92 = .ok (.aload_n 0, 1) := by decide +kernel
theorem dX3_set_93 : decode cX3_set 93 = .ok (.getfield 10, 3) := by decide +kernel
theorem dX3_set_96 : decode cX3_set 96 = .ok (.getfield 89, 3) := by decide +kernel
theorem dX3_set_99 : decode cX3_set 99 = .ok (.iload_n 1, 1) := by decide +kernel
theorem dX3_set_100 : decode cX3_set 100 = .ok (.iload_n 3, 1) := by decide +kernel
theorem dX3_set_101 : decode cX3_set 101 = .ok (.iastore, 1) := by decide +kernel
theorem dX3_set_102 : decode cX3_set 102 = .ok (.goto 26, 3) := by decide +kernel
theorem dX3_set_105 : decode cX3_set 105 = .ok (.aload_n 0, 1) := by decide +kernel
theorem dX3_set_106 : decode cX3_set 106 = .ok (.getfield 10, 3) := by decide +kernel
theorem dX3_set_109 : decode cX3_set 109 = .ok (.getfield 92, 3) := by decide +kernel
theorem dX3_set_112 : decode cX3_set 112 = .ok (.iload_n 1, 1) := by decide +kernel
theorem dX3_set_113 : decode cX3_set 113 = .ok (.iload_n 3, 1) := by decide +kernel
theorem dX3_set_114 : decode cX3_set 114 = .ok (.iastore, 1) := by decide +kernel
theorem dX3_set_115 : decode cX3_set 115 = .ok (.goto 13, 3) := by decide +kernel
theorem dX3_set_118 : decode cX3_set 118 = .ok (.aload_n 0, 1) := by decide +kernel
theorem dX3_set_119 : decode cX3_set 119 = .ok (.getfield 10, 3) := by decide +kernel
theorem dX3_set_122 : decode cX3_set 122 = .ok (.getfield 95, 3) := by decide +kernel
theorem dX3_set_125 : decode cX3_set 125 = .ok (.iload_n 1, 1) := by decide +kernel
theorem dX3_set_126 : decode cX3_set 126 = .ok (.iload_n 3, 1) := by decide +kernel
theorem dX3_set_127 : decode cX3_set 127 = .ok (.iastore, 1) := by decide +kernel
theorem dX3_set_128 : decode cX3_set 128 = .ok (.iload 4, 2) := by decide +kernel
theorem dX3_set_130 : decode cX3_set 130 = .ok (.ireturn, 1) := by decide +kernel
theorem dX3_turn_0 : decode cX3_turn 0 = .ok (.aload_n 0, 1) := by decide +kernel
theorem dX3_turn_1 : decode cX3_turn 1 = .ok (.getfield 10, 3) := by decide +kernel
theorem dX3_turn_4 : decode cX3_turn 4 = .ok (.iload_n 1, 1) := by decide +kernel
theorem dX3_turn_5 : decode cX3_turn 5 = .ok (.invokevirtual 76, 3) := by decide +kernel
theorem dX3_turn_8 : decode cX3_turn 8 = .ok (.ifCond .eq 10, 3) := by decide +kernel
theorem dX3_turn_11 : decode cX3_turn 11 = .ok (.iload_n 2, 1) := by decide +kernel
theorem dX3_turn_12 : decode cX3_turn 12 = .ok (.invokestatic 64, 3) := by decide +kernel
theorem dX3_turn_15 : decode cX3_turn 15 = .ok (.ifCond .ne 10, 3) := by decide +kernel
theorem dX3_turn_18 : decode cX3_turn 18 = .ok (.aload_n 0, 1) := by decide +kernel
theorem dX3_turn_19 : decode cX3_turn 19 = .ok (.ldc 45, 2) := by decide +kernel
theorem dX3_turn_21 : decode cX3_turn 21 = .ok (.invokevirtual 46, 3) := by decide +kernel
theorem dX3_turn_24 : decode cX3_turn 24 = .ok (.ireturn, 1) := by decide +kernel
theorem dX3_turn_25 : decode cX3_turn 25 = .ok (.aload_n 0, 1) := by decide +kernel
theorem dX3_turn_26 : decode cX3_turn 26 = .ok (.getfield 10, 3) := by decide +kernel
theorem dX3_turn_29 : decode cX3_turn 29 = .ok (.getfield 98, 3) := by decide +kernel
theorem dX3_turn_32 : decode cX3_turn 32 = .ok (.iload_n 1, 1) := by decide +kernel
theorem dX3_turn_33 : decode cX3_turn 33 = .ok (.iaload, 1) := by decide +kernel
theorem dX3_turn_34 : decode cX3_turn 34 = .ok (.istore_n 3, 1) := by decide +kernel
theorem dX3_turn_35 : decode cX3_turn 35 = .ok (.aload_n 0, 1) := by decide +kernel
theorem dX3_turn_36 : decode cX3_turn 36 = .ok (.getfield 10, 3) := by decide +kernel
theorem dX3_turn_39 : decode cX3_turn 39 = .ok (.getfield 98, 3) := by decide +kernel
theorem dX3_turn_42 : decode cX3_turn 42 = .ok (.iload_n 1, 1) := by decide +kernel
theorem dX3_turn_43 : decode cX3_turn 43 = .ok (.iload_n 2, 1) := by decide +kernel
theorem dX3_turn_44 : decode cX3_turn 44 = .ok (.iastore, 1) := by decide +kernel
theorem dX3_turn_45 : decode cX3_turn 45 = .ok (.iload_n 3, 1) := by decide +kernel
theorem dX3_turn_46 : decode cX3_turn 46 = .ok (.ireturn, 1) := by decide +kernel
theorem dX3_as_0 : decode cX3_as 0 = .ok (.aload_n 0, 1) := by decide +kernel
theorem dX3_as_1 : decode cX3_as 1 = .ok (.getfield 10, 3) := by decide +kernel
theorem dX3_as_4 : decode cX3_as 4 = .ok (.iload_n 1, 1) := by decide +kernel
theorem dX3_as_5 : decode cX3_as 5 = .ok (.invokevirtual 76, 3) := by decide +kernel
theorem dX3_as_8 : decode cX3_as 8 = .ok (.ifCond .eq 10, 3) := by decide +kernel
theorem dX3_as_11 : decode cX3_as 11 = .ok (.iload_n 2, 1) := by decide +kernel
theorem dX3_as_12 : decode cX3_as 12 = .ok (.invokestatic 64, 3) := by decide +kernel
theorem dX3_as_15 : decode cX3_as 15 = .ok (.ifCond .ne 10, 3) := by decide +kernel
theorem dX3_as_18 : decode cX3_as 18 = .ok (.aload_n 0, 1) := by decide +kernel
theorem dX3_as_19 : decode cX3_as 19 = .ok (.ldc 45, 2) := by decide +kernel
theorem dX3_as_21 : decode cX3_as 21 = .ok (.invokevirtual 46, 3) := by decide +kernel
theorem dX3_as_24 : decode cX3_as 24 = .ok (.ireturn, 1) := by decide +kernel
theorem dX3_as_25 : decode cX3_as 25 = .ok (.aload_n 0, 1) := by decide +kernel
theorem dX3_as_26 : decode cX3_as 26 = .ok (.getfield 10, 3) := by decide +kernel
theorem dX3_as_29 : decode cX3_as 29 = .ok (.getfield 98, 3) := by decide +kernel
theorem dX3_as_32 : decode cX3_as 32 = .ok (.iload_n 1, 1) := by decide +kernel
theorem dX3_as_33 : decode cX3_as 33 = .ok (.iaload, 1) := by decide +kernel
theorem dX3_as_34 : decode cX3_as 34 = .ok (.iload_n 2, 1) := by decide +kernel
theorem dX3_as_35 : decode cX3_as 35 = .ok (.invokestatic 101, 3) := by decide +kernel
theorem dX3_as_38 : decode cX3_as 38 = .ok (.ifCond .ne 10, 3) := by decide +kernel
theorem dX3_as_41 : decode cX3_as 41 = .ok (.aload_n 0, 1) := by decide +kernel
theorem dX3_as_42 : decode cX3_as 42 = .ok (.ldc 105, 2) := by decide +kernel
theorem dX3_as_44 : decode cX3_as 44 = .ok (.invokevirtual 46, 3) := by decide +kernel
theorem dX3_as_47 : decode cX3_as 47 = .ok (.ireturn, 1) := by decide +kernel
theorem dX3_as_48 : decode cX3_as 48 = .ok (.aload_n 0, 1) := by decide +kernel
theorem dX3_as_49 : decode cX3_as 49 = .ok (.getfield 10, 3) := by decide +kernel
theorem dX3_as_52 : decode cX3_as 52 = .ok (.getfield 95, 3) := by decide +kernel
theorem dX3_as_55 : decode cX3_as 55 = .ok (.iload_n 1, 1) := by decide +kernel
theorem dX3_as_56 : decode cX3_as 56 = .ok (.iaload, 1) := by decide +kernel
theorem dX3_as_57 : decode cX3_as 57 = .ok (.ireturn, 1) := by decide +kernel
theorem dX3_free_0 : decode cX3_free 0 = .ok (.aload_n 0, 1) := by decide +kernel
theorem dX3_free_1 : decode cX3_free 1 = .ok (.getfield 10, 3) := by decide +kernel
theorem dX3_free_4 : decode cX3_free 4 = .ok (.iload_n 1, 1) := by decide +kernel
theorem dX3_free_5 : decode cX3_free 5 = .ok (.invokevirtual 76, 3) := by decide +kernel
theorem dX3_free_8 : decode cX3_free 8 = .ok (.ifCond .ne 10, 3) := by decide +kernel
theorem dX3_free_11 : decode cX3_free 11 = .ok (.aload_n 0, 1) := by decide +kernel
theorem dX3_free_12 : decode cX3_free 12 = .ok (.ldc 45, 2) := by decide +kernel
theorem dX3_free_14 : decode cX3_free 14 = .ok (.invokevirtual 46, 3) := by decide +kernel
theorem dX3_free_17 : decode cX3_free 17 = .ok (.ireturn, 1) := by decide +kernel
theorem dX3_free_18 : decode cX3_free 18 = .ok (.aload_n 0, 1) := by decide +kernel
theorem dX3_free_19 : decode cX3_free 19 = .ok (.getfield 10, 3) := by decide +kernel
theorem dX3_free_22 : decode cX3_free 22 = .ok (.iload_n 1, 1) := by decide +kernel
theorem dX3_free_23 : decode cX3_free 23 = .ok (.invokevirtual 106, 3) := by decide +kernel
theorem dX3_free_26 : decode cX3_free 26 = .ok (.ifCond .eq 10, 3) := by decide +kernel
theorem dX3_free_29 : decode cX3_free 29 = .ok (.aload_n 0, 1) := by decide +kernel
theorem dX3_free_30 : decode cX3_free 30 = .ok (.ldc 109, 2) := by decide +kernel
theorem dX3_free_32 : decode cX3_free 32 = .ok (.invokevirtual 46, 3) := by decide +kernel
theorem dX3_free_35 : decode cX3_free 35 = .ok (.ireturn, 1) := by decide +kernel
theorem dX3_free_36 : decode cX3_free 36 = .ok (.aload_n 0, 1) := by decide +kernel
theorem dX3_free_37 : decode cX3_free 37 = .ok (.getfield 10, 3) := by decide +kernel
theorem dX3_free_40 : decode cX3_free 40 = .ok (.getfield 110, 3) := by decide +kernel
theorem dX3_free_43 : decode cX3_free 43 = .ok (.iload_n 1, 1) := by decide +kernel
theorem dX3_free_44 : decode cX3_free 44 = .ok (.iaload, 1) := by decide +kernel
theorem dX3_free_45 : decode cX3_free 45 = .ok (.istore_n 2, 1) := by decide +kernel
theorem dX3_free_46 : decode cX3_free 46 = .ok (.aload_n 0, 1) := by decide +kernel
theorem dX3_free_47 : decode cX3_free 47 = .ok (.getfield 10, 3) := by decide +kernel
theorem dX3_free_50 : decode cX3_free 50 = .ok (.iload_n 1, 1) := by decide +kernel
theorem dX3_free_51 : decode cX3_free 51 = .ok (.invokevirtual 113, 3) := by decide +kernel
theorem dX3_free_54 : decode cX3_free 54 = .ok (.iload_n 2, 1) := by decide +kernel
theorem dX3_free_55 : decode cX3_free 55 = .ok (.ireturn, 1) := by decide +kernel
theorem dX3_keep_0 : decode cX3_keep 0 = .ok (.aload_n 0, 1) := by decide +kernel
theorem dX3_keep_1 : decode cX3_keep 1 = .ok (.iload_n 1, 1) := by decide +kernel
theorem dX3_keep_2 : decode cX3_keep 2 = .ok (.iload_n 2, 1) := by decide +kernel
theorem dX3_keep_3 : decode cX3_keep 3 = .ok (.invokevirtual 117, 3) := by decide +kernel
theorem dX3_keep_6 : decode cX3_keep 6 = .ok (.ifCond .ne 10, 3) := by decide +kernel
theorem dX3_keep_9 : decode cX3_keep 9 = .ok (.aload_n 0, 1) := by decide +kernel
theorem dX3_keep_10 : decode cX3_keep 10 = .ok (.ldc 45, 2) := by decide +kernel
theorem dX3_keep_12 : decode cX3_keep 12 = .ok (.invokevirtual 46, 3) := by decide +kernel
theorem dX3_keep_15 : decode cX3_keep 15 = .ok (.ireturn, 1) := by decide +kernel
theorem dX3_keep_16 : decode cX3_keep 16 = .ok (.aload_n 0, 1) := by decide +kernel
theorem dX3_keep_17 : decode cX3_keep 17 = .ok (.getfield 10, 3) := by decide +kernel
theorem dX3_keep_20 : decode cX3_keep 20 = .ok (.iload_n 1, 1) := by decide +kernel
theorem dX3_keep_21 : decode cX3_keep 21 = .ok (.invokevirtual 106, 3) := by decide +kernel
theorem dX3_keep_24 : decode cX3_keep 24 = .ok (.ifCond .eq 35, 3) := by decide +kernel
theorem dX3_keep_27 : decode cX3_keep 27 = .ok (.aload_n 0, 1) := by decide +kernel
theorem dX3_keep_28 : decode cX3_keep 28 = .ok (.getfield 10, 3) := by decide +kernel
theorem dX3_keep_31 : decode cX3_keep 31 = .ok (.iload_n 2, 1) := by decide +kernel
theorem dX3_keep_32 : decode cX3_keep 32 = .ok (.invokevirtual 106, 3) := by decide +kernel
theorem dX3_keep_35 : decode cX3_keep 35 = .ok (.ifCond .eq 24, 3) := by decide +kernel
theorem dX3_keep_38 : decode cX3_keep 38 = .ok (.aload_n 0, 1) := by decide +kernel
theorem dX3_keep_39 : decode cX3_keep 39 = .ok (.getfield 10, 3) := by decide +kernel
theorem dX3_keep_42 : decode cX3_keep 42 = .ok (.getfield 120, 3) := by decide +kernel
theorem dX3_keep_45 : decode cX3_keep 45 = .ok (.iload_n 1, 1) := by decide +kernel
theorem dX3_keep_46 : decode cX3_keep 46 = .ok (.iaload, 1) := by decide +kernel
theorem dX3_keep_47 : decode cX3_keep 47 = .ok (.aload_n 0, 1) := by decide +kernel
theorem dX3_keep_48 : decode cX3_keep 48 = .ok (.getfield 10, 3) := by decide +kernel
theorem dX3_keep_51 : decode cX3_keep 51 = .ok (.getfield 120, 3) := by decide +kernel
theorem dX3_keep_54 : decode cX3_keep 54 = .ok (.iload_n 2, 1) := by decide +kernel
theorem dX3_keep_55 : decode cX3_keep 55 = .ok (.iaload, 1) := by decide +kernel
theorem dX3_keep_56 : decode cX3_keep 56 = .ok (.if_icmp .eq 10, 3) := by decide +kernel
theorem dX3_keep_59 : decode cX3_keep 59 = .ok (.aload_n 0, 1) := by decide +kernel
theorem dX3_keep_60 : decode cX3_keep 60 = .ok (.ldc 109, 2) := by decide +kernel
theorem dX3_keep_62 : decode cX3_keep 62 = .ok (.invokevirtual 46, 3) := by decide +kernel
theorem dX3_keep_65 : decode cX3_keep 65 = .ok (.ireturn, 1) := by decide +kernel
theorem dX3_keep_66 : decode cX3_keep 66 = .ok (.aload_n 0, 1) := by decide +kernel
theorem dX3_keep_67 : decode cX3_keep 67 = .ok (.getfield 10, 3) := by decide +kernel
theorem dX3_keep_70 : decode cX3_keep 70 = .ok (.iload_n 1, 1) := by decide +kernel
theorem dX3_keep_71 : decode cX3_keep 71 = .ok (.iload_n 2, 1) := by decide +kernel
theorem dX3_keep_72 : decode cX3_keep 72 = .ok (.invokevirtual 123, 3) := by decide +kernel
theorem dX3_keep_75 : decode cX3_keep 75 = .ok (.aload_n 0, 1) := by decide +kernel
theorem dX3_keep_76 : decode cX3_keep 76 = .ok (.getfield 10, 3) := by decide +kernel
theorem dX3_keep_79 : decode cX3_keep 79 = .ok (.invokevirtual 126, 3) := by decide +kernel
theorem dX3_keep_82 : decode cX3_keep 82 = .ok (.invokestatic 130, 3) := by decide +kernel
theorem dX3_keep_85 : decode cX3_keep 85 = .ok (.ireturn, 1) := by decide +kernel
theorem dX3_hours_0 : decode cX3_hours 0 = .ok (.iload_n 1, 1) := by decide +kernel
theorem dX3_hours_1 : decode cX3_hours 1 = .ok (.iconst 1, 1) := by decide +kernel
theorem dX3_hours_2 : decode cX3_hours 2 = .ok (.if_icmp .lt 9, 3) := by decide +kernel
theorem dX3_hours_5 : decode cX3_hours 5 = .ok (.iload_n 1, 1) := by decide +kernel
theorem dX3_hours_6 : decode cX3_hours 6 = .ok (.bipush 60, 2) := by decide +kernel
theorem dX3_hours_8 : decode cX3_hours 8 = .ok (.if_icmp .le 10, 3) := by decide +kernel
theorem dX3_hours_11 : decode cX3_hours 11 = .ok (.aload_n 0, 1) := by decide +kernel
theorem dX3_hours_12 : decode cX3_hours 12 = .ok (.ldc 45, 2) := by decide +kernel
theorem dX3_hours_14 : decode cX3_hours 14 = .ok (.invokevirtual 46, 3) := by decide +kernel
theorem dX3_hours_17 : decode cX3_hours 17 = .ok (.ireturn, 1) := by decide +kernel
theorem dX3_hours_18 : decode cX3_hours 18 = .ok (.aload_n 0, 1) := by decide +kernel
theorem dX3_hours_19 : decode cX3_hours 19 = .ok (.getfield 10, 3) := by decide +kernel
theorem dX3_hours_22 : decode cX3_hours 22 = .ok (.getfield 135, 3) := by decide +kernel
theorem dX3_hours_25 : decode cX3_hours 25 = .ok (.ldc 138, 2) := by decide +kernel
theorem dX3_hours_27 : decode cX3_hours 27 = .ok (.iload_n 1, 1) := by decide +kernel
theorem dX3_hours_28 : decode cX3_hours 28 = .ok (.isub, 1) := by decide +kernel
theorem dX3_hours_29 : decode cX3_hours 29 = .ok (.if_icmp .le 10, 3) := by decide +kernel
theorem dX3_hours_32 : decode cX3_hours 32 = .ok (.aload_n 0, 1) := by decide +kernel
theorem dX3_hours_33 : decode cX3_hours 33 = .ok (.ldc 109, 2) := by decide +kernel
theorem dX3_hours_35 : decode cX3_hours 35 = .ok (.invokevirtual 46, 3) := by decide +kernel
theorem dX3_hours_38 : decode cX3_hours 38 = .ok (.ireturn, 1) := by decide +kernel
theorem dX3_hours_39 : decode cX3_hours 39 = .ok (.aload_n 0, 1) := by decide +kernel
theorem dX3_hours_40 : decode cX3_hours 40 = .ok (.getfield 10, 3) := by decide +kernel
theorem dX3_hours_43 : decode cX3_hours 43 = .ok (.iload_n 1, 1) := by decide +kernel
theorem dX3_hours_44 : decode cX3_hours 44 = .ok (.invokevirtual 139, 3) := by decide +kernel
theorem dX3_hours_47 : decode cX3_hours 47 = .ok (.aload_n 0, 1) := by decide +kernel
theorem dX3_hours_48 : decode cX3_hours 48 = .ok (.getfield 10, 3) := by decide +kernel
theorem dX3_hours_51 : decode cX3_hours 51 = .ok (.invokevirtual 126, 3) := by decide +kernel
theorem dX3_hours_54 : decode cX3_hours 54 = .ok (.ireturn, 1) := by decide +kernel
theorem dX3_now_0 : decode cX3_now 0 = .ok (.iload_n 1, 1) := by decide +kernel
theorem dX3_now_1 : decode cX3_now 1 = .ok (.tableswitch 95 0 5 #[39, 47, 55, 71, 79, 87], 39) := by decide +kernel
theorem dX3_now_40 : decode cX3_now 40 = .ok (.aload_n 0, 1) := by decide +kernel
theorem dX3_now_41 : decode cX3_now 41 = .ok (.getfield 10, 3) := by decide +kernel
theorem dX3_now_44 : decode cX3_now 44 = .ok (.getfield 135, 3) := by decide +kernel
theorem dX3_now_47 : decode cX3_now 47 = .ok (.ireturn, 1) := by decide +kernel
theorem dX3_now_48 : decode cX3_now 48 = .ok (.aload_n 0, 1) := by decide +kernel
theorem dX3_now_49 : decode cX3_now 49 = .ok (.getfield 10, 3) := by decide +kernel
theorem dX3_now_52 : decode cX3_now 52 = .ok (.getfield 50, 3) := by decide +kernel
theorem dX3_now_55 : decode cX3_now 55 = .ok (.ireturn, 1) := by decide +kernel
theorem dX3_now_56 : decode cX3_now 56 = .ok (.aload_n 0, 1) := by decide +kernel
theorem dX3_now_57 : decode cX3_now 57 = .ok (.getfield 10, 3) := by decide +kernel
theorem dX3_now_60 : decode cX3_now 60 = .ok (.invokevirtual 142, 3) := by decide +kernel
theorem dX3_now_63 : decode cX3_now 63 = .ok (.ifCond .eq 7, 3) := by decide +kernel
theorem dX3_now_66 : decode cX3_now 66 = .ok (.iconst 1, 1) := by decide +kernel
theorem dX3_now_67 : decode cX3_now 67 = .ok (.goto 4, 3) := by decide +kernel
theorem dX3_now_70 : decode cX3_now 70 = .ok (.iconst 0, 1) := by decide +kernel
theorem dX3_now_71 : decode cX3_now 71 = .ok (.ireturn, 1) := by decide +kernel
theorem dX3_now_72 : decode cX3_now 72 = .ok (.aload_n 0, 1) := by decide +kernel
theorem dX3_now_73 : decode cX3_now 73 = .ok (.getfield 10, 3) := by decide +kernel
theorem dX3_now_76 : decode cX3_now 76 = .ok (.invokevirtual 126, 3) := by decide +kernel
theorem dX3_now_79 : decode cX3_now 79 = .ok (.ireturn, 1) := by decide +kernel
theorem dX3_now_80 : decode cX3_now 80 = .ok (.aload_n 0, 1) := by decide +kernel
theorem dX3_now_81 : decode cX3_now 81 = .ok (.getfield 10, 3) := by decide +kernel
theorem dX3_now_84 : decode cX3_now 84 = .ok (.invokevirtual 145, 3) := by decide +kernel
theorem dX3_now_87 : decode cX3_now 87 = .ok (.ireturn, 1) := by decide +kernel
theorem dX3_now_88 : decode cX3_now 88 = .ok (.aload_n 0, 1) := by decide +kernel
theorem dX3_now_89 : decode cX3_now 89 = .ok (.getfield 10, 3) := by decide +kernel
theorem dX3_now_92 : decode cX3_now 92 = .ok (.getfield 58, 3) := by decide +kernel
theorem dX3_now_95 : decode cX3_now 95 = .ok (.ireturn, 1) := by decide +kernel
theorem dX3_now_96 : decode cX3_now 96 = .ok (.aload_n 0, 1) := by decide +kernel
theorem dX3_now_97 : decode cX3_now 97 = .ok (.ldc 45, 2) := by decide +kernel
theorem dX3_now_99 : decode cX3_now 99 = .ok (.invokevirtual 46, 3) := by decide +kernel
theorem dX3_now_102 : decode cX3_now 102 = .ok (.ireturn, 1) := by decide +kernel
theorem dX3_on_0 : decode cX3_on 0 = .ok (.aload_n 0, 1) := by decide +kernel
theorem dX3_on_1 : decode cX3_on 1 = .ok (.getfield 10, 3) := by decide +kernel
theorem dX3_on_4 : decode cX3_on 4 = .ok (.iload_n 1, 1) := by decide +kernel
theorem dX3_on_5 : decode cX3_on 5 = .ok (.invokevirtual 76, 3) := by decide +kernel
theorem dX3_on_8 : decode cX3_on 8 = .ok (.ifCond .eq 22, 3) := by decide +kernel
theorem dX3_on_11 : decode cX3_on 11 = .ok (.iload_n 2, 1) := by decide +kernel
theorem dX3_on_12 : decode cX3_on 12 = .ok (.ifCond .lt 18, 3) := by decide +kernel
theorem dX3_on_15 : decode cX3_on 15 = .ok (.iload_n 2, 1) := by decide +kernel
theorem dX3_on_16 : decode cX3_on 16 = .ok (.bipush 60, 2) := by decide +kernel
theorem dX3_on_18 : decode cX3_on 18 = .ok (.if_icmp .gt 12, 3) := by decide +kernel
theorem dX3_on_21 : decode cX3_on 21 = .ok (.iload_n 3, 1) := by decide +kernel
theorem dX3_on_22 : decode cX3_on 22 = .ok (.ifCond .lt 8, 3) := by decide +kernel
theorem dX3_on_25 : decode cX3_on 25 = .ok (.iload_n 3, 1) := by decide +kernel
theorem dX3_on_26 : decode cX3_on 26 = .ok (.iconst 2, 1) := by decide +kernel
theorem dX3_on_27 : decode cX3_on 27 = .ok (.if_icmp .le 10, 3) := by decide +kernel
theorem dX3_on_30 : decode cX3_on 30 = .ok (.aload_n 0, 1) := by decide +kernel
theorem dX3_on_31 : decode cX3_on 31 = .ok (.ldc 45, 2) := by decide +kernel
theorem dX3_on_33 : decode cX3_on 33 = .ok (.invokevirtual 46, 3) := by decide +kernel
theorem dX3_on_36 : decode cX3_on 36 = .ok (.ireturn, 1) := by decide +kernel
theorem dX3_on_37 : decode cX3_on 37 = .ok (.aload_n 0, 1) := by decide +kernel
theorem dX3_on_38 : decode cX3_on 38 = .ok (.getfield 16, 3) := by decide +kernel
theorem dX3_on_41 : decode cX3_on 41 = .ok (.aload_n 0, 1) := by decide +kernel
theorem dX3_on_42 : decode cX3_on 42 = .ok (.getfield 10, 3) := by decide +kernel
theorem dX3_on_45 : decode cX3_on 45 = .ok (.invokevirtual 148, 3) := by decide +kernel
theorem dX3_on_48 : decode cX3_on 48 = .ok (.aload_n 0, 1) := by decide +kernel
theorem dX3_on_49 : decode cX3_on 49 = .ok (.getfield 16, 3) := by decide +kernel
theorem dX3_on_52 : decode cX3_on 52 = .ok (.iload_n 2, 1) := by decide +kernel
theorem dX3_on_53 : decode cX3_on 53 = .ok (.invokevirtual 139, 3) := by decide +kernel
theorem dX3_on_56 : decode cX3_on 56 = .ok (.iload_n 3, 1) := by decide +kernel
theorem dX3_on_57 : decode cX3_on 57 = .ok (.ifCond .ne 13, 3) := by decide +kernel
theorem dX3_on_60 : decode cX3_on 60 = .ok (.aload_n 0, 1) := by decide +kernel
theorem dX3_on_61 : decode cX3_on 61 = .ok (.getfield 16, 3) := by decide +kernel
theorem dX3_on_64 : decode cX3_on 64 = .ok (.getfield 120, 3) := by decide +kernel
theorem dX3_on_67 : decode cX3_on 67 = .ok (.iload_n 1, 1) := by decide +kernel
theorem dX3_on_68 : decode cX3_on 68 = .ok (.iaload, 1) := by decide +kernel
theorem dX3_on_69 : decode cX3_on 69 = .ok (.ireturn, 1) := by decide +kernel
theorem dX3_on_70 : decode cX3_on 70 = .ok (.iload_n 3, 1) := by decide +kernel
theorem dX3_on_71 : decode cX3_on 71 = .ok (.iconst 1, 1) := by decide +kernel
theorem dX3_on_72 : decode cX3_on 72 = .ok (.if_icmp .ne 15, 3) := by decide +kernel
theorem dX3_on_75 : decode cX3_on 75 = .ok (.aload_n 0, 1) := by decide +kernel
theorem dX3_on_76 : decode cX3_on 76 = .ok (.getfield 16, 3) := by decide +kernel
theorem dX3_on_79 : decode cX3_on 79 = .ok (.getfield 110, 3) := by decide +kernel
theorem dX3_on_82 : decode cX3_on 82 = .ok (.iload_n 1, 1) := by decide +kernel
theorem dX3_on_83 : decode cX3_on 83 = .ok (.iaload, 1) := by decide +kernel
theorem dX3_on_84 : decode cX3_on 84 = .ok (.goto 12, 3) := by decide +kernel
theorem dX3_on_87 : decode cX3_on 87 = .ok (.aload_n 0, 1) := by decide +kernel
theorem dX3_on_88 : decode cX3_on 88 = .ok (.getfield 16, 3) := by decide +kernel
theorem dX3_on_91 : decode cX3_on 91 = .ok (.getfield 152, 3) := by decide +kernel
theorem dX3_on_94 : decode cX3_on 94 = .ok (.iload_n 1, 1) := by decide +kernel
theorem dX3_on_95 : decode cX3_on 95 = .ok (.iaload, 1) := by decide +kernel
theorem dX3_on_96 : decode cX3_on 96 = .ok (.ireturn, 1) := by decide +kernel
theorem dX3_meet_0 : decode cX3_meet 0 = .ok (.aload_n 0, 1) := by decide +kernel
theorem dX3_meet_1 : decode cX3_meet 1 = .ok (.iload_n 1, 1) := by decide +kernel
theorem dX3_meet_2 : decode cX3_meet 2 = .ok (.iload_n 2, 1) := by decide +kernel
theorem dX3_meet_3 : decode cX3_meet 3 = .ok (.invokevirtual 117, 3) := by decide +kernel
theorem dX3_meet_6 : decode cX3_meet 6 = .ok (.ifCond .ne 10, 3) := by decide +kernel
theorem dX3_meet_9 : decode cX3_meet 9 = .ok (.aload_n 0, 1) := by decide +kernel
theorem dX3_meet_10 : decode cX3_meet 10 = .ok (.ldc 45, 2) := by decide +kernel
theorem dX3_meet_12 : decode cX3_meet 12 = .ok (.invokevirtual 46, 3) := by decide +kernel
theorem dX3_meet_15 : decode cX3_meet 15 = .ok (.ireturn, 1) := by decide +kernel
theorem dX3_meet_16 : decode cX3_meet 16 = .ok (.aload_n 0, 1) := by decide +kernel
theorem dX3_meet_17 : decode cX3_meet 17 = .ok (.aload_n 0, 1) := by decide +kernel
theorem dX3_meet_18 : decode cX3_meet 18 = .ok (.iconst 0, 1) := by decide +kernel
theorem dX3_meet_19 : decode cX3_meet 19 = .ok (.iload_n 1, 1) := by decide +kernel
theorem dX3_meet_20 : decode cX3_meet 20 = .ok (.iload_n 2, 1) := by decide +kernel
theorem dX3_meet_21 : decode cX3_meet 21 = .ok (.invokevirtual 155, 3) := by decide +kernel
theorem dX3_meet_24 : decode cX3_meet 24 = .ok (.invokevirtual 159, 3) := by decide +kernel
theorem dX3_meet_27 : decode cX3_meet 27 = .ok (.ireturn, 1) := by decide +kernel
theorem dX3_when_0 : decode cX3_when 0 = .ok (.aload_n 0, 1) := by decide +kernel
theorem dX3_when_1 : decode cX3_when 1 = .ok (.getfield 10, 3) := by decide +kernel
theorem dX3_when_4 : decode cX3_when 4 = .ok (.iload_n 1, 1) := by decide +kernel
theorem dX3_when_5 : decode cX3_when 5 = .ok (.invokevirtual 76, 3) := by decide +kernel
theorem dX3_when_8 : decode cX3_when 8 = .ok (.ifCond .ne 10, 3) := by decide +kernel
theorem dX3_when_11 : decode cX3_when 11 = .ok (.aload_n 0, 1) := by decide +kernel
theorem dX3_when_12 : decode cX3_when 12 = .ok (.ldc 45, 2) := by decide +kernel
theorem dX3_when_14 : decode cX3_when 14 = .ok (.invokevirtual 46, 3) := by decide +kernel
theorem dX3_when_17 : decode cX3_when 17 = .ok (.ireturn, 1) := by decide +kernel
theorem dX3_when_18 : decode cX3_when 18 = .ok (.aload_n 0, 1) := by decide +kernel
theorem dX3_when_19 : decode cX3_when 19 = .ok (.aload_n 0, 1) := by decide +kernel
theorem dX3_when_20 : decode cX3_when 20 = .ok (.iconst 0, 1) := by decide +kernel
theorem dX3_when_21 : decode cX3_when 21 = .ok (.iload_n 1, 1) := by decide +kernel
theorem dX3_when_22 : decode cX3_when 22 = .ok (.bipush (-2), 2) := by decide +kernel
theorem dX3_when_24 : decode cX3_when 24 = .ok (.invokevirtual 155, 3) := by decide +kernel
theorem dX3_when_27 : decode cX3_when 27 = .ok (.invokevirtual 159, 3) := by decide +kernel
theorem dX3_when_30 : decode cX3_when 30 = .ok (.ireturn, 1) := by decide +kernel
theorem dX3_till_0 : decode cX3_till 0 = .ok (.aload_n 0, 1) := by decide +kernel
theorem dX3_till_1 : decode cX3_till 1 = .ok (.getfield 10, 3) := by decide +kernel
theorem dX3_till_4 : decode cX3_till 4 = .ok (.iload_n 1, 1) := by decide +kernel
theorem dX3_till_5 : decode cX3_till 5 = .ok (.invokevirtual 76, 3) := by decide +kernel
theorem dX3_till_8 : decode cX3_till 8 = .ok (.ifCond .ne 10, 3) := by decide +kernel
theorem dX3_till_11 : decode cX3_till 11 = .ok (.aload_n 0, 1) := by decide +kernel
theorem dX3_till_12 : decode cX3_till 12 = .ok (.ldc 45, 2) := by decide +kernel
theorem dX3_till_14 : decode cX3_till 14 = .ok (.invokevirtual 46, 3) := by decide +kernel
theorem dX3_till_17 : decode cX3_till 17 = .ok (.ireturn, 1) := by decide +kernel
theorem dX3_till_18 : decode cX3_till 18 = .ok (.aload_n 0, 1) := by decide +kernel
theorem dX3_till_19 : decode cX3_till 19 = .ok (.aload_n 0, 1) := by decide +kernel
theorem dX3_till_20 : decode cX3_till 20 = .ok (.iconst 1, 1) := by decide +kernel
theorem dX3_till_21 : decode cX3_till 21 = .ok (.iload_n 1, 1) := by decide +kernel
theorem dX3_till_22 : decode cX3_till 22 = .ok (.bipush (-2), 2) := by decide +kernel
theorem dX3_till_24 : decode cX3_till 24 = .ok (.invokevirtual 155, 3) := by decide +kernel
theorem dX3_till_27 : decode cX3_till 27 = .ok (.invokevirtual 159, 3) := by decide +kernel
theorem dX3_till_30 : decode cX3_till 30 = .ok (.ireturn, 1) := by decide +kernel
theorem dX3_glad_0 : decode cX3_glad 0 = .ok (.aload_n 0, 1) := by decide +kernel
theorem dX3_glad_1 : decode cX3_glad 1 = .ok (.getfield 10, 3) := by decide +kernel
theorem dX3_glad_4 : decode cX3_glad 4 = .ok (.iload_n 1, 1) := by decide +kernel
theorem dX3_glad_5 : decode cX3_glad 5 = .ok (.invokevirtual 76, 3) := by decide +kernel
theorem dX3_glad_8 : decode cX3_glad 8 = .ok (.ifCond .ne 10, 3) := by decide +kernel
theorem dX3_glad_11 : decode cX3_glad 11 = .ok (.aload_n 0, 1) := by decide +kernel
theorem dX3_glad_12 : decode cX3_glad 12 = .ok (.ldc 45, 2) := by decide +kernel
theorem dX3_glad_14 : decode cX3_glad 14 = .ok (.invokevirtual 46, 3) := by decide +kernel
theorem dX3_glad_17 : decode cX3_glad 17 = .ok (.ireturn, 1) := by decide +kernel
theorem dX3_glad_18 : decode cX3_glad 18 = .ok (.aload_n 0, 1) := by decide +kernel
theorem dX3_glad_19 : decode cX3_glad 19 = .ok (.aload_n 0, 1) := by decide +kernel
theorem dX3_glad_20 : decode cX3_glad 20 = .ok (.iconst 2, 1) := by decide +kernel
theorem dX3_glad_21 : decode cX3_glad 21 = .ok (.iload_n 1, 1) := by decide +kernel
theorem dX3_glad_22 : decode cX3_glad 22 = .ok (.bipush (-2), 2) := by decide +kernel
theorem dX3_glad_24 : decode cX3_glad 24 = .ok (.invokevirtual 155, 3) := by decide +kernel
theorem dX3_glad_27 : decode cX3_glad 27 = .ok (.invokevirtual 159, 3) := by decide +kernel
theorem dX3_glad_30 : decode cX3_glad 30 = .ok (.ireturn, 1) := by decide +kernel
theorem dX3_heading_0 : decode cX3_heading 0 = .ok (.aload_n 0, 1) := by decide +kernel
theorem dX3_heading_1 : decode cX3_heading 1 = .ok (.iload_n 1, 1) := by decide +kernel
theorem dX3_heading_2 : decode cX3_heading 2 = .ok (.iload_n 2, 1) := by decide +kernel
theorem dX3_heading_3 : decode cX3_heading 3 = .ok (.invokevirtual 117, 3) := by decide +kernel
theorem dX3_heading_6 : decode cX3_heading 6 = .ok (.ifCond .ne 10, 3) := by decide +kernel
theorem dX3_heading_9 : decode cX3_heading 9 = .ok (.aload_n 0, 1) := by decide +kernel
theorem dX3_heading_10 : decode cX3_heading 10 = .ok (.ldc 45, 2) := by decide +kernel
theorem dX3_heading_12 : decode cX3_heading 12 = .ok (.invokevirtual 46, 3) := by decide +kernel
theorem dX3_heading_15 : decode cX3_heading 15 = .ok (.ireturn, 1) := by decide +kernel
theorem dX3_heading_16 : decode cX3_heading 16 = .ok (.aload_n 0, 1) := by decide +kernel
theorem dX3_heading_17 : decode cX3_heading 17 = .ok (.aload_n 0, 1) := by decide +kernel
theorem dX3_heading_18 : decode cX3_heading 18 = .ok (.iconst 0, 1) := by decide +kernel
theorem dX3_heading_19 : decode cX3_heading 19 = .ok (.iconst 4, 1) := by decide +kernel
theorem dX3_heading_20 : decode cX3_heading 20 = .ok (.bipush 100, 2) := by decide +kernel
theorem dX3_heading_22 : decode cX3_heading 22 = .ok (.iload_n 1, 1) := by decide +kernel
theorem dX3_heading_23 : decode cX3_heading 23 = .ok (.iload_n 2, 1) := by decide +kernel
theorem dX3_heading_24 : decode cX3_heading 24 = .ok (.invokevirtual 162, 3) := by decide +kernel
theorem dX3_heading_27 : decode cX3_heading 27 = .ok (.invokevirtual 159, 3) := by decide +kernel
theorem dX3_heading_30 : decode cX3_heading 30 = .ok (.ireturn, 1) := by decide +kernel
theorem dX3_begin_0 : decode cX3_begin 0 = .ok (.aload_n 0, 1) := by decide +kernel
theorem dX3_begin_1 : decode cX3_begin 1 = .ok (.iload_n 1, 1) := by decide +kernel
theorem dX3_begin_2 : decode cX3_begin 2 = .ok (.iload_n 2, 1) := by decide +kernel
theorem dX3_begin_3 : decode cX3_begin 3 = .ok (.invokevirtual 117, 3) := by decide +kernel
theorem dX3_begin_6 : decode cX3_begin 6 = .ok (.ifCond .ne 10, 3) := by decide +kernel
theorem dX3_begin_9 : decode cX3_begin 9 = .ok (.aload_n 0, 1) := by decide +kernel
theorem dX3_begin_10 : decode cX3_begin 10 = .ok (.ldc 45, 2) := by decide +kernel
theorem dX3_begin_12 : decode cX3_begin 12 = .ok (.invokevirtual 46, 3) := by decide +kernel
theorem dX3_begin_15 : decode cX3_begin 15 = .ok (.ireturn, 1) := by decide +kernel
theorem dX3_begin_16 : decode cX3_begin 16 = .ok (.aload_n 0, 1) := by decide +kernel
theorem dX3_begin_17 : decode cX3_begin 17 = .ok (.aload_n 0, 1) := by decide +kernel
theorem dX3_begin_18 : decode cX3_begin 18 = .ok (.iconst 1, 1) := by decide +kernel
theorem dX3_begin_19 : decode cX3_begin 19 = .ok (.bipush 36, 2) := by decide +kernel
theorem dX3_begin_21 : decode cX3_begin 21 = .ok (.bipush 30, 2) := by decide +kernel
theorem dX3_begin_23 : decode cX3_begin 23 = .ok (.iload_n 1, 1) := by decide +kernel
theorem dX3_begin_24 : decode cX3_begin 24 = .ok (.iload_n 2, 1) := by decide +kernel
theorem dX3_begin_25 : decode cX3_begin 25 = .ok (.invokevirtual 162, 3) := by decide +kernel
theorem dX3_begin_28 : decode cX3_begin 28 = .ok (.invokevirtual 159, 3) := by decide +kernel
theorem dX3_begin_31 : decode cX3_begin 31 = .ok (.ireturn, 1) := by decide +kernel
theorem dX3_kind_0 : decode cX3_kind 0 = .ok (.aload_n 0, 1) := by decide +kernel
theorem dX3_kind_1 : decode cX3_kind 1 = .ok (.getfield 10, 3) := by decide +kernel
theorem dX3_kind_4 : decode cX3_kind 4 = .ok (.iload_n 1, 1) := by decide +kernel
theorem dX3_kind_5 : decode cX3_kind 5 = .ok (.invokevirtual 76, 3) := by decide +kernel
theorem dX3_kind_8 : decode cX3_kind 8 = .ok (.ifCond .ne 10, 3) := by decide +kernel
theorem dX3_kind_11 : decode cX3_kind 11 = .ok (.aload_n 0, 1) := by decide +kernel
theorem dX3_kind_12 : decode cX3_kind 12 = .ok (.ldc 45, 2) := by decide +kernel
theorem dX3_kind_14 : decode cX3_kind 14 = .ok (.invokevirtual 46, 3) := by decide +kernel
theorem dX3_kind_17 : decode cX3_kind 17 = .ok (.ireturn, 1) := by decide +kernel
theorem dX3_kind_18 : decode cX3_kind 18 = .ok (.aload_n 0, 1) := by decide +kernel
theorem dX3_kind_19 : decode cX3_kind 19 = .ok (.aload_n 0, 1) := by decide +kernel
theorem dX3_kind_20 : decode cX3_kind 20 = .ok (.iconst 2, 1) := by decide +kernel
theorem dX3_kind_21 : decode cX3_kind 21 = .ok (.bipush 6, 2) := by decide +kernel
theorem dX3_kind_23 : decode cX3_kind 23 = .ok (.bipush 100, 2) := by decide +kernel
theorem dX3_kind_25 : decode cX3_kind 25 = .ok (.iload_n 1, 1) := by decide +kernel
theorem dX3_kind_26 : decode cX3_kind 26 = .ok (.bipush (-2), 2) := by decide +kernel
theorem dX3_kind_28 : decode cX3_kind 28 = .ok (.invokevirtual 162, 3) := by decide +kernel
theorem dX3_kind_31 : decode cX3_kind 31 = .ok (.invokevirtual 159, 3) := by decide +kernel
theorem dX3_kind_34 : decode cX3_kind 34 = .ok (.ireturn, 1) := by decide +kernel
theorem dX3_hour_0 : decode cX3_hour 0 = .ok (.aload_n 0, 1) := by decide +kernel
theorem dX3_hour_1 : decode cX3_hour 1 = .ok (.iload_n 1, 1) := by decide +kernel
theorem dX3_hour_2 : decode cX3_hour 2 = .ok (.iload_n 2, 1) := by decide +kernel
theorem dX3_hour_3 : decode cX3_hour 3 = .ok (.invokevirtual 117, 3) := by decide +kernel
theorem dX3_hour_6 : decode cX3_hour 6 = .ok (.ifCond .ne 10, 3) := by decide +kernel
theorem dX3_hour_9 : decode cX3_hour 9 = .ok (.aload_n 0, 1) := by decide +kernel
theorem dX3_hour_10 : decode cX3_hour 10 = .ok (.ldc 45, 2) := by decide +kernel
theorem dX3_hour_12 : decode cX3_hour 12 = .ok (.invokevirtual 46, 3) := by decide +kernel
theorem dX3_hour_15 : decode cX3_hour 15 = .ok (.ireturn, 1) := by decide +kernel
theorem dX3_hour_16 : decode cX3_hour 16 = .ok (.aload_n 0, 1) := by decide +kernel
theorem dX3_hour_17 : decode cX3_hour 17 = .ok (.aload_n 0, 1) := by decide +kernel
theorem dX3_hour_18 : decode cX3_hour 18 = .ok (.iconst 3, 1) := by decide +kernel
theorem dX3_hour_19 : decode cX3_hour 19 = .ok (.bipush 24, 2) := by decide +kernel
theorem dX3_hour_21 : decode cX3_hour 21 = .ok (.bipush 60, 2) := by decide +kernel
theorem dX3_hour_23 : decode cX3_hour 23 = .ok (.iload_n 1, 1) := by decide +kernel
theorem dX3_hour_24 : decode cX3_hour 24 = .ok (.iload_n 2, 1) := by decide +kernel
theorem dX3_hour_25 : decode cX3_hour 25 = .ok (.invokevirtual 162, 3) := by decide +kernel
theorem dX3_hour_28 : decode cX3_hour 28 = .ok (.invokevirtual 159, 3) := by decide +kernel
theorem dX3_hour_31 : decode cX3_hour 31 = .ok (.ireturn, 1) := by decide +kernel
theorem dX3_hope_0 : decode cX3_hope 0 = .ok (.aload_n 0, 1) := by decide +kernel
theorem dX3_hope_1 : decode cX3_hope 1 = .ok (.getfield 10, 3) := by decide +kernel
theorem dX3_hope_4 : decode cX3_hope 4 = .ok (.iload_n 1, 1) := by decide +kernel
theorem dX3_hope_5 : decode cX3_hope 5 = .ok (.invokevirtual 76, 3) := by decide +kernel
theorem dX3_hope_8 : decode cX3_hope 8 = .ok (.ifCond .eq 13, 3) := by decide +kernel
theorem dX3_hope_11 : decode cX3_hope 11 = .ok (.iload_n 2, 1) := by decide +kernel
theorem dX3_hope_12 : decode cX3_hope 12 = .ok (.ifCond .lt 9, 3) := by decide +kernel
theorem dX3_hope_15 : decode cX3_hope 15 = .ok (.iload_n 2, 1) := by decide +kernel
theorem dX3_hope_16 : decode cX3_hope 16 = .ok (.bipush 60, 2) := by decide +kernel
theorem dX3_hope_18 : decode cX3_hope 18 = .ok (.if_icmp .le 10, 3) := by decide +kernel
theorem dX3_hope_21 : decode cX3_hope 21 = .ok (.aload_n 0, 1) := by decide +kernel
theorem dX3_hope_22 : decode cX3_hope 22 = .ok (.ldc 45, 2) := by decide +kernel
theorem dX3_hope_24 : decode cX3_hope 24 = .ok (.invokevirtual 46, 3) := by decide +kernel
theorem dX3_hope_27 : decode cX3_hope 27 = .ok (.ireturn, 1) := by decide +kernel
theorem dX3_hope_28 : decode cX3_hope 28 = .ok (.aload_n 0, 1) := by decide +kernel
theorem dX3_hope_29 : decode cX3_hope 29 = .ok (.iconst 4, 1) := by decide +kernel
theorem dX3_hope_30 : decode cX3_hope 30 = .ok (.bipush 16, 2) := by decide +kernel
theorem dX3_hope_32 : decode cX3_hope 32 = .ok (.iload_n 2, 1) := by decide +kernel
theorem dX3_hope_33 : decode cX3_hope 33 = .ok (.iload_n 1, 1) := by decide +kernel
theorem dX3_hope_34 : decode cX3_hope 34 = .ok (.invokevirtual 166, 3) := by decide +kernel
theorem dX3_hope_37 : decode cX3_hope 37 = .ok (.ireturn, 1) := by decide +kernel
theorem dX3_more_0 : decode cX3_more 0 = .ok (.iload_n 1, 1) := by decide +kernel
theorem dX3_more_1 : decode cX3_more 1 = .ok (.ifCond .lt 9, 3) := by decide +kernel
theorem dX3_more_4 : decode cX3_more 4 = .ok (.iload_n 1, 1) := by decide +kernel
theorem dX3_more_5 : decode cX3_more 5 = .ok (.bipush 60, 2) := by decide +kernel
theorem dX3_more_7 : decode cX3_more 7 = .ok (.if_icmp .le 10, 3) := by decide +kernel
theorem dX3_more_10 : decode cX3_more 10 = .ok (.aload_n 0, 1) := by decide +kernel
theorem dX3_more_11 : decode cX3_more 11 = .ok (.ldc 45, 2) := by decide +kernel
theorem dX3_more_13 : decode cX3_more 13 = .ok (.invokevirtual 46, 3) := by decide +kernel
theorem dX3_more_16 : decode cX3_more 16 = .ok (.ireturn, 1) := by decide +kernel
theorem dX3_more_17 : decode cX3_more 17 = .ok (.aload_n 0, 1) := by decide +kernel
theorem dX3_more_18 : decode cX3_more 18 = .ok (.iconst 5, 1) := by decide +kernel
theorem dX3_more_19 : decode cX3_more 19 = .ok (.bipush 24, 2) := by decide +kernel
theorem dX3_more_21 : decode cX3_more 21 = .ok (.iload_n 1, 1) := by decide +kernel
theorem dX3_more_22 : decode cX3_more 22 = .ok (.iconst (-1), 1) := by decide +kernel
theorem dX3_more_23 : decode cX3_more 23 = .ok (.invokevirtual 166, 3) := by decide +kernel
theorem dX3_more_26 : decode cX3_more 26 = .ok (.ireturn, 1) := by decide +kernel
theorem dX3_best_0 : decode cX3_best 0 = .ok (.iload_n 1, 1) := by decide +kernel
theorem dX3_best_1 : decode cX3_best 1 = .ok (.ifCond .lt 9, 3) := by decide +kernel
theorem dX3_best_4 : decode cX3_best 4 = .ok (.iload_n 1, 1) := by decide +kernel
theorem dX3_best_5 : decode cX3_best 5 = .ok (.bipush 30, 2) := by decide +kernel
theorem dX3_best_7 : decode cX3_best 7 = .ok (.if_icmp .le 10, 3) := by decide +kernel
theorem dX3_best_10 : decode cX3_best 10 = .ok (.aload_n 0, 1) := by decide +kernel
theorem dX3_best_11 : decode cX3_best 11 = .ok (.ldc 45, 2) := by decide +kernel
theorem dX3_best_13 : decode cX3_best 13 = .ok (.invokevirtual 46, 3) := by decide +kernel
theorem dX3_best_16 : decode cX3_best 16 = .ok (.ireturn, 1) := by decide +kernel
theorem dX3_best_17 : decode cX3_best 17 = .ok (.aload_n 0, 1) := by decide +kernel
theorem dX3_best_18 : decode cX3_best 18 = .ok (.bipush 6, 2) := by decide +kernel
theorem dX3_best_20 : decode cX3_best 20 = .ok (.bipush 36, 2) := by decide +kernel
theorem dX3_best_22 : decode cX3_best 22 = .ok (.iload_n 1, 1) := by decide +kernel
theorem dX3_best_23 : decode cX3_best 23 = .ok (.iconst (-1), 1) := by decide +kernel
theorem dX3_best_24 : decode cX3_best 24 = .ok (.invokevirtual 166, 3) := by decide +kernel
theorem dX3_best_27 : decode cX3_best 27 = .ok (.ireturn, 1) := by decide +kernel
theorem dX3_feed_0 : decode cX3_feed 0 = .ok (.iload_n 2, 1) := by decide +kernel
theorem dX3_feed_1 : decode cX3_feed 1 = .ok (.iconst 1, 1) := by decide +kernel
theorem dX3_feed_2 : decode cX3_feed 2 = .ok (.if_icmp .lt 8, 3) := by decide +kernel
theorem dX3_feed_5 : decode cX3_feed 5 = .ok (.iload_n 2, 1) := by decide +kernel
theorem dX3_feed_6 : decode cX3_feed 6 = .ok (.iconst 4, 1) := by decide +kernel
theorem dX3_feed_7 : decode cX3_feed 7 = .ok (.if_icmp .le 10, 3) := by decide +kernel
theorem dX3_feed_10 : decode cX3_feed 10 = .ok (.aload_n 0, 1) := by decide +kernel
theorem dX3_feed_11 : decode cX3_feed 11 = .ok (.ldc 45, 2) := by decide +kernel
theorem dX3_feed_13 : decode cX3_feed 13 = .ok (.invokevirtual 46, 3) := by decide +kernel
theorem dX3_feed_16 : decode cX3_feed 16 = .ok (.ireturn, 1) := by decide +kernel
theorem dX3_feed_17 : decode cX3_feed 17 = .ok (.aload_n 0, 1) := by decide +kernel
theorem dX3_feed_18 : decode cX3_feed 18 = .ok (.getfield 29, 3) := by decide +kernel
theorem dX3_feed_21 : decode cX3_feed 21 = .ok (.getfield 170, 3) := by decide +kernel
theorem dX3_feed_24 : decode cX3_feed 24 = .ok (.bipush 120, 2) := by decide +kernel
theorem dX3_feed_26 : decode cX3_feed 26 = .ok (.iload_n 2, 1) := by decide +kernel
theorem dX3_feed_27 : decode cX3_feed 27 = .ok (.isub, 1) := by decide +kernel
theorem dX3_feed_28 : decode cX3_feed 28 = .ok (.if_icmp .le 10, 3) := by decide +kernel
theorem dX3_feed_31 : decode cX3_feed 31 = .ok (.aload_n 0, 1) := by decide +kernel
theorem dX3_feed_32 : decode cX3_feed 32 = .ok (.ldc 71, 2) := by decide +kernel
theorem dX3_feed_34 : decode cX3_feed 34 = .ok (.invokevirtual 46, 3) := by decide +kernel
theorem dX3_feed_37 : decode cX3_feed 37 = .ok (.ireturn, 1) := by decide +kernel
theorem dX3_feed_38 : decode cX3_feed 38 = .ok (.aload_n 0, 1) := by decide +kernel
theorem dX3_feed_39 : decode cX3_feed 39 = .ok (.getfield 29, 3) := by decide +kernel
theorem dX3_feed_42 : decode cX3_feed 42 = .ok (.iload_n 1, 1) := by decide +kernel
theorem dX3_feed_43 : decode cX3_feed 43 = .ok (.iload_n 2, 1) := by decide +kernel
theorem dX3_feed_44 : decode cX3_feed 44 = .ok (.invokevirtual 173, 3) := by decide +kernel
theorem dX3_feed_47 : decode cX3_feed 47 = .ok (.aload_n 0, 1) := by decide +kernel
theorem dX3_feed_48 : decode cX3_feed 48 = .ok (.getfield 29, 3) := by decide +kernel
theorem dX3_feed_51 : decode cX3_feed 51 = .ok (.getfield 170, 3) := by decide +kernel
theorem dX3_feed_54 : decode cX3_feed 54 = .ok (.ireturn, 1) := by decide +kernel
theorem dX3_wipe_0 : decode cX3_wipe 0 = .ok (.aload_n 0, 1) := by decide +kernel
theorem dX3_wipe_1 : decode cX3_wipe 1 = .ok (.getfield 29, 3) := by decide +kernel
theorem dX3_wipe_4 : decode cX3_wipe 4 = .ok (.getfield 170, 3) := by decide +kernel
theorem dX3_wipe_7 : decode cX3_wipe 7 = .ok (.istore_n 1, 1) := by decide +kernel
theorem dX3_wipe_8 : decode cX3_wipe 8 = .ok (.aload_n 0, 1) := by decide +kernel
theorem dX3_wipe_9 : decode cX3_wipe 9 = .ok (.getfield 29, 3) := by decide +kernel
theorem dX3_wipe_12 : decode cX3_wipe 12 = .ok (.iconst 0, 1) := by decide +kernel
theorem dX3_wipe_13 : decode cX3_wipe 13 = .ok (.putfield 170, 3) := by decide +kernel
theorem dX3_wipe_16 : decode cX3_wipe 16 = .ok (.iload_n 1, 1) := by decide +kernel
theorem dX3_wipe_17 : decode cX3_wipe 17 = .ok (.ireturn, 1) := by decide +kernel
theorem dX3_moor_0 : decode cX3_moor 0 = .ok (.aload_n 0, 1) := by decide +kernel
theorem dX3_moor_1 : decode cX3_moor 1 = .ok (.getfield 16, 3) := by decide +kernel
theorem dX3_moor_4 : decode cX3_moor 4 = .ok (.aload_n 0, 1) := by decide +kernel
theorem dX3_moor_5 : decode cX3_moor 5 = .ok (.getfield 10, 3) := by decide +kernel
theorem dX3_moor_8 : decode cX3_moor 8 = .ok (.invokevirtual 148, 3) := by decide +kernel
theorem dX3_moor_11 : decode cX3_moor 11 = .ok (.aload_n 0, 1) := by decide +kernel
theorem dX3_moor_12 : decode cX3_moor 12 = .ok (.getfield 29, 3) := by decide +kernel
theorem dX3_moor_15 : decode cX3_moor 15 = .ok (.aload_n 0, 1) := by decide +kernel
theorem dX3_moor_16 : decode cX3_moor 16 = .ok (.getfield 16, 3) := by decide +kernel
theorem dX3_moor_19 : decode cX3_moor 19 = .ok (.invokevirtual 176, 3) := by decide +kernel
theorem dX3_moor_22 : decode cX3_moor 22 = .ok (.istore_n 1, 1) := by decide +kernel
theorem dX3_moor_23 : decode cX3_moor 23 = .ok (.aload_n 0, 1) := by decide +kernel
theorem dX3_moor_24 : decode cX3_moor 24 = .ok (.getfield 29, 3) := by decide +kernel
theorem dX3_moor_27 : decode cX3_moor 27 = .ok (.iconst 0, 1) := by decide +kernel
theorem dX3_moor_28 : decode cX3_moor 28 = .ok (.putfield 170, 3) := by decide +kernel
theorem dX3_moor_31 : decode cX3_moor 31 = .ok (.iload_n 1, 1) := by decide +kernel
theorem dX3_moor_32 : decode cX3_moor 32 = .ok (.ifCond .le 14, 3) := by decide +kernel
theorem dX3_moor_35 : decode cX3_moor 35 = .ok (.aload_n 0, 1) := by decide +kernel
theorem dX3_moor_36 : decode cX3_moor 36 = .ok (.getfield 10, 3) := by decide +kernel
theorem dX3_moor_39 : decode cX3_moor 39 = .ok (.aload_n 0, 1) := by decide +kernel
theorem dX3_moor_40 : decode cX3_moor 40 = .ok (.getfield 16, 3) := by decide +kernel
theorem dX3_moor_43 : decode cX3_moor 43 = .ok (.invokevirtual 148, 3) := by decide +kernel
theorem dX3_moor_46 : decode cX3_moor 46 = .ok (.iload_n 1, 1) := by decide +kernel
theorem dX3_moor_47 : decode cX3_moor 47 = .ok (.ireturn, 1) := by decide +kernel
theorem dX3_sheet_0 : decode cX3_sheet 0 = .ok (.iload_n 2, 1) := by decide +kernel
theorem dX3_sheet_1 : decode cX3_sheet 1 = .ok (.ifCond .eq 21, 3) := by decide +kernel
theorem dX3_sheet_4 : decode cX3_sheet 4 = .ok (.iload_n 2, 1) := by decide +kernel
theorem dX3_sheet_5 : decode cX3_sheet 5 = .ok (.bipush 8, 2) := by decide +kernel
theorem dX3_sheet_7 : decode cX3_sheet 7 = .ok (.if_icmp .eq 15, 3) := by decide +kernel
theorem dX3_sheet_10 : decode cX3_sheet 10 = .ok (.iload_n 2, 1) := by decide +kernel
theorem dX3_sheet_11 : decode cX3_sheet 11 = .ok (.bipush 16, 2) := by decide +kernel
theorem dX3_sheet_13 : decode cX3_sheet 13 = .ok (.if_icmp .eq 9, 3) := by decide +kernel
theorem dX3_sheet_16 : decode cX3_sheet 16 = .ok (.iload_n 2, 1) := by decide +kernel
theorem dX3_sheet_17 : decode cX3_sheet 17 = .ok (.bipush 64, 2) := by decide +kernel
theorem dX3_sheet_19 : decode cX3_sheet 19 = .ok (.if_icmp .ne 7, 3) := by decide +kernel
theorem dX3_sheet_22 : decode cX3_sheet 22 = .ok (.iconst 1, 1) := by decide +kernel
theorem dX3_sheet_23 : decode cX3_sheet 23 = .ok (.goto 4, 3) := by decide +kernel
theorem dX3_sheet_26 : decode cX3_sheet 26 = .ok (.iconst 0, 1) := by decide +kernel
theorem dX3_sheet_27 : decode cX3_sheet 27 = .ok (.istore 4, 2) := by decide +kernel
theorem dX3_sheet_29 : decode cX3_sheet 29 = .ok (.aload_n 0, 1) := by decide +kernel
theorem dX3_sheet_30 : decode cX3_sheet 30 = .ok (.iload_n 1, 1) := by decide +kernel
theorem dX3_sheet_31 : decode cX3_sheet 31 = .ok (.invokevirtual 180, 3) := by decide +kernel
theorem dX3_sheet_34 : decode cX3_sheet 34 = .ok (.astore 5, 2) := by decide +kernel
theorem dX3_sheet_36 : decode cX3_sheet 36 = .ok (.aload 5, 2) := by decide +kernel
theorem dX3_sheet_38 : decode cX3_sheet 38 = .ok (.ifnull 8, 3) := by decide +kernel
theorem dX3_sheet_41 : decode cX3_sheet 41 = .ok (.iload 4, 2) := by decide +kernel
theorem dX3_sheet_43 : decode cX3_sheet 43 = .ok (.ifCond .ne 10, 3) := by decide +kernel
theorem dX3_sheet_46 : decode cX3_sheet 46 = .ok (.aload_n 0, 1) := by decide +kernel
theorem dX3_sheet_47 : decode cX3_sheet 47 = .ok (.ldc 45, 2) := by decide +kernel
theorem dX3_sheet_49 : decode cX3_sheet 49 = .ok (.invokevirtual 46, 3) := by decide +kernel
theorem dX3_sheet_52 : decode cX3_sheet 52 = .ok (.ireturn, 1) := by decide +kernel
theorem dX3_sheet_53 : decode cX3_sheet 53 = .ok (.iload_n 3, 1) := by decide +kernel
theorem dX3_sheet_54 : decode cX3_sheet 54 = .ok (.ifCond .ge 10, 3) := by decide +kernel
theorem dX3_sheet_57 : decode cX3_sheet 57 = .ok (.aload_n 0, 1) := by decide +kernel
theorem dX3_sheet_58 : decode cX3_sheet 58 = .ok (.ldc 184, 2) := by decide +kernel
theorem dX3_sheet_60 : decode cX3_sheet 60 = .ok (.invokevirtual 46, 3) := by decide +kernel
theorem dX3_sheet_63 : decode cX3_sheet 63 = .ok (.ireturn, 1) := by decide +kernel
theorem dX3_sheet_64 : decode cX3_sheet 64 = .ok (.iload_n 3, 1) := by decide +kernel
theorem dX3_sheet_65 : decode cX3_sheet 65 = .ok (.bipush 40, 2) := by decide +kernel
theorem dX3_sheet_67 : decode cX3_sheet 67 = .ok (.if_icmp .le 10, 3) := by decide +kernel
theorem dX3_sheet_70 : decode cX3_sheet 70 = .ok (.aload_n 0, 1) := by decide +kernel
theorem dX3_sheet_71 : decode cX3_sheet 71 = .ok (.ldc 45, 2) := by decide +kernel
theorem dX3_sheet_73 : decode cX3_sheet 73 = .ok (.invokevirtual 46, 3) := by decide +kernel
theorem dX3_sheet_76 : decode cX3_sheet 76 = .ok (.ireturn, 1) := by decide +kernel
theorem dX3_sheet_77 : decode cX3_sheet 77 = .ok (.aload 5, 2) := by decide +kernel
theorem dX3_sheet_79 : decode cX3_sheet 79 = .ok (.iload_n 2, 1) := by decide +kernel
theorem dX3_sheet_80 : decode cX3_sheet 80 = .ok (.iload_n 3, 1) := by decide +kernel
theorem dX3_sheet_81 : decode cX3_sheet 81 = .ok (.invokevirtual 185, 3) := by decide +kernel
theorem dX3_sheet_84 : decode cX3_sheet 84 = .ok (.aload 5, 2) := by decide +kernel
theorem dX3_sheet_86 : decode cX3_sheet 86 = .ok (.getfield 188, 3) := by decide +kernel
theorem dX3_sheet_89 : decode cX3_sheet 89 = .ok (.ireturn, 1) := by decide +kernel
theorem dX3_write_0 : decode cX3_write 0 = .ok (.aload_n 0, 1) := by decide +kernel
theorem dX3_write_1 : decode cX3_write 1 = .ok (.iload_n 1, 1) := by decide +kernel
theorem dX3_write_2 : decode cX3_write 2 = .ok (.invokevirtual 180, 3) := by decide +kernel
theorem dX3_write_5 : decode cX3_write 5 = .ok (.astore 5, 2) := by decide +kernel
theorem dX3_write_7 : decode cX3_write 7 = .ok (.aload 5, 2) := by decide +kernel
theorem dX3_write_9 : decode cX3_write 9 = .ok (.ifnonnull 11, 3) := by decide +kernel
theorem dX3_write_12 : decode cX3_write 12 = .ok (.aload_n 0, 1) := by decide +kernel
theorem dX3_write_13 : decode cX3_write 13 = .ok (.ldc 45, 2) := by decide +kernel
theorem dX3_write_15 : decode cX3_write 15 = .ok (.invokevirtual 46, 3) := by decide +kernel
theorem dX3_write_18 : decode cX3_write 18 = .ok (.i2l, 1) := by decide +kernel
theorem dX3_write_19 : decode cX3_write 19 = .ok (.lreturn, 1) := by decide +kernel
theorem dX3_write_20 : decode cX3_write 20 = .ok (.aload 5, 2) := by decide +kernel
theorem dX3_write_22 : decode cX3_write 22 = .ok (.invokevirtual 191, 3) := by decide +kernel
theorem dX3_write_25 : decode cX3_write 25 = .ok (.ifCond .eq 11, 3) := by decide +kernel
theorem dX3_write_28 : decode cX3_write 28 = .ok (.aload_n 0, 1) := by decide +kernel
theorem dX3_write_29 : decode cX3_write 29 = .ok (.ldc 194, 2) := by decide +kernel
theorem dX3_write_31 : decode cX3_write 31 = .ok (.invokevirtual 46, 3) := by decide +kernel
theorem dX3_write_34 : decode cX3_write 34 = .ok (.i2l, 1) := by decide +kernel
theorem dX3_write_35 : decode cX3_write 35 = .ok (.lreturn, 1) := by decide +kernel
theorem dX3_write_36 : decode cX3_write 36 = .ok (.iload_n 2, 1) := by decide +kernel
theorem dX3_write_37 : decode cX3_write 37 = .ok (.ifCond .lt 12, 3) := by decide +kernel
theorem dX3_write_40 : decode cX3_write 40 = .ok (.iload_n 2, 1) := by decide +kernel
theorem dX3_write_41 : decode cX3_write 41 = .ok (.aload 5, 2) := by decide +kernel
theorem dX3_write_43 : decode cX3_write 43 = .ok (.getfield 188, 3) := by decide +kernel
theorem dX3_write_46 : decode cX3_write 46 = .ok (.if_icmp .lt 11, 3) := by decide +kernel
theorem dX3_write_49 : decode cX3_write 49 = .ok (.aload_n 0, 1) := by decide +kernel
theorem dX3_write_50 : decode cX3_write 50 = .ok (.ldc 45, 2) := by decide +kernel
theorem dX3_write_52 : decode cX3_write 52 = .ok (.invokevirtual 46, 3) := by decide +kernel
theorem dX3_write_55 : decode cX3_write 55 = .ok (.i2l, 1) := by decide +kernel
theorem dX3_write_56 : decode cX3_write 56 = .ok (.lreturn, 1) := by decide +kernel
theorem dX3_write_57 : decode cX3_write 57 = .ok (.aload 5, 2) := by decide +kernel
theorem dX3_write_59 : decode cX3_write 59 = .ok (.getfield 195, 3) := by decide +kernel
theorem dX3_write_62 : decode cX3_write 62 = .ok (.iload_n 2, 1) := by decide +kernel
theorem dX3_write_63 : decode cX3_write 63 = .ok (.laload, 1) := by decide +kernel
theorem dX3_write_64 : decode cX3_write 64 = .ok (.lstore 6, 2) := by decide +kernel
theorem dX3_write_66 : decode cX3_write 66 = .ok (.aload 5, 2) := by decide +kernel
theorem dX3_write_68 : decode cX3_write 68 = .ok (.iload_n 2, 1) := by decide +kernel
theorem dX3_write_69 : decode cX3_write 69 = .ok (.lload_n 3, 1) := by decide +kernel
theorem dX3_write_70 : decode cX3_write 70 = .ok (.invokevirtual 199, 3) := by decide +kernel
theorem dX3_write_73 : decode cX3_write 73 = .ok (.lload 6, 2) := by decide +kernel
theorem dX3_write_75 : decode cX3_write 75 = .ok (.lreturn, 1) := by decide +kernel
theorem dX3_copy_0 : decode cX3_copy 0 = .ok (.aload_n 0, 1) := by decide +kernel
theorem dX3_copy_1 : decode cX3_copy 1 = .ok (.iload_n 1, 1) := by decide +kernel
theorem dX3_copy_2 : decode cX3_copy 2 = .ok (.invokevirtual 180, 3) := by decide +kernel
theorem dX3_copy_5 : decode cX3_copy 5 = .ok (.astore 6, 2) := by decide +kernel
theorem dX3_copy_7 : decode cX3_copy 7 = .ok (.aload_n 0, 1) := by decide +kernel
theorem dX3_copy_8 : decode cX3_copy 8 = .ok (.iload_n 3, 1) := by decide +kernel
theorem dX3_copy_9 : decode cX3_copy 9 = .ok (.invokevirtual 180, 3) := by decide +kernel
theorem dX3_copy_12 : decode cX3_copy 12 = .ok (.astore 7, 2) := by decide +kernel
theorem dX3_copy_14 : decode cX3_copy 14 = .ok (.aload 6, 2) := by decide +kernel
theorem dX3_copy_16 : decode cX3_copy 16 = .ok (.ifnull 8, 3) := by decide +kernel
theorem dX3_copy_19 : decode cX3_copy 19 = .ok (.aload 7, 2) := by decide +kernel
theorem dX3_copy_21 : decode cX3_copy 21 = .ok (.ifnonnull 10, 3) := by decide +kernel
theorem dX3_copy_24 : decode cX3_copy 24 = .ok (.aload_n 0, 1) := by decide +kernel
theorem dX3_copy_25 : decode cX3_copy 25 = .ok (.ldc 45, 2) := by decide +kernel
theorem dX3_copy_27 : decode cX3_copy 27 = .ok (.invokevirtual 46, 3) := by decide +kernel
theorem dX3_copy_30 : decode cX3_copy 30 = .ok (.ireturn, 1) := by decide +kernel
theorem dX3_copy_31 : decode cX3_copy 31 = .ok (.aload 6, 2) := by decide +kernel
theorem dX3_copy_33 : decode cX3_copy 33 = .ok (.invokevirtual 191, 3) := by decide +kernel
theorem dX3_copy_36 : decode cX3_copy 36 = .ok (.ifCond .ne 11, 3) := by decide +kernel
theorem dX3_copy_39 : decode cX3_copy 39 = .ok (.aload 7, 2) := by decide +kernel
theorem dX3_copy_41 : decode cX3_copy 41 = .ok (.invokevirtual 191, 3) := by decide +kernel
theorem dX3_copy_44 : decode cX3_copy 44 = .ok (.ifCond .eq 10, 3) := by decide +kernel
theorem dX3_copy_47 : decode cX3_copy 47 = .ok (.aload_n 0, 1) := by decide +kernel
theorem dX3_copy_48 : decode cX3_copy 48 = .ok (.ldc 194, 2) := by decide +kernel
theorem dX3_copy_50 : decode cX3_copy 50 = .ok (.invokevirtual 46, 3) := by decide +kernel
theorem dX3_copy_53 : decode cX3_copy 53 = .ok (.ireturn, 1) := by decide +kernel
theorem dX3_copy_54 : decode cX3_copy 54 = .ok (.aload 6, 2) := by decide +kernel
theorem dX3_copy_56 : decode cX3_copy 56 = .ok (.getfield 203, 3) := by decide +kernel
theorem dX3_copy_59 : decode cX3_copy 59 = .ok (.aload 7, 2) := by decide +kernel
theorem dX3_copy_61 : decode cX3_copy 61 = .ok (.getfield 203, 3) := by decide +kernel
theorem dX3_copy_64 : decode cX3_copy 64 = .ok (.if_icmp .eq 10, 3) := by decide +kernel
theorem dX3_copy_67 : decode cX3_copy 67 = .ok (.aload_n 0, 1) := by decide +kernel
theorem dX3_copy_68 : decode cX3_copy 68 = .ok (.ldc 105, 2) := by decide +kernel
theorem dX3_copy_70 : decode cX3_copy 70 = .ok (.invokevirtual 46, 3) := by decide +kernel
theorem dX3_copy_73 : decode cX3_copy 73 = .ok (.ireturn, 1) := by decide +kernel
theorem dX3_copy_74 : decode cX3_copy 74 = .ok (.aload 6, 2) := by decide +kernel
theorem dX3_copy_76 : decode cX3_copy 76 = .ok (.iload_n 2, 1) := by decide +kernel
theorem dX3_copy_77 : decode cX3_copy 77 = .ok (.iload 5, 2) := by decide +kernel
theorem dX3_copy_79 : decode cX3_copy 79 = .ok (.invokevirtual 206, 3) := by decide +kernel
theorem dX3_copy_82 : decode cX3_copy 82 = .ok (.ifCond .eq 15, 3) := by decide +kernel
theorem dX3_copy_85 : decode cX3_copy 85 = .ok (.aload 7, 2) := by decide +kernel
theorem dX3_copy_87 : decode cX3_copy 87 = .ok (.iload 4, 2) := by decide +kernel
theorem dX3_copy_89 : decode cX3_copy 89 = .ok (.iload 5, 2) := by decide +kernel
theorem dX3_copy_91 : decode cX3_copy 91 = .ok (.invokevirtual 206, 3) := by decide +kernel
theorem dX3_copy_94 : decode cX3_copy 94 = .ok (.ifCond .ne 10, 3) := by decide +kernel
theorem dX3_copy_97 : decode cX3_copy 97 = .ok (.aload_n 0, 1) := by decide +kernel
theorem dX3_copy_98 : decode cX3_copy 98 = .ok (.ldc 45, 2) := by decide +kernel
theorem dX3_copy_100 : decode cX3_copy 100 = .ok (.invokevirtual 46, 3) := by decide +kernel
theorem dX3_copy_103 : decode cX3_copy 103 = .ok (.ireturn, 1) := by decide +kernel
theorem dX3_copy_104 : decode cX3_copy 104 = .ok (.aload 6, 2) := by decide +kernel
theorem dX3_copy_106 : decode cX3_copy 106 = .ok (.getfield 195, 3) := by decide +kernel
theorem dX3_copy_109 : decode cX3_copy 109 = .ok (.iload_n 2, 1) := by decide +kernel
theorem dX3_copy_110 : decode cX3_copy 110 = .ok (.aload 7, 2) := by decide +kernel
theorem dX3_copy_112 : decode cX3_copy 112 = .ok (.getfield 195, 3) := by decide +kernel
theorem dX3_copy_115 : decode cX3_copy 115 = .ok (.iload 4, 2) := by decide +kernel
theorem dX3_copy_117 : decode cX3_copy 117 = .ok (.iload 5, 2) := by decide +kernel
theorem dX3_copy_119 : decode cX3_copy 119 = .ok (.invokestatic 209, 3) := by decide +kernel
theorem dX3_copy_122 : decode cX3_copy 122 = .ok (.iload 5, 2) := by decide +kernel
theorem dX3_copy_124 : decode cX3_copy 124 = .ok (.ireturn, 1) := by decide +kernel
theorem dX3_lays_0 : decode cX3_lays 0 = .ok (.aload_n 0, 1) := by decide +kernel
theorem dX3_lays_1 : decode cX3_lays 1 = .ok (.iload_n 1, 1) := by decide +kernel
theorem dX3_lays_2 : decode cX3_lays 2 = .ok (.invokevirtual 180, 3) := by decide +kernel
theorem dX3_lays_5 : decode cX3_lays 5 = .ok (.astore_n 2, 1) := by decide +kernel
theorem dX3_lays_6 : decode cX3_lays 6 = .ok (.aload_n 2, 1) := by decide +kernel
theorem dX3_lays_7 : decode cX3_lays 7 = .ok (.ifnonnull 10, 3) := by decide +kernel
theorem dX3_lays_10 : decode cX3_lays 10 = .ok (.aload_n 0, 1) := by decide +kernel
theorem dX3_lays_11 : decode cX3_lays 11 = .ok (.ldc 45, 2) := by decide +kernel
theorem dX3_lays_13 : decode cX3_lays 13 = .ok (.invokevirtual 46, 3) := by decide +kernel
theorem dX3_lays_16 : decode cX3_lays 16 = .ok (.ireturn, 1) := by decide +kernel
theorem dX3_lays_17 : decode cX3_lays 17 = .ok (.aload_n 2, 1) := by decide +kernel
theorem dX3_lays_18 : decode cX3_lays 18 = .ok (.invokevirtual 191, 3) := by decide +kernel
theorem dX3_lays_21 : decode cX3_lays 21 = .ok (.ifCond .eq 10, 3) := by decide +kernel
theorem dX3_lays_24 : decode cX3_lays 24 = .ok (.aload_n 0, 1) := by decide +kernel
theorem dX3_lays_25 : decode cX3_lays 25 = .ok (.ldc 194, 2) := by decide +kernel
theorem dX3_lays_27 : decode cX3_lays 27 = .ok (.invokevirtual 46, 3) := by decide +kernel
theorem dX3_lays_30 : decode cX3_lays 30 = .ok (.ireturn, 1) := by decide +kernel
theorem dX3_lays_31 : decode cX3_lays 31 = .ok (.iconst 0, 1) := by decide +kernel
theorem dX3_lays_32 : decode cX3_lays 32 = .ok (.istore_n 3, 1) := by decide +kernel
theorem dX3_lays_33 : decode cX3_lays 33 = .ok (.iconst 0, 1) := by decide +kernel
theorem dX3_lays_34 : decode cX3_lays 34 = .ok (.istore 4, 2) := by decide +kernel
theorem dX3_lays_36 : decode cX3_lays 36 = .ok (.iload 4, 2) := by decide +kernel
theorem dX3_lays_38 : decode cX3_lays 38 = .ok (.aload_n 2, 1) := by decide +kernel
theorem dX3_lays_39 : decode cX3_lays 39 = .ok (.getfield 188, 3) := by decide +kernel
theorem dX3_lays_42 : decode cX3_lays 42 = .ok (.if_icmp .ge 62, 3) := by decide +kernel
theorem dX3_lays_45 : decode cX3_lays 45 = .ok (.iload 4, 2) := by decide +kernel
theorem dX3_lays_47 : decode cX3_lays 47 = .ok (.aload_n 0, 1) := by decide +kernel
theorem dX3_lays_48 : decode cX3_lays 48 = .ok (.getfield 10, 3) := by decide +kernel
theorem dX3_lays_51 : decode cX3_lays 51 = .ok (.getfield 215, 3) := by decide +kernel
theorem dX3_lays_54 : decode cX3_lays 54 = .ok (.if_icmp .ge 50, 3) := by decide +kernel
theorem dX3_lays_57 : decode cX3_lays 57 = .ok (.aload_n 2, 1) := by decide +kernel
theorem dX3_lays_58 : decode cX3_lays 58 = .ok (.getfield 195, 3) := by decide +kernel
theorem dX3_lays_61 : decode cX3_lays 61 = .ok (.iload 4, 2) := by decide +kernel
theorem dX3_lays_63 : decode cX3_lays 63 = .ok (.laload, 1) := by decide +kernel
theorem dX3_lays_64 : decode cX3_lays 64 = .ok (.lstore 5, 2) := by decide +kernel
theorem dX3_lays_66 : decode cX3_lays 66 = .ok (.lload 5, 2) := by decide +kernel
theorem dX3_lays_68 : decode cX3_lays 68 = .ok (.lconst 0, 1) := by decide +kernel
theorem dX3_lays_69 : decode cX3_lays 69 = .ok (.lcmp, 1) := by decide +kernel
theorem dX3_lays_70 : decode cX3_lays 70 = .ok (.ifCond .lt 28, 3) := by decide +kernel
theorem dX3_lays_73 : decode cX3_lays 73 = .ok (.lload 5, 2) := by decide +kernel
theorem dX3_lays_75 : decode cX3_lays 75 = .ok (.ldc2_w 218, 3) := by decide +kernel
theorem dX3_lays_78 : decode cX3_lays 78 = .ok (.lcmp, 1) := by decide +kernel
theorem dX3_lays_79 : decode cX3_lays 79 = .ok (.ifCond .ge 19, 3) := by decide +kernel
theorem dX3_lays_82 : decode cX3_lays 82 = .ok (.aload_n 0, 1) := by decide +kernel
theorem dX3_lays_83 : decode cX3_lays 83 = .ok (.getfield 10, 3) := by decide +kernel
theorem dX3_lays_86 : decode cX3_lays 86 = .ok (.getfield 95, 3) := by decide +kernel
theorem dX3_lays_89 : decode cX3_lays 89 = .ok (.iload 4, 2) := by decide +kernel
theorem dX3_lays_91 : decode cX3_lays 91 = .ok (.lload 5, 2) := by decide +kernel
theorem dX3_lays_93 : decode cX3_lays 93 = .ok (.l2i, 1) := by decide +kernel
theorem dX3_lays_94 : decode cX3_lays 94 = .ok (.iastore, 1) := by decide +kernel
theorem dX3_lays_95 : decode cX3_lays 95 = .ok (.iinc 3 1, 3) := by decide +kernel
theorem dX3_lays_98 : decode cX3_lays 98 = .ok (.iinc 4 1, 3) := by decide +kernel
theorem dX3_lays_101 : decode cX3_lays 101 = .ok (.goto (-65), 3) := by decide +kernel
theorem dX3_lays_104 : decode cX3_lays 104 = .ok (.iload_n 3, 1) := by decide +kernel
theorem dX3_lays_105 : decode cX3_lays 105 = .ok (.ireturn, 1) := by decide +kernel
theorem dX3_book_0 : decode cX3_book 0 = .ok (.aload_n 0, 1) := by decide +kernel
theorem dX3_book_1 : decode cX3_book 1 = .ok (.iload_n 1, 1) := by decide +kernel
theorem dX3_book_2 : decode cX3_book 2 = .ok (.iload_n 2, 1) := by decide +kernel
theorem dX3_book_3 : decode cX3_book 3 = .ok (.invokevirtual 220, 3) := by decide +kernel
theorem dX3_book_6 : decode cX3_book 6 = .ok (.istore_n 3, 1) := by decide +kernel
theorem dX3_book_7 : decode cX3_book 7 = .ok (.aload_n 0, 1) := by decide +kernel
theorem dX3_book_8 : decode cX3_book 8 = .ok (.iload_n 1, 1) := by decide +kernel
theorem dX3_book_9 : decode cX3_book 9 = .ok (.invokevirtual 180, 3) := by decide +kernel
theorem dX3_book_12 : decode cX3_book 12 = .ok (.astore 4, 2) := by decide +kernel
theorem dX3_book_14 : decode cX3_book 14 = .ok (.iload_n 3, 1) := by decide +kernel
theorem dX3_book_15 : decode cX3_book 15 = .ok (.ifCond .ne 8, 3) := by decide +kernel
theorem dX3_book_18 : decode cX3_book 18 = .ok (.aload 4, 2) := by decide +kernel
theorem dX3_book_20 : decode cX3_book 20 = .ok (.ifnonnull 9, 3) := by decide +kernel
theorem dX3_book_23 : decode cX3_book 23 = .ok (.aload_n 0, 1) := by decide +kernel
theorem dX3_book_24 : decode cX3_book 24 = .ok (.iload_n 3, 1) := by decide +kernel
theorem dX3_book_25 : decode cX3_book 25 = .ok (.invokevirtual 46, 3) := by decide +kernel
theorem dX3_book_28 : decode cX3_book 28 = .ok (.ireturn, 1) := by decide +kernel
theorem dX3_book_29 : decode cX3_book 29 = .ok (.aload_n 0, 1) := by decide +kernel
theorem dX3_book_30 : decode cX3_book 30 = .ok (.getfield 16, 3) := by decide +kernel
theorem dX3_book_33 : decode cX3_book 33 = .ok (.aload_n 0, 1) := by decide +kernel
theorem dX3_book_34 : decode cX3_book 34 = .ok (.getfield 10, 3) := by decide +kernel
theorem dX3_book_37 : decode cX3_book 37 = .ok (.invokevirtual 148, 3) := by decide +kernel
theorem dX3_book_40 : decode cX3_book 40 = .ok (.iconst 0, 1) := by decide +kernel
theorem dX3_book_41 : decode cX3_book 41 = .ok (.istore 5, 2) := by decide +kernel
theorem dX3_book_43 : decode cX3_book 43 = .ok (.iload 5, 2) := by decide +kernel
theorem dX3_book_45 : decode cX3_book 45 = .ok (.aload 4, 2) := by decide +kernel
theorem dX3_book_47 : decode cX3_book 47 = .ok (.getfield 188, 3) := by decide +kernel
theorem dX3_book_50 : decode cX3_book 50 = .ok (.if_icmp .ge 33, 3) := by decide +kernel
theorem dX3_book_53 : decode cX3_book 53 = .ok (.aload 4, 2) := by decide +kernel
theorem dX3_book_55 : decode cX3_book 55 = .ok (.iload 5, 2) := by decide +kernel
theorem dX3_book_57 : decode cX3_book 57 = .ok (.aload_n 0, 1) := by decide +kernel
theorem dX3_book_58 : decode cX3_book 58 = .ok (.getfield 16, 3) := by decide +kernel
theorem dX3_book_61 : decode cX3_book 61 = .ok (.getfield 120, 3) := by decide +kernel
theorem dX3_book_64 : decode cX3_book 64 = .ok (.iload_n 2, 1) := by decide +kernel
theorem dX3_book_65 : decode cX3_book 65 = .ok (.iaload, 1) := by decide +kernel
theorem dX3_book_66 : decode cX3_book 66 = .ok (.i2l, 1) := by decide +kernel
theorem dX3_book_67 : decode cX3_book 67 = .ok (.invokevirtual 199, 3) := by decide +kernel
theorem dX3_book_70 : decode cX3_book 70 = .ok (.aload_n 0, 1) := by decide +kernel
theorem dX3_book_71 : decode cX3_book 71 = .ok (.getfield 16, 3) := by decide +kernel
theorem dX3_book_74 : decode cX3_book 74 = .ok (.invokevirtual 223, 3) := by decide +kernel
theorem dX3_book_77 : decode cX3_book 77 = .ok (.iinc 5 1, 3) := by decide +kernel
theorem dX3_book_80 : decode cX3_book 80 = .ok (.goto (-37), 3) := by decide +kernel
theorem dX3_book_83 : decode cX3_book 83 = .ok (.aload 4, 2) := by decide +kernel
theorem dX3_book_85 : decode cX3_book 85 = .ok (.getfield 188, 3) := by decide +kernel
theorem dX3_book_88 : decode cX3_book 88 = .ok (.ireturn, 1) := by decide +kernel
theorem dX3_read_0 : decode cX3_read 0 = .ok (.aload_n 0, 1) := by decide +kernel
theorem dX3_read_1 : decode cX3_read 1 = .ok (.iload_n 1, 1) := by decide +kernel
theorem dX3_read_2 : decode cX3_read 2 = .ok (.iload_n 2, 1) := by decide +kernel
theorem dX3_read_3 : decode cX3_read 3 = .ok (.invokevirtual 220, 3) := by decide +kernel
theorem dX3_read_6 : decode cX3_read 6 = .ok (.istore_n 3, 1) := by decide +kernel
theorem dX3_read_7 : decode cX3_read 7 = .ok (.aload_n 0, 1) := by decide +kernel
theorem dX3_read_8 : decode cX3_read 8 = .ok (.iload_n 1, 1) := by decide +kernel
theorem dX3_read_9 : decode cX3_read 9 = .ok (.invokevirtual 180, 3) := by decide +kernel
theorem dX3_read_12 : decode cX3_read 12 = .ok (.astore 4, 2) := by decide +kernel
theorem dX3_read_14 : decode cX3_read 14 = .ok (.iload_n 3, 1) := by decide +kernel
theorem dX3_read_15 : decode cX3_read 15 = .ok (.ifCond .ne 8, 3) := by decide +kernel
theorem dX3_read_18 : decode cX3_read 18 = .ok (.aload 4, 2) := by decide +kernel
theorem dX3_read_20 : decode cX3_read 20 = .ok (.ifnonnull 9, 3) := by decide +kernel
theorem dX3_read_23 : decode cX3_read 23 = .ok (.aload_n 0, 1) := by decide +kernel
theorem dX3_read_24 : decode cX3_read 24 = .ok (.iload_n 3, 1) := by decide +kernel
theorem dX3_read_25 : decode cX3_read 25 = .ok (.invokevirtual 46, 3) := by decide +kernel
theorem dX3_read_28 : decode cX3_read 28 = .ok (.ireturn, 1) := by decide +kernel
theorem dX3_read_29 : decode cX3_read 29 = .ok (.iconst 0, 1) := by decide +kernel
theorem dX3_read_30 : decode cX3_read 30 = .ok (.istore 5, 2) := by decide +kernel
theorem dX3_read_32 : decode cX3_read 32 = .ok (.iconst 0, 1) := by decide +kernel
theorem dX3_read_33 : decode cX3_read 33 = .ok (.istore 6, 2) := by decide +kernel
theorem dX3_read_35 : decode cX3_read 35 = .ok (.iload 6, 2) := by decide +kernel
theorem dX3_read_37 : decode cX3_read 37 = .ok (.bipush 6, 2) := by decide +kernel
theorem dX3_read_39 : decode cX3_read 39 = .ok (.if_icmp .ge 70, 3) := by decide +kernel
theorem dX3_read_42 : decode cX3_read 42 = .ok (.iconst 0, 1) := by decide +kernel
theorem dX3_read_43 : decode cX3_read 43 = .ok (.istore 7, 2) := by decide +kernel
theorem dX3_read_45 : decode cX3_read 45 = .ok (.iload 7, 2) := by decide +kernel
theorem dX3_read_47 : decode cX3_read 47 = .ok (.iconst 4, 1) := by decide +kernel
theorem dX3_read_48 : decode cX3_read 48 = .ok (.if_icmp .ge 55, 3) := by decide +kernel
theorem dX3_read_51 : decode cX3_read 51 = .ok (.aload_n 0, 1) := by decide +kernel
theorem dX3_read_52 : decode cX3_read 52 = .ok (.getfield 16, 3) := by decide +kernel
theorem dX3_read_55 : decode cX3_read 55 = .ok (.aload_n 0, 1) := by decide +kernel
theorem dX3_read_56 : decode cX3_read 56 = .ok (.getfield 10, 3) := by decide +kernel
theorem dX3_read_59 : decode cX3_read 59 = .ok (.invokevirtual 148, 3) := by decide +kernel
theorem dX3_read_62 : decode cX3_read 62 = .ok (.aload_n 0, 1) := by decide +kernel
theorem dX3_read_63 : decode cX3_read 63 = .ok (.getfield 16, 3) := by decide +kernel
theorem dX3_read_66 : decode cX3_read 66 = .ok (.getfield 98, 3) := by decide +kernel
theorem dX3_read_69 : decode cX3_read 69 = .ok (.iload_n 2, 1) := by decide +kernel
theorem dX3_read_70 : decode cX3_read 70 = .ok (.iload 6, 2) := by decide +kernel
theorem dX3_read_72 : decode cX3_read 72 = .ok (.iastore, 1) := by decide +kernel
theorem dX3_read_73 : decode cX3_read 73 = .ok (.aload_n 0, 1) := by decide +kernel
theorem dX3_read_74 : decode cX3_read 74 = .ok (.getfield 16, 3) := by decide +kernel
theorem dX3_read_77 : decode cX3_read 77 = .ok (.getfield 92, 3) := by decide +kernel
theorem dX3_read_80 : decode cX3_read 80 = .ok (.iload_n 2, 1) := by decide +kernel
theorem dX3_read_81 : decode cX3_read 81 = .ok (.iload 7, 2) := by decide +kernel
theorem dX3_read_83 : decode cX3_read 83 = .ok (.iastore, 1) := by decide +kernel
theorem dX3_read_84 : decode cX3_read 84 = .ok (.aload_n 0, 1) := by decide +kernel
theorem dX3_read_85 : decode cX3_read 85 = .ok (.aload 4, 2) := by decide +kernel
theorem dX3_read_87 : decode cX3_read 87 = .ok (.iload_n 2, 1) := by decide +kernel
theorem dX3_read_88 : decode cX3_read 88 = .ok (.invokevirtual 226, 3) := by decide +kernel
theorem dX3_read_91 : decode cX3_read 91 = .ok (.ifCond .eq 6, 3) := by decide +kernel
theorem dX3_read_94 : decode cX3_read 94 = .ok (.iinc 5 1, 3) := by decide +kernel
theorem dX3_read_97 : decode cX3_read 97 = .ok (.iinc 7 1, 3) := by decide +kernel
theorem dX3_read_100 : decode cX3_read 100 = .ok (.goto (-55), 3) := by decide +kernel
theorem dX3_read_103 : decode cX3_read 103 = .ok (.iinc 6 1, 3) := by decide +kernel
theorem dX3_read_106 : decode cX3_read 106 = .ok (.goto (-71), 3) := by decide +kernel
theorem dX3_read_109 : decode cX3_read 109 = .ok (.iload 5, 2) := by decide +kernel
theorem dX3_read_111 : decode cX3_read 111 = .ok (.ireturn, 1) := by decide +kernel
theorem dX3_image_0 : decode cX3_image 0 = .ok (.aload_n 0, 1) := by decide +kernel
theorem dX3_image_1 : decode cX3_image 1 = .ok (.getfield 19, 3) := by decide +kernel
theorem dX3_image_4 : decode cX3_image 4 = .ok (.aload_n 0, 1) := by decide +kernel
theorem dX3_image_5 : decode cX3_image 5 = .ok (.getfield 10, 3) := by decide +kernel
theorem dX3_image_8 : decode cX3_image 8 = .ok (.invokevirtual 148, 3) := by decide +kernel
theorem dX3_image_11 : decode cX3_image 11 = .ok (.aload_n 0, 1) := by decide +kernel
theorem dX3_image_12 : decode cX3_image 12 = .ok (.iconst 1, 1) := by decide +kernel
theorem dX3_image_13 : decode cX3_image 13 = .ok (.putfield 22, 3) := by decide +kernel
theorem dX3_image_16 : decode cX3_image 16 = .ok (.iconst 1, 1) := by decide +kernel
theorem dX3_image_17 : decode cX3_image 17 = .ok (.ireturn, 1) := by decide +kernel
theorem dX3_undo_0 : decode cX3_undo 0 = .ok (.aload_n 0, 1) := by decide +kernel
theorem dX3_undo_1 : decode cX3_undo 1 = .ok (.getfield 22, 3) := by decide +kernel
theorem dX3_undo_4 : decode cX3_undo 4 = .ok (.ifCond .ne 10, 3) := by decide +kernel
theorem dX3_undo_7 : decode cX3_undo 7 = .ok (.aload_n 0, 1) := by decide +kernel
theorem dX3_undo_8 : decode cX3_undo 8 = .ok (.ldc 230, 2) := by decide +kernel
theorem dX3_undo_10 : decode cX3_undo 10 = .ok (.invokevirtual 46, 3) := by decide +kernel
theorem dX3_undo_13 : decode cX3_undo 13 = .ok (.ireturn, 1) := by decide +kernel
theorem dX3_undo_14 : decode cX3_undo 14 = .ok (.aload_n 0, 1) := by decide +kernel
theorem dX3_undo_15 : decode cX3_undo 15 = .ok (.getfield 10, 3) := by decide +kernel
theorem dX3_undo_18 : decode cX3_undo 18 = .ok (.aload_n 0, 1) := by decide +kernel
theorem dX3_undo_19 : decode cX3_undo 19 = .ok (.getfield 19, 3) := by decide +kernel
theorem dX3_undo_22 : decode cX3_undo 22 = .ok (.invokevirtual 148, 3) := by decide +kernel
theorem dX3_undo_25 : decode cX3_undo 25 = .ok (.aload_n 0, 1) := by decide +kernel
theorem dX3_undo_26 : decode cX3_undo 26 = .ok (.getfield 10, 3) := by decide +kernel
theorem dX3_undo_29 : decode cX3_undo 29 = .ok (.getfield 215, 3) := by decide +kernel
theorem dX3_undo_32 : decode cX3_undo 32 = .ok (.ireturn, 1) := by decide +kernel
theorem dX3_tear_0 : decode cX3_tear 0 = .ok (.aload_n 0, 1) := by decide +kernel
theorem dX3_tear_1 : decode cX3_tear 1 = .ok (.getfield 22, 3) := by decide +kernel
theorem dX3_tear_4 : decode cX3_tear 4 = .ok (.ifCond .eq 7, 3) := by decide +kernel
theorem dX3_tear_7 : decode cX3_tear 7 = .ok (.iconst 1, 1) := by decide +kernel
theorem dX3_tear_8 : decode cX3_tear 8 = .ok (.goto 4, 3) := by decide +kernel
theorem dX3_tear_11 : decode cX3_tear 11 = .ok (.iconst 0, 1) := by decide +kernel
theorem dX3_tear_12 : decode cX3_tear 12 = .ok (.istore_n 1, 1) := by decide +kernel
theorem dX3_tear_13 : decode cX3_tear 13 = .ok (.aload_n 0, 1) := by decide +kernel
theorem dX3_tear_14 : decode cX3_tear 14 = .ok (.iconst 0, 1) := by decide +kernel
theorem dX3_tear_15 : decode cX3_tear 15 = .ok (.putfield 22, 3) := by decide +kernel
theorem dX3_tear_18 : decode cX3_tear 18 = .ok (.iload_n 1, 1) := by decide +kernel
theorem dX3_tear_19 : decode cX3_tear 19 = .ok (.ireturn, 1) := by decide +kernel
theorem dX3_count_0 : decode cX3_count 0 = .ok (.iload_n 1, 1) := by decide +kernel
theorem dX3_count_1 : decode cX3_count 1 = .ok (.tableswitch 69 0 3 #[31, 39, 47, 58], 31) := by decide +kernel
theorem dX3_count_32 : decode cX3_count 32 = .ok (.aload_n 0, 1) := by decide +kernel
theorem dX3_count_33 : decode cX3_count 33 = .ok (.getfield 10, 3) := by decide +kernel
theorem dX3_count_36 : decode cX3_count 36 = .ok (.getfield 215, 3) := by decide +kernel
theorem dX3_count_39 : decode cX3_count 39 = .ok (.ireturn, 1) := by decide +kernel
theorem dX3_count_40 : decode cX3_count 40 = .ok (.aload_n 0, 1) := by decide +kernel
theorem dX3_count_41 : decode cX3_count 41 = .ok (.getfield 29, 3) := by decide +kernel
theorem dX3_count_44 : decode cX3_count 44 = .ok (.getfield 170, 3) := by decide +kernel
theorem dX3_count_47 : decode cX3_count 47 = .ok (.ireturn, 1) := by decide +kernel
theorem dX3_count_48 : decode cX3_count 48 = .ok (.aload_n 0, 1) := by decide +kernel
theorem dX3_count_49 : decode cX3_count 49 = .ok (.getfield 10, 3) := by decide +kernel
theorem dX3_count_52 : decode cX3_count 52 = .ok (.invokevirtual 126, 3) := by decide +kernel
theorem dX3_count_55 : decode cX3_count 55 = .ok (.invokestatic 130, 3) := by decide +kernel
theorem dX3_count_58 : decode cX3_count 58 = .ok (.ireturn, 1) := by decide +kernel
theorem dX3_count_59 : decode cX3_count 59 = .ok (.aload_n 0, 1) := by decide +kernel
theorem dX3_count_60 : decode cX3_count 60 = .ok (.getfield 10, 3) := by decide +kernel
theorem dX3_count_63 : decode cX3_count 63 = .ok (.getfield 50, 3) := by decide +kernel
theorem dX3_count_66 : decode cX3_count 66 = .ok (.invokestatic 130, 3) := by decide +kernel
theorem dX3_count_69 : decode cX3_count 69 = .ok (.ireturn, 1) := by decide +kernel
theorem dX3_count_70 : decode cX3_count 70 = .ok (.aload_n 0, 1) := by decide +kernel
theorem dX3_count_71 : decode cX3_count 71 = .ok (.ldc 45, 2) := by decide +kernel
theorem dX3_count_73 : decode cX3_count 73 = .ok (.invokevirtual 46, 3) := by decide +kernel
theorem dX3_count_76 : decode cX3_count 76 = .ok (.ireturn, 1) := by decide +kernel
theorem dX3_status_0 : decode cX3_status 0 = .ok (.iload_n 1, 1) := by decide +kernel
theorem dX3_status_1 : decode cX3_status 1 = .ok (.iconst (-1), 1) := by decide +kernel
theorem dX3_status_2 : decode cX3_status 2 = .ok (.if_icmp .lt 9, 3) := by decide +kernel
theorem dX3_status_5 : decode cX3_status 5 = .ok (.iload_n 1, 1) := by decide +kernel
theorem dX3_status_6 : decode cX3_status 6 = .ok (.bipush 7, 2) := by decide +kernel
theorem dX3_status_8 : decode cX3_status 8 = .ok (.if_icmp .lt 10, 3) := by decide +kernel
theorem dX3_status_11 : decode cX3_status 11 = .ok (.aload_n 0, 1) := by decide +kernel
theorem dX3_status_12 : decode cX3_status 12 = .ok (.ldc 45, 2) := by decide +kernel
theorem dX3_status_14 : decode cX3_status 14 = .ok (.invokevirtual 46, 3) := by decide +kernel
theorem dX3_status_17 : decode cX3_status 17 = .ok (.ireturn, 1) := by decide +kernel
theorem dX3_status_18 : decode cX3_status 18 = .ok (.iload_n 1, 1) := by decide +kernel
theorem dX3_status_19 : decode cX3_status 19 = .ok (.ifCond .lt 10, 3) := by decide +kernel
theorem dX3_status_22 : decode cX3_status 22 = .ok (.aload_n 0, 1) := by decide +kernel
theorem dX3_status_23 : decode cX3_status 23 = .ok (.getfield 39, 3) := by decide +kernel
theorem dX3_status_26 : decode cX3_status 26 = .ok (.iload_n 1, 1) := by decide +kernel
theorem dX3_status_27 : decode cX3_status 27 = .ok (.iaload, 1) := by decide +kernel
theorem dX3_status_28 : decode cX3_status 28 = .ok (.ireturn, 1) := by decide +kernel
theorem dX3_status_29 : decode cX3_status 29 = .ok (.iconst 0, 1) := by decide +kernel
theorem dX3_status_30 : decode cX3_status 30 = .ok (.istore_n 2, 1) := by decide +kernel
theorem dX3_status_31 : decode cX3_status 31 = .ok (.iconst 0, 1) := by decide +kernel
theorem dX3_status_32 : decode cX3_status 32 = .ok (.istore_n 3, 1) := by decide +kernel
theorem dX3_status_33 : decode cX3_status 33 = .ok (.iload_n 3, 1) := by decide +kernel
theorem dX3_status_34 : decode cX3_status 34 = .ok (.bipush 7, 2) := by decide +kernel
theorem dX3_status_36 : decode cX3_status 36 = .ok (.if_icmp .ge 18, 3) := by decide +kernel
theorem dX3_status_39 : decode cX3_status 39 = .ok (.iload_n 2, 1) := by decide +kernel
theorem dX3_status_40 : decode cX3_status 40 = .ok (.aload_n 0, 1) := by decide +kernel
theorem dX3_status_41 : decode cX3_status 41 = .ok (.getfield 39, 3) := by decide +kernel
theorem dX3_status_44 : decode cX3_status 44 = .ok (.iload_n 3, 1) := by decide +kernel
theorem dX3_status_45 : decode cX3_status 45 = .ok (.iaload, 1) := by decide +kernel
theorem dX3_status_46 : decode cX3_status 46 = .ok (.iadd, 1) := by decide +kernel
theorem dX3_status_47 : decode cX3_status 47 = .ok (.istore_n 2, 1) := by decide +kernel
theorem dX3_status_48 : decode cX3_status 48 = .ok (.iinc 3 1, 3) := by decide +kernel
theorem dX3_status_51 : decode cX3_status 51 = .ok (.goto (-18), 3) := by decide +kernel
theorem dX3_status_54 : decode cX3_status 54 = .ok (.iload_n 2, 1) := by decide +kernel
theorem dX3_status_55 : decode cX3_status 55 = .ok (.ireturn, 1) := by decide +kernel
theorem dX3_finding_0 : decode cX3_finding 0 = .ok (.ldc 45, 2) := by decide +kernel
theorem dX3_finding_2 : decode cX3_finding 2 = .ok (.iload_n 1, 1) := by decide +kernel
theorem dX3_finding_3 : decode cX3_finding 3 = .ok (.isub, 1) := by decide +kernel
theorem dX3_finding_4 : decode cX3_finding 4 = .ok (.istore_n 2, 1) := by decide +kernel
theorem dX3_finding_5 : decode cX3_finding 5 = .ok (.iload_n 2, 1) := by decide +kernel
theorem dX3_finding_6 : decode cX3_finding 6 = .ok (.ifCond .lt 19, 3) := by decide +kernel
theorem dX3_finding_9 : decode cX3_finding 9 = .ok (.iload_n 2, 1) := by decide +kernel
theorem dX3_finding_10 : decode cX3_finding 10 = .ok (.bipush 7, 2) := by decide +kernel
theorem dX3_finding_12 : decode cX3_finding 12 = .ok (.if_icmp .ge 13, 3) := by decide +kernel
theorem dX3_finding_15 : decode cX3_finding 15 = .ok (.aload_n 0, 1) := by decide +kernel
theorem dX3_finding_16 : decode cX3_finding 16 = .ok (.getfield 39, 3) := by decide +kernel
theorem dX3_finding_19 : decode cX3_finding 19 = .ok (.iload_n 2, 1) := by decide +kernel
theorem dX3_finding_20 : decode cX3_finding 20 = .ok (.dup2, 1) := by decide +kernel
theorem dX3_finding_21 : decode cX3_finding 21 = .ok (.iaload, 1) := by decide +kernel
theorem dX3_finding_22 : decode cX3_finding 22 = .ok (.iconst 1, 1) := by decide +kernel
theorem dX3_finding_23 : decode cX3_finding 23 = .ok (.iadd, 1) := by decide +kernel
theorem dX3_finding_24 : decode cX3_finding 24 = .ok (.iastore, 1) := by decide +kernel
theorem dX3_finding_25 : decode cX3_finding 25 = .ok (.iload_n 1, 1) := by decide +kernel
theorem dX3_finding_26 : decode cX3_finding 26 = .ok (.ireturn, 1) := by decide +kernel
theorem dX3_orNone_0 : decode cX3_orNone 0 = .ok (.iload_n 1, 1) := by decide +kernel
theorem dX3_orNone_1 : decode cX3_orNone 1 = .ok (.ifCond .lt 7, 3) := by decide +kernel
theorem dX3_orNone_4 : decode cX3_orNone 4 = .ok (.iload_n 1, 1) := by decide +kernel
theorem dX3_orNone_5 : decode cX3_orNone 5 = .ok (.goto 9, 3) := by decide +kernel
theorem dX3_orNone_8 : decode cX3_orNone 8 = .ok (.aload_n 0, 1) := by decide +kernel
theorem dX3_orNone_9 : decode cX3_orNone 9 = .ok (.ldc 230, 2) := by decide +kernel
theorem dX3_orNone_11 : decode cX3_orNone 11 = .ok (.invokevirtual 46, 3) := by decide +kernel
theorem dX3_orNone_14 : decode cX3_orNone 14 = .ok (.ireturn, 1) := by decide +kernel
theorem dX3_areTwo_0 : decode cX3_areTwo 0 = .ok (.aload_n 0, 1) := by decide +kernel
theorem dX3_areTwo_1 : decode cX3_areTwo 1 = .ok (.getfield 10, 3) := by decide +kernel
theorem dX3_areTwo_4 : decode cX3_areTwo 4 = .ok (.iload_n 1, 1) := by decide +kernel
theorem dX3_areTwo_5 : decode cX3_areTwo 5 = .ok (.invokevirtual 76, 3) := by decide +kernel
theorem dX3_areTwo_8 : decode cX3_areTwo 8 = .ok (.ifCond .eq 23, 3) := by decide +kernel
theorem dX3_areTwo_11 : decode cX3_areTwo 11 = .ok (.aload_n 0, 1) := by decide +kernel
theorem dX3_areTwo_12 : decode cX3_areTwo 12 = .ok (.getfield 10, 3) := by decide +kernel
theorem dX3_areTwo_15 : decode cX3_areTwo 15 = .ok (.iload_n 2, 1) := by decide +kernel
theorem dX3_areTwo_16 : decode cX3_areTwo 16 = .ok (.invokevirtual 76, 3) := by decide +kernel
theorem dX3_areTwo_19 : decode cX3_areTwo 19 = .ok (.ifCond .eq 12, 3) := by decide +kernel
theorem dX3_areTwo_22 : decode cX3_areTwo 22 = .ok (.iload_n 1, 1) := by decide +kernel
theorem dX3_areTwo_23 : decode cX3_areTwo 23 = .ok (.iload_n 2, 1) := by decide +kernel
theorem dX3_areTwo_24 : decode cX3_areTwo 24 = .ok (.if_icmp .eq 7, 3) := by decide +kernel
theorem dX3_areTwo_27 : decode cX3_areTwo 27 = .ok (.iconst 1, 1) := by decide +kernel
theorem dX3_areTwo_28 : decode cX3_areTwo 28 = .ok (.goto 4, 3) := by decide +kernel
theorem dX3_areTwo_31 : decode cX3_areTwo 31 = .ok (.iconst 0, 1) := by decide +kernel
theorem dX3_areTwo_32 : decode cX3_areTwo 32 = .ok (.ireturn, 1) := by decide +kernel
theorem dX3_sheetOf_0 : decode cX3_sheetOf 0 = .ok (.iload_n 1, 1) := by decide +kernel
theorem dX3_sheetOf_1 : decode cX3_sheetOf 1 = .ok (.ifCond .lt 17, 3) := by decide +kernel
theorem dX3_sheetOf_4 : decode cX3_sheetOf 4 = .ok (.iload_n 1, 1) := by decide +kernel
theorem dX3_sheetOf_5 : decode cX3_sheetOf 5 = .ok (.iconst 4, 1) := by decide +kernel
theorem dX3_sheetOf_6 : decode cX3_sheetOf 6 = .ok (.if_icmp .ge 12, 3) := by decide +kernel
theorem dX3_sheetOf_9 : decode cX3_sheetOf 9 = .ok (.aload_n 0, 1) := by decide +kernel
theorem dX3_sheetOf_10 : decode cX3_sheetOf 10 = .ok (.getfield 35, 3) := by decide +kernel
theorem dX3_sheetOf_13 : decode cX3_sheetOf 13 = .ok (.iload_n 1, 1) := by decide +kernel
theorem dX3_sheetOf_14 : decode cX3_sheetOf 14 = .ok (.aaload, 1) := by decide +kernel
theorem dX3_sheetOf_15 : decode cX3_sheetOf 15 = .ok (.goto 4, 3) := by decide +kernel
theorem dX3_sheetOf_18 : decode cX3_sheetOf 18 = .ok (.aconst_null, 1) := by decide +kernel
theorem dX3_sheetOf_19 : decode cX3_sheetOf 19 = .ok (.areturn, 1) := by decide +kernel
theorem dX3_sheetAndWalkerFinding_0 : decode cX3_sheetAndWalkerFinding 0 = .ok (.aload_n 0, 1) := by decide +kernel
theorem dX3_sheetAndWalkerFinding_1 : decode cX3_sheetAndWalkerFinding 1 = .ok (.iload_n 1, 1) := by decide +kernel
theorem dX3_sheetAndWalkerFinding_2 : decode cX3_sheetAndWalkerFinding 2 = .ok (.invokevirtual 180, 3) := by decide +kernel
theorem dX3_sheetAndWalkerFinding_5 : decode cX3_sheetAndWalkerFinding 5 = .ok (.astore_n 3, 1) := by decide +kernel
theorem dX3_sheetAndWalkerFinding_6 : decode cX3_sheetAndWalkerFinding 6 = .ok (.aload_n 3, 1) := by decide +kernel
theorem dX3_sheetAndWalkerFinding_7 : decode cX3_sheetAndWalkerFinding 7 = .ok (.ifnonnull 6, 3) := by decide +kernel
theorem dX3_sheetAndWalkerFinding_10 : decode cX3_sheetAndWalkerFinding 10 = .ok (.ldc 45, 2) := by decide +kernel
theorem dX3_sheetAndWalkerFinding_12 : decode cX3_sheetAndWalkerFinding 12 = .ok (.ireturn, 1) := by decide +kernel
theorem dX3_sheetAndWalkerFinding_13 : decode cX3_sheetAndWalkerFinding 13 = .ok (.aload_n 3, 1) := by decide +kernel
theorem dX3_sheetAndWalkerFinding_14 : decode cX3_sheetAndWalkerFinding 14 = .ok (.invokevirtual 191, 3) := by decide +kernel
theorem dX3_sheetAndWalkerFinding_17 : decode cX3_sheetAndWalkerFinding 17 = .ok (.ifCond .eq 6, 3) := by decide +kernel
theorem dX3_sheetAndWalkerFinding_20 : decode cX3_sheetAndWalkerFinding 20 = .ok (.ldc 194, 2) := by decide +kernel
theorem dX3_sheetAndWalkerFinding_22 : decode cX3_sheetAndWalkerFinding 22 = .ok (.ireturn, 1) := by decide +kernel
theorem dX3_sheetAndWalkerFinding_23 : decode cX3_sheetAndWalkerFinding 23 = .ok (.aload_n 0, 1) := by decide +kernel
theorem dX3_sheetAndWalkerFinding_24 : decode cX3_sheetAndWalkerFinding 24 = .ok (.getfield 10, 3) := by decide +kernel
theorem dX3_sheetAndWalkerFinding_27 : decode cX3_sheetAndWalkerFinding 27 = .ok (.iload_n 2, 1) := by decide +kernel
theorem dX3_sheetAndWalkerFinding_28 : decode cX3_sheetAndWalkerFinding 28 = .ok (.invokevirtual 76, 3) := by decide +kernel
theorem dX3_sheetAndWalkerFinding_31 : decode cX3_sheetAndWalkerFinding 31 = .ok (.ifCond .eq 7, 3) := by decide +kernel
theorem dX3_sheetAndWalkerFinding_34 : decode cX3_sheetAndWalkerFinding 34 = .ok (.iconst 0, 1) := by decide +kernel
theorem dX3_sheetAndWalkerFinding_35 : decode cX3_sheetAndWalkerFinding 35 = .ok (.goto 5, 3) := by decide +kernel
theorem dX3_sheetAndWalkerFinding_38 : decode cX3_sheetAndWalkerFinding 38 = .ok (.ldc 45, 2) := by decide +kernel
theorem dX3_sheetAndWalkerFinding_40 : decode cX3_sheetAndWalkerFinding 40 = .ok (.ireturn, 1) := by decide +kernel
theorem dX3_trialGoesBy_0 : decode cX3_trialGoesBy 0 = .ok (.iconst 0, 1) := by decide +kernel
theorem dX3_trialGoesBy_1 : decode cX3_trialGoesBy 1 = .ok (.istore_n 3, 1) := by decide +kernel
theorem dX3_trialGoesBy_2 : decode cX3_trialGoesBy 2 = .ok (.iload_n 3, 1) := by decide +kernel
theorem dX3_trialGoesBy_3 : decode cX3_trialGoesBy 3 = .ok (.aload_n 1, 1) := by decide +kernel
theorem dX3_trialGoesBy_4 : decode cX3_trialGoesBy 4 = .ok (.getfield 188, 3) := by decide +kernel
theorem dX3_trialGoesBy_7 : decode cX3_trialGoesBy 7 = .ok (.if_icmp .ge 38, 3) := by decide +kernel
theorem dX3_trialGoesBy_10 : decode cX3_trialGoesBy 10 = .ok (.aload_n 1, 1) := by decide +kernel
theorem dX3_trialGoesBy_11 : decode cX3_trialGoesBy 11 = .ok (.getfield 195, 3) := by decide +kernel
theorem dX3_trialGoesBy_14 : decode cX3_trialGoesBy 14 = .ok (.iload_n 3, 1) := by decide +kernel
theorem dX3_trialGoesBy_15 : decode cX3_trialGoesBy 15 = .ok (.laload, 1) := by decide +kernel
theorem dX3_trialGoesBy_16 : decode cX3_trialGoesBy 16 = .ok (.aload_n 0, 1) := by decide +kernel
theorem dX3_trialGoesBy_17 : decode cX3_trialGoesBy 17 = .ok (.getfield 16, 3) := by decide +kernel
theorem dX3_trialGoesBy_20 : decode cX3_trialGoesBy 20 = .ok (.getfield 120, 3) := by decide +kernel
theorem dX3_trialGoesBy_23 : decode cX3_trialGoesBy 23 = .ok (.iload_n 2, 1) := by decide +kernel
theorem dX3_trialGoesBy_24 : decode cX3_trialGoesBy 24 = .ok (.iaload, 1) := by decide +kernel
theorem dX3_trialGoesBy_25 : decode cX3_trialGoesBy 25 = .ok (.i2l, 1) := by decide +kernel
theorem dX3_trialGoesBy_26 : decode cX3_trialGoesBy 26 = .ok (.lcmp, 1) := by decide +kernel
theorem dX3_trialGoesBy_27 : decode cX3_trialGoesBy 27 = .ok (.ifCond .eq 5, 3) := by decide +kernel
theorem dX3_trialGoesBy_30 : decode cX3_trialGoesBy 30 = .ok (.iconst 0, 1) := by decide +kernel
theorem dX3_trialGoesBy_31 : decode cX3_trialGoesBy 31 = .ok (.ireturn, 1) := by decide +kernel
theorem dX3_trialGoesBy_32 : decode cX3_trialGoesBy 32 = .ok (.aload_n 0, 1) := by decide +kernel
theorem dX3_trialGoesBy_33 : decode cX3_trialGoesBy 33 = .ok (.getfield 16, 3) := by decide +kernel
theorem dX3_trialGoesBy_36 : decode cX3_trialGoesBy 36 = .ok (.invokevirtual 223, 3) := by decide +kernel
theorem dX3_trialGoesBy_39 : decode cX3_trialGoesBy 39 = .ok (.iinc 3 1, 3) := by decide +kernel
theorem dX3_trialGoesBy_42 : decode cX3_trialGoesBy 42 = .ok (.goto (-40), 3) := by decide +kernel
theorem dX3_trialGoesBy_45 : decode cX3_trialGoesBy 45 = .ok (.iconst 1, 1) := by decide +kernel
theorem dX3_trialGoesBy_46 : decode cX3_trialGoesBy 46 = .ok (.ireturn, 1) := by decide +kernel
theorem dX3_firstFromNow_0 : decode cX3_firstFromNow 0 = .ok (.aload_n 0, 1) := by decide +kernel
theorem dX3_firstFromNow_1 : decode cX3_firstFromNow 1 = .ok (.getfield 16, 3) := by decide +kernel
theorem dX3_firstFromNow_4 : decode cX3_firstFromNow 4 = .ok (.aload_n 0, 1) := by decide +kernel
theorem dX3_firstFromNow_5 : decode cX3_firstFromNow 5 = .ok (.getfield 10, 3) := by decide +kernel
theorem dX3_firstFromNow_8 : decode cX3_firstFromNow 8 = .ok (.invokevirtual 148, 3) := by decide +kernel
theorem dX3_firstFromNow_11 : decode cX3_firstFromNow 11 = .ok (.aload_n 0, 1) := by decide +kernel
theorem dX3_firstFromNow_12 : decode cX3_firstFromNow 12 = .ok (.iload_n 1, 1) := by decide +kernel
theorem dX3_firstFromNow_13 : decode cX3_firstFromNow 13 = .ok (.iload_n 2, 1) := by decide +kernel
theorem dX3_firstFromNow_14 : decode cX3_firstFromNow 14 = .ok (.iload_n 3, 1) := by decide +kernel
theorem dX3_firstFromNow_15 : decode cX3_firstFromNow 15 = .ok (.bipush 100, 2) := by decide +kernel
theorem dX3_firstFromNow_17 : decode cX3_firstFromNow 17 = .ok (.invokevirtual 231, 3) := by decide +kernel
theorem dX3_firstFromNow_20 : decode cX3_firstFromNow 20 = .ok (.ireturn, 1) := by decide +kernel
theorem dX3_firstInTrial_0 : decode cX3_firstInTrial 0 = .ok (.iconst 0, 1) := by decide +kernel
theorem dX3_firstInTrial_1 : decode cX3_firstInTrial 1 = .ok (.istore 5, 2) := by decide +kernel
theorem dX3_firstInTrial_3 : decode cX3_firstInTrial 3 = .ok (.iload 5, 2) := by decide +kernel
theorem dX3_firstInTrial_5 : decode cX3_firstInTrial 5 = .ok (.iload 4, 2) := by decide +kernel
theorem dX3_firstInTrial_7 : decode cX3_firstInTrial 7 = .ok (.if_icmp .gt 36, 3) := by decide +kernel
theorem dX3_firstInTrial_10 : decode cX3_firstInTrial 10 = .ok (.aload_n 0, 1) := by decide +kernel
theorem dX3_firstInTrial_11 : decode cX3_firstInTrial 11 = .ok (.iload_n 1, 1) := by decide +kernel
theorem dX3_firstInTrial_12 : decode cX3_firstInTrial 12 = .ok (.iload_n 2, 1) := by decide +kernel
theorem dX3_firstInTrial_13 : decode cX3_firstInTrial 13 = .ok (.iload_n 3, 1) := by decide +kernel
theorem dX3_firstInTrial_14 : decode cX3_firstInTrial 14 = .ok (.invokevirtual 234, 3) := by decide +kernel
theorem dX3_firstInTrial_17 : decode cX3_firstInTrial 17 = .ok (.ifCond .eq 6, 3) := by decide +kernel
theorem dX3_firstInTrial_20 : decode cX3_firstInTrial 20 = .ok (.iload 5, 2) := by decide +kernel
theorem dX3_firstInTrial_22 : decode cX3_firstInTrial 22 = .ok (.ireturn, 1) := by decide +kernel
theorem dX3_firstInTrial_23 : decode cX3_firstInTrial 23 = .ok (.iload 5, 2) := by decide +kernel
theorem dX3_firstInTrial_25 : decode cX3_firstInTrial 25 = .ok (.iload 4, 2) := by decide +kernel
theorem dX3_firstInTrial_27 : decode cX3_firstInTrial 27 = .ok (.if_icmp .ge 10, 3) := by decide +kernel
theorem dX3_firstInTrial_30 : decode cX3_firstInTrial 30 = .ok (.aload_n 0, 1) := by decide +kernel
theorem dX3_firstInTrial_31 : decode cX3_firstInTrial 31 = .ok (.getfield 16, 3) := by decide +kernel
theorem dX3_firstInTrial_34 : decode cX3_firstInTrial 34 = .ok (.invokevirtual 223, 3) := by decide +kernel
theorem dX3_firstInTrial_37 : decode cX3_firstInTrial 37 = .ok (.iinc 5 1, 3) := by decide +kernel
theorem dX3_firstInTrial_40 : decode cX3_firstInTrial 40 = .ok (.goto (-37), 3) := by decide +kernel
theorem dX3_firstInTrial_43 : decode cX3_firstInTrial 43 = .ok (.iconst (-1), 1) := by decide +kernel
theorem dX3_firstInTrial_44 : decode cX3_firstInTrial 44 = .ok (.ireturn, 1) := by decide +kernel
theorem dX3_trialShows_0 : decode cX3_trialShows 0 = .ok (.iload_n 1, 1) := by decide +kernel
theorem dX3_trialShows_1 : decode cX3_trialShows 1 = .ok (.lookupswitch 80 #[(0, 27), (1, 71)], 27) := by decide +kernel
theorem dX3_trialShows_28 : decode cX3_trialShows 28 = .ok (.iload_n 3, 1) := by decide +kernel
theorem dX3_trialShows_29 : decode cX3_trialShows 29 = .ok (.bipush (-2), 2) := by decide +kernel
theorem dX3_trialShows_31 : decode cX3_trialShows 31 = .ok (.if_icmp .ne 22, 3) := by decide +kernel
theorem dX3_trialShows_34 : decode cX3_trialShows 34 = .ok (.aload_n 0, 1) := by decide +kernel
theorem dX3_trialShows_35 : decode cX3_trialShows 35 = .ok (.getfield 16, 3) := by decide +kernel
theorem dX3_trialShows_38 : decode cX3_trialShows 38 = .ok (.iload_n 2, 1) := by decide +kernel
theorem dX3_trialShows_39 : decode cX3_trialShows 39 = .ok (.invokevirtual 106, 3) := by decide +kernel
theorem dX3_trialShows_42 : decode cX3_trialShows 42 = .ok (.ifCond .ne 7, 3) := by decide +kernel
theorem dX3_trialShows_45 : decode cX3_trialShows 45 = .ok (.iconst 1, 1) := by decide +kernel
theorem dX3_trialShows_46 : decode cX3_trialShows 46 = .ok (.goto 25, 3) := by decide +kernel
theorem dX3_trialShows_49 : decode cX3_trialShows 49 = .ok (.iconst 0, 1) := by decide +kernel
theorem dX3_trialShows_50 : decode cX3_trialShows 50 = .ok (.goto 21, 3) := by decide +kernel
theorem dX3_trialShows_53 : decode cX3_trialShows 53 = .ok (.aload_n 0, 1) := by decide +kernel
theorem dX3_trialShows_54 : decode cX3_trialShows 54 = .ok (.getfield 16, 3) := by decide +kernel
theorem dX3_trialShows_57 : decode cX3_trialShows 57 = .ok (.getfield 110, 3) := by decide +kernel
theorem dX3_trialShows_60 : decode cX3_trialShows 60 = .ok (.iload_n 2, 1) := by decide +kernel
theorem dX3_trialShows_61 : decode cX3_trialShows 61 = .ok (.iaload, 1) := by decide +kernel
theorem dX3_trialShows_62 : decode cX3_trialShows 62 = .ok (.iload_n 3, 1) := by decide +kernel
theorem dX3_trialShows_63 : decode cX3_trialShows 63 = .ok (.if_icmp .ne 7, 3) := by decide +kernel
theorem dX3_trialShows_66 : decode cX3_trialShows 66 = .ok (.iconst 1, 1) := by decide +kernel
theorem dX3_trialShows_67 : decode cX3_trialShows 67 = .ok (.goto 4, 3) := by decide +kernel
theorem dX3_trialShows_70 : decode cX3_trialShows 70 = .ok (.iconst 0, 1) := by decide +kernel
theorem dX3_trialShows_71 : decode cX3_trialShows 71 = .ok (.ireturn, 1) := by decide +kernel
theorem dX3_trialShows_72 : decode cX3_trialShows 72 = .ok (.aload_n 0, 1) := by decide +kernel
theorem dX3_trialShows_73 : decode cX3_trialShows 73 = .ok (.getfield 16, 3) := by decide +kernel
theorem dX3_trialShows_76 : decode cX3_trialShows 76 = .ok (.iload_n 2, 1) := by decide +kernel
theorem dX3_trialShows_77 : decode cX3_trialShows 77 = .ok (.invokevirtual 106, 3) := by decide +kernel
theorem dX3_trialShows_80 : decode cX3_trialShows 80 = .ok (.ireturn, 1) := by decide +kernel
theorem dX3_trialShows_81 : decode cX3_trialShows 81 = .ok (.aload_n 0, 1) := by decide +kernel
theorem dX3_trialShows_82 : decode cX3_trialShows 82 = .ok (.getfield 16, 3) := by decide +kernel
theorem dX3_trialShows_85 : decode cX3_trialShows 85 = .ok (.iload_n 2, 1) := by decide +kernel
theorem dX3_trialShows_86 : decode cX3_trialShows 86 = .ok (.invokevirtual 238, 3) := by decide +kernel
theorem dX3_trialShows_89 : decode cX3_trialShows 89 = .ok (.ireturn, 1) := by decide +kernel
theorem dX3_suppose_0 : decode cX3_suppose 0 = .ok (.aload_n 0, 1) := by decide +kernel
theorem dX3_suppose_1 : decode cX3_suppose 1 = .ok (.getfield 16, 3) := by decide +kernel
theorem dX3_suppose_4 : decode cX3_suppose 4 = .ok (.aload_n 0, 1) := by decide +kernel
theorem dX3_suppose_5 : decode cX3_suppose 5 = .ok (.getfield 10, 3) := by decide +kernel
theorem dX3_suppose_8 : decode cX3_suppose 8 = .ok (.invokevirtual 148, 3) := by decide +kernel
theorem dX3_suppose_11 : decode cX3_suppose 11 = .ok (.iload_n 1, 1) := by decide +kernel
theorem dX3_suppose_12 : decode cX3_suppose 12 = .ok (.tableswitch 131 0 5 #[40, 53, 74, 87, 100, 113], 40) := by decide +kernel
theorem dX3_suppose_52 : decode cX3_suppose 52 = .ok (.aload_n 0, 1) := by decide +kernel
theorem dX3_suppose_53 : decode cX3_suppose 53 = .ok (.getfield 16, 3) := by decide +kernel
theorem dX3_suppose_56 : decode cX3_suppose 56 = .ok (.getfield 92, 3) := by decide +kernel
theorem dX3_suppose_59 : decode cX3_suppose 59 = .ok (.iload_n 3, 1) := by decide +kernel
theorem dX3_suppose_60 : decode cX3_suppose 60 = .ok (.iload_n 2, 1) := by decide +kernel
theorem dX3_suppose_61 : decode cX3_suppose 61 = .ok (.iastore, 1) := by decide +kernel
theorem dX3_suppose_62 : decode cX3_suppose 62 = .ok (.goto 89, 3) := by decide +kernel
theorem dX3_suppose_65 : decode cX3_suppose 65 = .ok (.aload_n 0, 1) := by decide +kernel
theorem dX3_suppose_66 : decode cX3_suppose 66 = .ok (.getfield 16, 3) := by decide +kernel
theorem dX3_suppose_69 : decode cX3_suppose 69 = .ok (.iload_n 3, 1) := by decide +kernel
theorem dX3_suppose_70 : decode cX3_suppose 70 = .ok (.invokevirtual 113, 3) := by decide +kernel
theorem dX3_suppose_73 : decode cX3_suppose 73 = .ok (.aload_n 0, 1) := by decide +kernel
theorem dX3_suppose_74 : decode cX3_suppose 74 = .ok (.getfield 16, 3) := by decide +kernel
theorem dX3_suppose_77 : decode cX3_suppose 77 = .ok (.getfield 120, 3) := by decide +kernel
theorem dX3_suppose_80 : decode cX3_suppose 80 = .ok (.iload_n 3, 1) := by decide +kernel
theorem dX3_suppose_81 : decode cX3_suppose 81 = .ok (.iload_n 2, 1) := by decide +kernel
theorem dX3_suppose_82 : decode cX3_suppose 82 = .ok (.iastore, 1) := by decide +kernel
theorem dX3_suppose_83 : decode cX3_suppose 83 = .ok (.goto 68, 3) := by decide +kernel
theorem dX3_suppose_86 : decode cX3_suppose 86 = .ok (.aload_n 0, 1) := by decide +kernel
theorem dX3_suppose_87 : decode cX3_suppose 87 = .ok (.getfield 16, 3) := by decide +kernel
theorem dX3_suppose_90 : decode cX3_suppose 90 = .ok (.getfield 98, 3) := by decide +kernel
theorem dX3_suppose_93 : decode cX3_suppose 93 = .ok (.iload_n 3, 1) := by decide +kernel
theorem dX3_suppose_94 : decode cX3_suppose 94 = .ok (.iload_n 2, 1) := by decide +kernel
theorem dX3_suppose_95 : decode cX3_suppose 95 = .ok (.iastore, 1) := by decide +kernel
theorem dX3_suppose_96 : decode cX3_suppose 96 = .ok (.goto 55, 3) := by decide +kernel
theorem dX3_suppose_99 : decode cX3_suppose 99 = .ok (.aload_n 0, 1) := by decide +kernel
theorem dX3_suppose_100 : decode cX3_suppose 100 = .ok (.getfield 16, 3) := by decide +kernel
theorem dX3_suppose_103 : decode cX3_suppose 103 = .ok (.iconst 1, 1) := by decide +kernel
theorem dX3_suppose_104 : decode cX3_suppose 104 = .ok (.iload_n 2, 1) := by decide +kernel
theorem dX3_suppose_105 : decode cX3_suppose 105 = .ok (.ishl, 1) := by decide +kernel
theorem dX3_suppose_106 : decode cX3_suppose 106 = .ok (.putfield 50, 3) := by decide +kernel
theorem dX3_suppose_109 : decode cX3_suppose 109 = .ok (.goto 42, 3) := by decide +kernel
theorem dX3_suppose_112 : decode cX3_suppose 112 = .ok (.aload_n 0, 1) := by decide +kernel
theorem dX3_suppose_113 : decode cX3_suppose 113 = .ok (.getfield 16, 3) := by decide +kernel
theorem dX3_suppose_116 : decode cX3_suppose 116 = .ok (.getfield 95, 3) := by decide +kernel
theorem dX3_suppose_119 : decode cX3_suppose 119 = .ok (.iload_n 3, 1) := by decide +kernel
theorem dX3_suppose_120 : decode cX3_suppose 120 = .ok (.iload_n 2, 1) := by decide +kernel
theorem dX3_suppose_121 : decode cX3_suppose 121 = .ok (.iastore, 1) := by decide +kernel
theorem dX3_suppose_122 : decode cX3_suppose 122 = .ok (.goto 29, 3) := by decide +kernel
theorem dX3_suppose_125 : decode cX3_suppose 125 = .ok (.aload_n 0, 1) := by decide +kernel
theorem dX3_suppose_126 : decode cX3_suppose 126 = .ok (.getfield 16, 3) := by decide +kernel
theorem dX3_suppose_129 : decode cX3_suppose 129 = .ok (.dup, 1) := by decide +kernel
theorem dX3_suppose_130 : decode cX3_suppose 130 = .ok (.getfield 50, 3) := by decide +kernel
theorem dX3_suppose_133 : decode cX3_suppose 133 = .ok (.iconst 1, 1) := by decide +kernel
theorem dX3_suppose_134 : decode cX3_suppose 134 = .ok (.iload_n 2, 1) := by decide +kernel
theorem dX3_suppose_135 : decode cX3_suppose 135 = .ok (.ishl, 1) := by decide +kernel
theorem dX3_suppose_136 : decode cX3_suppose 136 = .ok (.ior, 1) := by decide +kernel
theorem dX3_suppose_137 : decode cX3_suppose 137 = .ok (.putfield 50, 3) := by decide +kernel
theorem dX3_suppose_140 : decode cX3_suppose 140 = .ok (.goto 11, 3) := by decide +kernel
theorem dX3_suppose_143 : decode cX3_suppose 143 = .ok (.aload_n 0, 1) := by decide +kernel
theorem dX3_suppose_144 : decode cX3_suppose 144 = .ok (.getfield 16, 3) := by decide +kernel
theorem dX3_suppose_147 : decode cX3_suppose 147 = .ok (.iload_n 2, 1) := by decide +kernel
theorem dX3_suppose_148 : decode cX3_suppose 148 = .ok (.putfield 58, 3) := by decide +kernel
theorem dX3_suppose_151 : decode cX3_suppose 151 = .ok (.return_, 1) := by decide +kernel
theorem dX3_soonestChoice_0 : decode cX3_soonestChoice 0 = .ok (.iconst (-1), 1) := by decide +kernel
theorem dX3_soonestChoice_1 : decode cX3_soonestChoice 1 = .ok (.istore 6, 2) := by decide +kernel
theorem dX3_soonestChoice_3 : decode cX3_soonestChoice 3 = .ok (.iload_n 3, 1) := by decide +kernel
theorem dX3_soonestChoice_4 : decode cX3_soonestChoice 4 = .ok (.istore 7, 2) := by decide +kernel
theorem dX3_soonestChoice_6 : decode cX3_soonestChoice 6 = .ok (.iconst 0, 1) := by decide +kernel
theorem dX3_soonestChoice_7 : decode cX3_soonestChoice 7 = .ok (.istore 8, 2) := by decide +kernel
theorem dX3_soonestChoice_9 : decode cX3_soonestChoice 9 = .ok (.iload 8, 2) := by decide +kernel
theorem dX3_soonestChoice_11 : decode cX3_soonestChoice 11 = .ok (.iload_n 2, 1) := by decide +kernel
theorem dX3_soonestChoice_12 : decode cX3_soonestChoice 12 = .ok (.if_icmp .ge 51, 3) := by decide +kernel
theorem dX3_soonestChoice_15 : decode cX3_soonestChoice 15 = .ok (.iload 7, 2) := by decide +kernel
theorem dX3_soonestChoice_17 : decode cX3_soonestChoice 17 = .ok (.ifCond .lt 46, 3) := by decide +kernel
theorem dX3_soonestChoice_20 : decode cX3_soonestChoice 20 = .ok (.aload_n 0, 1) := by decide +kernel
theorem dX3_soonestChoice_21 : decode cX3_soonestChoice 21 = .ok (.iload_n 1, 1) := by decide +kernel
theorem dX3_soonestChoice_22 : decode cX3_soonestChoice 22 = .ok (.iload 8, 2) := by decide +kernel
theorem dX3_soonestChoice_24 : decode cX3_soonestChoice 24 = .ok (.iload 4, 2) := by decide +kernel
theorem dX3_soonestChoice_26 : decode cX3_soonestChoice 26 = .ok (.invokevirtual 241, 3) := by decide +kernel
theorem dX3_soonestChoice_29 : decode cX3_soonestChoice 29 = .ok (.aload_n 0, 1) := by decide +kernel
theorem dX3_soonestChoice_30 : decode cX3_soonestChoice 30 = .ok (.iconst 0, 1) := by decide +kernel
theorem dX3_soonestChoice_31 : decode cX3_soonestChoice 31 = .ok (.iload 4, 2) := by decide +kernel
theorem dX3_soonestChoice_33 : decode cX3_soonestChoice 33 = .ok (.iload 5, 2) := by decide +kernel
theorem dX3_soonestChoice_35 : decode cX3_soonestChoice 35 = .ok (.iload 7, 2) := by decide +kernel
theorem dX3_soonestChoice_37 : decode cX3_soonestChoice 37 = .ok (.invokevirtual 231, 3) := by decide +kernel
theorem dX3_soonestChoice_40 : decode cX3_soonestChoice 40 = .ok (.istore 9, 2) := by decide +kernel
theorem dX3_soonestChoice_42 : decode cX3_soonestChoice 42 = .ok (.iload 9, 2) := by decide +kernel
theorem dX3_soonestChoice_44 : decode cX3_soonestChoice 44 = .ok (.ifCond .lt 13, 3) := by decide +kernel
theorem dX3_soonestChoice_47 : decode cX3_soonestChoice 47 = .ok (.iload 8, 2) := by decide +kernel
theorem dX3_soonestChoice_49 : decode cX3_soonestChoice 49 = .ok (.istore 6, 2) := by decide +kernel
theorem dX3_soonestChoice_51 : decode cX3_soonestChoice 51 = .ok (.iload 9, 2) := by decide +kernel
theorem dX3_soonestChoice_53 : decode cX3_soonestChoice 53 = .ok (.iconst 1, 1) := by decide +kernel
theorem dX3_soonestChoice_54 : decode cX3_soonestChoice 54 = .ok (.isub, 1) := by decide +kernel
theorem dX3_soonestChoice_55 : decode cX3_soonestChoice 55 = .ok (.istore 7, 2) := by decide +kernel
theorem dX3_soonestChoice_57 : decode cX3_soonestChoice 57 = .ok (.iinc 8 1, 3) := by decide +kernel
theorem dX3_soonestChoice_60 : decode cX3_soonestChoice 60 = .ok (.goto (-51), 3) := by decide +kernel
theorem dX3_soonestChoice_63 : decode cX3_soonestChoice 63 = .ok (.iload 6, 2) := by decide +kernel
theorem dX3_soonestChoice_65 : decode cX3_soonestChoice 65 = .ok (.ireturn, 1) := by decide +kernel
theorem dX3_fullestChoice_0 : decode cX3_fullestChoice 0 = .ok (.iconst 0, 1) := by decide +kernel
theorem dX3_fullestChoice_1 : decode cX3_fullestChoice 1 = .ok (.istore 5, 2) := by decide +kernel
theorem dX3_fullestChoice_3 : decode cX3_fullestChoice 3 = .ok (.iconst (-1), 1) := by decide +kernel
theorem dX3_fullestChoice_4 : decode cX3_fullestChoice 4 = .ok (.istore 6, 2) := by decide +kernel
theorem dX3_fullestChoice_6 : decode cX3_fullestChoice 6 = .ok (.iconst 0, 1) := by decide +kernel
theorem dX3_fullestChoice_7 : decode cX3_fullestChoice 7 = .ok (.istore 7, 2) := by decide +kernel
theorem dX3_fullestChoice_9 : decode cX3_fullestChoice 9 = .ok (.iload 7, 2) := by decide +kernel
theorem dX3_fullestChoice_11 : decode cX3_fullestChoice 11 = .ok (.iload_n 2, 1) := by decide +kernel
theorem dX3_fullestChoice_12 : decode cX3_fullestChoice 12 = .ok (.if_icmp .ge 80, 3) := by decide +kernel
theorem dX3_fullestChoice_15 : decode cX3_fullestChoice 15 = .ok (.iload 6, 2) := by decide +kernel
theorem dX3_fullestChoice_17 : decode cX3_fullestChoice 17 = .ok (.aload_n 0, 1) := by decide +kernel
theorem dX3_fullestChoice_18 : decode cX3_fullestChoice 18 = .ok (.getfield 10, 3) := by decide +kernel
theorem dX3_fullestChoice_21 : decode cX3_fullestChoice 21 = .ok (.getfield 215, 3) := by decide +kernel
theorem dX3_fullestChoice_24 : decode cX3_fullestChoice 24 = .ok (.if_icmp .ge 68, 3) := by decide +kernel
theorem dX3_fullestChoice_27 : decode cX3_fullestChoice 27 = .ok (.aload_n 0, 1) := by decide +kernel
theorem dX3_fullestChoice_28 : decode cX3_fullestChoice 28 = .ok (.iload_n 1, 1) := by decide +kernel
theorem dX3_fullestChoice_29 : decode cX3_fullestChoice 29 = .ok (.iload 7, 2) := by decide +kernel
theorem dX3_fullestChoice_31 : decode cX3_fullestChoice 31 = .ok (.iload 4, 2) := by decide +kernel
theorem dX3_fullestChoice_33 : decode cX3_fullestChoice 33 = .ok (.invokevirtual 241, 3) := by decide +kernel
theorem dX3_fullestChoice_36 : decode cX3_fullestChoice 36 = .ok (.aload_n 0, 1) := by decide +kernel
theorem dX3_fullestChoice_37 : decode cX3_fullestChoice 37 = .ok (.getfield 16, 3) := by decide +kernel
theorem dX3_fullestChoice_40 : decode cX3_fullestChoice 40 = .ok (.iload_n 3, 1) := by decide +kernel
theorem dX3_fullestChoice_41 : decode cX3_fullestChoice 41 = .ok (.invokevirtual 139, 3) := by decide +kernel
theorem dX3_fullestChoice_44 : decode cX3_fullestChoice 44 = .ok (.iload_n 1, 1) := by decide +kernel
theorem dX3_fullestChoice_45 : decode cX3_fullestChoice 45 = .ok (.iconst 4, 1) := by decide +kernel
theorem dX3_fullestChoice_46 : decode cX3_fullestChoice 46 = .ok (.if_icmp .ne 13, 3) := by decide +kernel
theorem dX3_fullestChoice_49 : decode cX3_fullestChoice 49 = .ok (.aload_n 0, 1) := by decide +kernel
theorem dX3_fullestChoice_50 : decode cX3_fullestChoice 50 = .ok (.getfield 16, 3) := by decide +kernel
theorem dX3_fullestChoice_53 : decode cX3_fullestChoice 53 = .ok (.invokevirtual 145, 3) := by decide +kernel
theorem dX3_fullestChoice_56 : decode cX3_fullestChoice 56 = .ok (.goto 10, 3) := by decide +kernel
theorem dX3_fullestChoice_59 : decode cX3_fullestChoice 59 = .ok (.aload_n 0, 1) := by decide +kernel
theorem dX3_fullestChoice_60 : decode cX3_fullestChoice 60 = .ok (.getfield 16, 3) := by decide +kernel
theorem dX3_fullestChoice_63 : decode cX3_fullestChoice 63 = .ok (.invokevirtual 126, 3) := by decide +kernel
theorem dX3_fullestChoice_66 : decode cX3_fullestChoice 66 = .ok (.invokestatic 130, 3) := by decide +kernel
theorem dX3_fullestChoice_69 : decode cX3_fullestChoice 69 = .ok (.istore 8, 2) := by decide +kernel
theorem dX3_fullestChoice_71 : decode cX3_fullestChoice 71 = .ok (.iload 8, 2) := by decide +kernel
theorem dX3_fullestChoice_73 : decode cX3_fullestChoice 73 = .ok (.iload 6, 2) := by decide +kernel
theorem dX3_fullestChoice_75 : decode cX3_fullestChoice 75 = .ok (.if_icmp .le 11, 3) := by decide +kernel
theorem dX3_fullestChoice_78 : decode cX3_fullestChoice 78 = .ok (.iload 7, 2) := by decide +kernel
theorem dX3_fullestChoice_80 : decode cX3_fullestChoice 80 = .ok (.istore 5, 2) := by decide +kernel
theorem dX3_fullestChoice_82 : decode cX3_fullestChoice 82 = .ok (.iload 8, 2) := by decide +kernel
theorem dX3_fullestChoice_84 : decode cX3_fullestChoice 84 = .ok (.istore 6, 2) := by decide +kernel
theorem dX3_fullestChoice_86 : decode cX3_fullestChoice 86 = .ok (.iinc 7 1, 3) := by decide +kernel
theorem dX3_fullestChoice_89 : decode cX3_fullestChoice 89 = .ok (.goto (-80), 3) := by decide +kernel
theorem dX3_fullestChoice_92 : decode cX3_fullestChoice 92 = .ok (.iload 5, 2) := by decide +kernel
theorem dX3_fullestChoice_94 : decode cX3_fullestChoice 94 = .ok (.ireturn, 1) := by decide +kernel
theorem dX3_isCell_0 : decode cX3_isCell 0 = .ok (.iload_n 0, 1) := by decide +kernel
theorem dX3_isCell_1 : decode cX3_isCell 1 = .ok (.ifCond .lt 13, 3) := by decide +kernel
theorem dX3_isCell_4 : decode cX3_isCell 4 = .ok (.iload_n 0, 1) := by decide +kernel
theorem dX3_isCell_5 : decode cX3_isCell 5 = .ok (.bipush 36, 2) := by decide +kernel
theorem dX3_isCell_7 : decode cX3_isCell 7 = .ok (.if_icmp .ge 7, 3) := by decide +kernel
theorem dX3_isCell_10 : decode cX3_isCell 10 = .ok (.iconst 1, 1) := by decide +kernel
theorem dX3_isCell_11 : decode cX3_isCell 11 = .ok (.goto 4, 3) := by decide +kernel
theorem dX3_isCell_14 : decode cX3_isCell 14 = .ok (.iconst 0, 1) := by decide +kernel
theorem dX3_isCell_15 : decode cX3_isCell 15 = .ok (.ireturn, 1) := by decide +kernel
theorem dX3_isKind_0 : decode cX3_isKind 0 = .ok (.iload_n 0, 1) := by decide +kernel
theorem dX3_isKind_1 : decode cX3_isKind 1 = .ok (.ifCond .lt 13, 3) := by decide +kernel
theorem dX3_isKind_4 : decode cX3_isKind 4 = .ok (.iload_n 0, 1) := by decide +kernel
theorem dX3_isKind_5 : decode cX3_isKind 5 = .ok (.bipush 6, 2) := by decide +kernel
theorem dX3_isKind_7 : decode cX3_isKind 7 = .ok (.if_icmp .ge 7, 3) := by decide +kernel
theorem dX3_isKind_10 : decode cX3_isKind 10 = .ok (.iconst 1, 1) := by decide +kernel
theorem dX3_isKind_11 : decode cX3_isKind 11 = .ok (.goto 4, 3) := by decide +kernel
theorem dX3_isKind_14 : decode cX3_isKind 14 = .ok (.iconst 0, 1) := by decide +kernel
theorem dX3_isKind_15 : decode cX3_isKind 15 = .ok (.ireturn, 1) := by decide +kernel
theorem dX3_isOrIsUnder_0 : decode cX3_isOrIsUnder 0 = .ok (.iload_n 0, 1) := by decide +kernel
theorem dX3_isOrIsUnder_1 : decode cX3_isOrIsUnder 1 = .ok (.istore_n 2, 1) := by decide +kernel
theorem dX3_isOrIsUnder_2 : decode cX3_isOrIsUnder 2 = .ok (.iconst 0, 1) := by decide +kernel
theorem dX3_isOrIsUnder_3 : decode cX3_isOrIsUnder 3 = .ok (.istore_n 3, 1) := by decide +kernel
theorem dX3_isOrIsUnder_4 : decode cX3_isOrIsUnder 4 = .ok (.iload_n 3, 1) := by decide +kernel
theorem dX3_isOrIsUnder_5 : decode cX3_isOrIsUnder 5 = .ok (.bipush 6, 2) := by decide +kernel
theorem dX3_isOrIsUnder_7 : decode cX3_isOrIsUnder 7 = .ok (.if_icmp .ge 29, 3) := by decide +kernel
theorem dX3_isOrIsUnder_10 : decode cX3_isOrIsUnder 10 = .ok (.iload_n 2, 1) := by decide +kernel
theorem dX3_isOrIsUnder_11 : decode cX3_isOrIsUnder 11 = .ok (.invokestatic 64, 3) := by decide +kernel
theorem dX3_isOrIsUnder_14 : decode cX3_isOrIsUnder 14 = .ok (.ifCond .eq 22, 3) := by decide +kernel
theorem dX3_isOrIsUnder_17 : decode cX3_isOrIsUnder 17 = .ok (.iload_n 2, 1) := by decide +kernel
theorem dX3_isOrIsUnder_18 : decode cX3_isOrIsUnder 18 = .ok (.iload_n 1, 1) := by decide +kernel
theorem dX3_isOrIsUnder_19 : decode cX3_isOrIsUnder 19 = .ok (.if_icmp .ne 5, 3) := by decide +kernel
theorem dX3_isOrIsUnder_22 : decode cX3_isOrIsUnder 22 = .ok (.iconst 1, 1) := by decide +kernel
theorem dX3_isOrIsUnder_23 : decode cX3_isOrIsUnder 23 = .ok (.ireturn, 1) := by decide +kernel
theorem dX3_isOrIsUnder_24 : decode cX3_isOrIsUnder 24 = .ok (.getstatic 245, 3) := by decide +kernel
theorem dX3_isOrIsUnder_27 : decode cX3_isOrIsUnder 27 = .ok (.iload_n 2, 1) := by decide +kernel
theorem dX3_isOrIsUnder_28 : decode cX3_isOrIsUnder 28 = .ok (.iaload, 1) := by decide +kernel
theorem dX3_isOrIsUnder_29 : decode cX3_isOrIsUnder 29 = .ok (.istore_n 2, 1) := by decide +kernel
theorem dX3_isOrIsUnder_30 : decode cX3_isOrIsUnder 30 = .ok (.iinc 3 1, 3) := by decide +kernel
theorem dX3_isOrIsUnder_33 : decode cX3_isOrIsUnder 33 = .ok (.goto (-29), 3) := by decide +kernel
theorem dX3_isOrIsUnder_36 : decode cX3_isOrIsUnder 36 = .ok (.iconst 0, 1) := by decide +kernel
theorem dX3_isOrIsUnder_37 : decode cX3_isOrIsUnder 37 = .ok (.ireturn, 1) := by decide +kernel
theorem dX3_valuesOf_0 : decode cX3_valuesOf 0 = .ok (.iload_n 0, 1) := by decide +kernel
theorem dX3_valuesOf_1 : decode cX3_valuesOf 1 = .ok (.tableswitch 32 1 3 #[27, 27, 30], 27) := by decide +kernel
theorem dX3_valuesOf_28 : decode cX3_valuesOf 28 = .ok (.bipush 36, 2) := by decide +kernel
theorem dX3_valuesOf_30 : decode cX3_valuesOf 30 = .ok (.ireturn, 1) := by decide +kernel
theorem dX3_valuesOf_31 : decode cX3_valuesOf 31 = .ok (.iconst 4, 1) := by decide +kernel
theorem dX3_valuesOf_32 : decode cX3_valuesOf 32 = .ok (.ireturn, 1) := by decide +kernel
theorem dX3_valuesOf_33 : decode cX3_valuesOf 33 = .ok (.bipush 16, 2) := by decide +kernel
theorem dX3_valuesOf_35 : decode cX3_valuesOf 35 = .ok (.ireturn, 1) := by decide +kernel
theorem dX3_widowSteps_0 : decode cX3_widowSteps 0 = .ok (.iload_n 0, 1) := by decide +kernel
theorem dX3_widowSteps_1 : decode cX3_widowSteps 1 = .ok (.iconst 2, 1) := by decide +kernel
theorem dX3_widowSteps_2 : decode cX3_widowSteps 2 = .ok (.irem, 1) := by decide +kernel
theorem dX3_widowSteps_3 : decode cX3_widowSteps 3 = .ok (.ifCond .ne 7, 3) := by decide +kernel
theorem dX3_widowSteps_6 : decode cX3_widowSteps 6 = .ok (.iconst 1, 1) := by decide +kernel
theorem dX3_widowSteps_7 : decode cX3_widowSteps 7 = .ok (.goto 4, 3) := by decide +kernel
theorem dX3_widowSteps_10 : decode cX3_widowSteps 10 = .ok (.iconst 0, 1) := by decide +kernel
theorem dX3_widowSteps_11 : decode cX3_widowSteps 11 = .ok (.ireturn, 1) := by decide +kernel
theorem dX3_everyThird_0 : decode cX3_everyThird 0 = .ok (.iload_n 0, 1) := by decide +kernel
theorem dX3_everyThird_1 : decode cX3_everyThird 1 = .ok (.iconst 3, 1) := by decide +kernel
theorem dX3_everyThird_2 : decode cX3_everyThird 2 = .ok (.irem, 1) := by decide +kernel
theorem dX3_everyThird_3 : decode cX3_everyThird 3 = .ok (.ifCond .ne 7, 3) := by decide +kernel
theorem dX3_everyThird_6 : decode cX3_everyThird 6 = .ok (.iconst 1, 1) := by decide +kernel
theorem dX3_everyThird_7 : decode cX3_everyThird 7 = .ok (.goto 4, 3) := by decide +kernel
theorem dX3_everyThird_10 : decode cX3_everyThird 10 = .ok (.iconst 0, 1) := by decide +kernel
theorem dX3_everyThird_11 : decode cX3_everyThird 11 = .ok (.ireturn, 1) := by decide +kernel
theorem dX3_stepsOf_0 : decode cX3_stepsOf 0 = .ok (.iload_n 0, 1) := by decide +kernel
theorem dX3_stepsOf_1 : decode cX3_stepsOf 1 = .ok (.tableswitch 50 2 5 #[31, 36, 38, 40], 31) := by decide +kernel
theorem dX3_stepsOf_32 : decode cX3_stepsOf 32 = .ok (.iload_n 1, 1) := by decide +kernel
theorem dX3_stepsOf_33 : decode cX3_stepsOf 33 = .ok (.invokestatic 248, 3) := by decide +kernel
theorem dX3_stepsOf_36 : decode cX3_stepsOf 36 = .ok (.ireturn, 1) := by decide +kernel
theorem dX3_stepsOf_37 : decode cX3_stepsOf 37 = .ok (.iconst 0, 1) := by decide +kernel
theorem dX3_stepsOf_38 : decode cX3_stepsOf 38 = .ok (.ireturn, 1) := by decide +kernel
theorem dX3_stepsOf_39 : decode cX3_stepsOf 39 = .ok (.iconst 2, 1) := by decide +kernel
theorem dX3_stepsOf_40 : decode cX3_stepsOf 40 = .ok (.ireturn, 1) := by decide +kernel
theorem dX3_stepsOf_41 : decode cX3_stepsOf 41 = .ok (.iload_n 1, 1) := by decide +kernel
theorem dX3_stepsOf_42 : decode cX3_stepsOf 42 = .ok (.invokestatic 248, 3) := by decide +kernel
theorem dX3_stepsOf_45 : decode cX3_stepsOf 45 = .ok (.iload_n 1, 1) := by decide +kernel
theorem dX3_stepsOf_46 : decode cX3_stepsOf 46 = .ok (.invokestatic 251, 3) := by decide +kernel
theorem dX3_stepsOf_49 : decode cX3_stepsOf 49 = .ok (.iadd, 1) := by decide +kernel
theorem dX3_stepsOf_50 : decode cX3_stepsOf 50 = .ok (.ireturn, 1) := by decide +kernel
theorem dX3_stepsOf_51 : decode cX3_stepsOf 51 = .ok (.iconst 1, 1) := by decide +kernel
theorem dX3_stepsOf_52 : decode cX3_stepsOf 52 = .ok (.ireturn, 1) := by decide +kernel
theorem dX3_turnsOf_0 : decode cX3_turnsOf 0 = .ok (.iload_n 0, 1) := by decide +kernel
theorem dX3_turnsOf_1 : decode cX3_turnsOf 1 = .ok (.tableswitch 55 1 5 #[35, 55, 40, 35, 42], 35) := by decide +kernel
theorem dX3_turnsOf_36 : decode cX3_turnsOf 36 = .ok (.iload_n 1, 1) := by decide +kernel
theorem dX3_turnsOf_37 : decode cX3_turnsOf 37 = .ok (.invokestatic 251, 3) := by decide +kernel
theorem dX3_turnsOf_40 : decode cX3_turnsOf 40 = .ok (.ireturn, 1) := by decide +kernel
theorem dX3_turnsOf_41 : decode cX3_turnsOf 41 = .ok (.iconst 1, 1) := by decide +kernel
theorem dX3_turnsOf_42 : decode cX3_turnsOf 42 = .ok (.ireturn, 1) := by decide +kernel
theorem dX3_turnsOf_43 : decode cX3_turnsOf 43 = .ok (.iload_n 1, 1) := by decide +kernel
theorem dX3_turnsOf_44 : decode cX3_turnsOf 44 = .ok (.iconst 4, 1) := by decide +kernel
theorem dX3_turnsOf_45 : decode cX3_turnsOf 45 = .ok (.irem, 1) := by decide +kernel
theorem dX3_turnsOf_46 : decode cX3_turnsOf 46 = .ok (.iconst 1, 1) := by decide +kernel
theorem dX3_turnsOf_47 : decode cX3_turnsOf 47 = .ok (.if_icmp .ne 7, 3) := by decide +kernel
theorem dX3_turnsOf_50 : decode cX3_turnsOf 50 = .ok (.iconst 2, 1) := by decide +kernel
theorem dX3_turnsOf_51 : decode cX3_turnsOf 51 = .ok (.goto 4, 3) := by decide +kernel
theorem dX3_turnsOf_54 : decode cX3_turnsOf 54 = .ok (.iconst 0, 1) := by decide +kernel
theorem dX3_turnsOf_55 : decode cX3_turnsOf 55 = .ok (.ireturn, 1) := by decide +kernel
theorem dX3_turnsOf_56 : decode cX3_turnsOf 56 = .ok (.iconst 0, 1) := by decide +kernel
theorem dX3_turnsOf_57 : decode cX3_turnsOf 57 = .ok (.ireturn, 1) := by decide +kernel
theorem dX3_cellTowards_0 : decode cX3_cellTowards 0 = .ok (.iload_n 1, 1) := by decide +kernel
theorem dX3_cellTowards_1 : decode cX3_cellTowards 1 = .ok (.tableswitch 73 0 2 #[27, 42, 58], 27) := by decide +kernel
theorem dX3_cellTowards_28 : decode cX3_cellTowards 28 = .ok (.iload_n 0, 1) := by decide +kernel
theorem dX3_cellTowards_29 : decode cX3_cellTowards 29 = .ok (.bipush 6, 2) := by decide +kernel
theorem dX3_cellTowards_31 : decode cX3_cellTowards 31 = .ok (.if_icmp .lt 10, 3) := by decide +kernel
theorem dX3_cellTowards_34 : decode cX3_cellTowards 34 = .ok (.iload_n 0, 1) := by decide +kernel
theorem dX3_cellTowards_35 : decode cX3_cellTowards 35 = .ok (.bipush 6, 2) := by decide +kernel
theorem dX3_cellTowards_37 : decode cX3_cellTowards 37 = .ok (.isub, 1) := by decide +kernel
theorem dX3_cellTowards_38 : decode cX3_cellTowards 38 = .ok (.goto 4, 3) := by decide +kernel
theorem dX3_cellTowards_41 : decode cX3_cellTowards 41 = .ok (.iconst (-1), 1) := by decide +kernel
theorem dX3_cellTowards_42 : decode cX3_cellTowards 42 = .ok (.ireturn, 1) := by decide +kernel
theorem dX3_cellTowards_43 : decode cX3_cellTowards 43 = .ok (.iload_n 0, 1) := by decide +kernel
theorem dX3_cellTowards_44 : decode cX3_cellTowards 44 = .ok (.bipush 6, 2) := by decide +kernel
theorem dX3_cellTowards_46 : decode cX3_cellTowards 46 = .ok (.irem, 1) := by decide +kernel
theorem dX3_cellTowards_47 : decode cX3_cellTowards 47 = .ok (.iconst 5, 1) := by decide +kernel
theorem dX3_cellTowards_48 : decode cX3_cellTowards 48 = .ok (.if_icmp .ge 9, 3) := by decide +kernel
theorem dX3_cellTowards_51 : decode cX3_cellTowards 51 = .ok (.iload_n 0, 1) := by decide +kernel
theorem dX3_cellTowards_52 : decode cX3_cellTowards 52 = .ok (.iconst 1, 1) := by decide +kernel
theorem dX3_cellTowards_53 : decode cX3_cellTowards 53 = .ok (.iadd, 1) := by decide +kernel
theorem dX3_cellTowards_54 : decode cX3_cellTowards 54 = .ok (.goto 4, 3) := by decide +kernel
theorem dX3_cellTowards_57 : decode cX3_cellTowards 57 = .ok (.iconst (-1), 1) := by decide +kernel
theorem dX3_cellTowards_58 : decode cX3_cellTowards 58 = .ok (.ireturn, 1) := by decide +kernel
theorem dX3_cellTowards_59 : decode cX3_cellTowards 59 = .ok (.iload_n 0, 1) := by decide +kernel
theorem dX3_cellTowards_60 : decode cX3_cellTowards 60 = .ok (.bipush 30, 2) := by decide +kernel
theorem dX3_cellTowards_62 : decode cX3_cellTowards 62 = .ok (.if_icmp .ge 10, 3) := by decide +kernel
theorem dX3_cellTowards_65 : decode cX3_cellTowards 65 = .ok (.iload_n 0, 1) := by decide +kernel
theorem dX3_cellTowards_66 : decode cX3_cellTowards 66 = .ok (.bipush 6, 2) := by decide +kernel
theorem dX3_cellTowards_68 : decode cX3_cellTowards 68 = .ok (.iadd, 1) := by decide +kernel
theorem dX3_cellTowards_69 : decode cX3_cellTowards 69 = .ok (.goto 4, 3) := by decide +kernel
theorem dX3_cellTowards_72 : decode cX3_cellTowards 72 = .ok (.iconst (-1), 1) := by decide +kernel
theorem dX3_cellTowards_73 : decode cX3_cellTowards 73 = .ok (.ireturn, 1) := by decide +kernel
theorem dX3_cellTowards_74 : decode cX3_cellTowards 74 = .ok (.iload_n 0, 1) := by decide +kernel
theorem dX3_cellTowards_75 : decode cX3_cellTowards 75 = .ok (.bipush 6, 2) := by decide +kernel
theorem dX3_cellTowards_77 : decode cX3_cellTowards 77 = .ok (.irem, 1) := by decide +kernel
theorem dX3_cellTowards_78 : decode cX3_cellTowards 78 = .ok (.ifCond .le 9, 3) := by decide +kernel
theorem dX3_cellTowards_81 : decode cX3_cellTowards 81 = .ok (.iload_n 0, 1) := by decide +kernel
theorem dX3_cellTowards_82 : decode cX3_cellTowards 82 = .ok (.iconst 1, 1) := by decide +kernel
theorem dX3_cellTowards_83 : decode cX3_cellTowards 83 = .ok (.isub, 1) := by decide +kernel
theorem dX3_cellTowards_84 : decode cX3_cellTowards 84 = .ok (.goto 4, 3) := by decide +kernel
theorem dX3_cellTowards_87 : decode cX3_cellTowards 87 = .ok (.iconst (-1), 1) := by decide +kernel
theorem dX3_cellTowards_88 : decode cX3_cellTowards 88 = .ok (.ireturn, 1) := by decide +kernel
end
section
theorem dX4_init_0 : decode cX4_init 0 = .ok (.aload_n 0, 1) := by decide +kernel
theorem dX4_init_1 : decode cX4_init 1 = .ok (.invokespecial 1, 3) := by decide +kernel
theorem dX4_init_4 : decode cX4_init 4 = .ok (.aload_n 0, 1) := by decide +kernel
theorem dX4_init_5 : decode cX4_init 5 = .ok (.bipush 60, 2) := by decide +kernel
theorem dX4_init_7 : decode cX4_init 7 = .ok (.newarray .int, 2) := by decide +kernel
theorem dX4_init_9 : decode cX4_init 9 = .ok (.putfield 7, 3) := by decide +kernel
theorem dX4_init_12 : decode cX4_init 12 = .ok (.aload_n 0, 1) := by decide +kernel
theorem dX4_init_13 : decode cX4_init 13 = .ok (.bipush 60, 2) := by decide +kernel
theorem dX4_init_15 : decode cX4_init 15 = .ok (.newarray .int, 2) := by decide +kernel
theorem dX4_init_17 : decode cX4_init 17 = .ok (.putfield 13, 3) := by decide +kernel
theorem dX4_init_20 : decode cX4_init 20 = .ok (.aload_n 0, 1) := by decide +kernel
theorem dX4_init_21 : decode cX4_init 21 = .ok (.bipush 60, 2) := by decide +kernel
theorem dX4_init_23 : decode cX4_init 23 = .ok (.newarray .int, 2) := by decide +kernel
theorem dX4_init_25 : decode cX4_init 25 = .ok (.putfield 16, 3) := by decide +kernel
theorem dX4_init_28 : decode cX4_init 28 = .ok (.aload_n 0, 1) := by decide +kernel
theorem dX4_init_29 : decode cX4_init 29 = .ok (.bipush 60, 2) := by decide +kernel
theorem dX4_init_31 : decode cX4_init 31 = .ok (.newarray .int, 2) := by decide +kernel
theorem dX4_init_33 : decode cX4_init 33 = .ok (.putfield 19, 3) := by decide +kernel
theorem dX4_init_36 : decode cX4_init 36 = .ok (.aload_n 0, 1) := by decide +kernel
theorem dX4_init_37 : decode cX4_init 37 = .ok (.bipush 7, 2) := by decide +kernel
theorem dX4_init_39 : decode cX4_init 39 = .ok (.newarray .int, 2) := by decide +kernel
theorem dX4_init_41 : decode cX4_init 41 = .ok (.putfield 22, 3) := by decide +kernel
theorem dX4_init_44 : decode cX4_init 44 = .ok (.aload_n 0, 1) := by decide +kernel
theorem dX4_init_45 : decode cX4_init 45 = .ok (.bipush 120, 2) := by decide +kernel
theorem dX4_init_47 : decode cX4_init 47 = .ok (.newarray .int, 2) := by decide +kernel
theorem dX4_init_49 : decode cX4_init 49 = .ok (.putfield 25, 3) := by decide +kernel
theorem dX4_init_52 : decode cX4_init 52 = .ok (.aload_n 0, 1) := by decide +kernel
theorem dX4_init_53 : decode cX4_init 53 = .ok (.iconst 4, 1) := by decide +kernel
theorem dX4_init_54 : decode cX4_init 54 = .ok (.newarray .int, 2) := by decide +kernel
theorem dX4_init_56 : decode cX4_init 56 = .ok (.putfield 28, 3) := by decide +kernel
theorem dX4_init_59 : decode cX4_init 59 = .ok (.aload_n 0, 1) := by decide +kernel
theorem dX4_init_60 : decode cX4_init 60 = .ok (.iconst 4, 1) := by decide +kernel
theorem dX4_init_61 : decode cX4_init 61 = .ok (.newarray .int, 2) := by decide +kernel
theorem dX4_init_63 : decode cX4_init 63 = .ok (.putfield 31, 3) := by decide +kernel
theorem dX4_init_66 : decode cX4_init 66 = .ok (.aload_n 0, 1) := by decide +kernel
theorem dX4_init_67 : decode cX4_init 67 = .ok (.sipush 160, 3) := by decide +kernel
theorem dX4_init_70 : decode cX4_init 70 = .ok (.newarray .long, 2) := by decide +kernel
theorem dX4_init_72 : decode cX4_init 72 = .ok (.putfield 34, 3) := by decide +kernel
theorem dX4_init_75 : decode cX4_init 75 = .ok (.aload_n 0, 1) := by decide +kernel
theorem dX4_init_76 : decode cX4_init 76 = .ok (.bipush 40, 2) := by decide +kernel
theorem dX4_init_78 : decode cX4_init 78 = .ok (.newarray .long, 2) := by decide +kernel
theorem dX4_init_80 : decode cX4_init 80 = .ok (.putfield 38, 3) := by decide +kernel
theorem dX4_init_83 : decode cX4_init 83 = .ok (.aload_n 0, 1) := by decide +kernel
theorem dX4_init_84 : decode cX4_init 84 = .ok (.getfield 7, 3) := by decide +kernel
theorem dX4_init_87 : decode cX4_init 87 = .ok (.iconst 3, 1) := by decide +kernel
theorem dX4_init_88 : decode cX4_init 88 = .ok (.bipush 35, 2) := by decide +kernel
theorem dX4_init_90 : decode cX4_init 90 = .ok (.iastore, 1) := by decide +kernel
theorem dX4_init_91 : decode cX4_init 91 = .ok (.return_, 1) := by decide +kernel
theorem dX4_in_0 : decode cX4_in 0 = .ok (.lload_n 0, 1) := by decide +kernel
theorem dX4_in_1 : decode cX4_in 1 = .ok (.lload_n 2, 1) := by decide +kernel
theorem dX4_in_2 : decode cX4_in 2 = .ok (.lcmp, 1) := by decide +kernel
theorem dX4_in_3 : decode cX4_in 3 = .ok (.ifCond .lt 14, 3) := by decide +kernel
theorem dX4_in_6 : decode cX4_in 6 = .ok (.lload_n 0, 1) := by decide +kernel
theorem dX4_in_7 : decode cX4_in 7 = .ok (.lload 4, 2) := by decide +kernel
theorem dX4_in_9 : decode cX4_in 9 = .ok (.lcmp, 1) := by decide +kernel
theorem dX4_in_10 : decode cX4_in 10 = .ok (.ifCond .gt 7, 3) := by decide +kernel
theorem dX4_in_13 : decode cX4_in 13 = .ok (.iconst 1, 1) := by decide +kernel
theorem dX4_in_14 : decode cX4_in 14 = .ok (.goto 4, 3) := by decide +kernel
theorem dX4_in_17 : decode cX4_in 17 = .ok (.iconst 0, 1) := by decide +kernel
theorem dX4_in_18 : decode cX4_in 18 = .ok (.ireturn, 1) := by decide +kernel
theorem dX4_finds_0 : decode cX4_finds 0 = .ok (.aload_n 0, 1) := by decide +kernel
theorem dX4_finds_1 : decode cX4_finds 1 = .ok (.getfield 22, 3) := by decide +kernel
theorem dX4_finds_4 : decode cX4_finds 4 = .ok (.ldc 41, 2) := by decide +kernel
theorem dX4_finds_6 : decode cX4_finds 6 = .ok (.iload_n 1, 1) := by decide +kernel
theorem dX4_finds_7 : decode cX4_finds 7 = .ok (.isub, 1) := by decide +kernel
theorem dX4_finds_8 : decode cX4_finds 8 = .ok (.dup2, 1) := by decide +kernel
theorem dX4_finds_9 : decode cX4_finds 9 = .ok (.iaload, 1) := by decide +kernel
theorem dX4_finds_10 : decode cX4_finds 10 = .ok (.iconst 1, 1) := by decide +kernel
theorem dX4_finds_11 : decode cX4_finds 11 = .ok (.iadd, 1) := by decide +kernel
theorem dX4_finds_12 : decode cX4_finds 12 = .ok (.iastore, 1) := by decide +kernel
theorem dX4_finds_13 : decode cX4_finds 13 = .ok (.iload_n 1, 1) := by decide +kernel
theorem dX4_finds_14 : decode cX4_finds 14 = .ok (.ireturn, 1) := by decide +kernel
theorem dX4_saves_0 : decode cX4_saves 0 = .ok (.iconst 0, 1) := by decide +kernel
theorem dX4_saves_1 : decode cX4_saves 1 = .ok (.istore_n 1, 1) := by decide +kernel
theorem dX4_saves_2 : decode cX4_saves 2 = .ok (.iload_n 1, 1) := by decide +kernel
theorem dX4_saves_3 : decode cX4_saves 3 = .ok (.bipush 60, 2) := by decide +kernel
theorem dX4_saves_5 : decode cX4_saves 5 = .ok (.if_icmp .ge 21, 3) := by decide +kernel
theorem dX4_saves_8 : decode cX4_saves 8 = .ok (.aload_n 0, 1) := by decide +kernel
theorem dX4_saves_9 : decode cX4_saves 9 = .ok (.getfield 16, 3) := by decide +kernel
theorem dX4_saves_12 : decode cX4_saves 12 = .ok (.iload_n 1, 1) := by decide +kernel
theorem dX4_saves_13 : decode cX4_saves 13 = .ok (.aload_n 0, 1) := by decide +kernel
theorem dX4_saves_14 : decode cX4_saves 14 = .ok (.getfield 7, 3) := by decide +kernel
theorem dX4_saves_17 : decode cX4_saves 17 = .ok (.iload_n 1, 1) := by decide +kernel
theorem dX4_saves_18 : decode cX4_saves 18 = .ok (.iaload, 1) := by decide +kernel
theorem dX4_saves_19 : decode cX4_saves 19 = .ok (.iastore, 1) := by decide +kernel
theorem dX4_saves_20 : decode cX4_saves 20 = .ok (.iinc 1 1, 3) := by decide +kernel
theorem dX4_saves_23 : decode cX4_saves 23 = .ok (.goto (-21), 3) := by decide +kernel
theorem dX4_saves_26 : decode cX4_saves 26 = .ok (.return_, 1) := by decide +kernel
theorem dX4_putsBack_0 : decode cX4_putsBack 0 = .ok (.iconst 0, 1) := by decide +kernel
theorem dX4_putsBack_1 : decode cX4_putsBack 1 = .ok (.istore_n 1, 1) := by decide +kernel
theorem dX4_putsBack_2 : decode cX4_putsBack 2 = .ok (.iload_n 1, 1) := by decide +kernel
theorem dX4_putsBack_3 : decode cX4_putsBack 3 = .ok (.bipush 60, 2) := by decide +kernel
theorem dX4_putsBack_5 : decode cX4_putsBack 5 = .ok (.if_icmp .ge 21, 3) := by decide +kernel
theorem dX4_putsBack_8 : decode cX4_putsBack 8 = .ok (.aload_n 0, 1) := by decide +kernel
theorem dX4_putsBack_9 : decode cX4_putsBack 9 = .ok (.getfield 7, 3) := by decide +kernel
theorem dX4_putsBack_12 : decode cX4_putsBack 12 = .ok (.iload_n 1, 1) := by decide +kernel
theorem dX4_putsBack_13 : decode cX4_putsBack 13 = .ok (.aload_n 0, 1) := by decide +kernel
theorem dX4_putsBack_14 : decode cX4_putsBack 14 = .ok (.getfield 16, 3) := by decide +kernel
theorem dX4_putsBack_17 : decode cX4_putsBack 17 = .ok (.iload_n 1, 1) := by decide +kernel
theorem dX4_putsBack_18 : decode cX4_putsBack 18 = .ok (.iaload, 1) := by decide +kernel
theorem dX4_putsBack_19 : decode cX4_putsBack 19 = .ok (.iastore, 1) := by decide +kernel
theorem dX4_putsBack_20 : decode cX4_putsBack 20 = .ok (.iinc 1 1, 3) := by decide +kernel
theorem dX4_putsBack_23 : decode cX4_putsBack 23 = .ok (.goto (-21), 3) := by decide +kernel
theorem dX4_putsBack_26 : decode cX4_putsBack 26 = .ok (.return_, 1) := by decide +kernel
theorem dX4_laysAside_0 : decode cX4_laysAside 0 = .ok (.iconst 0, 1) := by decide +kernel
theorem dX4_laysAside_1 : decode cX4_laysAside 1 = .ok (.istore_n 1, 1) := by decide +kernel
theorem dX4_laysAside_2 : decode cX4_laysAside 2 = .ok (.iload_n 1, 1) := by decide +kernel
theorem dX4_laysAside_3 : decode cX4_laysAside 3 = .ok (.bipush 60, 2) := by decide +kernel
theorem dX4_laysAside_5 : decode cX4_laysAside 5 = .ok (.if_icmp .ge 21, 3) := by decide +kernel
theorem dX4_laysAside_8 : decode cX4_laysAside 8 = .ok (.aload_n 0, 1) := by decide +kernel
theorem dX4_laysAside_9 : decode cX4_laysAside 9 = .ok (.getfield 19, 3) := by decide +kernel
theorem dX4_laysAside_12 : decode cX4_laysAside 12 = .ok (.iload_n 1, 1) := by decide +kernel
theorem dX4_laysAside_13 : decode cX4_laysAside 13 = .ok (.aload_n 0, 1) := by decide +kernel
theorem dX4_laysAside_14 : decode cX4_laysAside 14 = .ok (.getfield 7, 3) := by decide +kernel
theorem dX4_laysAside_17 : decode cX4_laysAside 17 = .ok (.iload_n 1, 1) := by decide +kernel
theorem dX4_laysAside_18 : decode cX4_laysAside 18 = .ok (.iaload, 1) := by decide +kernel
theorem dX4_laysAside_19 : decode cX4_laysAside 19 = .ok (.iastore, 1) := by decide +kernel
theorem dX4_laysAside_20 : decode cX4_laysAside 20 = .ok (.iinc 1 1, 3) := by decide +kernel
theorem dX4_laysAside_23 : decode cX4_laysAside 23 = .ok (.goto (-21), 3) := by decide +kernel
theorem dX4_laysAside_26 : decode cX4_laysAside 26 = .ok (.return_, 1) := by decide +kernel
theorem dX4_takesBack_0 : decode cX4_takesBack 0 = .ok (.iconst 0, 1) := by decide +kernel
theorem dX4_takesBack_1 : decode cX4_takesBack 1 = .ok (.istore_n 2, 1) := by decide +kernel
theorem dX4_takesBack_2 : decode cX4_takesBack 2 = .ok (.iload_n 2, 1) := by decide +kernel
theorem dX4_takesBack_3 : decode cX4_takesBack 3 = .ok (.bipush 60, 2) := by decide +kernel
theorem dX4_takesBack_5 : decode cX4_takesBack 5 = .ok (.if_icmp .ge 21, 3) := by decide +kernel
theorem dX4_takesBack_8 : decode cX4_takesBack 8 = .ok (.aload_n 0, 1) := by decide +kernel
theorem dX4_takesBack_9 : decode cX4_takesBack 9 = .ok (.getfield 7, 3) := by decide +kernel
theorem dX4_takesBack_12 : decode cX4_takesBack 12 = .ok (.iload_n 2, 1) := by decide +kernel
theorem dX4_takesBack_13 : decode cX4_takesBack 13 = .ok (.aload_n 0, 1) := by decide +kernel
theorem dX4_takesBack_14 : decode cX4_takesBack 14 = .ok (.getfield 19, 3) := by decide +kernel
theorem dX4_takesBack_17 : decode cX4_takesBack 17 = .ok (.iload_n 2, 1) := by decide +kernel
theorem dX4_takesBack_18 : decode cX4_takesBack 18 = .ok (.iaload, 1) := by decide +kernel
theorem dX4_takesBack_19 : decode cX4_takesBack 19 = .ok (.iastore, 1) := by decide +kernel
theorem dX4_takesBack_20 : decode cX4_takesBack 20 = .ok (.iinc 2 1, 3) := by decide +kernel
theorem dX4_takesBack_23 : decode cX4_takesBack 23 = .ok (.goto (-21), 3) := by decide +kernel
theorem dX4_takesBack_26 : decode cX4_takesBack 26 = .ok (.iload_n 1, 1) := by decide +kernel
theorem dX4_takesBack_27 : decode cX4_takesBack 27 = .ok (.ireturn, 1) := by decide +kernel
theorem dX4_becomes_0 : decode cX4_becomes 0 = .ok (.aload_n 0, 1) := by decide +kernel
theorem dX4_becomes_1 : decode cX4_becomes 1 = .ok (.getfield 7, 3) := by decide +kernel
theorem dX4_becomes_4 : decode cX4_becomes 4 = .ok (.iload_n 1, 1) := by decide +kernel
theorem dX4_becomes_5 : decode cX4_becomes 5 = .ok (.iaload, 1) := by decide +kernel
theorem dX4_becomes_6 : decode cX4_becomes 6 = .ok (.istore_n 3, 1) := by decide +kernel
theorem dX4_becomes_7 : decode cX4_becomes 7 = .ok (.aload_n 0, 1) := by decide +kernel
theorem dX4_becomes_8 : decode cX4_becomes 8 = .ok (.getfield 7, 3) := by decide +kernel
theorem dX4_becomes_11 : decode cX4_becomes 11 = .ok (.iload_n 1, 1) := by decide +kernel
theorem dX4_becomes_12 : decode cX4_becomes 12 = .ok (.iload_n 2, 1) := by decide +kernel
theorem dX4_becomes_13 : decode cX4_becomes 13 = .ok (.iastore, 1) := by decide +kernel
theorem dX4_becomes_14 : decode cX4_becomes 14 = .ok (.iload_n 3, 1) := by decide +kernel
theorem dX4_becomes_15 : decode cX4_becomes 15 = .ok (.ireturn, 1) := by decide +kernel
theorem dX4_isCell_0 : decode cX4_isCell 0 = .ok (.iload_n 0, 1) := by decide +kernel
theorem dX4_isCell_1 : decode cX4_isCell 1 = .ok (.i2l, 1) := by decide +kernel
theorem dX4_isCell_2 : decode cX4_isCell 2 = .ok (.lconst 0, 1) := by decide +kernel
theorem dX4_isCell_3 : decode cX4_isCell 3 = .ok (.ldc2_w 42, 3) := by decide +kernel
theorem dX4_isCell_6 : decode cX4_isCell 6 = .ok (.invokestatic 44, 3) := by decide +kernel
theorem dX4_isCell_9 : decode cX4_isCell 9 = .ok (.ireturn, 1) := by decide +kernel
theorem dX4_isWalker_0 : decode cX4_isWalker 0 = .ok (.iload_n 1, 1) := by decide +kernel
theorem dX4_isWalker_1 : decode cX4_isWalker 1 = .ok (.i2l, 1) := by decide +kernel
theorem dX4_isWalker_2 : decode cX4_isWalker 2 = .ok (.lconst 0, 1) := by decide +kernel
theorem dX4_isWalker_3 : decode cX4_isWalker 3 = .ok (.aload_n 0, 1) := by decide +kernel
theorem dX4_isWalker_4 : decode cX4_isWalker 4 = .ok (.getfield 7, 3) := by decide +kernel
theorem dX4_isWalker_7 : decode cX4_isWalker 7 = .ok (.iconst 0, 1) := by decide +kernel
theorem dX4_isWalker_8 : decode cX4_isWalker 8 = .ok (.iaload, 1) := by decide +kernel
theorem dX4_isWalker_9 : decode cX4_isWalker 9 = .ok (.iconst 1, 1) := by decide +kernel
theorem dX4_isWalker_10 : decode cX4_isWalker 10 = .ok (.isub, 1) := by decide +kernel
theorem dX4_isWalker_11 : decode cX4_isWalker 11 = .ok (.i2l, 1) := by decide +kernel
theorem dX4_isWalker_12 : decode cX4_isWalker 12 = .ok (.invokestatic 44, 3) := by decide +kernel
theorem dX4_isWalker_15 : decode cX4_isWalker 15 = .ok (.ireturn, 1) := by decide +kernel
theorem dX4_areTwo_0 : decode cX4_areTwo 0 = .ok (.aload_n 0, 1) := by decide +kernel
theorem dX4_areTwo_1 : decode cX4_areTwo 1 = .ok (.iload_n 1, 1) := by decide +kernel
theorem dX4_areTwo_2 : decode cX4_areTwo 2 = .ok (.invokevirtual 48, 3) := by decide +kernel
theorem dX4_areTwo_5 : decode cX4_areTwo 5 = .ok (.ifCond .eq 20, 3) := by decide +kernel
theorem dX4_areTwo_8 : decode cX4_areTwo 8 = .ok (.aload_n 0, 1) := by decide +kernel
theorem dX4_areTwo_9 : decode cX4_areTwo 9 = .ok (.iload_n 2, 1) := by decide +kernel
theorem dX4_areTwo_10 : decode cX4_areTwo 10 = .ok (.invokevirtual 48, 3) := by decide +kernel
theorem dX4_areTwo_13 : decode cX4_areTwo 13 = .ok (.ifCond .eq 12, 3) := by decide +kernel
theorem dX4_areTwo_16 : decode cX4_areTwo 16 = .ok (.iload_n 1, 1) := by decide +kernel
theorem dX4_areTwo_17 : decode cX4_areTwo 17 = .ok (.iload_n 2, 1) := by decide +kernel
theorem dX4_areTwo_18 : decode cX4_areTwo 18 = .ok (.if_icmp .eq 7, 3) := by decide +kernel
theorem dX4_areTwo_21 : decode cX4_areTwo 21 = .ok (.iconst 1, 1) := by decide +kernel
theorem dX4_areTwo_22 : decode cX4_areTwo 22 = .ok (.goto 4, 3) := by decide +kernel
theorem dX4_areTwo_25 : decode cX4_areTwo 25 = .ok (.iconst 0, 1) := by decide +kernel
theorem dX4_areTwo_26 : decode cX4_areTwo 26 = .ok (.ireturn, 1) := by decide +kernel
theorem dX4_isKind_0 : decode cX4_isKind 0 = .ok (.iload_n 0, 1) := by decide +kernel
theorem dX4_isKind_1 : decode cX4_isKind 1 = .ok (.i2l, 1) := by decide +kernel
theorem dX4_isKind_2 : decode cX4_isKind 2 = .ok (.lconst 0, 1) := by decide +kernel
theorem dX4_isKind_3 : decode cX4_isKind 3 = .ok (.ldc2_w 52, 3) := by decide +kernel
theorem dX4_isKind_6 : decode cX4_isKind 6 = .ok (.invokestatic 44, 3) := by decide +kernel
theorem dX4_isKind_9 : decode cX4_isKind 9 = .ok (.ireturn, 1) := by decide +kernel
theorem dX4_spotOf_0 : decode cX4_spotOf 0 = .ok (.iconst 4, 1) := by decide +kernel
theorem dX4_spotOf_1 : decode cX4_spotOf 1 = .ok (.bipush 7, 2) := by decide +kernel
theorem dX4_spotOf_3 : decode cX4_spotOf 3 = .ok (.iload_n 0, 1) := by decide +kernel
theorem dX4_spotOf_4 : decode cX4_spotOf 4 = .ok (.imul, 1) := by decide +kernel
theorem dX4_spotOf_5 : decode cX4_spotOf 5 = .ok (.iadd, 1) := by decide +kernel
theorem dX4_spotOf_6 : decode cX4_spotOf 6 = .ok (.iload_n 1, 1) := by decide +kernel
theorem dX4_spotOf_7 : decode cX4_spotOf 7 = .ok (.iadd, 1) := by decide +kernel
theorem dX4_spotOf_8 : decode cX4_spotOf 8 = .ok (.ireturn, 1) := by decide +kernel
theorem dX4_its_0 : decode cX4_its 0 = .ok (.aload_n 0, 1) := by decide +kernel
theorem dX4_its_1 : decode cX4_its 1 = .ok (.getfield 7, 3) := by decide +kernel
theorem dX4_its_4 : decode cX4_its 4 = .ok (.iload_n 1, 1) := by decide +kernel
theorem dX4_its_5 : decode cX4_its 5 = .ok (.iload_n 2, 1) := by decide +kernel
theorem dX4_its_6 : decode cX4_its 6 = .ok (.invokestatic 54, 3) := by decide +kernel
theorem dX4_its_9 : decode cX4_its 9 = .ok (.iaload, 1) := by decide +kernel
theorem dX4_its_10 : decode cX4_its 10 = .ok (.ireturn, 1) := by decide +kernel
theorem dX4_isFree_0 : decode cX4_isFree 0 = .ok (.aload_n 0, 1) := by decide +kernel
theorem dX4_isFree_1 : decode cX4_isFree 1 = .ok (.iload_n 1, 1) := by decide +kernel
theorem dX4_isFree_2 : decode cX4_isFree 2 = .ok (.iconst 5, 1) := by decide +kernel
theorem dX4_isFree_3 : decode cX4_isFree 3 = .ok (.invokevirtual 58, 3) := by decide +kernel
theorem dX4_isFree_6 : decode cX4_isFree 6 = .ok (.iconst (-1), 1) := by decide +kernel
theorem dX4_isFree_7 : decode cX4_isFree 7 = .ok (.if_icmp .ne 7, 3) := by decide +kernel
theorem dX4_isFree_10 : decode cX4_isFree 10 = .ok (.iconst 1, 1) := by decide +kernel
theorem dX4_isFree_11 : decode cX4_isFree 11 = .ok (.goto 4, 3) := by decide +kernel
theorem dX4_isFree_14 : decode cX4_isFree 14 = .ok (.iconst 0, 1) := by decide +kernel
theorem dX4_isFree_15 : decode cX4_isFree 15 = .ok (.ireturn, 1) := by decide +kernel
theorem dX4_fog_0 : decode cX4_fog 0 = .ok (.iload_n 1, 1) := by decide +kernel
theorem dX4_fog_1 : decode cX4_fog 1 = .ok (.i2l, 1) := by decide +kernel
theorem dX4_fog_2 : decode cX4_fog 2 = .ok (.lconst 0, 1) := by decide +kernel
theorem dX4_fog_3 : decode cX4_fog 3 = .ok (.ldc2_w 61, 3) := by decide +kernel
theorem dX4_fog_6 : decode cX4_fog 6 = .ok (.invokestatic 44, 3) := by decide +kernel
theorem dX4_fog_9 : decode cX4_fog 9 = .ok (.ifCond .eq 12, 3) := by decide +kernel
theorem dX4_fog_12 : decode cX4_fog 12 = .ok (.aload_n 0, 1) := by decide +kernel
theorem dX4_fog_13 : decode cX4_fog 13 = .ok (.iconst 2, 1) := by decide +kernel
theorem dX4_fog_14 : decode cX4_fog 14 = .ok (.iload_n 1, 1) := by decide +kernel
theorem dX4_fog_15 : decode cX4_fog 15 = .ok (.invokevirtual 63, 3) := by decide +kernel
theorem dX4_fog_18 : decode cX4_fog 18 = .ok (.goto 9, 3) := by decide +kernel
theorem dX4_fog_21 : decode cX4_fog 21 = .ok (.aload_n 0, 1) := by decide +kernel
theorem dX4_fog_22 : decode cX4_fog 22 = .ok (.ldc 41, 2) := by decide +kernel
theorem dX4_fog_24 : decode cX4_fog 24 = .ok (.invokevirtual 66, 3) := by decide +kernel
theorem dX4_fog_27 : decode cX4_fog 27 = .ok (.ireturn, 1) := by decide +kernel
theorem dX4_village_0 : decode cX4_village 0 = .ok (.iload_n 1, 1) := by decide +kernel
theorem dX4_village_1 : decode cX4_village 1 = .ok (.invokestatic 70, 3) := by decide +kernel
theorem dX4_village_4 : decode cX4_village 4 = .ok (.ifCond .eq 12, 3) := by decide +kernel
theorem dX4_village_7 : decode cX4_village 7 = .ok (.aload_n 0, 1) := by decide +kernel
theorem dX4_village_8 : decode cX4_village 8 = .ok (.iconst 3, 1) := by decide +kernel
theorem dX4_village_9 : decode cX4_village 9 = .ok (.iload_n 1, 1) := by decide +kernel
theorem dX4_village_10 : decode cX4_village 10 = .ok (.invokevirtual 63, 3) := by decide +kernel
theorem dX4_village_13 : decode cX4_village 13 = .ok (.goto 9, 3) := by decide +kernel
theorem dX4_village_16 : decode cX4_village 16 = .ok (.aload_n 0, 1) := by decide +kernel
theorem dX4_village_17 : decode cX4_village 17 = .ok (.ldc 41, 2) := by decide +kernel
theorem dX4_village_19 : decode cX4_village 19 = .ok (.invokevirtual 66, 3) := by decide +kernel
theorem dX4_village_22 : decode cX4_village 22 = .ok (.ireturn, 1) := by decide +kernel
theorem dX4_thoseAt_0 : decode cX4_thoseAt 0 = .ok (.iconst 0, 1) := by decide +kernel
theorem dX4_thoseAt_1 : decode cX4_thoseAt 1 = .ok (.istore_n 2, 1) := by decide +kernel
theorem dX4_thoseAt_2 : decode cX4_thoseAt 2 = .ok (.iconst 0, 1) := by decide +kernel
theorem dX4_thoseAt_3 : decode cX4_thoseAt 3 = .ok (.istore_n 3, 1) := by decide +kernel
theorem dX4_thoseAt_4 : decode cX4_thoseAt 4 = .ok (.iload_n 3, 1) := by decide +kernel
theorem dX4_thoseAt_5 : decode cX4_thoseAt 5 = .ok (.aload_n 0, 1) := by decide +kernel
theorem dX4_thoseAt_6 : decode cX4_thoseAt 6 = .ok (.getfield 7, 3) := by decide +kernel
theorem dX4_thoseAt_9 : decode cX4_thoseAt 9 = .ok (.iconst 0, 1) := by decide +kernel
theorem dX4_thoseAt_10 : decode cX4_thoseAt 10 = .ok (.iaload, 1) := by decide +kernel
theorem dX4_thoseAt_11 : decode cX4_thoseAt 11 = .ok (.if_icmp .ge 29, 3) := by decide +kernel
theorem dX4_thoseAt_14 : decode cX4_thoseAt 14 = .ok (.iload_n 2, 1) := by decide +kernel
theorem dX4_thoseAt_15 : decode cX4_thoseAt 15 = .ok (.aload_n 0, 1) := by decide +kernel
theorem dX4_thoseAt_16 : decode cX4_thoseAt 16 = .ok (.iload_n 3, 1) := by decide +kernel
theorem dX4_thoseAt_17 : decode cX4_thoseAt 17 = .ok (.iconst 1, 1) := by decide +kernel
theorem dX4_thoseAt_18 : decode cX4_thoseAt 18 = .ok (.invokevirtual 58, 3) := by decide +kernel
theorem dX4_thoseAt_21 : decode cX4_thoseAt 21 = .ok (.iload_n 1, 1) := by decide +kernel
theorem dX4_thoseAt_22 : decode cX4_thoseAt 22 = .ok (.if_icmp .ne 9, 3) := by decide +kernel
theorem dX4_thoseAt_25 : decode cX4_thoseAt 25 = .ok (.iconst 1, 1) := by decide +kernel
theorem dX4_thoseAt_26 : decode cX4_thoseAt 26 = .ok (.iload_n 3, 1) := by decide +kernel
theorem dX4_thoseAt_27 : decode cX4_thoseAt 27 = .ok (.ishl, 1) := by decide +kernel
theorem dX4_thoseAt_28 : decode cX4_thoseAt 28 = .ok (.goto 4, 3) := by decide +kernel
theorem dX4_thoseAt_31 : decode cX4_thoseAt 31 = .ok (.iconst 0, 1) := by decide +kernel
theorem dX4_thoseAt_32 : decode cX4_thoseAt 32 = .ok (.ior, 1) := by decide +kernel
theorem dX4_thoseAt_33 : decode cX4_thoseAt 33 = .ok (.istore_n 2, 1) := by decide +kernel
theorem dX4_thoseAt_34 : decode cX4_thoseAt 34 = .ok (.iinc 3 1, 3) := by decide +kernel
theorem dX4_thoseAt_37 : decode cX4_thoseAt 37 = .ok (.goto (-33), 3) := by decide +kernel
theorem dX4_thoseAt_40 : decode cX4_thoseAt 40 = .ok (.iload_n 2, 1) := by decide +kernel
theorem dX4_thoseAt_41 : decode cX4_thoseAt 41 = .ok (.ireturn, 1) := by decide +kernel
theorem dX4_at_0 : decode cX4_at 0 = .ok (.iload_n 1, 1) := by decide +kernel
theorem dX4_at_1 : decode cX4_at 1 = .ok (.invokestatic 70, 3) := by decide +kernel
theorem dX4_at_4 : decode cX4_at 4 = .ok (.ifCond .eq 11, 3) := by decide +kernel
theorem dX4_at_7 : decode cX4_at 7 = .ok (.aload_n 0, 1) := by decide +kernel
theorem dX4_at_8 : decode cX4_at 8 = .ok (.iload_n 1, 1) := by decide +kernel
theorem dX4_at_9 : decode cX4_at 9 = .ok (.invokevirtual 73, 3) := by decide +kernel
theorem dX4_at_12 : decode cX4_at 12 = .ok (.goto 9, 3) := by decide +kernel
theorem dX4_at_15 : decode cX4_at 15 = .ok (.aload_n 0, 1) := by decide +kernel
theorem dX4_at_16 : decode cX4_at 16 = .ok (.ldc 41, 2) := by decide +kernel
theorem dX4_at_18 : decode cX4_at 18 = .ok (.invokevirtual 66, 3) := by decide +kernel
theorem dX4_at_21 : decode cX4_at 21 = .ok (.ireturn, 1) := by decide +kernel
theorem dX4_adds_0 : decode cX4_adds 0 = .ok (.aload_n 0, 1) := by decide +kernel
theorem dX4_adds_1 : decode cX4_adds 1 = .ok (.getfield 7, 3) := by decide +kernel
theorem dX4_adds_4 : decode cX4_adds 4 = .ok (.iconst 0, 1) := by decide +kernel
theorem dX4_adds_5 : decode cX4_adds 5 = .ok (.iaload, 1) := by decide +kernel
theorem dX4_adds_6 : decode cX4_adds 6 = .ok (.istore_n 3, 1) := by decide +kernel
theorem dX4_adds_7 : decode cX4_adds 7 = .ok (.aload_n 0, 1) := by decide +kernel
theorem dX4_adds_8 : decode cX4_adds 8 = .ok (.getfield 7, 3) := by decide +kernel
theorem dX4_adds_11 : decode cX4_adds 11 = .ok (.iload_n 3, 1) := by decide +kernel
theorem dX4_adds_12 : decode cX4_adds 12 = .ok (.iconst 0, 1) := by decide +kernel
theorem dX4_adds_13 : decode cX4_adds 13 = .ok (.invokestatic 54, 3) := by decide +kernel
theorem dX4_adds_16 : decode cX4_adds 16 = .ok (.iload_n 1, 1) := by decide +kernel
theorem dX4_adds_17 : decode cX4_adds 17 = .ok (.iastore, 1) := by decide +kernel
theorem dX4_adds_18 : decode cX4_adds 18 = .ok (.aload_n 0, 1) := by decide +kernel
theorem dX4_adds_19 : decode cX4_adds 19 = .ok (.getfield 7, 3) := by decide +kernel
theorem dX4_adds_22 : decode cX4_adds 22 = .ok (.iload_n 3, 1) := by decide +kernel
theorem dX4_adds_23 : decode cX4_adds 23 = .ok (.iconst 1, 1) := by decide +kernel
theorem dX4_adds_24 : decode cX4_adds 24 = .ok (.invokestatic 54, 3) := by decide +kernel
theorem dX4_adds_27 : decode cX4_adds 27 = .ok (.iload_n 2, 1) := by decide +kernel
theorem dX4_adds_28 : decode cX4_adds 28 = .ok (.iastore, 1) := by decide +kernel
theorem dX4_adds_29 : decode cX4_adds 29 = .ok (.aload_n 0, 1) := by decide +kernel
theorem dX4_adds_30 : decode cX4_adds 30 = .ok (.getfield 7, 3) := by decide +kernel
theorem dX4_adds_33 : decode cX4_adds 33 = .ok (.iload_n 3, 1) := by decide +kernel
theorem dX4_adds_34 : decode cX4_adds 34 = .ok (.iconst 2, 1) := by decide +kernel
theorem dX4_adds_35 : decode cX4_adds 35 = .ok (.invokestatic 54, 3) := by decide +kernel
theorem dX4_adds_38 : decode cX4_adds 38 = .ok (.iload_n 2, 1) := by decide +kernel
theorem dX4_adds_39 : decode cX4_adds 39 = .ok (.iastore, 1) := by decide +kernel
theorem dX4_adds_40 : decode cX4_adds 40 = .ok (.aload_n 0, 1) := by decide +kernel
theorem dX4_adds_41 : decode cX4_adds 41 = .ok (.getfield 7, 3) := by decide +kernel
theorem dX4_adds_44 : decode cX4_adds 44 = .ok (.iload_n 3, 1) := by decide +kernel
theorem dX4_adds_45 : decode cX4_adds 45 = .ok (.iconst 3, 1) := by decide +kernel
theorem dX4_adds_46 : decode cX4_adds 46 = .ok (.invokestatic 54, 3) := by decide +kernel
theorem dX4_adds_49 : decode cX4_adds 49 = .ok (.iconst 0, 1) := by decide +kernel
theorem dX4_adds_50 : decode cX4_adds 50 = .ok (.iastore, 1) := by decide +kernel
theorem dX4_adds_51 : decode cX4_adds 51 = .ok (.aload_n 0, 1) := by decide +kernel
theorem dX4_adds_52 : decode cX4_adds 52 = .ok (.getfield 7, 3) := by decide +kernel
theorem dX4_adds_55 : decode cX4_adds 55 = .ok (.iload_n 3, 1) := by decide +kernel
theorem dX4_adds_56 : decode cX4_adds 56 = .ok (.iconst 4, 1) := by decide +kernel
theorem dX4_adds_57 : decode cX4_adds 57 = .ok (.invokestatic 54, 3) := by decide +kernel
theorem dX4_adds_60 : decode cX4_adds 60 = .ok (.iconst 0, 1) := by decide +kernel
theorem dX4_adds_61 : decode cX4_adds 61 = .ok (.iastore, 1) := by decide +kernel
theorem dX4_adds_62 : decode cX4_adds 62 = .ok (.aload_n 0, 1) := by decide +kernel
theorem dX4_adds_63 : decode cX4_adds 63 = .ok (.getfield 7, 3) := by decide +kernel
theorem dX4_adds_66 : decode cX4_adds 66 = .ok (.iload_n 3, 1) := by decide +kernel
theorem dX4_adds_67 : decode cX4_adds 67 = .ok (.iconst 5, 1) := by decide +kernel
theorem dX4_adds_68 : decode cX4_adds 68 = .ok (.invokestatic 54, 3) := by decide +kernel
theorem dX4_adds_71 : decode cX4_adds 71 = .ok (.iconst (-1), 1) := by decide +kernel
theorem dX4_adds_72 : decode cX4_adds 72 = .ok (.iastore, 1) := by decide +kernel
theorem dX4_adds_73 : decode cX4_adds 73 = .ok (.aload_n 0, 1) := by decide +kernel
theorem dX4_adds_74 : decode cX4_adds 74 = .ok (.getfield 7, 3) := by decide +kernel
theorem dX4_adds_77 : decode cX4_adds 77 = .ok (.iload_n 3, 1) := by decide +kernel
theorem dX4_adds_78 : decode cX4_adds 78 = .ok (.bipush 6, 2) := by decide +kernel
theorem dX4_adds_80 : decode cX4_adds 80 = .ok (.invokestatic 54, 3) := by decide +kernel
theorem dX4_adds_83 : decode cX4_adds 83 = .ok (.iconst (-1), 1) := by decide +kernel
theorem dX4_adds_84 : decode cX4_adds 84 = .ok (.iastore, 1) := by decide +kernel
theorem dX4_adds_85 : decode cX4_adds 85 = .ok (.aload_n 0, 1) := by decide +kernel
theorem dX4_adds_86 : decode cX4_adds 86 = .ok (.getfield 7, 3) := by decide +kernel
theorem dX4_adds_89 : decode cX4_adds 89 = .ok (.iconst 0, 1) := by decide +kernel
theorem dX4_adds_90 : decode cX4_adds 90 = .ok (.dup2, 1) := by decide +kernel
theorem dX4_adds_91 : decode cX4_adds 91 = .ok (.iaload, 1) := by decide +kernel
theorem dX4_adds_92 : decode cX4_adds 92 = .ok (.iconst 1, 1) := by decide +kernel
theorem dX4_adds_93 : decode cX4_adds 93 = .ok (.iadd, 1) := by decide +kernel
theorem dX4_adds_94 : decode cX4_adds 94 = .ok (.iastore, 1) := by decide +kernel
theorem dX4_adds_95 : decode cX4_adds 95 = .ok (.iload_n 3, 1) := by decide +kernel
theorem dX4_adds_96 : decode cX4_adds 96 = .ok (.ireturn, 1) := by decide +kernel
theorem dX4_walker_0 : decode cX4_walker 0 = .ok (.iload_n 1, 1) := by decide +kernel
theorem dX4_walker_1 : decode cX4_walker 1 = .ok (.invokestatic 76, 3) := by decide +kernel
theorem dX4_walker_4 : decode cX4_walker 4 = .ok (.ifCond .eq 10, 3) := by decide +kernel
theorem dX4_walker_7 : decode cX4_walker 7 = .ok (.iload_n 2, 1) := by decide +kernel
theorem dX4_walker_8 : decode cX4_walker 8 = .ok (.invokestatic 70, 3) := by decide +kernel
theorem dX4_walker_11 : decode cX4_walker 11 = .ok (.ifCond .ne 10, 3) := by decide +kernel
theorem dX4_walker_14 : decode cX4_walker 14 = .ok (.aload_n 0, 1) := by decide +kernel
theorem dX4_walker_15 : decode cX4_walker 15 = .ok (.ldc 41, 2) := by decide +kernel
theorem dX4_walker_17 : decode cX4_walker 17 = .ok (.invokevirtual 66, 3) := by decide +kernel
theorem dX4_walker_20 : decode cX4_walker 20 = .ok (.ireturn, 1) := by decide +kernel
theorem dX4_walker_21 : decode cX4_walker 21 = .ok (.aload_n 0, 1) := by decide +kernel
theorem dX4_walker_22 : decode cX4_walker 22 = .ok (.getfield 7, 3) := by decide +kernel
theorem dX4_walker_25 : decode cX4_walker 25 = .ok (.iconst 0, 1) := by decide +kernel
theorem dX4_walker_26 : decode cX4_walker 26 = .ok (.iaload, 1) := by decide +kernel
theorem dX4_walker_27 : decode cX4_walker 27 = .ok (.bipush 8, 2) := by decide +kernel
theorem dX4_walker_29 : decode cX4_walker 29 = .ok (.if_icmp .ne 12, 3) := by decide +kernel
theorem dX4_walker_32 : decode cX4_walker 32 = .ok (.aload_n 0, 1) := by decide +kernel
theorem dX4_walker_33 : decode cX4_walker 33 = .ok (.ldc 79, 2) := by decide +kernel
theorem dX4_walker_35 : decode cX4_walker 35 = .ok (.invokevirtual 66, 3) := by decide +kernel
theorem dX4_walker_38 : decode cX4_walker 38 = .ok (.goto 9, 3) := by decide +kernel
theorem dX4_walker_41 : decode cX4_walker 41 = .ok (.aload_n 0, 1) := by decide +kernel
theorem dX4_walker_42 : decode cX4_walker 42 = .ok (.iload_n 1, 1) := by decide +kernel
theorem dX4_walker_43 : decode cX4_walker 43 = .ok (.iload_n 2, 1) := by decide +kernel
theorem dX4_walker_44 : decode cX4_walker 44 = .ok (.invokevirtual 80, 3) := by decide +kernel
theorem dX4_walker_47 : decode cX4_walker 47 = .ok (.ireturn, 1) := by decide +kernel
theorem dX4_stepsOf_0 : decode cX4_stepsOf 0 = .ok (.aload_n 0, 1) := by decide +kernel
theorem dX4_stepsOf_1 : decode cX4_stepsOf 1 = .ok (.getfield 7, 3) := by decide +kernel
theorem dX4_stepsOf_4 : decode cX4_stepsOf 4 = .ok (.iconst 1, 1) := by decide +kernel
theorem dX4_stepsOf_5 : decode cX4_stepsOf 5 = .ok (.iaload, 1) := by decide +kernel
theorem dX4_stepsOf_6 : decode cX4_stepsOf 6 = .ok (.iconst 2, 1) := by decide +kernel
theorem dX4_stepsOf_7 : decode cX4_stepsOf 7 = .ok (.irem, 1) := by decide +kernel
theorem dX4_stepsOf_8 : decode cX4_stepsOf 8 = .ok (.ifCond .ne 7, 3) := by decide +kernel
theorem dX4_stepsOf_11 : decode cX4_stepsOf 11 = .ok (.iconst 1, 1) := by decide +kernel
theorem dX4_stepsOf_12 : decode cX4_stepsOf 12 = .ok (.goto 4, 3) := by decide +kernel
theorem dX4_stepsOf_15 : decode cX4_stepsOf 15 = .ok (.iconst 0, 1) := by decide +kernel
theorem dX4_stepsOf_16 : decode cX4_stepsOf 16 = .ok (.istore_n 2, 1) := by decide +kernel
theorem dX4_stepsOf_17 : decode cX4_stepsOf 17 = .ok (.aload_n 0, 1) := by decide +kernel
theorem dX4_stepsOf_18 : decode cX4_stepsOf 18 = .ok (.iload_n 1, 1) := by decide +kernel
theorem dX4_stepsOf_19 : decode cX4_stepsOf 19 = .ok (.iconst 0, 1) := by decide +kernel
theorem dX4_stepsOf_20 : decode cX4_stepsOf 20 = .ok (.invokevirtual 58, 3) := by decide +kernel
theorem dX4_stepsOf_23 : decode cX4_stepsOf 23 = .ok (.tableswitch 54 2 5 #[29, 31, 33, 35], 29) := by decide +kernel
theorem dX4_stepsOf_52 : decode cX4_stepsOf 52 = .ok (.iload_n 2, 1) := by decide +kernel
theorem dX4_stepsOf_53 : decode cX4_stepsOf 53 = .ok (.ireturn, 1) := by decide +kernel
theorem dX4_stepsOf_54 : decode cX4_stepsOf 54 = .ok (.iconst 0, 1) := by decide +kernel
theorem dX4_stepsOf_55 : decode cX4_stepsOf 55 = .ok (.ireturn, 1) := by decide +kernel
theorem dX4_stepsOf_56 : decode cX4_stepsOf 56 = .ok (.iconst 2, 1) := by decide +kernel
theorem dX4_stepsOf_57 : decode cX4_stepsOf 57 = .ok (.ireturn, 1) := by decide +kernel
theorem dX4_stepsOf_58 : decode cX4_stepsOf 58 = .ok (.aload_n 0, 1) := by decide +kernel
theorem dX4_stepsOf_59 : decode cX4_stepsOf 59 = .ok (.getfield 7, 3) := by decide +kernel
theorem dX4_stepsOf_62 : decode cX4_stepsOf 62 = .ok (.iconst 1, 1) := by decide +kernel
theorem dX4_stepsOf_63 : decode cX4_stepsOf 63 = .ok (.iaload, 1) := by decide +kernel
theorem dX4_stepsOf_64 : decode cX4_stepsOf 64 = .ok (.iconst 3, 1) := by decide +kernel
theorem dX4_stepsOf_65 : decode cX4_stepsOf 65 = .ok (.irem, 1) := by decide +kernel
theorem dX4_stepsOf_66 : decode cX4_stepsOf 66 = .ok (.ifCond .ne 9, 3) := by decide +kernel
theorem dX4_stepsOf_69 : decode cX4_stepsOf 69 = .ok (.iload_n 2, 1) := by decide +kernel
theorem dX4_stepsOf_70 : decode cX4_stepsOf 70 = .ok (.iconst 1, 1) := by decide +kernel
theorem dX4_stepsOf_71 : decode cX4_stepsOf 71 = .ok (.iadd, 1) := by decide +kernel
theorem dX4_stepsOf_72 : decode cX4_stepsOf 72 = .ok (.goto 4, 3) := by decide +kernel
theorem dX4_stepsOf_75 : decode cX4_stepsOf 75 = .ok (.iload_n 2, 1) := by decide +kernel
theorem dX4_stepsOf_76 : decode cX4_stepsOf 76 = .ok (.ireturn, 1) := by decide +kernel
theorem dX4_stepsOf_77 : decode cX4_stepsOf 77 = .ok (.iconst 1, 1) := by decide +kernel
theorem dX4_stepsOf_78 : decode cX4_stepsOf 78 = .ok (.ireturn, 1) := by decide +kernel
theorem dX4_turnsOf_0 : decode cX4_turnsOf 0 = .ok (.aload_n 0, 1) := by decide +kernel
theorem dX4_turnsOf_1 : decode cX4_turnsOf 1 = .ok (.iload_n 1, 1) := by decide +kernel
theorem dX4_turnsOf_2 : decode cX4_turnsOf 2 = .ok (.iconst 0, 1) := by decide +kernel
theorem dX4_turnsOf_3 : decode cX4_turnsOf 3 = .ok (.invokevirtual 58, 3) := by decide +kernel
theorem dX4_turnsOf_6 : decode cX4_turnsOf 6 = .ok (.tableswitch 71 1 5 #[34, 71, 51, 34, 53], 34) := by decide +kernel
theorem dX4_turnsOf_40 : decode cX4_turnsOf 40 = .ok (.aload_n 0, 1) := by decide +kernel
theorem dX4_turnsOf_41 : decode cX4_turnsOf 41 = .ok (.getfield 7, 3) := by decide +kernel
theorem dX4_turnsOf_44 : decode cX4_turnsOf 44 = .ok (.iconst 1, 1) := by decide +kernel
theorem dX4_turnsOf_45 : decode cX4_turnsOf 45 = .ok (.iaload, 1) := by decide +kernel
theorem dX4_turnsOf_46 : decode cX4_turnsOf 46 = .ok (.iconst 3, 1) := by decide +kernel
theorem dX4_turnsOf_47 : decode cX4_turnsOf 47 = .ok (.irem, 1) := by decide +kernel
theorem dX4_turnsOf_48 : decode cX4_turnsOf 48 = .ok (.ifCond .ne 7, 3) := by decide +kernel
theorem dX4_turnsOf_51 : decode cX4_turnsOf 51 = .ok (.iconst 1, 1) := by decide +kernel
theorem dX4_turnsOf_52 : decode cX4_turnsOf 52 = .ok (.goto 4, 3) := by decide +kernel
theorem dX4_turnsOf_55 : decode cX4_turnsOf 55 = .ok (.iconst 0, 1) := by decide +kernel
theorem dX4_turnsOf_56 : decode cX4_turnsOf 56 = .ok (.ireturn, 1) := by decide +kernel
theorem dX4_turnsOf_57 : decode cX4_turnsOf 57 = .ok (.iconst 1, 1) := by decide +kernel
theorem dX4_turnsOf_58 : decode cX4_turnsOf 58 = .ok (.ireturn, 1) := by decide +kernel
theorem dX4_turnsOf_59 : decode cX4_turnsOf 59 = .ok (.aload_n 0, 1) := by decide +kernel
theorem dX4_turnsOf_60 : decode cX4_turnsOf 60 = .ok (.getfield 7, 3) := by decide +kernel
theorem dX4_turnsOf_63 : decode cX4_turnsOf 63 = .ok (.iconst 1, 1) := by decide +kernel
theorem dX4_turnsOf_64 : decode cX4_turnsOf 64 = .ok (.iaload, 1) := by decide +kernel
theorem dX4_turnsOf_65 : decode cX4_turnsOf 65 = .ok (.iconst 4, 1) := by decide +kernel
theorem dX4_turnsOf_66 : decode cX4_turnsOf 66 = .ok (.irem, 1) := by decide +kernel
theorem dX4_turnsOf_67 : decode cX4_turnsOf 67 = .ok (.iconst 1, 1) := by decide +kernel
theorem dX4_turnsOf_68 : decode cX4_turnsOf 68 = .ok (.if_icmp .ne 7, 3) := by decide +kernel
theorem dX4_turnsOf_71 : decode cX4_turnsOf 71 = .ok (.iconst 2, 1) := by decide +kernel
theorem dX4_turnsOf_72 : decode cX4_turnsOf 72 = .ok (.goto 4, 3) := by decide +kernel
theorem dX4_turnsOf_75 : decode cX4_turnsOf 75 = .ok (.iconst 0, 1) := by decide +kernel
theorem dX4_turnsOf_76 : decode cX4_turnsOf 76 = .ok (.ireturn, 1) := by decide +kernel
theorem dX4_turnsOf_77 : decode cX4_turnsOf 77 = .ok (.iconst 0, 1) := by decide +kernel
theorem dX4_turnsOf_78 : decode cX4_turnsOf 78 = .ok (.ireturn, 1) := by decide +kernel
theorem dX4_of_0 : decode cX4_of 0 = .ok (.aload_n 0, 1) := by decide +kernel
theorem dX4_of_1 : decode cX4_of 1 = .ok (.iload_n 1, 1) := by decide +kernel
theorem dX4_of_2 : decode cX4_of 2 = .ok (.invokevirtual 48, 3) := by decide +kernel
theorem dX4_of_5 : decode cX4_of 5 = .ok (.ifCond .eq 15, 3) := by decide +kernel
theorem dX4_of_8 : decode cX4_of 8 = .ok (.iload_n 2, 1) := by decide +kernel
theorem dX4_of_9 : decode cX4_of 9 = .ok (.i2l, 1) := by decide +kernel
theorem dX4_of_10 : decode cX4_of 10 = .ok (.lconst 0, 1) := by decide +kernel
theorem dX4_of_11 : decode cX4_of 11 = .ok (.ldc2_w 83, 3) := by decide +kernel
theorem dX4_of_14 : decode cX4_of 14 = .ok (.invokestatic 44, 3) := by decide +kernel
theorem dX4_of_17 : decode cX4_of 17 = .ok (.ifCond .ne 10, 3) := by decide +kernel
theorem dX4_of_20 : decode cX4_of 20 = .ok (.aload_n 0, 1) := by decide +kernel
theorem dX4_of_21 : decode cX4_of 21 = .ok (.ldc 41, 2) := by decide +kernel
theorem dX4_of_23 : decode cX4_of 23 = .ok (.invokevirtual 66, 3) := by decide +kernel
theorem dX4_of_26 : decode cX4_of 26 = .ok (.ireturn, 1) := by decide +kernel
theorem dX4_of_27 : decode cX4_of 27 = .ok (.iload_n 2, 1) := by decide +kernel
theorem dX4_of_28 : decode cX4_of 28 = .ok (.bipush 6, 2) := by decide +kernel
theorem dX4_of_30 : decode cX4_of 30 = .ok (.if_icmp .gt 12, 3) := by decide +kernel
theorem dX4_of_33 : decode cX4_of 33 = .ok (.aload_n 0, 1) := by decide +kernel
theorem dX4_of_34 : decode cX4_of 34 = .ok (.iload_n 1, 1) := by decide +kernel
theorem dX4_of_35 : decode cX4_of 35 = .ok (.iload_n 2, 1) := by decide +kernel
theorem dX4_of_36 : decode cX4_of 36 = .ok (.invokevirtual 58, 3) := by decide +kernel
theorem dX4_of_39 : decode cX4_of 39 = .ok (.goto 22, 3) := by decide +kernel
theorem dX4_of_42 : decode cX4_of 42 = .ok (.iload_n 2, 1) := by decide +kernel
theorem dX4_of_43 : decode cX4_of 43 = .ok (.bipush 7, 2) := by decide +kernel
theorem dX4_of_45 : decode cX4_of 45 = .ok (.if_icmp .ne 11, 3) := by decide +kernel
theorem dX4_of_48 : decode cX4_of 48 = .ok (.aload_n 0, 1) := by decide +kernel
theorem dX4_of_49 : decode cX4_of 49 = .ok (.iload_n 1, 1) := by decide +kernel
theorem dX4_of_50 : decode cX4_of 50 = .ok (.invokevirtual 85, 3) := by decide +kernel
theorem dX4_of_53 : decode cX4_of 53 = .ok (.goto 8, 3) := by decide +kernel
theorem dX4_of_56 : decode cX4_of 56 = .ok (.aload_n 0, 1) := by decide +kernel
theorem dX4_of_57 : decode cX4_of 57 = .ok (.iload_n 1, 1) := by decide +kernel
theorem dX4_of_58 : decode cX4_of 58 = .ok (.invokevirtual 88, 3) := by decide +kernel
theorem dX4_of_61 : decode cX4_of 61 = .ok (.ireturn, 1) := by decide +kernel
theorem dX4_isPart_0 : decode cX4_isPart 0 = .ok (.iload_n 0, 1) := by decide +kernel
theorem dX4_isPart_1 : decode cX4_isPart 1 = .ok (.tableswitch 42 1 3 #[27, 27, 32], 27) := by decide +kernel
theorem dX4_isPart_28 : decode cX4_isPart 28 = .ok (.iload_n 1, 1) := by decide +kernel
theorem dX4_isPart_29 : decode cX4_isPart 29 = .ok (.invokestatic 70, 3) := by decide +kernel
theorem dX4_isPart_32 : decode cX4_isPart 32 = .ok (.ireturn, 1) := by decide +kernel
theorem dX4_isPart_33 : decode cX4_isPart 33 = .ok (.iload_n 1, 1) := by decide +kernel
theorem dX4_isPart_34 : decode cX4_isPart 34 = .ok (.i2l, 1) := by decide +kernel
theorem dX4_isPart_35 : decode cX4_isPart 35 = .ok (.lconst 0, 1) := by decide +kernel
theorem dX4_isPart_36 : decode cX4_isPart 36 = .ok (.ldc2_w 91, 3) := by decide +kernel
theorem dX4_isPart_39 : decode cX4_isPart 39 = .ok (.invokestatic 44, 3) := by decide +kernel
theorem dX4_isPart_42 : decode cX4_isPart 42 = .ok (.ireturn, 1) := by decide +kernel
theorem dX4_isPart_43 : decode cX4_isPart 43 = .ok (.iload_n 0, 1) := by decide +kernel
theorem dX4_isPart_44 : decode cX4_isPart 44 = .ok (.iconst 4, 1) := by decide +kernel
theorem dX4_isPart_45 : decode cX4_isPart 45 = .ok (.if_icmp .ne 19, 3) := by decide +kernel
theorem dX4_isPart_48 : decode cX4_isPart 48 = .ok (.iload_n 1, 1) := by decide +kernel
theorem dX4_isPart_49 : decode cX4_isPart 49 = .ok (.i2l, 1) := by decide +kernel
theorem dX4_isPart_50 : decode cX4_isPart 50 = .ok (.lconst 0, 1) := by decide +kernel
theorem dX4_isPart_51 : decode cX4_isPart 51 = .ok (.ldc2_w 93, 3) := by decide +kernel
theorem dX4_isPart_54 : decode cX4_isPart 54 = .ok (.invokestatic 44, 3) := by decide +kernel
theorem dX4_isPart_57 : decode cX4_isPart 57 = .ok (.ifCond .eq 7, 3) := by decide +kernel
theorem dX4_isPart_60 : decode cX4_isPart 60 = .ok (.iconst 1, 1) := by decide +kernel
theorem dX4_isPart_61 : decode cX4_isPart 61 = .ok (.goto 4, 3) := by decide +kernel
theorem dX4_isPart_64 : decode cX4_isPart 64 = .ok (.iconst 0, 1) := by decide +kernel
theorem dX4_isPart_65 : decode cX4_isPart 65 = .ok (.ireturn, 1) := by decide +kernel
theorem dX4_comesTo_0 : decode cX4_comesTo 0 = .ok (.aload_n 0, 1) := by decide +kernel
theorem dX4_comesTo_1 : decode cX4_comesTo 1 = .ok (.getfield 7, 3) := by decide +kernel
theorem dX4_comesTo_4 : decode cX4_comesTo 4 = .ok (.iload_n 1, 1) := by decide +kernel
theorem dX4_comesTo_5 : decode cX4_comesTo 5 = .ok (.iconst 1, 1) := by decide +kernel
theorem dX4_comesTo_6 : decode cX4_comesTo 6 = .ok (.invokestatic 54, 3) := by decide +kernel
theorem dX4_comesTo_9 : decode cX4_comesTo 9 = .ok (.iload_n 2, 1) := by decide +kernel
theorem dX4_comesTo_10 : decode cX4_comesTo 10 = .ok (.iastore, 1) := by decide +kernel
theorem dX4_comesTo_11 : decode cX4_comesTo 11 = .ok (.aload_n 0, 1) := by decide +kernel
theorem dX4_comesTo_12 : decode cX4_comesTo 12 = .ok (.iload_n 1, 1) := by decide +kernel
theorem dX4_comesTo_13 : decode cX4_comesTo 13 = .ok (.invokevirtual 95, 3) := by decide +kernel
theorem dX4_comesTo_16 : decode cX4_comesTo 16 = .ok (.ifCond .ne 19, 3) := by decide +kernel
theorem dX4_comesTo_19 : decode cX4_comesTo 19 = .ok (.aload_n 0, 1) := by decide +kernel
theorem dX4_comesTo_20 : decode cX4_comesTo 20 = .ok (.getfield 7, 3) := by decide +kernel
theorem dX4_comesTo_23 : decode cX4_comesTo 23 = .ok (.aload_n 0, 1) := by decide +kernel
theorem dX4_comesTo_24 : decode cX4_comesTo 24 = .ok (.iload_n 1, 1) := by decide +kernel
theorem dX4_comesTo_25 : decode cX4_comesTo 25 = .ok (.iconst 5, 1) := by decide +kernel
theorem dX4_comesTo_26 : decode cX4_comesTo 26 = .ok (.invokevirtual 58, 3) := by decide +kernel
theorem dX4_comesTo_29 : decode cX4_comesTo 29 = .ok (.iconst 1, 1) := by decide +kernel
theorem dX4_comesTo_30 : decode cX4_comesTo 30 = .ok (.invokestatic 54, 3) := by decide +kernel
theorem dX4_comesTo_33 : decode cX4_comesTo 33 = .ok (.iload_n 2, 1) := by decide +kernel
theorem dX4_comesTo_34 : decode cX4_comesTo 34 = .ok (.iastore, 1) := by decide +kernel
theorem dX4_comesTo_35 : decode cX4_comesTo 35 = .ok (.return_, 1) := by decide +kernel
theorem dX4_set_0 : decode cX4_set 0 = .ok (.aload_n 0, 1) := by decide +kernel
theorem dX4_set_1 : decode cX4_set 1 = .ok (.iload_n 1, 1) := by decide +kernel
theorem dX4_set_2 : decode cX4_set 2 = .ok (.invokevirtual 48, 3) := by decide +kernel
theorem dX4_set_5 : decode cX4_set 5 = .ok (.ifCond .eq 11, 3) := by decide +kernel
theorem dX4_set_8 : decode cX4_set 8 = .ok (.iload_n 2, 1) := by decide +kernel
theorem dX4_set_9 : decode cX4_set 9 = .ok (.iload_n 3, 1) := by decide +kernel
theorem dX4_set_10 : decode cX4_set 10 = .ok (.invokestatic 98, 3) := by decide +kernel
theorem dX4_set_13 : decode cX4_set 13 = .ok (.ifCond .ne 10, 3) := by decide +kernel
theorem dX4_set_16 : decode cX4_set 16 = .ok (.aload_n 0, 1) := by decide +kernel
theorem dX4_set_17 : decode cX4_set 17 = .ok (.ldc 41, 2) := by decide +kernel
theorem dX4_set_19 : decode cX4_set 19 = .ok (.invokevirtual 66, 3) := by decide +kernel
theorem dX4_set_22 : decode cX4_set 22 = .ok (.ireturn, 1) := by decide +kernel
theorem dX4_set_23 : decode cX4_set 23 = .ok (.aload_n 0, 1) := by decide +kernel
theorem dX4_set_24 : decode cX4_set 24 = .ok (.iload_n 1, 1) := by decide +kernel
theorem dX4_set_25 : decode cX4_set 25 = .ok (.iload_n 2, 1) := by decide +kernel
theorem dX4_set_26 : decode cX4_set 26 = .ok (.invokestatic 54, 3) := by decide +kernel
theorem dX4_set_29 : decode cX4_set 29 = .ok (.iload_n 3, 1) := by decide +kernel
theorem dX4_set_30 : decode cX4_set 30 = .ok (.invokevirtual 63, 3) := by decide +kernel
theorem dX4_set_33 : decode cX4_set 33 = .ok (.istore 4, 2) := by decide +kernel
theorem dX4_set_35 : decode cX4_set 35 = .ok (.iload_n 2, 1) := by decide +kernel
theorem dX4_set_36 : decode cX4_set 36 = .ok (.iconst 1, 1) := by decide +kernel
theorem dX4_set_37 : decode cX4_set 37 = .ok (.if_icmp .ne 9, 3) := by decide +kernel
theorem dX4_set_40 : decode cX4_set 40 = .ok (.aload_n 0, 1) := by decide +kernel
theorem dX4_set_41 : decode cX4_set 41 = .ok (.iload_n 1, 1) := by decide +kernel
theorem dX4_set_42 : decode cX4_set 42 = .ok (.iload_n 3, 1) := by decide +kernel
theorem dX4_set_43 : decode cX4_set 43 = .ok (.invokevirtual 102, 3) := by decide +kernel
theorem dX4_set_46 : decode cX4_set 46 = .ok (.iload 4, 2) := by decide +kernel
theorem dX4_set_48 : decode cX4_set 48 = .ok (.ireturn, 1) := by decide +kernel
theorem dX4_turn_0 : decode cX4_turn 0 = .ok (.aload_n 0, 1) := by decide +kernel
theorem dX4_turn_1 : decode cX4_turn 1 = .ok (.iload_n 1, 1) := by decide +kernel
theorem dX4_turn_2 : decode cX4_turn 2 = .ok (.invokevirtual 48, 3) := by decide +kernel
theorem dX4_turn_5 : decode cX4_turn 5 = .ok (.ifCond .eq 23, 3) := by decide +kernel
theorem dX4_turn_8 : decode cX4_turn 8 = .ok (.iload_n 2, 1) := by decide +kernel
theorem dX4_turn_9 : decode cX4_turn 9 = .ok (.invokestatic 76, 3) := by decide +kernel
theorem dX4_turn_12 : decode cX4_turn 12 = .ok (.ifCond .eq 16, 3) := by decide +kernel
theorem dX4_turn_15 : decode cX4_turn 15 = .ok (.aload_n 0, 1) := by decide +kernel
theorem dX4_turn_16 : decode cX4_turn 16 = .ok (.iload_n 1, 1) := by decide +kernel
theorem dX4_turn_17 : decode cX4_turn 17 = .ok (.iconst 0, 1) := by decide +kernel
theorem dX4_turn_18 : decode cX4_turn 18 = .ok (.invokestatic 54, 3) := by decide +kernel
theorem dX4_turn_21 : decode cX4_turn 21 = .ok (.iload_n 2, 1) := by decide +kernel
theorem dX4_turn_22 : decode cX4_turn 22 = .ok (.invokevirtual 63, 3) := by decide +kernel
theorem dX4_turn_25 : decode cX4_turn 25 = .ok (.goto 9, 3) := by decide +kernel
theorem dX4_turn_28 : decode cX4_turn 28 = .ok (.aload_n 0, 1) := by decide +kernel
theorem dX4_turn_29 : decode cX4_turn 29 = .ok (.ldc 41, 2) := by decide +kernel
theorem dX4_turn_31 : decode cX4_turn 31 = .ok (.invokevirtual 66, 3) := by decide +kernel
theorem dX4_turn_34 : decode cX4_turn 34 = .ok (.ireturn, 1) := by decide +kernel
theorem dX4_isUnder_0 : decode cX4_isUnder 0 = .ok (.iload_n 1, 1) := by decide +kernel
theorem dX4_isUnder_1 : decode cX4_isUnder 1 = .ok (.ifCond .eq 20, 3) := by decide +kernel
theorem dX4_isUnder_4 : decode cX4_isUnder 4 = .ok (.iload_n 0, 1) := by decide +kernel
theorem dX4_isUnder_5 : decode cX4_isUnder 5 = .ok (.iload_n 1, 1) := by decide +kernel
theorem dX4_isUnder_6 : decode cX4_isUnder 6 = .ok (.if_icmp .eq 15, 3) := by decide +kernel
theorem dX4_isUnder_9 : decode cX4_isUnder 9 = .ok (.iload_n 0, 1) := by decide +kernel
theorem dX4_isUnder_10 : decode cX4_isUnder 10 = .ok (.iconst 3, 1) := by decide +kernel
theorem dX4_isUnder_11 : decode cX4_isUnder 11 = .ok (.if_icmp .le 14, 3) := by decide +kernel
theorem dX4_isUnder_14 : decode cX4_isUnder 14 = .ok (.iload_n 0, 1) := by decide +kernel
theorem dX4_isUnder_15 : decode cX4_isUnder 15 = .ok (.iconst 3, 1) := by decide +kernel
theorem dX4_isUnder_16 : decode cX4_isUnder 16 = .ok (.isub, 1) := by decide +kernel
theorem dX4_isUnder_17 : decode cX4_isUnder 17 = .ok (.iload_n 1, 1) := by decide +kernel
theorem dX4_isUnder_18 : decode cX4_isUnder 18 = .ok (.if_icmp .ne 7, 3) := by decide +kernel
theorem dX4_isUnder_21 : decode cX4_isUnder 21 = .ok (.iconst 1, 1) := by decide +kernel
theorem dX4_isUnder_22 : decode cX4_isUnder 22 = .ok (.goto 4, 3) := by decide +kernel
theorem dX4_isUnder_25 : decode cX4_isUnder 25 = .ok (.iconst 0, 1) := by decide +kernel
theorem dX4_isUnder_26 : decode cX4_isUnder 26 = .ok (.ireturn, 1) := by decide +kernel
theorem dX4_as_0 : decode cX4_as 0 = .ok (.aload_n 0, 1) := by decide +kernel
theorem dX4_as_1 : decode cX4_as 1 = .ok (.iload_n 1, 1) := by decide +kernel
theorem dX4_as_2 : decode cX4_as 2 = .ok (.invokevirtual 48, 3) := by decide +kernel
theorem dX4_as_5 : decode cX4_as 5 = .ok (.ifCond .eq 10, 3) := by decide +kernel
theorem dX4_as_8 : decode cX4_as 8 = .ok (.iload_n 2, 1) := by decide +kernel
theorem dX4_as_9 : decode cX4_as 9 = .ok (.invokestatic 76, 3) := by decide +kernel
theorem dX4_as_12 : decode cX4_as 12 = .ok (.ifCond .ne 10, 3) := by decide +kernel
theorem dX4_as_15 : decode cX4_as 15 = .ok (.aload_n 0, 1) := by decide +kernel
theorem dX4_as_16 : decode cX4_as 16 = .ok (.ldc 41, 2) := by decide +kernel
theorem dX4_as_18 : decode cX4_as 18 = .ok (.invokevirtual 66, 3) := by decide +kernel
theorem dX4_as_21 : decode cX4_as 21 = .ok (.ireturn, 1) := by decide +kernel
theorem dX4_as_22 : decode cX4_as 22 = .ok (.aload_n 0, 1) := by decide +kernel
theorem dX4_as_23 : decode cX4_as 23 = .ok (.iload_n 1, 1) := by decide +kernel
theorem dX4_as_24 : decode cX4_as 24 = .ok (.iconst 0, 1) := by decide +kernel
theorem dX4_as_25 : decode cX4_as 25 = .ok (.invokevirtual 58, 3) := by decide +kernel
theorem dX4_as_28 : decode cX4_as 28 = .ok (.iload_n 2, 1) := by decide +kernel
theorem dX4_as_29 : decode cX4_as 29 = .ok (.invokestatic 106, 3) := by decide +kernel
theorem dX4_as_32 : decode cX4_as 32 = .ok (.ifCond .eq 12, 3) := by decide +kernel
theorem dX4_as_35 : decode cX4_as 35 = .ok (.aload_n 0, 1) := by decide +kernel
theorem dX4_as_36 : decode cX4_as 36 = .ok (.iload_n 1, 1) := by decide +kernel
theorem dX4_as_37 : decode cX4_as 37 = .ok (.iconst 4, 1) := by decide +kernel
theorem dX4_as_38 : decode cX4_as 38 = .ok (.invokevirtual 58, 3) := by decide +kernel
theorem dX4_as_41 : decode cX4_as 41 = .ok (.goto 9, 3) := by decide +kernel
theorem dX4_as_44 : decode cX4_as 44 = .ok (.aload_n 0, 1) := by decide +kernel
theorem dX4_as_45 : decode cX4_as 45 = .ok (.ldc 109, 2) := by decide +kernel
theorem dX4_as_47 : decode cX4_as 47 = .ok (.invokevirtual 66, 3) := by decide +kernel
theorem dX4_as_50 : decode cX4_as 50 = .ok (.ireturn, 1) := by decide +kernel
theorem dX4_isFreed_0 : decode cX4_isFreed 0 = .ok (.aload_n 0, 1) := by decide +kernel
theorem dX4_isFreed_1 : decode cX4_isFreed 1 = .ok (.getfield 7, 3) := by decide +kernel
theorem dX4_isFreed_4 : decode cX4_isFreed 4 = .ok (.iload_n 1, 1) := by decide +kernel
theorem dX4_isFreed_5 : decode cX4_isFreed 5 = .ok (.iconst 5, 1) := by decide +kernel
theorem dX4_isFreed_6 : decode cX4_isFreed 6 = .ok (.invokestatic 54, 3) := by decide +kernel
theorem dX4_isFreed_9 : decode cX4_isFreed 9 = .ok (.iconst (-1), 1) := by decide +kernel
theorem dX4_isFreed_10 : decode cX4_isFreed 10 = .ok (.iastore, 1) := by decide +kernel
theorem dX4_isFreed_11 : decode cX4_isFreed 11 = .ok (.aload_n 0, 1) := by decide +kernel
theorem dX4_isFreed_12 : decode cX4_isFreed 12 = .ok (.getfield 7, 3) := by decide +kernel
theorem dX4_isFreed_15 : decode cX4_isFreed 15 = .ok (.iload_n 1, 1) := by decide +kernel
theorem dX4_isFreed_16 : decode cX4_isFreed 16 = .ok (.bipush 6, 2) := by decide +kernel
theorem dX4_isFreed_18 : decode cX4_isFreed 18 = .ok (.invokestatic 54, 3) := by decide +kernel
theorem dX4_isFreed_21 : decode cX4_isFreed 21 = .ok (.iconst (-1), 1) := by decide +kernel
theorem dX4_isFreed_22 : decode cX4_isFreed 22 = .ok (.iastore, 1) := by decide +kernel
theorem dX4_isFreed_23 : decode cX4_isFreed 23 = .ok (.return_, 1) := by decide +kernel
theorem dX4_lets_0 : decode cX4_lets 0 = .ok (.aload_n 0, 1) := by decide +kernel
theorem dX4_lets_1 : decode cX4_lets 1 = .ok (.iload_n 1, 1) := by decide +kernel
theorem dX4_lets_2 : decode cX4_lets 2 = .ok (.iconst 5, 1) := by decide +kernel
theorem dX4_lets_3 : decode cX4_lets 3 = .ok (.invokevirtual 58, 3) := by decide +kernel
theorem dX4_lets_6 : decode cX4_lets 6 = .ok (.istore_n 2, 1) := by decide +kernel
theorem dX4_lets_7 : decode cX4_lets 7 = .ok (.aload_n 0, 1) := by decide +kernel
theorem dX4_lets_8 : decode cX4_lets 8 = .ok (.iload_n 2, 1) := by decide +kernel
theorem dX4_lets_9 : decode cX4_lets 9 = .ok (.invokevirtual 110, 3) := by decide +kernel
theorem dX4_lets_12 : decode cX4_lets 12 = .ok (.aload_n 0, 1) := by decide +kernel
theorem dX4_lets_13 : decode cX4_lets 13 = .ok (.iload_n 1, 1) := by decide +kernel
theorem dX4_lets_14 : decode cX4_lets 14 = .ok (.invokevirtual 110, 3) := by decide +kernel
theorem dX4_lets_17 : decode cX4_lets 17 = .ok (.iload_n 2, 1) := by decide +kernel
theorem dX4_lets_18 : decode cX4_lets 18 = .ok (.ireturn, 1) := by decide +kernel
theorem dX4_free_0 : decode cX4_free 0 = .ok (.aload_n 0, 1) := by decide +kernel
theorem dX4_free_1 : decode cX4_free 1 = .ok (.iload_n 1, 1) := by decide +kernel
theorem dX4_free_2 : decode cX4_free 2 = .ok (.invokevirtual 48, 3) := by decide +kernel
theorem dX4_free_5 : decode cX4_free 5 = .ok (.ifCond .ne 10, 3) := by decide +kernel
theorem dX4_free_8 : decode cX4_free 8 = .ok (.aload_n 0, 1) := by decide +kernel
theorem dX4_free_9 : decode cX4_free 9 = .ok (.ldc 41, 2) := by decide +kernel
theorem dX4_free_11 : decode cX4_free 11 = .ok (.invokevirtual 66, 3) := by decide +kernel
theorem dX4_free_14 : decode cX4_free 14 = .ok (.ireturn, 1) := by decide +kernel
theorem dX4_free_15 : decode cX4_free 15 = .ok (.aload_n 0, 1) := by decide +kernel
theorem dX4_free_16 : decode cX4_free 16 = .ok (.iload_n 1, 1) := by decide +kernel
theorem dX4_free_17 : decode cX4_free 17 = .ok (.invokevirtual 95, 3) := by decide +kernel
theorem dX4_free_20 : decode cX4_free 20 = .ok (.ifCond .eq 12, 3) := by decide +kernel
theorem dX4_free_23 : decode cX4_free 23 = .ok (.aload_n 0, 1) := by decide +kernel
theorem dX4_free_24 : decode cX4_free 24 = .ok (.ldc 114, 2) := by decide +kernel
theorem dX4_free_26 : decode cX4_free 26 = .ok (.invokevirtual 66, 3) := by decide +kernel
theorem dX4_free_29 : decode cX4_free 29 = .ok (.goto 8, 3) := by decide +kernel
theorem dX4_free_32 : decode cX4_free 32 = .ok (.aload_n 0, 1) := by decide +kernel
theorem dX4_free_33 : decode cX4_free 33 = .ok (.iload_n 1, 1) := by decide +kernel
theorem dX4_free_34 : decode cX4_free 34 = .ok (.invokevirtual 115, 3) := by decide +kernel
theorem dX4_free_37 : decode cX4_free 37 = .ok (.ireturn, 1) := by decide +kernel
theorem dX4_keeps_0 : decode cX4_keeps 0 = .ok (.aload_n 0, 1) := by decide +kernel
theorem dX4_keeps_1 : decode cX4_keeps 1 = .ok (.getfield 7, 3) := by decide +kernel
theorem dX4_keeps_4 : decode cX4_keeps 4 = .ok (.iload_n 1, 1) := by decide +kernel
theorem dX4_keeps_5 : decode cX4_keeps 5 = .ok (.iconst 5, 1) := by decide +kernel
theorem dX4_keeps_6 : decode cX4_keeps 6 = .ok (.invokestatic 54, 3) := by decide +kernel
theorem dX4_keeps_9 : decode cX4_keeps 9 = .ok (.iload_n 2, 1) := by decide +kernel
theorem dX4_keeps_10 : decode cX4_keeps 10 = .ok (.iastore, 1) := by decide +kernel
theorem dX4_keeps_11 : decode cX4_keeps 11 = .ok (.aload_n 0, 1) := by decide +kernel
theorem dX4_keeps_12 : decode cX4_keeps 12 = .ok (.getfield 7, 3) := by decide +kernel
theorem dX4_keeps_15 : decode cX4_keeps 15 = .ok (.iload_n 2, 1) := by decide +kernel
theorem dX4_keeps_16 : decode cX4_keeps 16 = .ok (.iconst 5, 1) := by decide +kernel
theorem dX4_keeps_17 : decode cX4_keeps 17 = .ok (.invokestatic 54, 3) := by decide +kernel
theorem dX4_keeps_20 : decode cX4_keeps 20 = .ok (.iload_n 1, 1) := by decide +kernel
theorem dX4_keeps_21 : decode cX4_keeps 21 = .ok (.iastore, 1) := by decide +kernel
theorem dX4_keeps_22 : decode cX4_keeps 22 = .ok (.aload_n 0, 1) := by decide +kernel
theorem dX4_keeps_23 : decode cX4_keeps 23 = .ok (.getfield 7, 3) := by decide +kernel
theorem dX4_keeps_26 : decode cX4_keeps 26 = .ok (.iload_n 1, 1) := by decide +kernel
theorem dX4_keeps_27 : decode cX4_keeps 27 = .ok (.bipush 6, 2) := by decide +kernel
theorem dX4_keeps_29 : decode cX4_keeps 29 = .ok (.invokestatic 54, 3) := by decide +kernel
theorem dX4_keeps_32 : decode cX4_keeps 32 = .ok (.aload_n 0, 1) := by decide +kernel
theorem dX4_keeps_33 : decode cX4_keeps 33 = .ok (.iload_n 2, 1) := by decide +kernel
theorem dX4_keeps_34 : decode cX4_keeps 34 = .ok (.iconst 4, 1) := by decide +kernel
theorem dX4_keeps_35 : decode cX4_keeps 35 = .ok (.invokevirtual 58, 3) := by decide +kernel
theorem dX4_keeps_38 : decode cX4_keeps 38 = .ok (.iastore, 1) := by decide +kernel
theorem dX4_keeps_39 : decode cX4_keeps 39 = .ok (.aload_n 0, 1) := by decide +kernel
theorem dX4_keeps_40 : decode cX4_keeps 40 = .ok (.getfield 7, 3) := by decide +kernel
theorem dX4_keeps_43 : decode cX4_keeps 43 = .ok (.iload_n 2, 1) := by decide +kernel
theorem dX4_keeps_44 : decode cX4_keeps 44 = .ok (.bipush 6, 2) := by decide +kernel
theorem dX4_keeps_46 : decode cX4_keeps 46 = .ok (.invokestatic 54, 3) := by decide +kernel
theorem dX4_keeps_49 : decode cX4_keeps 49 = .ok (.aload_n 0, 1) := by decide +kernel
theorem dX4_keeps_50 : decode cX4_keeps 50 = .ok (.iload_n 1, 1) := by decide +kernel
theorem dX4_keeps_51 : decode cX4_keeps 51 = .ok (.iconst 4, 1) := by decide +kernel
theorem dX4_keeps_52 : decode cX4_keeps 52 = .ok (.invokevirtual 58, 3) := by decide +kernel
theorem dX4_keeps_55 : decode cX4_keeps 55 = .ok (.iastore, 1) := by decide +kernel
theorem dX4_keeps_56 : decode cX4_keeps 56 = .ok (.return_, 1) := by decide +kernel
theorem dX4_ones_0 : decode cX4_ones 0 = .ok (.iconst 0, 1) := by decide +kernel
theorem dX4_ones_1 : decode cX4_ones 1 = .ok (.istore_n 1, 1) := by decide +kernel
theorem dX4_ones_2 : decode cX4_ones 2 = .ok (.iload_n 0, 1) := by decide +kernel
theorem dX4_ones_3 : decode cX4_ones 3 = .ok (.istore_n 2, 1) := by decide +kernel
theorem dX4_ones_4 : decode cX4_ones 4 = .ok (.iload_n 2, 1) := by decide +kernel
theorem dX4_ones_5 : decode cX4_ones 5 = .ok (.ifCond .eq 15, 3) := by decide +kernel
theorem dX4_ones_8 : decode cX4_ones 8 = .ok (.iinc 1 1, 3) := by decide +kernel
theorem dX4_ones_11 : decode cX4_ones 11 = .ok (.iload_n 2, 1) := by decide +kernel
theorem dX4_ones_12 : decode cX4_ones 12 = .ok (.iload_n 2, 1) := by decide +kernel
theorem dX4_ones_13 : decode cX4_ones 13 = .ok (.iconst 1, 1) := by decide +kernel
theorem dX4_ones_14 : decode cX4_ones 14 = .ok (.isub, 1) := by decide +kernel
theorem dX4_ones_15 : decode cX4_ones 15 = .ok (.iand, 1) := by decide +kernel
theorem dX4_ones_16 : decode cX4_ones 16 = .ok (.istore_n 2, 1) := by decide +kernel
theorem dX4_ones_17 : decode cX4_ones 17 = .ok (.goto (-13), 3) := by decide +kernel
theorem dX4_ones_20 : decode cX4_ones 20 = .ok (.iload_n 1, 1) := by decide +kernel
theorem dX4_ones_21 : decode cX4_ones 21 = .ok (.ireturn, 1) := by decide +kernel
theorem dX4_thoseKept_0 : decode cX4_thoseKept 0 = .ok (.iconst 0, 1) := by decide +kernel
theorem dX4_thoseKept_1 : decode cX4_thoseKept 1 = .ok (.istore_n 1, 1) := by decide +kernel
theorem dX4_thoseKept_2 : decode cX4_thoseKept 2 = .ok (.iconst 0, 1) := by decide +kernel
theorem dX4_thoseKept_3 : decode cX4_thoseKept 3 = .ok (.istore_n 2, 1) := by decide +kernel
theorem dX4_thoseKept_4 : decode cX4_thoseKept 4 = .ok (.iload_n 2, 1) := by decide +kernel
theorem dX4_thoseKept_5 : decode cX4_thoseKept 5 = .ok (.aload_n 0, 1) := by decide +kernel
theorem dX4_thoseKept_6 : decode cX4_thoseKept 6 = .ok (.getfield 7, 3) := by decide +kernel
theorem dX4_thoseKept_9 : decode cX4_thoseKept 9 = .ok (.iconst 0, 1) := by decide +kernel
theorem dX4_thoseKept_10 : decode cX4_thoseKept 10 = .ok (.iaload, 1) := by decide +kernel
theorem dX4_thoseKept_11 : decode cX4_thoseKept 11 = .ok (.if_icmp .ge 27, 3) := by decide +kernel
theorem dX4_thoseKept_14 : decode cX4_thoseKept 14 = .ok (.iload_n 1, 1) := by decide +kernel
theorem dX4_thoseKept_15 : decode cX4_thoseKept 15 = .ok (.aload_n 0, 1) := by decide +kernel
theorem dX4_thoseKept_16 : decode cX4_thoseKept 16 = .ok (.iload_n 2, 1) := by decide +kernel
theorem dX4_thoseKept_17 : decode cX4_thoseKept 17 = .ok (.invokevirtual 95, 3) := by decide +kernel
theorem dX4_thoseKept_20 : decode cX4_thoseKept 20 = .ok (.ifCond .eq 7, 3) := by decide +kernel
theorem dX4_thoseKept_23 : decode cX4_thoseKept 23 = .ok (.iconst 0, 1) := by decide +kernel
theorem dX4_thoseKept_24 : decode cX4_thoseKept 24 = .ok (.goto 6, 3) := by decide +kernel
theorem dX4_thoseKept_27 : decode cX4_thoseKept 27 = .ok (.iconst 1, 1) := by decide +kernel
theorem dX4_thoseKept_28 : decode cX4_thoseKept 28 = .ok (.iload_n 2, 1) := by decide +kernel
theorem dX4_thoseKept_29 : decode cX4_thoseKept 29 = .ok (.ishl, 1) := by decide +kernel
theorem dX4_thoseKept_30 : decode cX4_thoseKept 30 = .ok (.ior, 1) := by decide +kernel
theorem dX4_thoseKept_31 : decode cX4_thoseKept 31 = .ok (.istore_n 1, 1) := by decide +kernel
theorem dX4_thoseKept_32 : decode cX4_thoseKept 32 = .ok (.iinc 2 1, 3) := by decide +kernel
theorem dX4_thoseKept_35 : decode cX4_thoseKept 35 = .ok (.goto (-31), 3) := by decide +kernel
theorem dX4_thoseKept_38 : decode cX4_thoseKept 38 = .ok (.iload_n 1, 1) := by decide +kernel
theorem dX4_thoseKept_39 : decode cX4_thoseKept 39 = .ok (.ireturn, 1) := by decide +kernel
theorem dX4_keep_0 : decode cX4_keep 0 = .ok (.aload_n 0, 1) := by decide +kernel
theorem dX4_keep_1 : decode cX4_keep 1 = .ok (.iload_n 1, 1) := by decide +kernel
theorem dX4_keep_2 : decode cX4_keep 2 = .ok (.iload_n 2, 1) := by decide +kernel
theorem dX4_keep_3 : decode cX4_keep 3 = .ok (.invokevirtual 118, 3) := by decide +kernel
theorem dX4_keep_6 : decode cX4_keep 6 = .ok (.ifCond .ne 10, 3) := by decide +kernel
theorem dX4_keep_9 : decode cX4_keep 9 = .ok (.aload_n 0, 1) := by decide +kernel
theorem dX4_keep_10 : decode cX4_keep 10 = .ok (.ldc 41, 2) := by decide +kernel
theorem dX4_keep_12 : decode cX4_keep 12 = .ok (.invokevirtual 66, 3) := by decide +kernel
theorem dX4_keep_15 : decode cX4_keep 15 = .ok (.ireturn, 1) := by decide +kernel
theorem dX4_keep_16 : decode cX4_keep 16 = .ok (.aload_n 0, 1) := by decide +kernel
theorem dX4_keep_17 : decode cX4_keep 17 = .ok (.iload_n 1, 1) := by decide +kernel
theorem dX4_keep_18 : decode cX4_keep 18 = .ok (.invokevirtual 95, 3) := by decide +kernel
theorem dX4_keep_21 : decode cX4_keep 21 = .ok (.ifCond .eq 26, 3) := by decide +kernel
theorem dX4_keep_24 : decode cX4_keep 24 = .ok (.aload_n 0, 1) := by decide +kernel
theorem dX4_keep_25 : decode cX4_keep 25 = .ok (.iload_n 2, 1) := by decide +kernel
theorem dX4_keep_26 : decode cX4_keep 26 = .ok (.invokevirtual 95, 3) := by decide +kernel
theorem dX4_keep_29 : decode cX4_keep 29 = .ok (.ifCond .eq 18, 3) := by decide +kernel
theorem dX4_keep_32 : decode cX4_keep 32 = .ok (.aload_n 0, 1) := by decide +kernel
theorem dX4_keep_33 : decode cX4_keep 33 = .ok (.iload_n 1, 1) := by decide +kernel
theorem dX4_keep_34 : decode cX4_keep 34 = .ok (.iconst 1, 1) := by decide +kernel
theorem dX4_keep_35 : decode cX4_keep 35 = .ok (.invokevirtual 58, 3) := by decide +kernel
theorem dX4_keep_38 : decode cX4_keep 38 = .ok (.aload_n 0, 1) := by decide +kernel
theorem dX4_keep_39 : decode cX4_keep 39 = .ok (.iload_n 2, 1) := by decide +kernel
theorem dX4_keep_40 : decode cX4_keep 40 = .ok (.iconst 1, 1) := by decide +kernel
theorem dX4_keep_41 : decode cX4_keep 41 = .ok (.invokevirtual 58, 3) := by decide +kernel
theorem dX4_keep_44 : decode cX4_keep 44 = .ok (.if_icmp .eq 10, 3) := by decide +kernel
theorem dX4_keep_47 : decode cX4_keep 47 = .ok (.aload_n 0, 1) := by decide +kernel
theorem dX4_keep_48 : decode cX4_keep 48 = .ok (.ldc 114, 2) := by decide +kernel
theorem dX4_keep_50 : decode cX4_keep 50 = .ok (.invokevirtual 66, 3) := by decide +kernel
theorem dX4_keep_53 : decode cX4_keep 53 = .ok (.ireturn, 1) := by decide +kernel
theorem dX4_keep_54 : decode cX4_keep 54 = .ok (.aload_n 0, 1) := by decide +kernel
theorem dX4_keep_55 : decode cX4_keep 55 = .ok (.iload_n 1, 1) := by decide +kernel
theorem dX4_keep_56 : decode cX4_keep 56 = .ok (.iload_n 2, 1) := by decide +kernel
theorem dX4_keep_57 : decode cX4_keep 57 = .ok (.invokevirtual 121, 3) := by decide +kernel
theorem dX4_keep_60 : decode cX4_keep 60 = .ok (.aload_n 0, 1) := by decide +kernel
theorem dX4_keep_61 : decode cX4_keep 61 = .ok (.invokevirtual 124, 3) := by decide +kernel
theorem dX4_keep_64 : decode cX4_keep 64 = .ok (.invokestatic 128, 3) := by decide +kernel
theorem dX4_keep_67 : decode cX4_keep 67 = .ok (.ireturn, 1) := by decide +kernel
theorem dX4_isFoggy_0 : decode cX4_isFoggy 0 = .ok (.aload_n 0, 1) := by decide +kernel
theorem dX4_isFoggy_1 : decode cX4_isFoggy 1 = .ok (.getfield 7, 3) := by decide +kernel
theorem dX4_isFoggy_4 : decode cX4_isFoggy 4 = .ok (.iconst 2, 1) := by decide +kernel
theorem dX4_isFoggy_5 : decode cX4_isFoggy 5 = .ok (.iaload, 1) := by decide +kernel
theorem dX4_isFoggy_6 : decode cX4_isFoggy 6 = .ok (.aload_n 0, 1) := by decide +kernel
theorem dX4_isFoggy_7 : decode cX4_isFoggy 7 = .ok (.getfield 7, 3) := by decide +kernel
theorem dX4_isFoggy_10 : decode cX4_isFoggy 10 = .ok (.iconst 1, 1) := by decide +kernel
theorem dX4_isFoggy_11 : decode cX4_isFoggy 11 = .ok (.iaload, 1) := by decide +kernel
theorem dX4_isFoggy_12 : decode cX4_isFoggy 12 = .ok (.bipush 24, 2) := by decide +kernel
theorem dX4_isFoggy_14 : decode cX4_isFoggy 14 = .ok (.irem, 1) := by decide +kernel
theorem dX4_isFoggy_15 : decode cX4_isFoggy 15 = .ok (.ishr, 1) := by decide +kernel
theorem dX4_isFoggy_16 : decode cX4_isFoggy 16 = .ok (.iconst 1, 1) := by decide +kernel
theorem dX4_isFoggy_17 : decode cX4_isFoggy 17 = .ok (.iand, 1) := by decide +kernel
theorem dX4_isFoggy_18 : decode cX4_isFoggy 18 = .ok (.iconst 1, 1) := by decide +kernel
theorem dX4_isFoggy_19 : decode cX4_isFoggy 19 = .ok (.if_icmp .ne 7, 3) := by decide +kernel
theorem dX4_isFoggy_22 : decode cX4_isFoggy 22 = .ok (.iconst 1, 1) := by decide +kernel
theorem dX4_isFoggy_23 : decode cX4_isFoggy 23 = .ok (.goto 4, 3) := by decide +kernel
theorem dX4_isFoggy_26 : decode cX4_isFoggy 26 = .ok (.iconst 0, 1) := by decide +kernel
theorem dX4_isFoggy_27 : decode cX4_isFoggy 27 = .ok (.ireturn, 1) := by decide +kernel
theorem dX4_turns_0 : decode cX4_turns 0 = .ok (.aload_n 0, 1) := by decide +kernel
theorem dX4_turns_1 : decode cX4_turns 1 = .ok (.getfield 7, 3) := by decide +kernel
theorem dX4_turns_4 : decode cX4_turns 4 = .ok (.iload_n 1, 1) := by decide +kernel
theorem dX4_turns_5 : decode cX4_turns 5 = .ok (.iconst 3, 1) := by decide +kernel
theorem dX4_turns_6 : decode cX4_turns 6 = .ok (.invokestatic 54, 3) := by decide +kernel
theorem dX4_turns_9 : decode cX4_turns 9 = .ok (.aload_n 0, 1) := by decide +kernel
theorem dX4_turns_10 : decode cX4_turns 10 = .ok (.iload_n 1, 1) := by decide +kernel
theorem dX4_turns_11 : decode cX4_turns 11 = .ok (.iconst 3, 1) := by decide +kernel
theorem dX4_turns_12 : decode cX4_turns 12 = .ok (.invokevirtual 58, 3) := by decide +kernel
theorem dX4_turns_15 : decode cX4_turns 15 = .ok (.iconst 1, 1) := by decide +kernel
theorem dX4_turns_16 : decode cX4_turns 16 = .ok (.iadd, 1) := by decide +kernel
theorem dX4_turns_17 : decode cX4_turns 17 = .ok (.iconst 4, 1) := by decide +kernel
theorem dX4_turns_18 : decode cX4_turns 18 = .ok (.irem, 1) := by decide +kernel
theorem dX4_turns_19 : decode cX4_turns 19 = .ok (.iastore, 1) := by decide +kernel
theorem dX4_turns_20 : decode cX4_turns 20 = .ok (.return_, 1) := by decide +kernel
theorem dX4_towards_0 : decode cX4_towards 0 = .ok (.iload_n 1, 1) := by decide +kernel
theorem dX4_towards_1 : decode cX4_towards 1 = .ok (.tableswitch 73 0 2 #[27, 42, 58], 27) := by decide +kernel
theorem dX4_towards_28 : decode cX4_towards 28 = .ok (.iload_n 0, 1) := by decide +kernel
theorem dX4_towards_29 : decode cX4_towards 29 = .ok (.bipush 6, 2) := by decide +kernel
theorem dX4_towards_31 : decode cX4_towards 31 = .ok (.if_icmp .ge 7, 3) := by decide +kernel
theorem dX4_towards_34 : decode cX4_towards 34 = .ok (.iconst (-1), 1) := by decide +kernel
theorem dX4_towards_35 : decode cX4_towards 35 = .ok (.goto 7, 3) := by decide +kernel
theorem dX4_towards_38 : decode cX4_towards 38 = .ok (.iload_n 0, 1) := by decide +kernel
theorem dX4_towards_39 : decode cX4_towards 39 = .ok (.bipush 6, 2) := by decide +kernel
theorem dX4_towards_41 : decode cX4_towards 41 = .ok (.isub, 1) := by decide +kernel
theorem dX4_towards_42 : decode cX4_towards 42 = .ok (.ireturn, 1) := by decide +kernel
theorem dX4_towards_43 : decode cX4_towards 43 = .ok (.iload_n 0, 1) := by decide +kernel
theorem dX4_towards_44 : decode cX4_towards 44 = .ok (.bipush 6, 2) := by decide +kernel
theorem dX4_towards_46 : decode cX4_towards 46 = .ok (.irem, 1) := by decide +kernel
theorem dX4_towards_47 : decode cX4_towards 47 = .ok (.iconst 5, 1) := by decide +kernel
theorem dX4_towards_48 : decode cX4_towards 48 = .ok (.if_icmp .ne 7, 3) := by decide +kernel
theorem dX4_towards_51 : decode cX4_towards 51 = .ok (.iconst (-1), 1) := by decide +kernel
theorem dX4_towards_52 : decode cX4_towards 52 = .ok (.goto 6, 3) := by decide +kernel
theorem dX4_towards_55 : decode cX4_towards 55 = .ok (.iload_n 0, 1) := by decide +kernel
theorem dX4_towards_56 : decode cX4_towards 56 = .ok (.iconst 1, 1) := by decide +kernel
theorem dX4_towards_57 : decode cX4_towards 57 = .ok (.iadd, 1) := by decide +kernel
theorem dX4_towards_58 : decode cX4_towards 58 = .ok (.ireturn, 1) := by decide +kernel
theorem dX4_towards_59 : decode cX4_towards 59 = .ok (.iload_n 0, 1) := by decide +kernel
theorem dX4_towards_60 : decode cX4_towards 60 = .ok (.bipush 30, 2) := by decide +kernel
theorem dX4_towards_62 : decode cX4_towards 62 = .ok (.if_icmp .lt 7, 3) := by decide +kernel
theorem dX4_towards_65 : decode cX4_towards 65 = .ok (.iconst (-1), 1) := by decide +kernel
theorem dX4_towards_66 : decode cX4_towards 66 = .ok (.goto 7, 3) := by decide +kernel
theorem dX4_towards_69 : decode cX4_towards 69 = .ok (.iload_n 0, 1) := by decide +kernel
theorem dX4_towards_70 : decode cX4_towards 70 = .ok (.bipush 6, 2) := by decide +kernel
theorem dX4_towards_72 : decode cX4_towards 72 = .ok (.iadd, 1) := by decide +kernel
theorem dX4_towards_73 : decode cX4_towards 73 = .ok (.ireturn, 1) := by decide +kernel
theorem dX4_towards_74 : decode cX4_towards 74 = .ok (.iload_n 0, 1) := by decide +kernel
theorem dX4_towards_75 : decode cX4_towards 75 = .ok (.bipush 6, 2) := by decide +kernel
theorem dX4_towards_77 : decode cX4_towards 77 = .ok (.irem, 1) := by decide +kernel
theorem dX4_towards_78 : decode cX4_towards 78 = .ok (.ifCond .ne 7, 3) := by decide +kernel
theorem dX4_towards_81 : decode cX4_towards 81 = .ok (.iconst (-1), 1) := by decide +kernel
theorem dX4_towards_82 : decode cX4_towards 82 = .ok (.goto 6, 3) := by decide +kernel
theorem dX4_towards_85 : decode cX4_towards 85 = .ok (.iload_n 0, 1) := by decide +kernel
theorem dX4_towards_86 : decode cX4_towards 86 = .ok (.iconst 1, 1) := by decide +kernel
theorem dX4_towards_87 : decode cX4_towards 87 = .ok (.isub, 1) := by decide +kernel
theorem dX4_towards_88 : decode cX4_towards 88 = .ok (.ireturn, 1) := by decide +kernel
theorem dX4_goes_0 : decode cX4_goes 0 = .ok (.aload_n 0, 1) := by decide +kernel
theorem dX4_goes_1 : decode cX4_goes 1 = .ok (.iload_n 1, 1) := by decide +kernel
theorem dX4_goes_2 : decode cX4_goes 2 = .ok (.invokevirtual 88, 3) := by decide +kernel
theorem dX4_goes_5 : decode cX4_goes 5 = .ok (.istore_n 2, 1) := by decide +kernel
theorem dX4_goes_6 : decode cX4_goes 6 = .ok (.aload_n 0, 1) := by decide +kernel
theorem dX4_goes_7 : decode cX4_goes 7 = .ok (.iload_n 1, 1) := by decide +kernel
theorem dX4_goes_8 : decode cX4_goes 8 = .ok (.invokevirtual 85, 3) := by decide +kernel
theorem dX4_goes_11 : decode cX4_goes 11 = .ok (.istore_n 3, 1) := by decide +kernel
theorem dX4_goes_12 : decode cX4_goes 12 = .ok (.iconst 0, 1) := by decide +kernel
theorem dX4_goes_13 : decode cX4_goes 13 = .ok (.istore 4, 2) := by decide +kernel
theorem dX4_goes_15 : decode cX4_goes 15 = .ok (.iload 4, 2) := by decide +kernel
theorem dX4_goes_17 : decode cX4_goes 17 = .ok (.iload_n 2, 1) := by decide +kernel
theorem dX4_goes_18 : decode cX4_goes 18 = .ok (.if_icmp .ge 14, 3) := by decide +kernel
theorem dX4_goes_21 : decode cX4_goes 21 = .ok (.aload_n 0, 1) := by decide +kernel
theorem dX4_goes_22 : decode cX4_goes 22 = .ok (.iload_n 1, 1) := by decide +kernel
theorem dX4_goes_23 : decode cX4_goes 23 = .ok (.invokevirtual 131, 3) := by decide +kernel
theorem dX4_goes_26 : decode cX4_goes 26 = .ok (.iinc 4 1, 3) := by decide +kernel
theorem dX4_goes_29 : decode cX4_goes 29 = .ok (.goto (-14), 3) := by decide +kernel
theorem dX4_goes_32 : decode cX4_goes 32 = .ok (.iconst 0, 1) := by decide +kernel
theorem dX4_goes_33 : decode cX4_goes 33 = .ok (.istore 4, 2) := by decide +kernel
theorem dX4_goes_35 : decode cX4_goes 35 = .ok (.iload 4, 2) := by decide +kernel
theorem dX4_goes_37 : decode cX4_goes 37 = .ok (.iload_n 3, 1) := by decide +kernel
theorem dX4_goes_38 : decode cX4_goes 38 = .ok (.if_icmp .ge 51, 3) := by decide +kernel
theorem dX4_goes_41 : decode cX4_goes 41 = .ok (.aload_n 0, 1) := by decide +kernel
theorem dX4_goes_42 : decode cX4_goes 42 = .ok (.iload_n 1, 1) := by decide +kernel
theorem dX4_goes_43 : decode cX4_goes 43 = .ok (.iconst 1, 1) := by decide +kernel
theorem dX4_goes_44 : decode cX4_goes 44 = .ok (.invokevirtual 58, 3) := by decide +kernel
theorem dX4_goes_47 : decode cX4_goes 47 = .ok (.aload_n 0, 1) := by decide +kernel
theorem dX4_goes_48 : decode cX4_goes 48 = .ok (.iload_n 1, 1) := by decide +kernel
theorem dX4_goes_49 : decode cX4_goes 49 = .ok (.iconst 3, 1) := by decide +kernel
theorem dX4_goes_50 : decode cX4_goes 50 = .ok (.invokevirtual 58, 3) := by decide +kernel
theorem dX4_goes_53 : decode cX4_goes 53 = .ok (.invokestatic 134, 3) := by decide +kernel
theorem dX4_goes_56 : decode cX4_goes 56 = .ok (.istore 5, 2) := by decide +kernel
theorem dX4_goes_58 : decode cX4_goes 58 = .ok (.iload 5, 2) := by decide +kernel
theorem dX4_goes_60 : decode cX4_goes 60 = .ok (.ifCond .ge 11, 3) := by decide +kernel
theorem dX4_goes_63 : decode cX4_goes 63 = .ok (.aload_n 0, 1) := by decide +kernel
theorem dX4_goes_64 : decode cX4_goes 64 = .ok (.iload_n 1, 1) := by decide +kernel
theorem dX4_goes_65 : decode cX4_goes 65 = .ok (.invokevirtual 131, 3) := by decide +kernel
theorem dX4_goes_68 : decode cX4_goes 68 = .ok (.goto 15, 3) := by decide +kernel
theorem dX4_goes_71 : decode cX4_goes 71 = .ok (.aload_n 0, 1) := by decide +kernel
theorem dX4_goes_72 : decode cX4_goes 72 = .ok (.getfield 7, 3) := by decide +kernel
theorem dX4_goes_75 : decode cX4_goes 75 = .ok (.iload_n 1, 1) := by decide +kernel
theorem dX4_goes_76 : decode cX4_goes 76 = .ok (.iconst 1, 1) := by decide +kernel
theorem dX4_goes_77 : decode cX4_goes 77 = .ok (.invokestatic 54, 3) := by decide +kernel
theorem dX4_goes_80 : decode cX4_goes 80 = .ok (.iload 5, 2) := by decide +kernel
theorem dX4_goes_82 : decode cX4_goes 82 = .ok (.iastore, 1) := by decide +kernel
theorem dX4_goes_83 : decode cX4_goes 83 = .ok (.iinc 4 1, 3) := by decide +kernel
theorem dX4_goes_86 : decode cX4_goes 86 = .ok (.goto (-51), 3) := by decide +kernel
theorem dX4_goes_89 : decode cX4_goes 89 = .ok (.aload_n 0, 1) := by decide +kernel
theorem dX4_goes_90 : decode cX4_goes 90 = .ok (.iload_n 1, 1) := by decide +kernel
theorem dX4_goes_91 : decode cX4_goes 91 = .ok (.aload_n 0, 1) := by decide +kernel
theorem dX4_goes_92 : decode cX4_goes 92 = .ok (.iload_n 1, 1) := by decide +kernel
theorem dX4_goes_93 : decode cX4_goes 93 = .ok (.iconst 1, 1) := by decide +kernel
theorem dX4_goes_94 : decode cX4_goes 94 = .ok (.invokevirtual 58, 3) := by decide +kernel
theorem dX4_goes_97 : decode cX4_goes 97 = .ok (.invokevirtual 102, 3) := by decide +kernel
theorem dX4_goes_100 : decode cX4_goes 100 = .ok (.return_, 1) := by decide +kernel
theorem dX4_meetAt_0 : decode cX4_meetAt 0 = .ok (.iconst (-1), 1) := by decide +kernel
theorem dX4_meetAt_1 : decode cX4_meetAt 1 = .ok (.istore_n 2, 1) := by decide +kernel
theorem dX4_meetAt_2 : decode cX4_meetAt 2 = .ok (.iconst 0, 1) := by decide +kernel
theorem dX4_meetAt_3 : decode cX4_meetAt 3 = .ok (.istore_n 3, 1) := by decide +kernel
theorem dX4_meetAt_4 : decode cX4_meetAt 4 = .ok (.iload_n 3, 1) := by decide +kernel
theorem dX4_meetAt_5 : decode cX4_meetAt 5 = .ok (.aload_n 0, 1) := by decide +kernel
theorem dX4_meetAt_6 : decode cX4_meetAt 6 = .ok (.getfield 7, 3) := by decide +kernel
theorem dX4_meetAt_9 : decode cX4_meetAt 9 = .ok (.iconst 0, 1) := by decide +kernel
theorem dX4_meetAt_10 : decode cX4_meetAt 10 = .ok (.iaload, 1) := by decide +kernel
theorem dX4_meetAt_11 : decode cX4_meetAt 11 = .ok (.if_icmp .ge 44, 3) := by decide +kernel
theorem dX4_meetAt_14 : decode cX4_meetAt 14 = .ok (.aload_n 0, 1) := by decide +kernel
theorem dX4_meetAt_15 : decode cX4_meetAt 15 = .ok (.iload_n 3, 1) := by decide +kernel
theorem dX4_meetAt_16 : decode cX4_meetAt 16 = .ok (.invokevirtual 95, 3) := by decide +kernel
theorem dX4_meetAt_19 : decode cX4_meetAt 19 = .ok (.ifCond .eq 30, 3) := by decide +kernel
theorem dX4_meetAt_22 : decode cX4_meetAt 22 = .ok (.aload_n 0, 1) := by decide +kernel
theorem dX4_meetAt_23 : decode cX4_meetAt 23 = .ok (.iload_n 3, 1) := by decide +kernel
theorem dX4_meetAt_24 : decode cX4_meetAt 24 = .ok (.iconst 1, 1) := by decide +kernel
theorem dX4_meetAt_25 : decode cX4_meetAt 25 = .ok (.invokevirtual 58, 3) := by decide +kernel
theorem dX4_meetAt_28 : decode cX4_meetAt 28 = .ok (.iload_n 1, 1) := by decide +kernel
theorem dX4_meetAt_29 : decode cX4_meetAt 29 = .ok (.if_icmp .ne 20, 3) := by decide +kernel
theorem dX4_meetAt_32 : decode cX4_meetAt 32 = .ok (.iload_n 2, 1) := by decide +kernel
theorem dX4_meetAt_33 : decode cX4_meetAt 33 = .ok (.ifCond .lt 14, 3) := by decide +kernel
theorem dX4_meetAt_36 : decode cX4_meetAt 36 = .ok (.aload_n 0, 1) := by decide +kernel
theorem dX4_meetAt_37 : decode cX4_meetAt 37 = .ok (.iload_n 2, 1) := by decide +kernel
theorem dX4_meetAt_38 : decode cX4_meetAt 38 = .ok (.iload_n 3, 1) := by decide +kernel
theorem dX4_meetAt_39 : decode cX4_meetAt 39 = .ok (.invokevirtual 121, 3) := by decide +kernel
theorem dX4_meetAt_42 : decode cX4_meetAt 42 = .ok (.iconst (-1), 1) := by decide +kernel
theorem dX4_meetAt_43 : decode cX4_meetAt 43 = .ok (.istore_n 2, 1) := by decide +kernel
theorem dX4_meetAt_44 : decode cX4_meetAt 44 = .ok (.goto 5, 3) := by decide +kernel
theorem dX4_meetAt_47 : decode cX4_meetAt 47 = .ok (.iload_n 3, 1) := by decide +kernel
theorem dX4_meetAt_48 : decode cX4_meetAt 48 = .ok (.istore_n 2, 1) := by decide +kernel
theorem dX4_meetAt_49 : decode cX4_meetAt 49 = .ok (.iinc 3 1, 3) := by decide +kernel
theorem dX4_meetAt_52 : decode cX4_meetAt 52 = .ok (.goto (-48), 3) := by decide +kernel
theorem dX4_meetAt_55 : decode cX4_meetAt 55 = .ok (.iload_n 2, 1) := by decide +kernel
theorem dX4_meetAt_56 : decode cX4_meetAt 56 = .ok (.ifCond .lt 29, 3) := by decide +kernel
theorem dX4_meetAt_59 : decode cX4_meetAt 59 = .ok (.aload_n 0, 1) := by decide +kernel
theorem dX4_meetAt_60 : decode cX4_meetAt 60 = .ok (.iload_n 2, 1) := by decide +kernel
theorem dX4_meetAt_61 : decode cX4_meetAt 61 = .ok (.iconst 0, 1) := by decide +kernel
theorem dX4_meetAt_62 : decode cX4_meetAt 62 = .ok (.invokevirtual 58, 3) := by decide +kernel
theorem dX4_meetAt_65 : decode cX4_meetAt 65 = .ok (.iconst 5, 1) := by decide +kernel
theorem dX4_meetAt_66 : decode cX4_meetAt 66 = .ok (.if_icmp .ne 19, 3) := by decide +kernel
theorem dX4_meetAt_69 : decode cX4_meetAt 69 = .ok (.aload_n 0, 1) := by decide +kernel
theorem dX4_meetAt_70 : decode cX4_meetAt 70 = .ok (.iload_n 2, 1) := by decide +kernel
theorem dX4_meetAt_71 : decode cX4_meetAt 71 = .ok (.iconst 2, 1) := by decide +kernel
theorem dX4_meetAt_72 : decode cX4_meetAt 72 = .ok (.invokevirtual 58, 3) := by decide +kernel
theorem dX4_meetAt_75 : decode cX4_meetAt 75 = .ok (.iload_n 1, 1) := by decide +kernel
theorem dX4_meetAt_76 : decode cX4_meetAt 76 = .ok (.if_icmp .ne 9, 3) := by decide +kernel
theorem dX4_meetAt_79 : decode cX4_meetAt 79 = .ok (.aload_n 0, 1) := by decide +kernel
theorem dX4_meetAt_80 : decode cX4_meetAt 80 = .ok (.iload_n 2, 1) := by decide +kernel
theorem dX4_meetAt_81 : decode cX4_meetAt 81 = .ok (.iload_n 2, 1) := by decide +kernel
theorem dX4_meetAt_82 : decode cX4_meetAt 82 = .ok (.invokevirtual 121, 3) := by decide +kernel
theorem dX4_meetAt_85 : decode cX4_meetAt 85 = .ok (.return_, 1) := by decide +kernel
theorem dX4_goesHour_0 : decode cX4_goesHour 0 = .ok (.aload_n 0, 1) := by decide +kernel
theorem dX4_goesHour_1 : decode cX4_goesHour 1 = .ok (.invokevirtual 137, 3) := by decide +kernel
theorem dX4_goesHour_4 : decode cX4_goesHour 4 = .ok (.istore_n 1, 1) := by decide +kernel
theorem dX4_goesHour_5 : decode cX4_goesHour 5 = .ok (.iconst 0, 1) := by decide +kernel
theorem dX4_goesHour_6 : decode cX4_goesHour 6 = .ok (.istore_n 2, 1) := by decide +kernel
theorem dX4_goesHour_7 : decode cX4_goesHour 7 = .ok (.iload_n 2, 1) := by decide +kernel
theorem dX4_goesHour_8 : decode cX4_goesHour 8 = .ok (.aload_n 0, 1) := by decide +kernel
theorem dX4_goesHour_9 : decode cX4_goesHour 9 = .ok (.getfield 7, 3) := by decide +kernel
theorem dX4_goesHour_12 : decode cX4_goesHour 12 = .ok (.iconst 0, 1) := by decide +kernel
theorem dX4_goesHour_13 : decode cX4_goesHour 13 = .ok (.iaload, 1) := by decide +kernel
theorem dX4_goesHour_14 : decode cX4_goesHour 14 = .ok (.if_icmp .ge 33, 3) := by decide +kernel
theorem dX4_goesHour_17 : decode cX4_goesHour 17 = .ok (.iload_n 1, 1) := by decide +kernel
theorem dX4_goesHour_18 : decode cX4_goesHour 18 = .ok (.ifCond .ne 29, 3) := by decide +kernel
theorem dX4_goesHour_21 : decode cX4_goesHour 21 = .ok (.aload_n 0, 1) := by decide +kernel
theorem dX4_goesHour_22 : decode cX4_goesHour 22 = .ok (.iload_n 2, 1) := by decide +kernel
theorem dX4_goesHour_23 : decode cX4_goesHour 23 = .ok (.iconst 1, 1) := by decide +kernel
theorem dX4_goesHour_24 : decode cX4_goesHour 24 = .ok (.invokevirtual 58, 3) := by decide +kernel
theorem dX4_goesHour_27 : decode cX4_goesHour 27 = .ok (.aload_n 0, 1) := by decide +kernel
theorem dX4_goesHour_28 : decode cX4_goesHour 28 = .ok (.getfield 7, 3) := by decide +kernel
theorem dX4_goesHour_31 : decode cX4_goesHour 31 = .ok (.iconst 3, 1) := by decide +kernel
theorem dX4_goesHour_32 : decode cX4_goesHour 32 = .ok (.iaload, 1) := by decide +kernel
theorem dX4_goesHour_33 : decode cX4_goesHour 33 = .ok (.if_icmp .eq 8, 3) := by decide +kernel
theorem dX4_goesHour_36 : decode cX4_goesHour 36 = .ok (.aload_n 0, 1) := by decide +kernel
theorem dX4_goesHour_37 : decode cX4_goesHour 37 = .ok (.iload_n 2, 1) := by decide +kernel
theorem dX4_goesHour_38 : decode cX4_goesHour 38 = .ok (.invokevirtual 110, 3) := by decide +kernel
theorem dX4_goesHour_41 : decode cX4_goesHour 41 = .ok (.iinc 2 1, 3) := by decide +kernel
theorem dX4_goesHour_44 : decode cX4_goesHour 44 = .ok (.goto (-37), 3) := by decide +kernel
theorem dX4_goesHour_47 : decode cX4_goesHour 47 = .ok (.iconst 0, 1) := by decide +kernel
theorem dX4_goesHour_48 : decode cX4_goesHour 48 = .ok (.istore_n 2, 1) := by decide +kernel
theorem dX4_goesHour_49 : decode cX4_goesHour 49 = .ok (.iload_n 2, 1) := by decide +kernel
theorem dX4_goesHour_50 : decode cX4_goesHour 50 = .ok (.aload_n 0, 1) := by decide +kernel
theorem dX4_goesHour_51 : decode cX4_goesHour 51 = .ok (.getfield 7, 3) := by decide +kernel
theorem dX4_goesHour_54 : decode cX4_goesHour 54 = .ok (.iconst 0, 1) := by decide +kernel
theorem dX4_goesHour_55 : decode cX4_goesHour 55 = .ok (.iaload, 1) := by decide +kernel
theorem dX4_goesHour_56 : decode cX4_goesHour 56 = .ok (.if_icmp .ge 32, 3) := by decide +kernel
theorem dX4_goesHour_59 : decode cX4_goesHour 59 = .ok (.aload_n 0, 1) := by decide +kernel
theorem dX4_goesHour_60 : decode cX4_goesHour 60 = .ok (.iload_n 2, 1) := by decide +kernel
theorem dX4_goesHour_61 : decode cX4_goesHour 61 = .ok (.invokevirtual 95, 3) := by decide +kernel
theorem dX4_goesHour_64 : decode cX4_goesHour 64 = .ok (.ifCond .ne 13, 3) := by decide +kernel
theorem dX4_goesHour_67 : decode cX4_goesHour 67 = .ok (.aload_n 0, 1) := by decide +kernel
theorem dX4_goesHour_68 : decode cX4_goesHour 68 = .ok (.iload_n 2, 1) := by decide +kernel
theorem dX4_goesHour_69 : decode cX4_goesHour 69 = .ok (.iconst 5, 1) := by decide +kernel
theorem dX4_goesHour_70 : decode cX4_goesHour 70 = .ok (.invokevirtual 58, 3) := by decide +kernel
theorem dX4_goesHour_73 : decode cX4_goesHour 73 = .ok (.iload_n 2, 1) := by decide +kernel
theorem dX4_goesHour_74 : decode cX4_goesHour 74 = .ok (.if_icmp .lt 8, 3) := by decide +kernel
theorem dX4_goesHour_77 : decode cX4_goesHour 77 = .ok (.aload_n 0, 1) := by decide +kernel
theorem dX4_goesHour_78 : decode cX4_goesHour 78 = .ok (.iload_n 2, 1) := by decide +kernel
theorem dX4_goesHour_79 : decode cX4_goesHour 79 = .ok (.invokevirtual 141, 3) := by decide +kernel
theorem dX4_goesHour_82 : decode cX4_goesHour 82 = .ok (.iinc 2 1, 3) := by decide +kernel
theorem dX4_goesHour_85 : decode cX4_goesHour 85 = .ok (.goto (-36), 3) := by decide +kernel
theorem dX4_goesHour_88 : decode cX4_goesHour 88 = .ok (.iconst 0, 1) := by decide +kernel
theorem dX4_goesHour_89 : decode cX4_goesHour 89 = .ok (.istore_n 2, 1) := by decide +kernel
theorem dX4_goesHour_90 : decode cX4_goesHour 90 = .ok (.iload_n 2, 1) := by decide +kernel
theorem dX4_goesHour_91 : decode cX4_goesHour 91 = .ok (.bipush 36, 2) := by decide +kernel
theorem dX4_goesHour_93 : decode cX4_goesHour 93 = .ok (.if_icmp .ge 18, 3) := by decide +kernel
theorem dX4_goesHour_96 : decode cX4_goesHour 96 = .ok (.iload_n 1, 1) := by decide +kernel
theorem dX4_goesHour_97 : decode cX4_goesHour 97 = .ok (.ifCond .eq 14, 3) := by decide +kernel
theorem dX4_goesHour_100 : decode cX4_goesHour 100 = .ok (.aload_n 0, 1) := by decide +kernel
theorem dX4_goesHour_101 : decode cX4_goesHour 101 = .ok (.iload_n 2, 1) := by decide +kernel
theorem dX4_goesHour_102 : decode cX4_goesHour 102 = .ok (.invokevirtual 144, 3) := by decide +kernel
theorem dX4_goesHour_105 : decode cX4_goesHour 105 = .ok (.iinc 2 1, 3) := by decide +kernel
theorem dX4_goesHour_108 : decode cX4_goesHour 108 = .ok (.goto (-18), 3) := by decide +kernel
theorem dX4_goesHour_111 : decode cX4_goesHour 111 = .ok (.aload_n 0, 1) := by decide +kernel
theorem dX4_goesHour_112 : decode cX4_goesHour 112 = .ok (.getfield 7, 3) := by decide +kernel
theorem dX4_goesHour_115 : decode cX4_goesHour 115 = .ok (.iconst 1, 1) := by decide +kernel
theorem dX4_goesHour_116 : decode cX4_goesHour 116 = .ok (.dup2, 1) := by decide +kernel
theorem dX4_goesHour_117 : decode cX4_goesHour 117 = .ok (.iaload, 1) := by decide +kernel
theorem dX4_goesHour_118 : decode cX4_goesHour 118 = .ok (.iconst 1, 1) := by decide +kernel
theorem dX4_goesHour_119 : decode cX4_goesHour 119 = .ok (.iadd, 1) := by decide +kernel
theorem dX4_goesHour_120 : decode cX4_goesHour 120 = .ok (.iastore, 1) := by decide +kernel
theorem dX4_goesHour_121 : decode cX4_goesHour 121 = .ok (.return_, 1) := by decide +kernel
theorem dX4_hoursGo_0 : decode cX4_hoursGo 0 = .ok (.iconst 0, 1) := by decide +kernel
theorem dX4_hoursGo_1 : decode cX4_hoursGo 1 = .ok (.istore_n 2, 1) := by decide +kernel
theorem dX4_hoursGo_2 : decode cX4_hoursGo 2 = .ok (.iload_n 2, 1) := by decide +kernel
theorem dX4_hoursGo_3 : decode cX4_hoursGo 3 = .ok (.iload_n 1, 1) := by decide +kernel
theorem dX4_hoursGo_4 : decode cX4_hoursGo 4 = .ok (.if_icmp .ge 13, 3) := by decide +kernel
theorem dX4_hoursGo_7 : decode cX4_hoursGo 7 = .ok (.aload_n 0, 1) := by decide +kernel
theorem dX4_hoursGo_8 : decode cX4_hoursGo 8 = .ok (.invokevirtual 147, 3) := by decide +kernel
theorem dX4_hoursGo_11 : decode cX4_hoursGo 11 = .ok (.iinc 2 1, 3) := by decide +kernel
theorem dX4_hoursGo_14 : decode cX4_hoursGo 14 = .ok (.goto (-12), 3) := by decide +kernel
theorem dX4_hoursGo_17 : decode cX4_hoursGo 17 = .ok (.return_, 1) := by decide +kernel
theorem dX4_hours_0 : decode cX4_hours 0 = .ok (.iload_n 1, 1) := by decide +kernel
theorem dX4_hours_1 : decode cX4_hours 1 = .ok (.i2l, 1) := by decide +kernel
theorem dX4_hours_2 : decode cX4_hours 2 = .ok (.lconst 1, 1) := by decide +kernel
theorem dX4_hours_3 : decode cX4_hours 3 = .ok (.ldc2_w 150, 3) := by decide +kernel
theorem dX4_hours_6 : decode cX4_hours 6 = .ok (.invokestatic 44, 3) := by decide +kernel
theorem dX4_hours_9 : decode cX4_hours 9 = .ok (.ifCond .ne 10, 3) := by decide +kernel
theorem dX4_hours_12 : decode cX4_hours 12 = .ok (.aload_n 0, 1) := by decide +kernel
theorem dX4_hours_13 : decode cX4_hours 13 = .ok (.ldc 41, 2) := by decide +kernel
theorem dX4_hours_15 : decode cX4_hours 15 = .ok (.invokevirtual 66, 3) := by decide +kernel
theorem dX4_hours_18 : decode cX4_hours 18 = .ok (.ireturn, 1) := by decide +kernel
theorem dX4_hours_19 : decode cX4_hours 19 = .ok (.aload_n 0, 1) := by decide +kernel
theorem dX4_hours_20 : decode cX4_hours 20 = .ok (.getfield 7, 3) := by decide +kernel
theorem dX4_hours_23 : decode cX4_hours 23 = .ok (.iconst 1, 1) := by decide +kernel
theorem dX4_hours_24 : decode cX4_hours 24 = .ok (.iaload, 1) := by decide +kernel
theorem dX4_hours_25 : decode cX4_hours 25 = .ok (.iload_n 1, 1) := by decide +kernel
theorem dX4_hours_26 : decode cX4_hours 26 = .ok (.iadd, 1) := by decide +kernel
theorem dX4_hours_27 : decode cX4_hours 27 = .ok (.ldc 152, 2) := by decide +kernel
theorem dX4_hours_29 : decode cX4_hours 29 = .ok (.if_icmp .le 10, 3) := by decide +kernel
theorem dX4_hours_32 : decode cX4_hours 32 = .ok (.aload_n 0, 1) := by decide +kernel
theorem dX4_hours_33 : decode cX4_hours 33 = .ok (.ldc 114, 2) := by decide +kernel
theorem dX4_hours_35 : decode cX4_hours 35 = .ok (.invokevirtual 66, 3) := by decide +kernel
theorem dX4_hours_38 : decode cX4_hours 38 = .ok (.ireturn, 1) := by decide +kernel
theorem dX4_hours_39 : decode cX4_hours 39 = .ok (.aload_n 0, 1) := by decide +kernel
theorem dX4_hours_40 : decode cX4_hours 40 = .ok (.iload_n 1, 1) := by decide +kernel
theorem dX4_hours_41 : decode cX4_hours 41 = .ok (.invokevirtual 153, 3) := by decide +kernel
theorem dX4_hours_44 : decode cX4_hours 44 = .ok (.aload_n 0, 1) := by decide +kernel
theorem dX4_hours_45 : decode cX4_hours 45 = .ok (.invokevirtual 124, 3) := by decide +kernel
theorem dX4_hours_48 : decode cX4_hours 48 = .ok (.ireturn, 1) := by decide +kernel
theorem dX4_isGlad_0 : decode cX4_isGlad 0 = .ok (.aload_n 0, 1) := by decide +kernel
theorem dX4_isGlad_1 : decode cX4_isGlad 1 = .ok (.iload_n 1, 1) := by decide +kernel
theorem dX4_isGlad_2 : decode cX4_isGlad 2 = .ok (.invokevirtual 95, 3) := by decide +kernel
theorem dX4_isGlad_5 : decode cX4_isGlad 5 = .ok (.ifCond .ne 33, 3) := by decide +kernel
theorem dX4_isGlad_8 : decode cX4_isGlad 8 = .ok (.aload_n 0, 1) := by decide +kernel
theorem dX4_isGlad_9 : decode cX4_isGlad 9 = .ok (.iload_n 1, 1) := by decide +kernel
theorem dX4_isGlad_10 : decode cX4_isGlad 10 = .ok (.iconst 5, 1) := by decide +kernel
theorem dX4_isGlad_11 : decode cX4_isGlad 11 = .ok (.invokevirtual 58, 3) := by decide +kernel
theorem dX4_isGlad_14 : decode cX4_isGlad 14 = .ok (.iload_n 1, 1) := by decide +kernel
theorem dX4_isGlad_15 : decode cX4_isGlad 15 = .ok (.if_icmp .eq 23, 3) := by decide +kernel
theorem dX4_isGlad_18 : decode cX4_isGlad 18 = .ok (.aload_n 0, 1) := by decide +kernel
theorem dX4_isGlad_19 : decode cX4_isGlad 19 = .ok (.iload_n 1, 1) := by decide +kernel
theorem dX4_isGlad_20 : decode cX4_isGlad 20 = .ok (.bipush 6, 2) := by decide +kernel
theorem dX4_isGlad_22 : decode cX4_isGlad 22 = .ok (.invokevirtual 58, 3) := by decide +kernel
theorem dX4_isGlad_25 : decode cX4_isGlad 25 = .ok (.aload_n 0, 1) := by decide +kernel
theorem dX4_isGlad_26 : decode cX4_isGlad 26 = .ok (.iload_n 1, 1) := by decide +kernel
theorem dX4_isGlad_27 : decode cX4_isGlad 27 = .ok (.iconst 4, 1) := by decide +kernel
theorem dX4_isGlad_28 : decode cX4_isGlad 28 = .ok (.invokevirtual 58, 3) := by decide +kernel
theorem dX4_isGlad_31 : decode cX4_isGlad 31 = .ok (.if_icmp .ne 7, 3) := by decide +kernel
theorem dX4_isGlad_34 : decode cX4_isGlad 34 = .ok (.iconst 1, 1) := by decide +kernel
theorem dX4_isGlad_35 : decode cX4_isGlad 35 = .ok (.goto 4, 3) := by decide +kernel
theorem dX4_isGlad_38 : decode cX4_isGlad 38 = .ok (.iconst 0, 1) := by decide +kernel
theorem dX4_isGlad_39 : decode cX4_isGlad 39 = .ok (.ireturn, 1) := by decide +kernel
theorem dX4_thoseGlad_0 : decode cX4_thoseGlad 0 = .ok (.iconst 0, 1) := by decide +kernel
theorem dX4_thoseGlad_1 : decode cX4_thoseGlad 1 = .ok (.istore_n 1, 1) := by decide +kernel
theorem dX4_thoseGlad_2 : decode cX4_thoseGlad 2 = .ok (.iconst 0, 1) := by decide +kernel
theorem dX4_thoseGlad_3 : decode cX4_thoseGlad 3 = .ok (.istore_n 2, 1) := by decide +kernel
theorem dX4_thoseGlad_4 : decode cX4_thoseGlad 4 = .ok (.iload_n 2, 1) := by decide +kernel
theorem dX4_thoseGlad_5 : decode cX4_thoseGlad 5 = .ok (.aload_n 0, 1) := by decide +kernel
theorem dX4_thoseGlad_6 : decode cX4_thoseGlad 6 = .ok (.getfield 7, 3) := by decide +kernel
theorem dX4_thoseGlad_9 : decode cX4_thoseGlad 9 = .ok (.iconst 0, 1) := by decide +kernel
theorem dX4_thoseGlad_10 : decode cX4_thoseGlad 10 = .ok (.iaload, 1) := by decide +kernel
theorem dX4_thoseGlad_11 : decode cX4_thoseGlad 11 = .ok (.if_icmp .ge 27, 3) := by decide +kernel
theorem dX4_thoseGlad_14 : decode cX4_thoseGlad 14 = .ok (.iload_n 1, 1) := by decide +kernel
theorem dX4_thoseGlad_15 : decode cX4_thoseGlad 15 = .ok (.aload_n 0, 1) := by decide +kernel
theorem dX4_thoseGlad_16 : decode cX4_thoseGlad 16 = .ok (.iload_n 2, 1) := by decide +kernel
theorem dX4_thoseGlad_17 : decode cX4_thoseGlad 17 = .ok (.invokevirtual 156, 3) := by decide +kernel
theorem dX4_thoseGlad_20 : decode cX4_thoseGlad 20 = .ok (.ifCond .eq 9, 3) := by decide +kernel
theorem dX4_thoseGlad_23 : decode cX4_thoseGlad 23 = .ok (.iconst 1, 1) := by decide +kernel
theorem dX4_thoseGlad_24 : decode cX4_thoseGlad 24 = .ok (.iload_n 2, 1) := by decide +kernel
theorem dX4_thoseGlad_25 : decode cX4_thoseGlad 25 = .ok (.ishl, 1) := by decide +kernel
theorem dX4_thoseGlad_26 : decode cX4_thoseGlad 26 = .ok (.goto 4, 3) := by decide +kernel
theorem dX4_thoseGlad_29 : decode cX4_thoseGlad 29 = .ok (.iconst 0, 1) := by decide +kernel
theorem dX4_thoseGlad_30 : decode cX4_thoseGlad 30 = .ok (.ior, 1) := by decide +kernel
theorem dX4_thoseGlad_31 : decode cX4_thoseGlad 31 = .ok (.istore_n 1, 1) := by decide +kernel
theorem dX4_thoseGlad_32 : decode cX4_thoseGlad 32 = .ok (.iinc 2 1, 3) := by decide +kernel
theorem dX4_thoseGlad_35 : decode cX4_thoseGlad 35 = .ok (.goto (-31), 3) := by decide +kernel
theorem dX4_thoseGlad_38 : decode cX4_thoseGlad 38 = .ok (.iload_n 1, 1) := by decide +kernel
theorem dX4_thoseGlad_39 : decode cX4_thoseGlad 39 = .ok (.ireturn, 1) := by decide +kernel
theorem dX4_now_0 : decode cX4_now 0 = .ok (.iload_n 1, 1) := by decide +kernel
theorem dX4_now_1 : decode cX4_now 1 = .ok (.tableswitch 83 0 5 #[39, 46, 53, 66, 71, 76], 39) := by decide +kernel
theorem dX4_now_40 : decode cX4_now 40 = .ok (.aload_n 0, 1) := by decide +kernel
theorem dX4_now_41 : decode cX4_now 41 = .ok (.getfield 7, 3) := by decide +kernel
theorem dX4_now_44 : decode cX4_now 44 = .ok (.iconst 1, 1) := by decide +kernel
theorem dX4_now_45 : decode cX4_now 45 = .ok (.iaload, 1) := by decide +kernel
theorem dX4_now_46 : decode cX4_now 46 = .ok (.ireturn, 1) := by decide +kernel
theorem dX4_now_47 : decode cX4_now 47 = .ok (.aload_n 0, 1) := by decide +kernel
theorem dX4_now_48 : decode cX4_now 48 = .ok (.getfield 7, 3) := by decide +kernel
theorem dX4_now_51 : decode cX4_now 51 = .ok (.iconst 2, 1) := by decide +kernel
theorem dX4_now_52 : decode cX4_now 52 = .ok (.iaload, 1) := by decide +kernel
theorem dX4_now_53 : decode cX4_now 53 = .ok (.ireturn, 1) := by decide +kernel
theorem dX4_now_54 : decode cX4_now 54 = .ok (.aload_n 0, 1) := by decide +kernel
theorem dX4_now_55 : decode cX4_now 55 = .ok (.invokevirtual 137, 3) := by decide +kernel
theorem dX4_now_58 : decode cX4_now 58 = .ok (.ifCond .eq 7, 3) := by decide +kernel
theorem dX4_now_61 : decode cX4_now 61 = .ok (.iconst 1, 1) := by decide +kernel
theorem dX4_now_62 : decode cX4_now 62 = .ok (.goto 4, 3) := by decide +kernel
theorem dX4_now_65 : decode cX4_now 65 = .ok (.iconst 0, 1) := by decide +kernel
theorem dX4_now_66 : decode cX4_now 66 = .ok (.ireturn, 1) := by decide +kernel
theorem dX4_now_67 : decode cX4_now 67 = .ok (.aload_n 0, 1) := by decide +kernel
theorem dX4_now_68 : decode cX4_now 68 = .ok (.invokevirtual 124, 3) := by decide +kernel
theorem dX4_now_71 : decode cX4_now 71 = .ok (.ireturn, 1) := by decide +kernel
theorem dX4_now_72 : decode cX4_now 72 = .ok (.aload_n 0, 1) := by decide +kernel
theorem dX4_now_73 : decode cX4_now 73 = .ok (.invokevirtual 159, 3) := by decide +kernel
theorem dX4_now_76 : decode cX4_now 76 = .ok (.ireturn, 1) := by decide +kernel
theorem dX4_now_77 : decode cX4_now 77 = .ok (.aload_n 0, 1) := by decide +kernel
theorem dX4_now_78 : decode cX4_now 78 = .ok (.getfield 7, 3) := by decide +kernel
theorem dX4_now_81 : decode cX4_now 81 = .ok (.iconst 3, 1) := by decide +kernel
theorem dX4_now_82 : decode cX4_now 82 = .ok (.iaload, 1) := by decide +kernel
theorem dX4_now_83 : decode cX4_now 83 = .ok (.ireturn, 1) := by decide +kernel
theorem dX4_now_84 : decode cX4_now 84 = .ok (.aload_n 0, 1) := by decide +kernel
theorem dX4_now_85 : decode cX4_now 85 = .ok (.ldc 41, 2) := by decide +kernel
theorem dX4_now_87 : decode cX4_now 87 = .ok (.invokevirtual 66, 3) := by decide +kernel
theorem dX4_now_90 : decode cX4_now 90 = .ok (.ireturn, 1) := by decide +kernel
theorem dX4_on_0 : decode cX4_on 0 = .ok (.aload_n 0, 1) := by decide +kernel
theorem dX4_on_1 : decode cX4_on 1 = .ok (.iload_n 1, 1) := by decide +kernel
theorem dX4_on_2 : decode cX4_on 2 = .ok (.invokevirtual 48, 3) := by decide +kernel
theorem dX4_on_5 : decode cX4_on 5 = .ok (.ifCond .eq 27, 3) := by decide +kernel
theorem dX4_on_8 : decode cX4_on 8 = .ok (.iload_n 2, 1) := by decide +kernel
theorem dX4_on_9 : decode cX4_on 9 = .ok (.i2l, 1) := by decide +kernel
theorem dX4_on_10 : decode cX4_on 10 = .ok (.lconst 0, 1) := by decide +kernel
theorem dX4_on_11 : decode cX4_on 11 = .ok (.ldc2_w 150, 3) := by decide +kernel
theorem dX4_on_14 : decode cX4_on 14 = .ok (.invokestatic 44, 3) := by decide +kernel
theorem dX4_on_17 : decode cX4_on 17 = .ok (.ifCond .eq 15, 3) := by decide +kernel
theorem dX4_on_20 : decode cX4_on 20 = .ok (.iload_n 3, 1) := by decide +kernel
theorem dX4_on_21 : decode cX4_on 21 = .ok (.i2l, 1) := by decide +kernel
theorem dX4_on_22 : decode cX4_on 22 = .ok (.lconst 0, 1) := by decide +kernel
theorem dX4_on_23 : decode cX4_on 23 = .ok (.ldc2_w 162, 3) := by decide +kernel
theorem dX4_on_26 : decode cX4_on 26 = .ok (.invokestatic 44, 3) := by decide +kernel
theorem dX4_on_29 : decode cX4_on 29 = .ok (.ifCond .ne 10, 3) := by decide +kernel
theorem dX4_on_32 : decode cX4_on 32 = .ok (.aload_n 0, 1) := by decide +kernel
theorem dX4_on_33 : decode cX4_on 33 = .ok (.ldc 41, 2) := by decide +kernel
theorem dX4_on_35 : decode cX4_on 35 = .ok (.invokevirtual 66, 3) := by decide +kernel
theorem dX4_on_38 : decode cX4_on 38 = .ok (.ireturn, 1) := by decide +kernel
theorem dX4_on_39 : decode cX4_on 39 = .ok (.aload_n 0, 1) := by decide +kernel
theorem dX4_on_40 : decode cX4_on 40 = .ok (.invokevirtual 164, 3) := by decide +kernel
theorem dX4_on_43 : decode cX4_on 43 = .ok (.aload_n 0, 1) := by decide +kernel
theorem dX4_on_44 : decode cX4_on 44 = .ok (.iload_n 2, 1) := by decide +kernel
theorem dX4_on_45 : decode cX4_on 45 = .ok (.invokevirtual 153, 3) := by decide +kernel
theorem dX4_on_48 : decode cX4_on 48 = .ok (.aload_n 0, 1) := by decide +kernel
theorem dX4_on_49 : decode cX4_on 49 = .ok (.aload_n 0, 1) := by decide +kernel
theorem dX4_on_50 : decode cX4_on 50 = .ok (.iload_n 1, 1) := by decide +kernel
theorem dX4_on_51 : decode cX4_on 51 = .ok (.iload_n 3, 1) := by decide +kernel
theorem dX4_on_52 : decode cX4_on 52 = .ok (.ifCond .ne 7, 3) := by decide +kernel
theorem dX4_on_55 : decode cX4_on 55 = .ok (.iconst 1, 1) := by decide +kernel
theorem dX4_on_56 : decode cX4_on 56 = .ok (.goto 14, 3) := by decide +kernel
theorem dX4_on_59 : decode cX4_on 59 = .ok (.iload_n 3, 1) := by decide +kernel
theorem dX4_on_60 : decode cX4_on 60 = .ok (.iconst 1, 1) := by decide +kernel
theorem dX4_on_61 : decode cX4_on 61 = .ok (.if_icmp .ne 7, 3) := by decide +kernel
theorem dX4_on_64 : decode cX4_on 64 = .ok (.iconst 5, 1) := by decide +kernel
theorem dX4_on_65 : decode cX4_on 65 = .ok (.goto 5, 3) := by decide +kernel
theorem dX4_on_68 : decode cX4_on 68 = .ok (.bipush 6, 2) := by decide +kernel
theorem dX4_on_70 : decode cX4_on 70 = .ok (.invokevirtual 58, 3) := by decide +kernel
theorem dX4_on_73 : decode cX4_on 73 = .ok (.invokevirtual 167, 3) := by decide +kernel
theorem dX4_on_76 : decode cX4_on 76 = .ok (.ireturn, 1) := by decide +kernel
theorem dX4_isSo_0 : decode cX4_isSo 0 = .ok (.iload_n 1, 1) := by decide +kernel
theorem dX4_isSo_1 : decode cX4_isSo 1 = .ok (.ifCond .ne 21, 3) := by decide +kernel
theorem dX4_isSo_4 : decode cX4_isSo 4 = .ok (.aload_n 0, 1) := by decide +kernel
theorem dX4_isSo_5 : decode cX4_isSo 5 = .ok (.iload_n 2, 1) := by decide +kernel
theorem dX4_isSo_6 : decode cX4_isSo 6 = .ok (.iconst 5, 1) := by decide +kernel
theorem dX4_isSo_7 : decode cX4_isSo 7 = .ok (.invokevirtual 58, 3) := by decide +kernel
theorem dX4_isSo_10 : decode cX4_isSo 10 = .ok (.iload_n 3, 1) := by decide +kernel
theorem dX4_isSo_11 : decode cX4_isSo 11 = .ok (.if_icmp .ne 7, 3) := by decide +kernel
theorem dX4_isSo_14 : decode cX4_isSo 14 = .ok (.iconst 1, 1) := by decide +kernel
theorem dX4_isSo_15 : decode cX4_isSo 15 = .ok (.goto 46, 3) := by decide +kernel
theorem dX4_isSo_18 : decode cX4_isSo 18 = .ok (.iconst 0, 1) := by decide +kernel
theorem dX4_isSo_19 : decode cX4_isSo 19 = .ok (.goto 42, 3) := by decide +kernel
theorem dX4_isSo_22 : decode cX4_isSo 22 = .ok (.iload_n 1, 1) := by decide +kernel
theorem dX4_isSo_23 : decode cX4_isSo 23 = .ok (.iconst 1, 1) := by decide +kernel
theorem dX4_isSo_24 : decode cX4_isSo 24 = .ok (.if_icmp .ne 19, 3) := by decide +kernel
theorem dX4_isSo_27 : decode cX4_isSo 27 = .ok (.aload_n 0, 1) := by decide +kernel
theorem dX4_isSo_28 : decode cX4_isSo 28 = .ok (.iload_n 2, 1) := by decide +kernel
theorem dX4_isSo_29 : decode cX4_isSo 29 = .ok (.invokevirtual 95, 3) := by decide +kernel
theorem dX4_isSo_32 : decode cX4_isSo 32 = .ok (.ifCond .ne 7, 3) := by decide +kernel
theorem dX4_isSo_35 : decode cX4_isSo 35 = .ok (.iconst 1, 1) := by decide +kernel
theorem dX4_isSo_36 : decode cX4_isSo 36 = .ok (.goto 25, 3) := by decide +kernel
theorem dX4_isSo_39 : decode cX4_isSo 39 = .ok (.iconst 0, 1) := by decide +kernel
theorem dX4_isSo_40 : decode cX4_isSo 40 = .ok (.goto 21, 3) := by decide +kernel
theorem dX4_isSo_43 : decode cX4_isSo 43 = .ok (.iload_n 1, 1) := by decide +kernel
theorem dX4_isSo_44 : decode cX4_isSo 44 = .ok (.iconst 2, 1) := by decide +kernel
theorem dX4_isSo_45 : decode cX4_isSo 45 = .ok (.if_icmp .ne 11, 3) := by decide +kernel
theorem dX4_isSo_48 : decode cX4_isSo 48 = .ok (.aload_n 0, 1) := by decide +kernel
theorem dX4_isSo_49 : decode cX4_isSo 49 = .ok (.iload_n 2, 1) := by decide +kernel
theorem dX4_isSo_50 : decode cX4_isSo 50 = .ok (.invokevirtual 95, 3) := by decide +kernel
theorem dX4_isSo_53 : decode cX4_isSo 53 = .ok (.goto 8, 3) := by decide +kernel
theorem dX4_isSo_56 : decode cX4_isSo 56 = .ok (.aload_n 0, 1) := by decide +kernel
theorem dX4_isSo_57 : decode cX4_isSo 57 = .ok (.iload_n 2, 1) := by decide +kernel
theorem dX4_isSo_58 : decode cX4_isSo 58 = .ok (.invokevirtual 156, 3) := by decide +kernel
theorem dX4_isSo_61 : decode cX4_isSo 61 = .ok (.ireturn, 1) := by decide +kernel
theorem dX4_firstSo_0 : decode cX4_firstSo 0 = .ok (.iconst 0, 1) := by decide +kernel
theorem dX4_firstSo_1 : decode cX4_firstSo 1 = .ok (.istore 5, 2) := by decide +kernel
theorem dX4_firstSo_3 : decode cX4_firstSo 3 = .ok (.iload 5, 2) := by decide +kernel
theorem dX4_firstSo_5 : decode cX4_firstSo 5 = .ok (.iload 4, 2) := by decide +kernel
theorem dX4_firstSo_7 : decode cX4_firstSo 7 = .ok (.if_icmp .gt 23, 3) := by decide +kernel
theorem dX4_firstSo_10 : decode cX4_firstSo 10 = .ok (.aload_n 0, 1) := by decide +kernel
theorem dX4_firstSo_11 : decode cX4_firstSo 11 = .ok (.iload_n 1, 1) := by decide +kernel
theorem dX4_firstSo_12 : decode cX4_firstSo 12 = .ok (.iload_n 2, 1) := by decide +kernel
theorem dX4_firstSo_13 : decode cX4_firstSo 13 = .ok (.iload_n 3, 1) := by decide +kernel
theorem dX4_firstSo_14 : decode cX4_firstSo 14 = .ok (.invokevirtual 170, 3) := by decide +kernel
theorem dX4_firstSo_17 : decode cX4_firstSo 17 = .ok (.ifCond .ne 13, 3) := by decide +kernel
theorem dX4_firstSo_20 : decode cX4_firstSo 20 = .ok (.aload_n 0, 1) := by decide +kernel
theorem dX4_firstSo_21 : decode cX4_firstSo 21 = .ok (.invokevirtual 147, 3) := by decide +kernel
theorem dX4_firstSo_24 : decode cX4_firstSo 24 = .ok (.iinc 5 1, 3) := by decide +kernel
theorem dX4_firstSo_27 : decode cX4_firstSo 27 = .ok (.goto (-24), 3) := by decide +kernel
theorem dX4_firstSo_30 : decode cX4_firstSo 30 = .ok (.iload 5, 2) := by decide +kernel
theorem dX4_firstSo_32 : decode cX4_firstSo 32 = .ok (.ireturn, 1) := by decide +kernel
theorem dX4_foundSo_0 : decode cX4_foundSo 0 = .ok (.aload_n 0, 1) := by decide +kernel
theorem dX4_foundSo_1 : decode cX4_foundSo 1 = .ok (.invokevirtual 164, 3) := by decide +kernel
theorem dX4_foundSo_4 : decode cX4_foundSo 4 = .ok (.aload_n 0, 1) := by decide +kernel
theorem dX4_foundSo_5 : decode cX4_foundSo 5 = .ok (.aload_n 0, 1) := by decide +kernel
theorem dX4_foundSo_6 : decode cX4_foundSo 6 = .ok (.iload_n 1, 1) := by decide +kernel
theorem dX4_foundSo_7 : decode cX4_foundSo 7 = .ok (.iload_n 2, 1) := by decide +kernel
theorem dX4_foundSo_8 : decode cX4_foundSo 8 = .ok (.iload_n 3, 1) := by decide +kernel
theorem dX4_foundSo_9 : decode cX4_foundSo 9 = .ok (.bipush 100, 2) := by decide +kernel
theorem dX4_foundSo_11 : decode cX4_foundSo 11 = .ok (.invokevirtual 174, 3) := by decide +kernel
theorem dX4_foundSo_14 : decode cX4_foundSo 14 = .ok (.invokevirtual 167, 3) := by decide +kernel
theorem dX4_foundSo_17 : decode cX4_foundSo 17 = .ok (.istore 4, 2) := by decide +kernel
theorem dX4_foundSo_19 : decode cX4_foundSo 19 = .ok (.iload 4, 2) := by decide +kernel
theorem dX4_foundSo_21 : decode cX4_foundSo 21 = .ok (.bipush 100, 2) := by decide +kernel
theorem dX4_foundSo_23 : decode cX4_foundSo 23 = .ok (.if_icmp .le 12, 3) := by decide +kernel
theorem dX4_foundSo_26 : decode cX4_foundSo 26 = .ok (.aload_n 0, 1) := by decide +kernel
theorem dX4_foundSo_27 : decode cX4_foundSo 27 = .ok (.ldc 178, 2) := by decide +kernel
theorem dX4_foundSo_29 : decode cX4_foundSo 29 = .ok (.invokevirtual 66, 3) := by decide +kernel
theorem dX4_foundSo_32 : decode cX4_foundSo 32 = .ok (.goto 5, 3) := by decide +kernel
theorem dX4_foundSo_35 : decode cX4_foundSo 35 = .ok (.iload 4, 2) := by decide +kernel
theorem dX4_foundSo_37 : decode cX4_foundSo 37 = .ok (.ireturn, 1) := by decide +kernel
theorem dX4_meet_0 : decode cX4_meet 0 = .ok (.aload_n 0, 1) := by decide +kernel
theorem dX4_meet_1 : decode cX4_meet 1 = .ok (.iload_n 1, 1) := by decide +kernel
theorem dX4_meet_2 : decode cX4_meet 2 = .ok (.iload_n 2, 1) := by decide +kernel
theorem dX4_meet_3 : decode cX4_meet 3 = .ok (.invokevirtual 118, 3) := by decide +kernel
theorem dX4_meet_6 : decode cX4_meet 6 = .ok (.ifCond .eq 13, 3) := by decide +kernel
theorem dX4_meet_9 : decode cX4_meet 9 = .ok (.aload_n 0, 1) := by decide +kernel
theorem dX4_meet_10 : decode cX4_meet 10 = .ok (.iconst 0, 1) := by decide +kernel
theorem dX4_meet_11 : decode cX4_meet 11 = .ok (.iload_n 1, 1) := by decide +kernel
theorem dX4_meet_12 : decode cX4_meet 12 = .ok (.iload_n 2, 1) := by decide +kernel
theorem dX4_meet_13 : decode cX4_meet 13 = .ok (.invokevirtual 179, 3) := by decide +kernel
theorem dX4_meet_16 : decode cX4_meet 16 = .ok (.goto 9, 3) := by decide +kernel
theorem dX4_meet_19 : decode cX4_meet 19 = .ok (.aload_n 0, 1) := by decide +kernel
theorem dX4_meet_20 : decode cX4_meet 20 = .ok (.ldc 41, 2) := by decide +kernel
theorem dX4_meet_22 : decode cX4_meet 22 = .ok (.invokevirtual 66, 3) := by decide +kernel
theorem dX4_meet_25 : decode cX4_meet 25 = .ok (.ireturn, 1) := by decide +kernel
theorem dX4_when_0 : decode cX4_when 0 = .ok (.aload_n 0, 1) := by decide +kernel
theorem dX4_when_1 : decode cX4_when 1 = .ok (.iload_n 1, 1) := by decide +kernel
theorem dX4_when_2 : decode cX4_when 2 = .ok (.invokevirtual 48, 3) := by decide +kernel
theorem dX4_when_5 : decode cX4_when 5 = .ok (.ifCond .eq 13, 3) := by decide +kernel
theorem dX4_when_8 : decode cX4_when 8 = .ok (.aload_n 0, 1) := by decide +kernel
theorem dX4_when_9 : decode cX4_when 9 = .ok (.iconst 1, 1) := by decide +kernel
theorem dX4_when_10 : decode cX4_when 10 = .ok (.iload_n 1, 1) := by decide +kernel
theorem dX4_when_11 : decode cX4_when 11 = .ok (.iconst 0, 1) := by decide +kernel
theorem dX4_when_12 : decode cX4_when 12 = .ok (.invokevirtual 179, 3) := by decide +kernel
theorem dX4_when_15 : decode cX4_when 15 = .ok (.goto 9, 3) := by decide +kernel
theorem dX4_when_18 : decode cX4_when 18 = .ok (.aload_n 0, 1) := by decide +kernel
theorem dX4_when_19 : decode cX4_when 19 = .ok (.ldc 41, 2) := by decide +kernel
theorem dX4_when_21 : decode cX4_when 21 = .ok (.invokevirtual 66, 3) := by decide +kernel
theorem dX4_when_24 : decode cX4_when 24 = .ok (.ireturn, 1) := by decide +kernel
theorem dX4_till_0 : decode cX4_till 0 = .ok (.aload_n 0, 1) := by decide +kernel
theorem dX4_till_1 : decode cX4_till 1 = .ok (.iload_n 1, 1) := by decide +kernel
theorem dX4_till_2 : decode cX4_till 2 = .ok (.invokevirtual 48, 3) := by decide +kernel
theorem dX4_till_5 : decode cX4_till 5 = .ok (.ifCond .eq 13, 3) := by decide +kernel
theorem dX4_till_8 : decode cX4_till 8 = .ok (.aload_n 0, 1) := by decide +kernel
theorem dX4_till_9 : decode cX4_till 9 = .ok (.iconst 2, 1) := by decide +kernel
theorem dX4_till_10 : decode cX4_till 10 = .ok (.iload_n 1, 1) := by decide +kernel
theorem dX4_till_11 : decode cX4_till 11 = .ok (.iconst 0, 1) := by decide +kernel
theorem dX4_till_12 : decode cX4_till 12 = .ok (.invokevirtual 179, 3) := by decide +kernel
theorem dX4_till_15 : decode cX4_till 15 = .ok (.goto 9, 3) := by decide +kernel
theorem dX4_till_18 : decode cX4_till 18 = .ok (.aload_n 0, 1) := by decide +kernel
theorem dX4_till_19 : decode cX4_till 19 = .ok (.ldc 41, 2) := by decide +kernel
theorem dX4_till_21 : decode cX4_till 21 = .ok (.invokevirtual 66, 3) := by decide +kernel
theorem dX4_till_24 : decode cX4_till 24 = .ok (.ireturn, 1) := by decide +kernel
theorem dX4_glad_0 : decode cX4_glad 0 = .ok (.aload_n 0, 1) := by decide +kernel
theorem dX4_glad_1 : decode cX4_glad 1 = .ok (.iload_n 1, 1) := by decide +kernel
theorem dX4_glad_2 : decode cX4_glad 2 = .ok (.invokevirtual 48, 3) := by decide +kernel
theorem dX4_glad_5 : decode cX4_glad 5 = .ok (.ifCond .eq 13, 3) := by decide +kernel
theorem dX4_glad_8 : decode cX4_glad 8 = .ok (.aload_n 0, 1) := by decide +kernel
theorem dX4_glad_9 : decode cX4_glad 9 = .ok (.iconst 3, 1) := by decide +kernel
theorem dX4_glad_10 : decode cX4_glad 10 = .ok (.iload_n 1, 1) := by decide +kernel
theorem dX4_glad_11 : decode cX4_glad 11 = .ok (.iconst 0, 1) := by decide +kernel
theorem dX4_glad_12 : decode cX4_glad 12 = .ok (.invokevirtual 179, 3) := by decide +kernel
theorem dX4_glad_15 : decode cX4_glad 15 = .ok (.goto 9, 3) := by decide +kernel
theorem dX4_glad_18 : decode cX4_glad 18 = .ok (.aload_n 0, 1) := by decide +kernel
theorem dX4_glad_19 : decode cX4_glad 19 = .ok (.ldc 41, 2) := by decide +kernel
theorem dX4_glad_21 : decode cX4_glad 21 = .ok (.invokevirtual 66, 3) := by decide +kernel
theorem dX4_glad_24 : decode cX4_glad 24 = .ok (.ireturn, 1) := by decide +kernel
theorem dX4_begins_0 : decode cX4_begins 0 = .ok (.aload_n 0, 1) := by decide +kernel
theorem dX4_begins_1 : decode cX4_begins 1 = .ok (.iconst (-1), 1) := by decide +kernel
theorem dX4_begins_2 : decode cX4_begins 2 = .ok (.putfield 183, 3) := by decide +kernel
theorem dX4_begins_5 : decode cX4_begins 5 = .ok (.aload_n 0, 1) := by decide +kernel
theorem dX4_begins_6 : decode cX4_begins 6 = .ok (.iload_n 1, 1) := by decide +kernel
theorem dX4_begins_7 : decode cX4_begins 7 = .ok (.iconst 1, 1) := by decide +kernel
theorem dX4_begins_8 : decode cX4_begins 8 = .ok (.iadd, 1) := by decide +kernel
theorem dX4_begins_9 : decode cX4_begins 9 = .ok (.putfield 187, 3) := by decide +kernel
theorem dX4_begins_12 : decode cX4_begins 12 = .ok (.return_, 1) := by decide +kernel
theorem dX4_tries_0 : decode cX4_tries 0 = .ok (.aload_n 0, 1) := by decide +kernel
theorem dX4_tries_1 : decode cX4_tries 1 = .ok (.iload_n 2, 1) := by decide +kernel
theorem dX4_tries_2 : decode cX4_tries 2 = .ok (.aload_n 0, 1) := by decide +kernel
theorem dX4_tries_3 : decode cX4_tries 3 = .ok (.getfield 187, 3) := by decide +kernel
theorem dX4_tries_6 : decode cX4_tries 6 = .ok (.if_icmp .ge 7, 3) := by decide +kernel
theorem dX4_tries_9 : decode cX4_tries 9 = .ok (.iload_n 1, 1) := by decide +kernel
theorem dX4_tries_10 : decode cX4_tries 10 = .ok (.goto 7, 3) := by decide +kernel
theorem dX4_tries_13 : decode cX4_tries 13 = .ok (.aload_n 0, 1) := by decide +kernel
theorem dX4_tries_14 : decode cX4_tries 14 = .ok (.getfield 183, 3) := by decide +kernel
theorem dX4_tries_17 : decode cX4_tries 17 = .ok (.putfield 183, 3) := by decide +kernel
theorem dX4_tries_20 : decode cX4_tries 20 = .ok (.aload_n 0, 1) := by decide +kernel
theorem dX4_tries_21 : decode cX4_tries 21 = .ok (.iload_n 2, 1) := by decide +kernel
theorem dX4_tries_22 : decode cX4_tries 22 = .ok (.aload_n 0, 1) := by decide +kernel
theorem dX4_tries_23 : decode cX4_tries 23 = .ok (.getfield 187, 3) := by decide +kernel
theorem dX4_tries_26 : decode cX4_tries 26 = .ok (.if_icmp .ge 7, 3) := by decide +kernel
theorem dX4_tries_29 : decode cX4_tries 29 = .ok (.iload_n 2, 1) := by decide +kernel
theorem dX4_tries_30 : decode cX4_tries 30 = .ok (.goto 7, 3) := by decide +kernel
theorem dX4_tries_33 : decode cX4_tries 33 = .ok (.aload_n 0, 1) := by decide +kernel
theorem dX4_tries_34 : decode cX4_tries 34 = .ok (.getfield 187, 3) := by decide +kernel
theorem dX4_tries_37 : decode cX4_tries 37 = .ok (.putfield 187, 3) := by decide +kernel
theorem dX4_tries_40 : decode cX4_tries 40 = .ok (.return_, 1) := by decide +kernel
theorem dX4_bestOrNone_0 : decode cX4_bestOrNone 0 = .ok (.aload_n 0, 1) := by decide +kernel
theorem dX4_bestOrNone_1 : decode cX4_bestOrNone 1 = .ok (.getfield 183, 3) := by decide +kernel
theorem dX4_bestOrNone_4 : decode cX4_bestOrNone 4 = .ok (.ifCond .ge 12, 3) := by decide +kernel
theorem dX4_bestOrNone_7 : decode cX4_bestOrNone 7 = .ok (.aload_n 0, 1) := by decide +kernel
theorem dX4_bestOrNone_8 : decode cX4_bestOrNone 8 = .ok (.ldc 178, 2) := by decide +kernel
theorem dX4_bestOrNone_10 : decode cX4_bestOrNone 10 = .ok (.invokevirtual 66, 3) := by decide +kernel
theorem dX4_bestOrNone_13 : decode cX4_bestOrNone 13 = .ok (.goto 7, 3) := by decide +kernel
theorem dX4_bestOrNone_16 : decode cX4_bestOrNone 16 = .ok (.aload_n 0, 1) := by decide +kernel
theorem dX4_bestOrNone_17 : decode cX4_bestOrNone 17 = .ok (.getfield 183, 3) := by decide +kernel
theorem dX4_bestOrNone_20 : decode cX4_bestOrNone 20 = .ok (.ireturn, 1) := by decide +kernel
theorem dX4_heading_0 : decode cX4_heading 0 = .ok (.aload_n 0, 1) := by decide +kernel
theorem dX4_heading_1 : decode cX4_heading 1 = .ok (.iload_n 1, 1) := by decide +kernel
theorem dX4_heading_2 : decode cX4_heading 2 = .ok (.iload_n 2, 1) := by decide +kernel
theorem dX4_heading_3 : decode cX4_heading 3 = .ok (.invokevirtual 118, 3) := by decide +kernel
theorem dX4_heading_6 : decode cX4_heading 6 = .ok (.ifCond .ne 10, 3) := by decide +kernel
theorem dX4_heading_9 : decode cX4_heading 9 = .ok (.aload_n 0, 1) := by decide +kernel
theorem dX4_heading_10 : decode cX4_heading 10 = .ok (.ldc 41, 2) := by decide +kernel
theorem dX4_heading_12 : decode cX4_heading 12 = .ok (.invokevirtual 66, 3) := by decide +kernel
theorem dX4_heading_15 : decode cX4_heading 15 = .ok (.ireturn, 1) := by decide +kernel
theorem dX4_heading_16 : decode cX4_heading 16 = .ok (.aload_n 0, 1) := by decide +kernel
theorem dX4_heading_17 : decode cX4_heading 17 = .ok (.bipush 100, 2) := by decide +kernel
theorem dX4_heading_19 : decode cX4_heading 19 = .ok (.invokevirtual 190, 3) := by decide +kernel
theorem dX4_heading_22 : decode cX4_heading 22 = .ok (.aload_n 0, 1) := by decide +kernel
theorem dX4_heading_23 : decode cX4_heading 23 = .ok (.invokevirtual 164, 3) := by decide +kernel
theorem dX4_heading_26 : decode cX4_heading 26 = .ok (.iconst 0, 1) := by decide +kernel
theorem dX4_heading_27 : decode cX4_heading 27 = .ok (.istore_n 3, 1) := by decide +kernel
theorem dX4_heading_28 : decode cX4_heading 28 = .ok (.iload_n 3, 1) := by decide +kernel
theorem dX4_heading_29 : decode cX4_heading 29 = .ok (.iconst 4, 1) := by decide +kernel
theorem dX4_heading_30 : decode cX4_heading 30 = .ok (.if_icmp .ge 38, 3) := by decide +kernel
theorem dX4_heading_33 : decode cX4_heading 33 = .ok (.aload_n 0, 1) := by decide +kernel
theorem dX4_heading_34 : decode cX4_heading 34 = .ok (.getfield 7, 3) := by decide +kernel
theorem dX4_heading_37 : decode cX4_heading 37 = .ok (.iload_n 1, 1) := by decide +kernel
theorem dX4_heading_38 : decode cX4_heading 38 = .ok (.iconst 3, 1) := by decide +kernel
theorem dX4_heading_39 : decode cX4_heading 39 = .ok (.invokestatic 54, 3) := by decide +kernel
theorem dX4_heading_42 : decode cX4_heading 42 = .ok (.iload_n 3, 1) := by decide +kernel
theorem dX4_heading_43 : decode cX4_heading 43 = .ok (.iastore, 1) := by decide +kernel
theorem dX4_heading_44 : decode cX4_heading 44 = .ok (.aload_n 0, 1) := by decide +kernel
theorem dX4_heading_45 : decode cX4_heading 45 = .ok (.iload_n 3, 1) := by decide +kernel
theorem dX4_heading_46 : decode cX4_heading 46 = .ok (.aload_n 0, 1) := by decide +kernel
theorem dX4_heading_47 : decode cX4_heading 47 = .ok (.aload_n 0, 1) := by decide +kernel
theorem dX4_heading_48 : decode cX4_heading 48 = .ok (.iconst 0, 1) := by decide +kernel
theorem dX4_heading_49 : decode cX4_heading 49 = .ok (.iload_n 1, 1) := by decide +kernel
theorem dX4_heading_50 : decode cX4_heading 50 = .ok (.iload_n 2, 1) := by decide +kernel
theorem dX4_heading_51 : decode cX4_heading 51 = .ok (.bipush 100, 2) := by decide +kernel
theorem dX4_heading_53 : decode cX4_heading 53 = .ok (.invokevirtual 174, 3) := by decide +kernel
theorem dX4_heading_56 : decode cX4_heading 56 = .ok (.invokevirtual 167, 3) := by decide +kernel
theorem dX4_heading_59 : decode cX4_heading 59 = .ok (.invokevirtual 193, 3) := by decide +kernel
theorem dX4_heading_62 : decode cX4_heading 62 = .ok (.iinc 3 1, 3) := by decide +kernel
theorem dX4_heading_65 : decode cX4_heading 65 = .ok (.goto (-37), 3) := by decide +kernel
theorem dX4_heading_68 : decode cX4_heading 68 = .ok (.aload_n 0, 1) := by decide +kernel
theorem dX4_heading_69 : decode cX4_heading 69 = .ok (.invokevirtual 196, 3) := by decide +kernel
theorem dX4_heading_72 : decode cX4_heading 72 = .ok (.ireturn, 1) := by decide +kernel
theorem dX4_begin_0 : decode cX4_begin 0 = .ok (.aload_n 0, 1) := by decide +kernel
theorem dX4_begin_1 : decode cX4_begin 1 = .ok (.iload_n 1, 1) := by decide +kernel
theorem dX4_begin_2 : decode cX4_begin 2 = .ok (.iload_n 2, 1) := by decide +kernel
theorem dX4_begin_3 : decode cX4_begin 3 = .ok (.invokevirtual 118, 3) := by decide +kernel
theorem dX4_begin_6 : decode cX4_begin 6 = .ok (.ifCond .ne 10, 3) := by decide +kernel
theorem dX4_begin_9 : decode cX4_begin 9 = .ok (.aload_n 0, 1) := by decide +kernel
theorem dX4_begin_10 : decode cX4_begin 10 = .ok (.ldc 41, 2) := by decide +kernel
theorem dX4_begin_12 : decode cX4_begin 12 = .ok (.invokevirtual 66, 3) := by decide +kernel
theorem dX4_begin_15 : decode cX4_begin 15 = .ok (.ireturn, 1) := by decide +kernel
theorem dX4_begin_16 : decode cX4_begin 16 = .ok (.aload_n 0, 1) := by decide +kernel
theorem dX4_begin_17 : decode cX4_begin 17 = .ok (.bipush 30, 2) := by decide +kernel
theorem dX4_begin_19 : decode cX4_begin 19 = .ok (.invokevirtual 190, 3) := by decide +kernel
theorem dX4_begin_22 : decode cX4_begin 22 = .ok (.aload_n 0, 1) := by decide +kernel
theorem dX4_begin_23 : decode cX4_begin 23 = .ok (.invokevirtual 164, 3) := by decide +kernel
theorem dX4_begin_26 : decode cX4_begin 26 = .ok (.iconst 0, 1) := by decide +kernel
theorem dX4_begin_27 : decode cX4_begin 27 = .ok (.istore_n 3, 1) := by decide +kernel
theorem dX4_begin_28 : decode cX4_begin 28 = .ok (.iload_n 3, 1) := by decide +kernel
theorem dX4_begin_29 : decode cX4_begin 29 = .ok (.bipush 36, 2) := by decide +kernel
theorem dX4_begin_31 : decode cX4_begin 31 = .ok (.if_icmp .ge 57, 3) := by decide +kernel
theorem dX4_begin_34 : decode cX4_begin 34 = .ok (.aload_n 0, 1) := by decide +kernel
theorem dX4_begin_35 : decode cX4_begin 35 = .ok (.iload_n 1, 1) := by decide +kernel
theorem dX4_begin_36 : decode cX4_begin 36 = .ok (.invokevirtual 95, 3) := by decide +kernel
theorem dX4_begin_39 : decode cX4_begin 39 = .ok (.ifCond .eq 7, 3) := by decide +kernel
theorem dX4_begin_42 : decode cX4_begin 42 = .ok (.iconst (-1), 1) := by decide +kernel
theorem dX4_begin_43 : decode cX4_begin 43 = .ok (.goto 8, 3) := by decide +kernel
theorem dX4_begin_46 : decode cX4_begin 46 = .ok (.aload_n 0, 1) := by decide +kernel
theorem dX4_begin_47 : decode cX4_begin 47 = .ok (.iload_n 1, 1) := by decide +kernel
theorem dX4_begin_48 : decode cX4_begin 48 = .ok (.invokevirtual 115, 3) := by decide +kernel
theorem dX4_begin_51 : decode cX4_begin 51 = .ok (.istore 4, 2) := by decide +kernel
theorem dX4_begin_53 : decode cX4_begin 53 = .ok (.aload_n 0, 1) := by decide +kernel
theorem dX4_begin_54 : decode cX4_begin 54 = .ok (.getfield 7, 3) := by decide +kernel
theorem dX4_begin_57 : decode cX4_begin 57 = .ok (.iload_n 1, 1) := by decide +kernel
theorem dX4_begin_58 : decode cX4_begin 58 = .ok (.iconst 1, 1) := by decide +kernel
theorem dX4_begin_59 : decode cX4_begin 59 = .ok (.invokestatic 54, 3) := by decide +kernel
theorem dX4_begin_62 : decode cX4_begin 62 = .ok (.iload_n 3, 1) := by decide +kernel
theorem dX4_begin_63 : decode cX4_begin 63 = .ok (.iastore, 1) := by decide +kernel
theorem dX4_begin_64 : decode cX4_begin 64 = .ok (.aload_n 0, 1) := by decide +kernel
theorem dX4_begin_65 : decode cX4_begin 65 = .ok (.iload_n 3, 1) := by decide +kernel
theorem dX4_begin_66 : decode cX4_begin 66 = .ok (.aload_n 0, 1) := by decide +kernel
theorem dX4_begin_67 : decode cX4_begin 67 = .ok (.aload_n 0, 1) := by decide +kernel
theorem dX4_begin_68 : decode cX4_begin 68 = .ok (.iconst 0, 1) := by decide +kernel
theorem dX4_begin_69 : decode cX4_begin 69 = .ok (.iload_n 1, 1) := by decide +kernel
theorem dX4_begin_70 : decode cX4_begin 70 = .ok (.iload_n 2, 1) := by decide +kernel
theorem dX4_begin_71 : decode cX4_begin 71 = .ok (.bipush 30, 2) := by decide +kernel
theorem dX4_begin_73 : decode cX4_begin 73 = .ok (.invokevirtual 174, 3) := by decide +kernel
theorem dX4_begin_76 : decode cX4_begin 76 = .ok (.invokevirtual 167, 3) := by decide +kernel
theorem dX4_begin_79 : decode cX4_begin 79 = .ok (.invokevirtual 193, 3) := by decide +kernel
theorem dX4_begin_82 : decode cX4_begin 82 = .ok (.iinc 3 1, 3) := by decide +kernel
theorem dX4_begin_85 : decode cX4_begin 85 = .ok (.goto (-57), 3) := by decide +kernel
theorem dX4_begin_88 : decode cX4_begin 88 = .ok (.aload_n 0, 1) := by decide +kernel
theorem dX4_begin_89 : decode cX4_begin 89 = .ok (.invokevirtual 196, 3) := by decide +kernel
theorem dX4_begin_92 : decode cX4_begin 92 = .ok (.ireturn, 1) := by decide +kernel
theorem dX4_kind_0 : decode cX4_kind 0 = .ok (.aload_n 0, 1) := by decide +kernel
theorem dX4_kind_1 : decode cX4_kind 1 = .ok (.iload_n 1, 1) := by decide +kernel
theorem dX4_kind_2 : decode cX4_kind 2 = .ok (.invokevirtual 48, 3) := by decide +kernel
theorem dX4_kind_5 : decode cX4_kind 5 = .ok (.ifCond .ne 10, 3) := by decide +kernel
theorem dX4_kind_8 : decode cX4_kind 8 = .ok (.aload_n 0, 1) := by decide +kernel
theorem dX4_kind_9 : decode cX4_kind 9 = .ok (.ldc 41, 2) := by decide +kernel
theorem dX4_kind_11 : decode cX4_kind 11 = .ok (.invokevirtual 66, 3) := by decide +kernel
theorem dX4_kind_14 : decode cX4_kind 14 = .ok (.ireturn, 1) := by decide +kernel
theorem dX4_kind_15 : decode cX4_kind 15 = .ok (.aload_n 0, 1) := by decide +kernel
theorem dX4_kind_16 : decode cX4_kind 16 = .ok (.bipush 100, 2) := by decide +kernel
theorem dX4_kind_18 : decode cX4_kind 18 = .ok (.invokevirtual 190, 3) := by decide +kernel
theorem dX4_kind_21 : decode cX4_kind 21 = .ok (.aload_n 0, 1) := by decide +kernel
theorem dX4_kind_22 : decode cX4_kind 22 = .ok (.invokevirtual 164, 3) := by decide +kernel
theorem dX4_kind_25 : decode cX4_kind 25 = .ok (.iconst 0, 1) := by decide +kernel
theorem dX4_kind_26 : decode cX4_kind 26 = .ok (.istore_n 2, 1) := by decide +kernel
theorem dX4_kind_27 : decode cX4_kind 27 = .ok (.iload_n 2, 1) := by decide +kernel
theorem dX4_kind_28 : decode cX4_kind 28 = .ok (.iconst 5, 1) := by decide +kernel
theorem dX4_kind_29 : decode cX4_kind 29 = .ok (.if_icmp .gt 38, 3) := by decide +kernel
theorem dX4_kind_32 : decode cX4_kind 32 = .ok (.aload_n 0, 1) := by decide +kernel
theorem dX4_kind_33 : decode cX4_kind 33 = .ok (.getfield 7, 3) := by decide +kernel
theorem dX4_kind_36 : decode cX4_kind 36 = .ok (.iload_n 1, 1) := by decide +kernel
theorem dX4_kind_37 : decode cX4_kind 37 = .ok (.iconst 0, 1) := by decide +kernel
theorem dX4_kind_38 : decode cX4_kind 38 = .ok (.invokestatic 54, 3) := by decide +kernel
theorem dX4_kind_41 : decode cX4_kind 41 = .ok (.iload_n 2, 1) := by decide +kernel
theorem dX4_kind_42 : decode cX4_kind 42 = .ok (.iastore, 1) := by decide +kernel
theorem dX4_kind_43 : decode cX4_kind 43 = .ok (.aload_n 0, 1) := by decide +kernel
theorem dX4_kind_44 : decode cX4_kind 44 = .ok (.iload_n 2, 1) := by decide +kernel
theorem dX4_kind_45 : decode cX4_kind 45 = .ok (.aload_n 0, 1) := by decide +kernel
theorem dX4_kind_46 : decode cX4_kind 46 = .ok (.aload_n 0, 1) := by decide +kernel
theorem dX4_kind_47 : decode cX4_kind 47 = .ok (.iconst 1, 1) := by decide +kernel
theorem dX4_kind_48 : decode cX4_kind 48 = .ok (.iload_n 1, 1) := by decide +kernel
theorem dX4_kind_49 : decode cX4_kind 49 = .ok (.iconst 0, 1) := by decide +kernel
theorem dX4_kind_50 : decode cX4_kind 50 = .ok (.bipush 100, 2) := by decide +kernel
theorem dX4_kind_52 : decode cX4_kind 52 = .ok (.invokevirtual 174, 3) := by decide +kernel
theorem dX4_kind_55 : decode cX4_kind 55 = .ok (.invokevirtual 167, 3) := by decide +kernel
theorem dX4_kind_58 : decode cX4_kind 58 = .ok (.invokevirtual 193, 3) := by decide +kernel
theorem dX4_kind_61 : decode cX4_kind 61 = .ok (.iinc 2 1, 3) := by decide +kernel
theorem dX4_kind_64 : decode cX4_kind 64 = .ok (.goto (-37), 3) := by decide +kernel
theorem dX4_kind_67 : decode cX4_kind 67 = .ok (.aload_n 0, 1) := by decide +kernel
theorem dX4_kind_68 : decode cX4_kind 68 = .ok (.invokevirtual 196, 3) := by decide +kernel
theorem dX4_kind_71 : decode cX4_kind 71 = .ok (.ireturn, 1) := by decide +kernel
theorem dX4_hour_0 : decode cX4_hour 0 = .ok (.aload_n 0, 1) := by decide +kernel
theorem dX4_hour_1 : decode cX4_hour 1 = .ok (.iload_n 1, 1) := by decide +kernel
theorem dX4_hour_2 : decode cX4_hour 2 = .ok (.iload_n 2, 1) := by decide +kernel
theorem dX4_hour_3 : decode cX4_hour 3 = .ok (.invokevirtual 118, 3) := by decide +kernel
theorem dX4_hour_6 : decode cX4_hour 6 = .ok (.ifCond .ne 10, 3) := by decide +kernel
theorem dX4_hour_9 : decode cX4_hour 9 = .ok (.aload_n 0, 1) := by decide +kernel
theorem dX4_hour_10 : decode cX4_hour 10 = .ok (.ldc 41, 2) := by decide +kernel
theorem dX4_hour_12 : decode cX4_hour 12 = .ok (.invokevirtual 66, 3) := by decide +kernel
theorem dX4_hour_15 : decode cX4_hour 15 = .ok (.ireturn, 1) := by decide +kernel
theorem dX4_hour_16 : decode cX4_hour 16 = .ok (.aload_n 0, 1) := by decide +kernel
theorem dX4_hour_17 : decode cX4_hour 17 = .ok (.bipush 60, 2) := by decide +kernel
theorem dX4_hour_19 : decode cX4_hour 19 = .ok (.invokevirtual 190, 3) := by decide +kernel
theorem dX4_hour_22 : decode cX4_hour 22 = .ok (.aload_n 0, 1) := by decide +kernel
theorem dX4_hour_23 : decode cX4_hour 23 = .ok (.invokevirtual 164, 3) := by decide +kernel
theorem dX4_hour_26 : decode cX4_hour 26 = .ok (.iconst 0, 1) := by decide +kernel
theorem dX4_hour_27 : decode cX4_hour 27 = .ok (.istore_n 3, 1) := by decide +kernel
theorem dX4_hour_28 : decode cX4_hour 28 = .ok (.iload_n 3, 1) := by decide +kernel
theorem dX4_hour_29 : decode cX4_hour 29 = .ok (.bipush 24, 2) := by decide +kernel
theorem dX4_hour_31 : decode cX4_hour 31 = .ok (.if_icmp .ge 36, 3) := by decide +kernel
theorem dX4_hour_34 : decode cX4_hour 34 = .ok (.aload_n 0, 1) := by decide +kernel
theorem dX4_hour_35 : decode cX4_hour 35 = .ok (.getfield 7, 3) := by decide +kernel
theorem dX4_hour_38 : decode cX4_hour 38 = .ok (.iconst 2, 1) := by decide +kernel
theorem dX4_hour_39 : decode cX4_hour 39 = .ok (.iconst 1, 1) := by decide +kernel
theorem dX4_hour_40 : decode cX4_hour 40 = .ok (.iload_n 3, 1) := by decide +kernel
theorem dX4_hour_41 : decode cX4_hour 41 = .ok (.ishl, 1) := by decide +kernel
theorem dX4_hour_42 : decode cX4_hour 42 = .ok (.iastore, 1) := by decide +kernel
theorem dX4_hour_43 : decode cX4_hour 43 = .ok (.aload_n 0, 1) := by decide +kernel
theorem dX4_hour_44 : decode cX4_hour 44 = .ok (.iload_n 3, 1) := by decide +kernel
theorem dX4_hour_45 : decode cX4_hour 45 = .ok (.aload_n 0, 1) := by decide +kernel
theorem dX4_hour_46 : decode cX4_hour 46 = .ok (.aload_n 0, 1) := by decide +kernel
theorem dX4_hour_47 : decode cX4_hour 47 = .ok (.iconst 0, 1) := by decide +kernel
theorem dX4_hour_48 : decode cX4_hour 48 = .ok (.iload_n 1, 1) := by decide +kernel
theorem dX4_hour_49 : decode cX4_hour 49 = .ok (.iload_n 2, 1) := by decide +kernel
theorem dX4_hour_50 : decode cX4_hour 50 = .ok (.bipush 60, 2) := by decide +kernel
theorem dX4_hour_52 : decode cX4_hour 52 = .ok (.invokevirtual 174, 3) := by decide +kernel
theorem dX4_hour_55 : decode cX4_hour 55 = .ok (.invokevirtual 167, 3) := by decide +kernel
theorem dX4_hour_58 : decode cX4_hour 58 = .ok (.invokevirtual 193, 3) := by decide +kernel
theorem dX4_hour_61 : decode cX4_hour 61 = .ok (.iinc 3 1, 3) := by decide +kernel
theorem dX4_hour_64 : decode cX4_hour 64 = .ok (.goto (-36), 3) := by decide +kernel
theorem dX4_hour_67 : decode cX4_hour 67 = .ok (.aload_n 0, 1) := by decide +kernel
theorem dX4_hour_68 : decode cX4_hour 68 = .ok (.invokevirtual 196, 3) := by decide +kernel
theorem dX4_hour_71 : decode cX4_hour 71 = .ok (.ireturn, 1) := by decide +kernel
theorem dX4_hope_0 : decode cX4_hope 0 = .ok (.aload_n 0, 1) := by decide +kernel
theorem dX4_hope_1 : decode cX4_hope 1 = .ok (.iload_n 1, 1) := by decide +kernel
theorem dX4_hope_2 : decode cX4_hope 2 = .ok (.invokevirtual 48, 3) := by decide +kernel
theorem dX4_hope_5 : decode cX4_hope 5 = .ok (.ifCond .eq 15, 3) := by decide +kernel
theorem dX4_hope_8 : decode cX4_hope 8 = .ok (.iload_n 2, 1) := by decide +kernel
theorem dX4_hope_9 : decode cX4_hope 9 = .ok (.i2l, 1) := by decide +kernel
theorem dX4_hope_10 : decode cX4_hope 10 = .ok (.lconst 0, 1) := by decide +kernel
theorem dX4_hope_11 : decode cX4_hope 11 = .ok (.ldc2_w 150, 3) := by decide +kernel
theorem dX4_hope_14 : decode cX4_hope 14 = .ok (.invokestatic 44, 3) := by decide +kernel
theorem dX4_hope_17 : decode cX4_hope 17 = .ok (.ifCond .ne 10, 3) := by decide +kernel
theorem dX4_hope_20 : decode cX4_hope 20 = .ok (.aload_n 0, 1) := by decide +kernel
theorem dX4_hope_21 : decode cX4_hope 21 = .ok (.ldc 41, 2) := by decide +kernel
theorem dX4_hope_23 : decode cX4_hope 23 = .ok (.invokevirtual 66, 3) := by decide +kernel
theorem dX4_hope_26 : decode cX4_hope 26 = .ok (.ireturn, 1) := by decide +kernel
theorem dX4_hope_27 : decode cX4_hope 27 = .ok (.iconst (-1), 1) := by decide +kernel
theorem dX4_hope_28 : decode cX4_hope 28 = .ok (.istore_n 3, 1) := by decide +kernel
theorem dX4_hope_29 : decode cX4_hope 29 = .ok (.iconst 0, 1) := by decide +kernel
theorem dX4_hope_30 : decode cX4_hope 30 = .ok (.istore 4, 2) := by decide +kernel
theorem dX4_hope_32 : decode cX4_hope 32 = .ok (.aload_n 0, 1) := by decide +kernel
theorem dX4_hope_33 : decode cX4_hope 33 = .ok (.invokevirtual 164, 3) := by decide +kernel
theorem dX4_hope_36 : decode cX4_hope 36 = .ok (.iconst 0, 1) := by decide +kernel
theorem dX4_hope_37 : decode cX4_hope 37 = .ok (.istore 5, 2) := by decide +kernel
theorem dX4_hope_39 : decode cX4_hope 39 = .ok (.iload 5, 2) := by decide +kernel
theorem dX4_hope_41 : decode cX4_hope 41 = .ok (.bipush 16, 2) := by decide +kernel
theorem dX4_hope_43 : decode cX4_hope 43 = .ok (.if_icmp .ge 67, 3) := by decide +kernel
theorem dX4_hope_46 : decode cX4_hope 46 = .ok (.aload_n 0, 1) := by decide +kernel
theorem dX4_hope_47 : decode cX4_hope 47 = .ok (.getfield 7, 3) := by decide +kernel
theorem dX4_hope_50 : decode cX4_hope 50 = .ok (.iload_n 1, 1) := by decide +kernel
theorem dX4_hope_51 : decode cX4_hope 51 = .ok (.iconst 4, 1) := by decide +kernel
theorem dX4_hope_52 : decode cX4_hope 52 = .ok (.invokestatic 54, 3) := by decide +kernel
theorem dX4_hope_55 : decode cX4_hope 55 = .ok (.iload 5, 2) := by decide +kernel
theorem dX4_hope_57 : decode cX4_hope 57 = .ok (.iastore, 1) := by decide +kernel
theorem dX4_hope_58 : decode cX4_hope 58 = .ok (.aload_n 0, 1) := by decide +kernel
theorem dX4_hope_59 : decode cX4_hope 59 = .ok (.iload_n 2, 1) := by decide +kernel
theorem dX4_hope_60 : decode cX4_hope 60 = .ok (.invokevirtual 153, 3) := by decide +kernel
theorem dX4_hope_63 : decode cX4_hope 63 = .ok (.aload_n 0, 1) := by decide +kernel
theorem dX4_hope_64 : decode cX4_hope 64 = .ok (.aload_n 0, 1) := by decide +kernel
theorem dX4_hope_65 : decode cX4_hope 65 = .ok (.invokevirtual 159, 3) := by decide +kernel
theorem dX4_hope_68 : decode cX4_hope 68 = .ok (.invokestatic 128, 3) := by decide +kernel
theorem dX4_hope_71 : decode cX4_hope 71 = .ok (.invokevirtual 167, 3) := by decide +kernel
theorem dX4_hope_74 : decode cX4_hope 74 = .ok (.istore 6, 2) := by decide +kernel
theorem dX4_hope_76 : decode cX4_hope 76 = .ok (.iload 6, 2) := by decide +kernel
theorem dX4_hope_78 : decode cX4_hope 78 = .ok (.iload_n 3, 1) := by decide +kernel
theorem dX4_hope_79 : decode cX4_hope 79 = .ok (.if_icmp .le 8, 3) := by decide +kernel
theorem dX4_hope_82 : decode cX4_hope 82 = .ok (.iload 5, 2) := by decide +kernel
theorem dX4_hope_84 : decode cX4_hope 84 = .ok (.goto 5, 3) := by decide +kernel
theorem dX4_hope_87 : decode cX4_hope 87 = .ok (.iload 4, 2) := by decide +kernel
theorem dX4_hope_89 : decode cX4_hope 89 = .ok (.istore 4, 2) := by decide +kernel
theorem dX4_hope_91 : decode cX4_hope 91 = .ok (.iload 6, 2) := by decide +kernel
theorem dX4_hope_93 : decode cX4_hope 93 = .ok (.iload_n 3, 1) := by decide +kernel
theorem dX4_hope_94 : decode cX4_hope 94 = .ok (.if_icmp .le 8, 3) := by decide +kernel
theorem dX4_hope_97 : decode cX4_hope 97 = .ok (.iload 6, 2) := by decide +kernel
theorem dX4_hope_99 : decode cX4_hope 99 = .ok (.goto 4, 3) := by decide +kernel
theorem dX4_hope_102 : decode cX4_hope 102 = .ok (.iload_n 3, 1) := by decide +kernel
theorem dX4_hope_103 : decode cX4_hope 103 = .ok (.istore_n 3, 1) := by decide +kernel
theorem dX4_hope_104 : decode cX4_hope 104 = .ok (.iinc 5 1, 3) := by decide +kernel
theorem dX4_hope_107 : decode cX4_hope 107 = .ok (.goto (-68), 3) := by decide +kernel
theorem dX4_hope_110 : decode cX4_hope 110 = .ok (.iload 4, 2) := by decide +kernel
theorem dX4_hope_112 : decode cX4_hope 112 = .ok (.ireturn, 1) := by decide +kernel
theorem dX4_more_0 : decode cX4_more 0 = .ok (.iload_n 1, 1) := by decide +kernel
theorem dX4_more_1 : decode cX4_more 1 = .ok (.i2l, 1) := by decide +kernel
theorem dX4_more_2 : decode cX4_more 2 = .ok (.lconst 0, 1) := by decide +kernel
theorem dX4_more_3 : decode cX4_more 3 = .ok (.ldc2_w 150, 3) := by decide +kernel
theorem dX4_more_6 : decode cX4_more 6 = .ok (.invokestatic 44, 3) := by decide +kernel
theorem dX4_more_9 : decode cX4_more 9 = .ok (.ifCond .ne 10, 3) := by decide +kernel
theorem dX4_more_12 : decode cX4_more 12 = .ok (.aload_n 0, 1) := by decide +kernel
theorem dX4_more_13 : decode cX4_more 13 = .ok (.ldc 41, 2) := by decide +kernel
theorem dX4_more_15 : decode cX4_more 15 = .ok (.invokevirtual 66, 3) := by decide +kernel
theorem dX4_more_18 : decode cX4_more 18 = .ok (.ireturn, 1) := by decide +kernel
theorem dX4_more_19 : decode cX4_more 19 = .ok (.iconst (-1), 1) := by decide +kernel
theorem dX4_more_20 : decode cX4_more 20 = .ok (.istore_n 2, 1) := by decide +kernel
theorem dX4_more_21 : decode cX4_more 21 = .ok (.iconst 0, 1) := by decide +kernel
theorem dX4_more_22 : decode cX4_more 22 = .ok (.istore_n 3, 1) := by decide +kernel
theorem dX4_more_23 : decode cX4_more 23 = .ok (.aload_n 0, 1) := by decide +kernel
theorem dX4_more_24 : decode cX4_more 24 = .ok (.invokevirtual 164, 3) := by decide +kernel
theorem dX4_more_27 : decode cX4_more 27 = .ok (.iconst 0, 1) := by decide +kernel
theorem dX4_more_28 : decode cX4_more 28 = .ok (.istore 4, 2) := by decide +kernel
theorem dX4_more_30 : decode cX4_more 30 = .ok (.iload 4, 2) := by decide +kernel
theorem dX4_more_32 : decode cX4_more 32 = .ok (.bipush 24, 2) := by decide +kernel
theorem dX4_more_34 : decode cX4_more 34 = .ok (.if_icmp .ge 66, 3) := by decide +kernel
theorem dX4_more_37 : decode cX4_more 37 = .ok (.aload_n 0, 1) := by decide +kernel
theorem dX4_more_38 : decode cX4_more 38 = .ok (.getfield 7, 3) := by decide +kernel
theorem dX4_more_41 : decode cX4_more 41 = .ok (.iconst 2, 1) := by decide +kernel
theorem dX4_more_42 : decode cX4_more 42 = .ok (.dup2, 1) := by decide +kernel
theorem dX4_more_43 : decode cX4_more 43 = .ok (.iaload, 1) := by decide +kernel
theorem dX4_more_44 : decode cX4_more 44 = .ok (.iconst 1, 1) := by decide +kernel
theorem dX4_more_45 : decode cX4_more 45 = .ok (.iload 4, 2) := by decide +kernel
theorem dX4_more_47 : decode cX4_more 47 = .ok (.ishl, 1) := by decide +kernel
theorem dX4_more_48 : decode cX4_more 48 = .ok (.ior, 1) := by decide +kernel
theorem dX4_more_49 : decode cX4_more 49 = .ok (.iastore, 1) := by decide +kernel
theorem dX4_more_50 : decode cX4_more 50 = .ok (.aload_n 0, 1) := by decide +kernel
theorem dX4_more_51 : decode cX4_more 51 = .ok (.iload_n 1, 1) := by decide +kernel
theorem dX4_more_52 : decode cX4_more 52 = .ok (.invokevirtual 153, 3) := by decide +kernel
theorem dX4_more_55 : decode cX4_more 55 = .ok (.aload_n 0, 1) := by decide +kernel
theorem dX4_more_56 : decode cX4_more 56 = .ok (.aload_n 0, 1) := by decide +kernel
theorem dX4_more_57 : decode cX4_more 57 = .ok (.invokevirtual 124, 3) := by decide +kernel
theorem dX4_more_60 : decode cX4_more 60 = .ok (.invokestatic 128, 3) := by decide +kernel
theorem dX4_more_63 : decode cX4_more 63 = .ok (.invokevirtual 167, 3) := by decide +kernel
theorem dX4_more_66 : decode cX4_more 66 = .ok (.istore 5, 2) := by decide +kernel
theorem dX4_more_68 : decode cX4_more 68 = .ok (.iload 5, 2) := by decide +kernel
theorem dX4_more_70 : decode cX4_more 70 = .ok (.iload_n 2, 1) := by decide +kernel
theorem dX4_more_71 : decode cX4_more 71 = .ok (.if_icmp .le 8, 3) := by decide +kernel
theorem dX4_more_74 : decode cX4_more 74 = .ok (.iload 4, 2) := by decide +kernel
theorem dX4_more_76 : decode cX4_more 76 = .ok (.goto 4, 3) := by decide +kernel
theorem dX4_more_79 : decode cX4_more 79 = .ok (.iload_n 3, 1) := by decide +kernel
theorem dX4_more_80 : decode cX4_more 80 = .ok (.istore_n 3, 1) := by decide +kernel
theorem dX4_more_81 : decode cX4_more 81 = .ok (.iload 5, 2) := by decide +kernel
theorem dX4_more_83 : decode cX4_more 83 = .ok (.iload_n 2, 1) := by decide +kernel
theorem dX4_more_84 : decode cX4_more 84 = .ok (.if_icmp .le 8, 3) := by decide +kernel
theorem dX4_more_87 : decode cX4_more 87 = .ok (.iload 5, 2) := by decide +kernel
theorem dX4_more_89 : decode cX4_more 89 = .ok (.goto 4, 3) := by decide +kernel
theorem dX4_more_92 : decode cX4_more 92 = .ok (.iload_n 2, 1) := by decide +kernel
theorem dX4_more_93 : decode cX4_more 93 = .ok (.istore_n 2, 1) := by decide +kernel
theorem dX4_more_94 : decode cX4_more 94 = .ok (.iinc 4 1, 3) := by decide +kernel
theorem dX4_more_97 : decode cX4_more 97 = .ok (.goto (-67), 3) := by decide +kernel
theorem dX4_more_100 : decode cX4_more 100 = .ok (.iload_n 3, 1) := by decide +kernel
theorem dX4_more_101 : decode cX4_more 101 = .ok (.ireturn, 1) := by decide +kernel
theorem dX4_best_0 : decode cX4_best 0 = .ok (.iload_n 1, 1) := by decide +kernel
theorem dX4_best_1 : decode cX4_best 1 = .ok (.i2l, 1) := by decide +kernel
theorem dX4_best_2 : decode cX4_best 2 = .ok (.lconst 0, 1) := by decide +kernel
theorem dX4_best_3 : decode cX4_best 3 = .ok (.ldc2_w 199, 3) := by decide +kernel
theorem dX4_best_6 : decode cX4_best 6 = .ok (.invokestatic 44, 3) := by decide +kernel
theorem dX4_best_9 : decode cX4_best 9 = .ok (.ifCond .ne 10, 3) := by decide +kernel
theorem dX4_best_12 : decode cX4_best 12 = .ok (.aload_n 0, 1) := by decide +kernel
theorem dX4_best_13 : decode cX4_best 13 = .ok (.ldc 41, 2) := by decide +kernel
theorem dX4_best_15 : decode cX4_best 15 = .ok (.invokevirtual 66, 3) := by decide +kernel
theorem dX4_best_18 : decode cX4_best 18 = .ok (.ireturn, 1) := by decide +kernel
theorem dX4_best_19 : decode cX4_best 19 = .ok (.iconst (-1), 1) := by decide +kernel
theorem dX4_best_20 : decode cX4_best 20 = .ok (.istore_n 2, 1) := by decide +kernel
theorem dX4_best_21 : decode cX4_best 21 = .ok (.iconst 0, 1) := by decide +kernel
theorem dX4_best_22 : decode cX4_best 22 = .ok (.istore_n 3, 1) := by decide +kernel
theorem dX4_best_23 : decode cX4_best 23 = .ok (.aload_n 0, 1) := by decide +kernel
theorem dX4_best_24 : decode cX4_best 24 = .ok (.invokevirtual 164, 3) := by decide +kernel
theorem dX4_best_27 : decode cX4_best 27 = .ok (.iconst 0, 1) := by decide +kernel
theorem dX4_best_28 : decode cX4_best 28 = .ok (.istore 4, 2) := by decide +kernel
theorem dX4_best_30 : decode cX4_best 30 = .ok (.iload 4, 2) := by decide +kernel
theorem dX4_best_32 : decode cX4_best 32 = .ok (.bipush 36, 2) := by decide +kernel
theorem dX4_best_34 : decode cX4_best 34 = .ok (.if_icmp .ge 61, 3) := by decide +kernel
theorem dX4_best_37 : decode cX4_best 37 = .ok (.aload_n 0, 1) := by decide +kernel
theorem dX4_best_38 : decode cX4_best 38 = .ok (.getfield 7, 3) := by decide +kernel
theorem dX4_best_41 : decode cX4_best 41 = .ok (.iconst 3, 1) := by decide +kernel
theorem dX4_best_42 : decode cX4_best 42 = .ok (.iload 4, 2) := by decide +kernel
theorem dX4_best_44 : decode cX4_best 44 = .ok (.iastore, 1) := by decide +kernel
theorem dX4_best_45 : decode cX4_best 45 = .ok (.aload_n 0, 1) := by decide +kernel
theorem dX4_best_46 : decode cX4_best 46 = .ok (.iload_n 1, 1) := by decide +kernel
theorem dX4_best_47 : decode cX4_best 47 = .ok (.invokevirtual 153, 3) := by decide +kernel
theorem dX4_best_50 : decode cX4_best 50 = .ok (.aload_n 0, 1) := by decide +kernel
theorem dX4_best_51 : decode cX4_best 51 = .ok (.aload_n 0, 1) := by decide +kernel
theorem dX4_best_52 : decode cX4_best 52 = .ok (.invokevirtual 124, 3) := by decide +kernel
theorem dX4_best_55 : decode cX4_best 55 = .ok (.invokestatic 128, 3) := by decide +kernel
theorem dX4_best_58 : decode cX4_best 58 = .ok (.invokevirtual 167, 3) := by decide +kernel
theorem dX4_best_61 : decode cX4_best 61 = .ok (.istore 5, 2) := by decide +kernel
theorem dX4_best_63 : decode cX4_best 63 = .ok (.iload 5, 2) := by decide +kernel
theorem dX4_best_65 : decode cX4_best 65 = .ok (.iload_n 2, 1) := by decide +kernel
theorem dX4_best_66 : decode cX4_best 66 = .ok (.if_icmp .le 8, 3) := by decide +kernel
theorem dX4_best_69 : decode cX4_best 69 = .ok (.iload 4, 2) := by decide +kernel
theorem dX4_best_71 : decode cX4_best 71 = .ok (.goto 4, 3) := by decide +kernel
theorem dX4_best_74 : decode cX4_best 74 = .ok (.iload_n 3, 1) := by decide +kernel
theorem dX4_best_75 : decode cX4_best 75 = .ok (.istore_n 3, 1) := by decide +kernel
theorem dX4_best_76 : decode cX4_best 76 = .ok (.iload 5, 2) := by decide +kernel
theorem dX4_best_78 : decode cX4_best 78 = .ok (.iload_n 2, 1) := by decide +kernel
theorem dX4_best_79 : decode cX4_best 79 = .ok (.if_icmp .le 8, 3) := by decide +kernel
theorem dX4_best_82 : decode cX4_best 82 = .ok (.iload 5, 2) := by decide +kernel
theorem dX4_best_84 : decode cX4_best 84 = .ok (.goto 4, 3) := by decide +kernel
theorem dX4_best_87 : decode cX4_best 87 = .ok (.iload_n 2, 1) := by decide +kernel
theorem dX4_best_88 : decode cX4_best 88 = .ok (.istore_n 2, 1) := by decide +kernel
theorem dX4_best_89 : decode cX4_best 89 = .ok (.iinc 4 1, 3) := by decide +kernel
theorem dX4_best_92 : decode cX4_best 92 = .ok (.goto (-62), 3) := by decide +kernel
theorem dX4_best_95 : decode cX4_best 95 = .ok (.iload_n 3, 1) := by decide +kernel
theorem dX4_best_96 : decode cX4_best 96 = .ok (.ireturn, 1) := by decide +kernel
theorem dX4_feed_0 : decode cX4_feed 0 = .ok (.iload_n 2, 1) := by decide +kernel
theorem dX4_feed_1 : decode cX4_feed 1 = .ok (.i2l, 1) := by decide +kernel
theorem dX4_feed_2 : decode cX4_feed 2 = .ok (.lconst 1, 1) := by decide +kernel
theorem dX4_feed_3 : decode cX4_feed 3 = .ok (.ldc2_w 201, 3) := by decide +kernel
theorem dX4_feed_6 : decode cX4_feed 6 = .ok (.invokestatic 44, 3) := by decide +kernel
theorem dX4_feed_9 : decode cX4_feed 9 = .ok (.ifCond .ne 10, 3) := by decide +kernel
theorem dX4_feed_12 : decode cX4_feed 12 = .ok (.aload_n 0, 1) := by decide +kernel
theorem dX4_feed_13 : decode cX4_feed 13 = .ok (.ldc 41, 2) := by decide +kernel
theorem dX4_feed_15 : decode cX4_feed 15 = .ok (.invokevirtual 66, 3) := by decide +kernel
theorem dX4_feed_18 : decode cX4_feed 18 = .ok (.ireturn, 1) := by decide +kernel
theorem dX4_feed_19 : decode cX4_feed 19 = .ok (.aload_n 0, 1) := by decide +kernel
theorem dX4_feed_20 : decode cX4_feed 20 = .ok (.getfield 203, 3) := by decide +kernel
theorem dX4_feed_23 : decode cX4_feed 23 = .ok (.iload_n 2, 1) := by decide +kernel
theorem dX4_feed_24 : decode cX4_feed 24 = .ok (.iadd, 1) := by decide +kernel
theorem dX4_feed_25 : decode cX4_feed 25 = .ok (.bipush 120, 2) := by decide +kernel
theorem dX4_feed_27 : decode cX4_feed 27 = .ok (.if_icmp .le 10, 3) := by decide +kernel
theorem dX4_feed_30 : decode cX4_feed 30 = .ok (.aload_n 0, 1) := by decide +kernel
theorem dX4_feed_31 : decode cX4_feed 31 = .ok (.ldc 79, 2) := by decide +kernel
theorem dX4_feed_33 : decode cX4_feed 33 = .ok (.invokevirtual 66, 3) := by decide +kernel
theorem dX4_feed_36 : decode cX4_feed 36 = .ok (.ireturn, 1) := by decide +kernel
theorem dX4_feed_37 : decode cX4_feed 37 = .ok (.iload_n 2, 1) := by decide +kernel
theorem dX4_feed_38 : decode cX4_feed 38 = .ok (.iconst 1, 1) := by decide +kernel
theorem dX4_feed_39 : decode cX4_feed 39 = .ok (.isub, 1) := by decide +kernel
theorem dX4_feed_40 : decode cX4_feed 40 = .ok (.istore_n 3, 1) := by decide +kernel
theorem dX4_feed_41 : decode cX4_feed 41 = .ok (.iload_n 3, 1) := by decide +kernel
theorem dX4_feed_42 : decode cX4_feed 42 = .ok (.ifCond .lt 38, 3) := by decide +kernel
theorem dX4_feed_45 : decode cX4_feed 45 = .ok (.aload_n 0, 1) := by decide +kernel
theorem dX4_feed_46 : decode cX4_feed 46 = .ok (.getfield 25, 3) := by decide +kernel
theorem dX4_feed_49 : decode cX4_feed 49 = .ok (.aload_n 0, 1) := by decide +kernel
theorem dX4_feed_50 : decode cX4_feed 50 = .ok (.getfield 203, 3) := by decide +kernel
theorem dX4_feed_53 : decode cX4_feed 53 = .ok (.iload_n 1, 1) := by decide +kernel
theorem dX4_feed_54 : decode cX4_feed 54 = .ok (.bipush 8, 2) := by decide +kernel
theorem dX4_feed_56 : decode cX4_feed 56 = .ok (.iload_n 3, 1) := by decide +kernel
theorem dX4_feed_57 : decode cX4_feed 57 = .ok (.imul, 1) := by decide +kernel
theorem dX4_feed_58 : decode cX4_feed 58 = .ok (.ishr, 1) := by decide +kernel
theorem dX4_feed_59 : decode cX4_feed 59 = .ok (.sipush 255, 3) := by decide +kernel
theorem dX4_feed_62 : decode cX4_feed 62 = .ok (.iand, 1) := by decide +kernel
theorem dX4_feed_63 : decode cX4_feed 63 = .ok (.iastore, 1) := by decide +kernel
theorem dX4_feed_64 : decode cX4_feed 64 = .ok (.aload_n 0, 1) := by decide +kernel
theorem dX4_feed_65 : decode cX4_feed 65 = .ok (.dup, 1) := by decide +kernel
theorem dX4_feed_66 : decode cX4_feed 66 = .ok (.getfield 203, 3) := by decide +kernel
theorem dX4_feed_69 : decode cX4_feed 69 = .ok (.iconst 1, 1) := by decide +kernel
theorem dX4_feed_70 : decode cX4_feed 70 = .ok (.iadd, 1) := by decide +kernel
theorem dX4_feed_71 : decode cX4_feed 71 = .ok (.putfield 203, 3) := by decide +kernel
theorem dX4_feed_74 : decode cX4_feed 74 = .ok (.iinc 3 (-1), 3) := by decide +kernel
theorem dX4_feed_77 : decode cX4_feed 77 = .ok (.goto (-36), 3) := by decide +kernel
theorem dX4_feed_80 : decode cX4_feed 80 = .ok (.aload_n 0, 1) := by decide +kernel
theorem dX4_feed_81 : decode cX4_feed 81 = .ok (.getfield 203, 3) := by decide +kernel
theorem dX4_feed_84 : decode cX4_feed 84 = .ok (.ireturn, 1) := by decide +kernel
theorem dX4_wipe_0 : decode cX4_wipe 0 = .ok (.aload_n 0, 1) := by decide +kernel
theorem dX4_wipe_1 : decode cX4_wipe 1 = .ok (.getfield 203, 3) := by decide +kernel
theorem dX4_wipe_4 : decode cX4_wipe 4 = .ok (.istore_n 1, 1) := by decide +kernel
theorem dX4_wipe_5 : decode cX4_wipe 5 = .ok (.aload_n 0, 1) := by decide +kernel
theorem dX4_wipe_6 : decode cX4_wipe 6 = .ok (.iconst 0, 1) := by decide +kernel
theorem dX4_wipe_7 : decode cX4_wipe 7 = .ok (.putfield 203, 3) := by decide +kernel
theorem dX4_wipe_10 : decode cX4_wipe 10 = .ok (.iload_n 1, 1) := by decide +kernel
theorem dX4_wipe_11 : decode cX4_wipe 11 = .ok (.ireturn, 1) := by decide +kernel
theorem dX4_byteAt_0 : decode cX4_byteAt 0 = .ok (.iload_n 1, 1) := by decide +kernel
theorem dX4_byteAt_1 : decode cX4_byteAt 1 = .ok (.aload_n 0, 1) := by decide +kernel
theorem dX4_byteAt_2 : decode cX4_byteAt 2 = .ok (.getfield 203, 3) := by decide +kernel
theorem dX4_byteAt_5 : decode cX4_byteAt 5 = .ok (.if_icmp .ge 12, 3) := by decide +kernel
theorem dX4_byteAt_8 : decode cX4_byteAt 8 = .ok (.aload_n 0, 1) := by decide +kernel
theorem dX4_byteAt_9 : decode cX4_byteAt 9 = .ok (.getfield 25, 3) := by decide +kernel
theorem dX4_byteAt_12 : decode cX4_byteAt 12 = .ok (.iload_n 1, 1) := by decide +kernel
theorem dX4_byteAt_13 : decode cX4_byteAt 13 = .ok (.iaload, 1) := by decide +kernel
theorem dX4_byteAt_14 : decode cX4_byteAt 14 = .ok (.goto 4, 3) := by decide +kernel
theorem dX4_byteAt_17 : decode cX4_byteAt 17 = .ok (.iconst (-1), 1) := by decide +kernel
theorem dX4_byteAt_18 : decode cX4_byteAt 18 = .ok (.ireturn, 1) := by decide +kernel
theorem dX4_isLetter_0 : decode cX4_isLetter 0 = .ok (.iload_n 0, 1) := by decide +kernel
theorem dX4_isLetter_1 : decode cX4_isLetter 1 = .ok (.i2l, 1) := by decide +kernel
theorem dX4_isLetter_2 : decode cX4_isLetter 2 = .ok (.ldc2_w 206, 3) := by decide +kernel
theorem dX4_isLetter_5 : decode cX4_isLetter 5 = .ok (.ldc2_w 208, 3) := by decide +kernel
theorem dX4_isLetter_8 : decode cX4_isLetter 8 = .ok (.invokestatic 44, 3) := by decide +kernel
theorem dX4_isLetter_11 : decode cX4_isLetter 11 = .ok (.ireturn, 1) := by decide +kernel
theorem dX4_isDigit_0 : decode cX4_isDigit 0 = .ok (.iload_n 0, 1) := by decide +kernel
theorem dX4_isDigit_1 : decode cX4_isDigit 1 = .ok (.i2l, 1) := by decide +kernel
theorem dX4_isDigit_2 : decode cX4_isDigit 2 = .ok (.ldc2_w 210, 3) := by decide +kernel
theorem dX4_isDigit_5 : decode cX4_isDigit 5 = .ok (.ldc2_w 212, 3) := by decide +kernel
theorem dX4_isDigit_8 : decode cX4_isDigit 8 = .ok (.invokestatic 44, 3) := by decide +kernel
theorem dX4_isDigit_11 : decode cX4_isDigit 11 = .ok (.ireturn, 1) := by decide +kernel
theorem dX4_token_0 : decode cX4_token 0 = .ok (.aload_n 0, 1) := by decide +kernel
theorem dX4_token_1 : decode cX4_token 1 = .ok (.aload_n 0, 1) := by decide +kernel
theorem dX4_token_2 : decode cX4_token 2 = .ok (.getfield 214, 3) := by decide +kernel
theorem dX4_token_5 : decode cX4_token 5 = .ok (.putfield 217, 3) := by decide +kernel
theorem dX4_token_8 : decode cX4_token 8 = .ok (.aload_n 0, 1) := by decide +kernel
theorem dX4_token_9 : decode cX4_token 9 = .ok (.aload_n 0, 1) := by decide +kernel
theorem dX4_token_10 : decode cX4_token 10 = .ok (.getfield 217, 3) := by decide +kernel
theorem dX4_token_13 : decode cX4_token 13 = .ok (.invokevirtual 220, 3) := by decide +kernel
theorem dX4_token_16 : decode cX4_token 16 = .ok (.bipush 32, 2) := by decide +kernel
theorem dX4_token_18 : decode cX4_token 18 = .ok (.if_icmp .ne 16, 3) := by decide +kernel
theorem dX4_token_21 : decode cX4_token 21 = .ok (.aload_n 0, 1) := by decide +kernel
theorem dX4_token_22 : decode cX4_token 22 = .ok (.dup, 1) := by decide +kernel
theorem dX4_token_23 : decode cX4_token 23 = .ok (.getfield 217, 3) := by decide +kernel
theorem dX4_token_26 : decode cX4_token 26 = .ok (.iconst 1, 1) := by decide +kernel
theorem dX4_token_27 : decode cX4_token 27 = .ok (.iadd, 1) := by decide +kernel
theorem dX4_token_28 : decode cX4_token 28 = .ok (.putfield 217, 3) := by decide +kernel
theorem dX4_token_31 : decode cX4_token 31 = .ok (.goto (-23), 3) := by decide +kernel
theorem dX4_token_34 : decode cX4_token 34 = .ok (.aload_n 0, 1) := by decide +kernel
theorem dX4_token_35 : decode cX4_token 35 = .ok (.aload_n 0, 1) := by decide +kernel
theorem dX4_token_36 : decode cX4_token 36 = .ok (.getfield 217, 3) := by decide +kernel
theorem dX4_token_39 : decode cX4_token 39 = .ok (.invokevirtual 220, 3) := by decide +kernel
theorem dX4_token_42 : decode cX4_token 42 = .ok (.invokestatic 223, 3) := by decide +kernel
theorem dX4_token_45 : decode cX4_token 45 = .ok (.istore_n 1, 1) := by decide +kernel
theorem dX4_token_46 : decode cX4_token 46 = .ok (.aload_n 0, 1) := by decide +kernel
theorem dX4_token_47 : decode cX4_token 47 = .ok (.aload_n 0, 1) := by decide +kernel
theorem dX4_token_48 : decode cX4_token 48 = .ok (.getfield 217, 3) := by decide +kernel
theorem dX4_token_51 : decode cX4_token 51 = .ok (.invokevirtual 220, 3) := by decide +kernel
theorem dX4_token_54 : decode cX4_token 54 = .ok (.invokestatic 226, 3) := by decide +kernel
theorem dX4_token_57 : decode cX4_token 57 = .ok (.istore_n 2, 1) := by decide +kernel
theorem dX4_token_58 : decode cX4_token 58 = .ok (.aload_n 0, 1) := by decide +kernel
theorem dX4_token_59 : decode cX4_token 59 = .ok (.aload_n 0, 1) := by decide +kernel
theorem dX4_token_60 : decode cX4_token 60 = .ok (.getfield 217, 3) := by decide +kernel
theorem dX4_token_63 : decode cX4_token 63 = .ok (.aload_n 0, 1) := by decide +kernel
theorem dX4_token_64 : decode cX4_token 64 = .ok (.getfield 203, 3) := by decide +kernel
theorem dX4_token_67 : decode cX4_token 67 = .ok (.if_icmp .ge 12, 3) := by decide +kernel
theorem dX4_token_70 : decode cX4_token 70 = .ok (.aload_n 0, 1) := by decide +kernel
theorem dX4_token_71 : decode cX4_token 71 = .ok (.getfield 217, 3) := by decide +kernel
theorem dX4_token_74 : decode cX4_token 74 = .ok (.iconst 1, 1) := by decide +kernel
theorem dX4_token_75 : decode cX4_token 75 = .ok (.iadd, 1) := by decide +kernel
theorem dX4_token_76 : decode cX4_token 76 = .ok (.goto 7, 3) := by decide +kernel
theorem dX4_token_79 : decode cX4_token 79 = .ok (.aload_n 0, 1) := by decide +kernel
theorem dX4_token_80 : decode cX4_token 80 = .ok (.getfield 217, 3) := by decide +kernel
theorem dX4_token_83 : decode cX4_token 83 = .ok (.putfield 214, 3) := by decide +kernel
theorem dX4_token_86 : decode cX4_token 86 = .ok (.iload_n 1, 1) := by decide +kernel
theorem dX4_token_87 : decode cX4_token 87 = .ok (.ifCond .eq 17, 3) := by decide +kernel
theorem dX4_token_90 : decode cX4_token 90 = .ok (.aload_n 0, 1) := by decide +kernel
theorem dX4_token_91 : decode cX4_token 91 = .ok (.aload_n 0, 1) := by decide +kernel
theorem dX4_token_92 : decode cX4_token 92 = .ok (.getfield 214, 3) := by decide +kernel
theorem dX4_token_95 : decode cX4_token 95 = .ok (.invokevirtual 220, 3) := by decide +kernel
theorem dX4_token_98 : decode cX4_token 98 = .ok (.invokestatic 223, 3) := by decide +kernel
theorem dX4_token_101 : decode cX4_token 101 = .ok (.ifCond .ne 21, 3) := by decide +kernel
theorem dX4_token_104 : decode cX4_token 104 = .ok (.iload_n 2, 1) := by decide +kernel
theorem dX4_token_105 : decode cX4_token 105 = .ok (.ifCond .eq 30, 3) := by decide +kernel
theorem dX4_token_108 : decode cX4_token 108 = .ok (.aload_n 0, 1) := by decide +kernel
theorem dX4_token_109 : decode cX4_token 109 = .ok (.aload_n 0, 1) := by decide +kernel
theorem dX4_token_110 : decode cX4_token 110 = .ok (.getfield 214, 3) := by decide +kernel
theorem dX4_token_113 : decode cX4_token 113 = .ok (.invokevirtual 220, 3) := by decide +kernel
theorem dX4_token_116 : decode cX4_token 116 = .ok (.invokestatic 226, 3) := by decide +kernel
theorem dX4_token_119 : decode cX4_token 119 = .ok (.ifCond .eq 16, 3) := by decide +kernel
theorem dX4_token_122 : decode cX4_token 122 = .ok (.aload_n 0, 1) := by decide +kernel
theorem dX4_token_123 : decode cX4_token 123 = .ok (.dup, 1) := by decide +kernel
theorem dX4_token_124 : decode cX4_token 124 = .ok (.getfield 214, 3) := by decide +kernel
theorem dX4_token_127 : decode cX4_token 127 = .ok (.iconst 1, 1) := by decide +kernel
theorem dX4_token_128 : decode cX4_token 128 = .ok (.iadd, 1) := by decide +kernel
theorem dX4_token_129 : decode cX4_token 129 = .ok (.putfield 214, 3) := by decide +kernel
theorem dX4_token_132 : decode cX4_token 132 = .ok (.goto (-46), 3) := by decide +kernel
theorem dX4_token_135 : decode cX4_token 135 = .ok (.return_, 1) := by decide +kernel
theorem dX4_must_0 : decode cX4_must 0 = .ok (.aload_n 0, 1) := by decide +kernel
theorem dX4_must_1 : decode cX4_must 1 = .ok (.aload_n 0, 1) := by decide +kernel
theorem dX4_must_2 : decode cX4_must 2 = .ok (.getfield 229, 3) := by decide +kernel
theorem dX4_must_5 : decode cX4_must 5 = .ok (.ifCond .ne 7, 3) := by decide +kernel
theorem dX4_must_8 : decode cX4_must 8 = .ok (.iload_n 1, 1) := by decide +kernel
theorem dX4_must_9 : decode cX4_must 9 = .ok (.ifCond .ne 7, 3) := by decide +kernel
theorem dX4_must_12 : decode cX4_must 12 = .ok (.iconst 1, 1) := by decide +kernel
theorem dX4_must_13 : decode cX4_must 13 = .ok (.goto 4, 3) := by decide +kernel
theorem dX4_must_16 : decode cX4_must 16 = .ok (.iconst 0, 1) := by decide +kernel
theorem dX4_must_17 : decode cX4_must 17 = .ok (.putfield 229, 3) := by decide +kernel
theorem dX4_must_20 : decode cX4_must 20 = .ok (.aload_n 0, 1) := by decide +kernel
theorem dX4_must_21 : decode cX4_must 21 = .ok (.getfield 229, 3) := by decide +kernel
theorem dX4_must_24 : decode cX4_must 24 = .ok (.ifCond .ne 7, 3) := by decide +kernel
theorem dX4_must_27 : decode cX4_must 27 = .ok (.aload_n 0, 1) := by decide +kernel
theorem dX4_must_28 : decode cX4_must 28 = .ok (.invokevirtual 233, 3) := by decide +kernel
theorem dX4_must_31 : decode cX4_must 31 = .ok (.return_, 1) := by decide +kernel
theorem dX4_word_0 : decode cX4_word 0 = .ok (.lconst 0, 1) := by decide +kernel
theorem dX4_word_1 : decode cX4_word 1 = .ok (.lstore_n 1, 1) := by decide +kernel
theorem dX4_word_2 : decode cX4_word 2 = .ok (.aload_n 0, 1) := by decide +kernel
theorem dX4_word_3 : decode cX4_word 3 = .ok (.getfield 217, 3) := by decide +kernel
theorem dX4_word_6 : decode cX4_word 6 = .ok (.istore_n 3, 1) := by decide +kernel
theorem dX4_word_7 : decode cX4_word 7 = .ok (.iload_n 3, 1) := by decide +kernel
theorem dX4_word_8 : decode cX4_word 8 = .ok (.aload_n 0, 1) := by decide +kernel
theorem dX4_word_9 : decode cX4_word 9 = .ok (.getfield 214, 3) := by decide +kernel
theorem dX4_word_12 : decode cX4_word 12 = .ok (.if_icmp .ge 38, 3) := by decide +kernel
theorem dX4_word_15 : decode cX4_word 15 = .ok (.lload_n 1, 1) := by decide +kernel
theorem dX4_word_16 : decode cX4_word 16 = .ok (.ldc2_w 236, 3) := by decide +kernel
theorem dX4_word_19 : decode cX4_word 19 = .ok (.lcmp, 1) := by decide +kernel
theorem dX4_word_20 : decode cX4_word 20 = .ok (.ifCond .le 7, 3) := by decide +kernel
theorem dX4_word_23 : decode cX4_word 23 = .ok (.lload_n 1, 1) := by decide +kernel
theorem dX4_word_24 : decode cX4_word 24 = .ok (.goto 19, 3) := by decide +kernel
theorem dX4_word_27 : decode cX4_word 27 = .ok (.ldc2_w 238, 3) := by decide +kernel
theorem dX4_word_30 : decode cX4_word 30 = .ok (.lload_n 1, 1) := by decide +kernel
theorem dX4_word_31 : decode cX4_word 31 = .ok (.lmul, 1) := by decide +kernel
theorem dX4_word_32 : decode cX4_word 32 = .ok (.aload_n 0, 1) := by decide +kernel
theorem dX4_word_33 : decode cX4_word 33 = .ok (.getfield 25, 3) := by decide +kernel
theorem dX4_word_36 : decode cX4_word 36 = .ok (.iload_n 3, 1) := by decide +kernel
theorem dX4_word_37 : decode cX4_word 37 = .ok (.iaload, 1) := by decide +kernel
theorem dX4_word_38 : decode cX4_word 38 = .ok (.bipush 96, 2) := by decide +kernel
theorem dX4_word_40 : decode cX4_word 40 = .ok (.isub, 1) := by decide +kernel
theorem dX4_word_41 : decode cX4_word 41 = .ok (.i2l, 1) := by decide +kernel
theorem dX4_word_42 : decode cX4_word 42 = .ok (.ladd, 1) := by decide +kernel
theorem dX4_word_43 : decode cX4_word 43 = .ok (.lstore_n 1, 1) := by decide +kernel
theorem dX4_word_44 : decode cX4_word 44 = .ok (.iinc 3 1, 3) := by decide +kernel
theorem dX4_word_47 : decode cX4_word 47 = .ok (.goto (-40), 3) := by decide +kernel
theorem dX4_word_50 : decode cX4_word 50 = .ok (.aload_n 0, 1) := by decide +kernel
theorem dX4_word_51 : decode cX4_word 51 = .ok (.getfield 229, 3) := by decide +kernel
theorem dX4_word_54 : decode cX4_word 54 = .ok (.ifCond .ne 17, 3) := by decide +kernel
theorem dX4_word_57 : decode cX4_word 57 = .ok (.aload_n 0, 1) := by decide +kernel
theorem dX4_word_58 : decode cX4_word 58 = .ok (.aload_n 0, 1) := by decide +kernel
theorem dX4_word_59 : decode cX4_word 59 = .ok (.getfield 217, 3) := by decide +kernel
theorem dX4_word_62 : decode cX4_word 62 = .ok (.invokevirtual 220, 3) := by decide +kernel
theorem dX4_word_65 : decode cX4_word 65 = .ok (.invokestatic 223, 3) := by decide +kernel
theorem dX4_word_68 : decode cX4_word 68 = .ok (.ifCond .ne 7, 3) := by decide +kernel
theorem dX4_word_71 : decode cX4_word 71 = .ok (.lconst 0, 1) := by decide +kernel
theorem dX4_word_72 : decode cX4_word 72 = .ok (.goto 4, 3) := by decide +kernel
theorem dX4_word_75 : decode cX4_word 75 = .ok (.lload_n 1, 1) := by decide +kernel
theorem dX4_word_76 : decode cX4_word 76 = .ok (.lreturn, 1) := by decide +kernel
theorem dX4_number_0 : decode cX4_number 0 = .ok (.aload_n 0, 1) := by decide +kernel
theorem dX4_number_1 : decode cX4_number 1 = .ok (.getfield 229, 3) := by decide +kernel
theorem dX4_number_4 : decode cX4_number 4 = .ok (.ifCond .eq 4, 3) := by decide +kernel
theorem dX4_number_7 : decode cX4_number 7 = .ok (.return_, 1) := by decide +kernel
theorem dX4_number_8 : decode cX4_number 8 = .ok (.aload_n 0, 1) := by decide +kernel
theorem dX4_number_9 : decode cX4_number 9 = .ok (.aload_n 0, 1) := by decide +kernel
theorem dX4_number_10 : decode cX4_number 10 = .ok (.getfield 217, 3) := by decide +kernel
theorem dX4_number_13 : decode cX4_number 13 = .ok (.invokevirtual 220, 3) := by decide +kernel
theorem dX4_number_16 : decode cX4_number 16 = .ok (.invokestatic 226, 3) := by decide +kernel
theorem dX4_number_19 : decode cX4_number 19 = .ok (.istore_n 3, 1) := by decide +kernel
theorem dX4_number_20 : decode cX4_number 20 = .ok (.iconst 0, 1) := by decide +kernel
theorem dX4_number_21 : decode cX4_number 21 = .ok (.istore 4, 2) := by decide +kernel
theorem dX4_number_23 : decode cX4_number 23 = .ok (.aload_n 0, 1) := by decide +kernel
theorem dX4_number_24 : decode cX4_number 24 = .ok (.getfield 217, 3) := by decide +kernel
theorem dX4_number_27 : decode cX4_number 27 = .ok (.istore 5, 2) := by decide +kernel
theorem dX4_number_29 : decode cX4_number 29 = .ok (.iload 5, 2) := by decide +kernel
theorem dX4_number_31 : decode cX4_number 31 = .ok (.aload_n 0, 1) := by decide +kernel
theorem dX4_number_32 : decode cX4_number 32 = .ok (.getfield 214, 3) := by decide +kernel
theorem dX4_number_35 : decode cX4_number 35 = .ok (.if_icmp .ge 44, 3) := by decide +kernel
theorem dX4_number_38 : decode cX4_number 38 = .ok (.iload_n 3, 1) := by decide +kernel
theorem dX4_number_39 : decode cX4_number 39 = .ok (.ifCond .eq 40, 3) := by decide +kernel
theorem dX4_number_42 : decode cX4_number 42 = .ok (.iload 4, 2) := by decide +kernel
theorem dX4_number_44 : decode cX4_number 44 = .ok (.sipush 999, 3) := by decide +kernel
theorem dX4_number_47 : decode cX4_number 47 = .ok (.if_icmp .le 8, 3) := by decide +kernel
theorem dX4_number_50 : decode cX4_number 50 = .ok (.iload 4, 2) := by decide +kernel
theorem dX4_number_52 : decode cX4_number 52 = .ok (.goto 19, 3) := by decide +kernel
theorem dX4_number_55 : decode cX4_number 55 = .ok (.bipush 10, 2) := by decide +kernel
theorem dX4_number_57 : decode cX4_number 57 = .ok (.iload 4, 2) := by decide +kernel
theorem dX4_number_59 : decode cX4_number 59 = .ok (.imul, 1) := by decide +kernel
theorem dX4_number_60 : decode cX4_number 60 = .ok (.aload_n 0, 1) := by decide +kernel
theorem dX4_number_61 : decode cX4_number 61 = .ok (.getfield 25, 3) := by decide +kernel
theorem dX4_number_64 : decode cX4_number 64 = .ok (.iload 5, 2) := by decide +kernel
theorem dX4_number_66 : decode cX4_number 66 = .ok (.iaload, 1) := by decide +kernel
theorem dX4_number_67 : decode cX4_number 67 = .ok (.iadd, 1) := by decide +kernel
theorem dX4_number_68 : decode cX4_number 68 = .ok (.bipush 48, 2) := by decide +kernel
theorem dX4_number_70 : decode cX4_number 70 = .ok (.isub, 1) := by decide +kernel
theorem dX4_number_71 : decode cX4_number 71 = .ok (.istore 4, 2) := by decide +kernel
theorem dX4_number_73 : decode cX4_number 73 = .ok (.iinc 5 1, 3) := by decide +kernel
theorem dX4_number_76 : decode cX4_number 76 = .ok (.goto (-47), 3) := by decide +kernel
theorem dX4_number_79 : decode cX4_number 79 = .ok (.aload_n 0, 1) := by decide +kernel
theorem dX4_number_80 : decode cX4_number 80 = .ok (.iload 4, 2) := by decide +kernel
theorem dX4_number_82 : decode cX4_number 82 = .ok (.putfield 240, 3) := by decide +kernel
theorem dX4_number_85 : decode cX4_number 85 = .ok (.aload_n 0, 1) := by decide +kernel
theorem dX4_number_86 : decode cX4_number 86 = .ok (.iload_n 3, 1) := by decide +kernel
theorem dX4_number_87 : decode cX4_number 87 = .ok (.ifCond .eq 20, 3) := by decide +kernel
theorem dX4_number_90 : decode cX4_number 90 = .ok (.iload 4, 2) := by decide +kernel
theorem dX4_number_92 : decode cX4_number 92 = .ok (.i2l, 1) := by decide +kernel
theorem dX4_number_93 : decode cX4_number 93 = .ok (.iload_n 1, 1) := by decide +kernel
theorem dX4_number_94 : decode cX4_number 94 = .ok (.i2l, 1) := by decide +kernel
theorem dX4_number_95 : decode cX4_number 95 = .ok (.iload_n 2, 1) := by decide +kernel
theorem dX4_number_96 : decode cX4_number 96 = .ok (.i2l, 1) := by decide +kernel
theorem dX4_number_97 : decode cX4_number 97 = .ok (.invokestatic 44, 3) := by decide +kernel
theorem dX4_number_100 : decode cX4_number 100 = .ok (.ifCond .eq 7, 3) := by decide +kernel
theorem dX4_number_103 : decode cX4_number 103 = .ok (.iconst 1, 1) := by decide +kernel
theorem dX4_number_104 : decode cX4_number 104 = .ok (.goto 4, 3) := by decide +kernel
theorem dX4_number_107 : decode cX4_number 107 = .ok (.iconst 0, 1) := by decide +kernel
theorem dX4_number_108 : decode cX4_number 108 = .ok (.invokevirtual 243, 3) := by decide +kernel
theorem dX4_number_111 : decode cX4_number 111 = .ok (.return_, 1) := by decide +kernel
theorem dX4_kindHere_0 : decode cX4_kindHere 0 = .ok (.aload_n 0, 1) := by decide +kernel
theorem dX4_kindHere_1 : decode cX4_kindHere 1 = .ok (.invokevirtual 247, 3) := by decide +kernel
theorem dX4_kindHere_4 : decode cX4_kindHere 4 = .ok (.lstore_n 1, 1) := by decide +kernel
theorem dX4_kindHere_5 : decode cX4_kindHere 5 = .ok (.lload_n 1, 1) := by decide +kernel
theorem dX4_kindHere_6 : decode cX4_kindHere 6 = .ok (.ldc2_w 251, 3) := by decide +kernel
theorem dX4_kindHere_9 : decode cX4_kindHere 9 = .ok (.lcmp, 1) := by decide +kernel
theorem dX4_kindHere_10 : decode cX4_kindHere 10 = .ok (.ifCond .ne 7, 3) := by decide +kernel
theorem dX4_kindHere_13 : decode cX4_kindHere 13 = .ok (.iconst 0, 1) := by decide +kernel
theorem dX4_kindHere_14 : decode cX4_kindHere 14 = .ok (.goto 64, 3) := by decide +kernel
theorem dX4_kindHere_17 : decode cX4_kindHere 17 = .ok (.lload_n 1, 1) := by decide +kernel
theorem dX4_kindHere_18 : decode cX4_kindHere 18 = .ok (.ldc2_w 253, 3) := by decide +kernel
theorem dX4_kindHere_21 : decode cX4_kindHere 21 = .ok (.lcmp, 1) := by decide +kernel
theorem dX4_kindHere_22 : decode cX4_kindHere 22 = .ok (.ifCond .ne 7, 3) := by decide +kernel
theorem dX4_kindHere_25 : decode cX4_kindHere 25 = .ok (.iconst 1, 1) := by decide +kernel
theorem dX4_kindHere_26 : decode cX4_kindHere 26 = .ok (.goto 52, 3) := by decide +kernel
theorem dX4_kindHere_29 : decode cX4_kindHere 29 = .ok (.lload_n 1, 1) := by decide +kernel
theorem dX4_kindHere_30 : decode cX4_kindHere 30 = .ok (.ldc2_w 255, 3) := by decide +kernel
theorem dX4_kindHere_33 : decode cX4_kindHere 33 = .ok (.lcmp, 1) := by decide +kernel
theorem dX4_kindHere_34 : decode cX4_kindHere 34 = .ok (.ifCond .ne 7, 3) := by decide +kernel
theorem dX4_kindHere_37 : decode cX4_kindHere 37 = .ok (.iconst 2, 1) := by decide +kernel
theorem dX4_kindHere_38 : decode cX4_kindHere 38 = .ok (.goto 40, 3) := by decide +kernel
theorem dX4_kindHere_41 : decode cX4_kindHere 41 = .ok (.lload_n 1, 1) := by decide +kernel
theorem dX4_kindHere_42 : decode cX4_kindHere 42 = .ok (.ldc2_w 257, 3) := by decide +kernel
theorem dX4_kindHere_45 : decode cX4_kindHere 45 = .ok (.lcmp, 1) := by decide +kernel
theorem dX4_kindHere_46 : decode cX4_kindHere 46 = .ok (.ifCond .ne 7, 3) := by decide +kernel
theorem dX4_kindHere_49 : decode cX4_kindHere 49 = .ok (.iconst 3, 1) := by decide +kernel
theorem dX4_kindHere_50 : decode cX4_kindHere 50 = .ok (.goto 28, 3) := by decide +kernel
theorem dX4_kindHere_53 : decode cX4_kindHere 53 = .ok (.lload_n 1, 1) := by decide +kernel
theorem dX4_kindHere_54 : decode cX4_kindHere 54 = .ok (.ldc2_w 259, 3) := by decide +kernel
theorem dX4_kindHere_57 : decode cX4_kindHere 57 = .ok (.lcmp, 1) := by decide +kernel
theorem dX4_kindHere_58 : decode cX4_kindHere 58 = .ok (.ifCond .ne 7, 3) := by decide +kernel
theorem dX4_kindHere_61 : decode cX4_kindHere 61 = .ok (.iconst 4, 1) := by decide +kernel
theorem dX4_kindHere_62 : decode cX4_kindHere 62 = .ok (.goto 16, 3) := by decide +kernel
theorem dX4_kindHere_65 : decode cX4_kindHere 65 = .ok (.lload_n 1, 1) := by decide +kernel
theorem dX4_kindHere_66 : decode cX4_kindHere 66 = .ok (.ldc2_w 261, 3) := by decide +kernel
theorem dX4_kindHere_69 : decode cX4_kindHere 69 = .ok (.lcmp, 1) := by decide +kernel
theorem dX4_kindHere_70 : decode cX4_kindHere 70 = .ok (.ifCond .ne 7, 3) := by decide +kernel
theorem dX4_kindHere_73 : decode cX4_kindHere 73 = .ok (.iconst 5, 1) := by decide +kernel
theorem dX4_kindHere_74 : decode cX4_kindHere 74 = .ok (.goto 4, 3) := by decide +kernel
theorem dX4_kindHere_77 : decode cX4_kindHere 77 = .ok (.iconst (-1), 1) := by decide +kernel
theorem dX4_kindHere_78 : decode cX4_kindHere 78 = .ok (.ireturn, 1) := by decide +kernel
theorem dX4_partItem_0 : decode cX4_partItem 0 = .ok (.aload_n 0, 1) := by decide +kernel
theorem dX4_partItem_1 : decode cX4_partItem 1 = .ok (.invokevirtual 247, 3) := by decide +kernel
theorem dX4_partItem_4 : decode cX4_partItem 4 = .ok (.lload_n 1, 1) := by decide +kernel
theorem dX4_partItem_5 : decode cX4_partItem 5 = .ok (.lcmp, 1) := by decide +kernel
theorem dX4_partItem_6 : decode cX4_partItem 6 = .ok (.ifCond .ne 41, 3) := by decide +kernel
theorem dX4_partItem_9 : decode cX4_partItem 9 = .ok (.aload_n 0, 1) := by decide +kernel
theorem dX4_partItem_10 : decode cX4_partItem 10 = .ok (.iconst 1, 1) := by decide +kernel
theorem dX4_partItem_11 : decode cX4_partItem 11 = .ok (.invokevirtual 243, 3) := by decide +kernel
theorem dX4_partItem_14 : decode cX4_partItem 14 = .ok (.aload_n 0, 1) := by decide +kernel
theorem dX4_partItem_15 : decode cX4_partItem 15 = .ok (.iconst 0, 1) := by decide +kernel
theorem dX4_partItem_16 : decode cX4_partItem 16 = .ok (.iload 4, 2) := by decide +kernel
theorem dX4_partItem_18 : decode cX4_partItem 18 = .ok (.invokevirtual 263, 3) := by decide +kernel
theorem dX4_partItem_21 : decode cX4_partItem 21 = .ok (.aload_n 0, 1) := by decide +kernel
theorem dX4_partItem_22 : decode cX4_partItem 22 = .ok (.getfield 7, 3) := by decide +kernel
theorem dX4_partItem_25 : decode cX4_partItem 25 = .ok (.iload_n 3, 1) := by decide +kernel
theorem dX4_partItem_26 : decode cX4_partItem 26 = .ok (.aload_n 0, 1) := by decide +kernel
theorem dX4_partItem_27 : decode cX4_partItem 27 = .ok (.getfield 229, 3) := by decide +kernel
theorem dX4_partItem_30 : decode cX4_partItem 30 = .ok (.ifCond .eq 12, 3) := by decide +kernel
theorem dX4_partItem_33 : decode cX4_partItem 33 = .ok (.aload_n 0, 1) := by decide +kernel
theorem dX4_partItem_34 : decode cX4_partItem 34 = .ok (.getfield 7, 3) := by decide +kernel
theorem dX4_partItem_37 : decode cX4_partItem 37 = .ok (.iload_n 3, 1) := by decide +kernel
theorem dX4_partItem_38 : decode cX4_partItem 38 = .ok (.iaload, 1) := by decide +kernel
theorem dX4_partItem_39 : decode cX4_partItem 39 = .ok (.goto 7, 3) := by decide +kernel
theorem dX4_partItem_42 : decode cX4_partItem 42 = .ok (.aload_n 0, 1) := by decide +kernel
theorem dX4_partItem_43 : decode cX4_partItem 43 = .ok (.getfield 240, 3) := by decide +kernel
theorem dX4_partItem_46 : decode cX4_partItem 46 = .ok (.iastore, 1) := by decide +kernel
theorem dX4_partItem_47 : decode cX4_partItem 47 = .ok (.return_, 1) := by decide +kernel
theorem dX4_walkerItem_0 : decode cX4_walkerItem 0 = .ok (.aload_n 0, 1) := by decide +kernel
theorem dX4_walkerItem_1 : decode cX4_walkerItem 1 = .ok (.aload_n 0, 1) := by decide +kernel
theorem dX4_walkerItem_2 : decode cX4_walkerItem 2 = .ok (.getfield 7, 3) := by decide +kernel
theorem dX4_walkerItem_5 : decode cX4_walkerItem 5 = .ok (.iconst 0, 1) := by decide +kernel
theorem dX4_walkerItem_6 : decode cX4_walkerItem 6 = .ok (.iaload, 1) := by decide +kernel
theorem dX4_walkerItem_7 : decode cX4_walkerItem 7 = .ok (.bipush 8, 2) := by decide +kernel
theorem dX4_walkerItem_9 : decode cX4_walkerItem 9 = .ok (.if_icmp .ge 7, 3) := by decide +kernel
theorem dX4_walkerItem_12 : decode cX4_walkerItem 12 = .ok (.iconst 1, 1) := by decide +kernel
theorem dX4_walkerItem_13 : decode cX4_walkerItem 13 = .ok (.goto 4, 3) := by decide +kernel
theorem dX4_walkerItem_16 : decode cX4_walkerItem 16 = .ok (.iconst 0, 1) := by decide +kernel
theorem dX4_walkerItem_17 : decode cX4_walkerItem 17 = .ok (.invokevirtual 243, 3) := by decide +kernel
theorem dX4_walkerItem_20 : decode cX4_walkerItem 20 = .ok (.aload_n 0, 1) := by decide +kernel
theorem dX4_walkerItem_21 : decode cX4_walkerItem 21 = .ok (.aload_n 0, 1) := by decide +kernel
theorem dX4_walkerItem_22 : decode cX4_walkerItem 22 = .ok (.invokevirtual 247, 3) := by decide +kernel
theorem dX4_walkerItem_25 : decode cX4_walkerItem 25 = .ok (.ldc2_w 266, 3) := by decide +kernel
theorem dX4_walkerItem_28 : decode cX4_walkerItem 28 = .ok (.lcmp, 1) := by decide +kernel
theorem dX4_walkerItem_29 : decode cX4_walkerItem 29 = .ok (.ifCond .ne 7, 3) := by decide +kernel
theorem dX4_walkerItem_32 : decode cX4_walkerItem 32 = .ok (.iconst 1, 1) := by decide +kernel
theorem dX4_walkerItem_33 : decode cX4_walkerItem 33 = .ok (.goto 4, 3) := by decide +kernel
theorem dX4_walkerItem_36 : decode cX4_walkerItem 36 = .ok (.iconst 0, 1) := by decide +kernel
theorem dX4_walkerItem_37 : decode cX4_walkerItem 37 = .ok (.invokevirtual 243, 3) := by decide +kernel
theorem dX4_walkerItem_40 : decode cX4_walkerItem 40 = .ok (.aload_n 0, 1) := by decide +kernel
theorem dX4_walkerItem_41 : decode cX4_walkerItem 41 = .ok (.iconst 0, 1) := by decide +kernel
theorem dX4_walkerItem_42 : decode cX4_walkerItem 42 = .ok (.bipush 35, 2) := by decide +kernel
theorem dX4_walkerItem_44 : decode cX4_walkerItem 44 = .ok (.invokevirtual 263, 3) := by decide +kernel
theorem dX4_walkerItem_47 : decode cX4_walkerItem 47 = .ok (.aload_n 0, 1) := by decide +kernel
theorem dX4_walkerItem_48 : decode cX4_walkerItem 48 = .ok (.getfield 229, 3) := by decide +kernel
theorem dX4_walkerItem_51 : decode cX4_walkerItem 51 = .ok (.ifCond .eq 4, 3) := by decide +kernel
theorem dX4_walkerItem_54 : decode cX4_walkerItem 54 = .ok (.return_, 1) := by decide +kernel
theorem dX4_walkerItem_55 : decode cX4_walkerItem 55 = .ok (.aload_n 0, 1) := by decide +kernel
theorem dX4_walkerItem_56 : decode cX4_walkerItem 56 = .ok (.iload_n 1, 1) := by decide +kernel
theorem dX4_walkerItem_57 : decode cX4_walkerItem 57 = .ok (.aload_n 0, 1) := by decide +kernel
theorem dX4_walkerItem_58 : decode cX4_walkerItem 58 = .ok (.getfield 240, 3) := by decide +kernel
theorem dX4_walkerItem_61 : decode cX4_walkerItem 61 = .ok (.invokevirtual 80, 3) := by decide +kernel
theorem dX4_walkerItem_64 : decode cX4_walkerItem 64 = .ok (.istore_n 2, 1) := by decide +kernel
theorem dX4_walkerItem_65 : decode cX4_walkerItem 65 = .ok (.aload_n 0, 1) := by decide +kernel
theorem dX4_walkerItem_66 : decode cX4_walkerItem 66 = .ok (.ldc2_w 268, 3) := by decide +kernel
theorem dX4_walkerItem_69 : decode cX4_walkerItem 69 = .ok (.iload_n 2, 1) := by decide +kernel
theorem dX4_walkerItem_70 : decode cX4_walkerItem 70 = .ok (.iconst 3, 1) := by decide +kernel
theorem dX4_walkerItem_71 : decode cX4_walkerItem 71 = .ok (.invokestatic 54, 3) := by decide +kernel
theorem dX4_walkerItem_74 : decode cX4_walkerItem 74 = .ok (.iconst 3, 1) := by decide +kernel
theorem dX4_walkerItem_75 : decode cX4_walkerItem 75 = .ok (.invokevirtual 270, 3) := by decide +kernel
theorem dX4_walkerItem_78 : decode cX4_walkerItem 78 = .ok (.aload_n 0, 1) := by decide +kernel
theorem dX4_walkerItem_79 : decode cX4_walkerItem 79 = .ok (.ldc2_w 274, 3) := by decide +kernel
theorem dX4_walkerItem_82 : decode cX4_walkerItem 82 = .ok (.iload_n 2, 1) := by decide +kernel
theorem dX4_walkerItem_83 : decode cX4_walkerItem 83 = .ok (.iconst 4, 1) := by decide +kernel
theorem dX4_walkerItem_84 : decode cX4_walkerItem 84 = .ok (.invokestatic 54, 3) := by decide +kernel
theorem dX4_walkerItem_87 : decode cX4_walkerItem 87 = .ok (.bipush 15, 2) := by decide +kernel
theorem dX4_walkerItem_89 : decode cX4_walkerItem 89 = .ok (.invokevirtual 270, 3) := by decide +kernel
theorem dX4_walkerItem_92 : decode cX4_walkerItem 92 = .ok (.return_, 1) := by decide +kernel
theorem dX4_fogItem_0 : decode cX4_fogItem 0 = .ok (.aload_n 0, 1) := by decide +kernel
theorem dX4_fogItem_1 : decode cX4_fogItem 1 = .ok (.iconst 1, 1) := by decide +kernel
theorem dX4_fogItem_2 : decode cX4_fogItem 2 = .ok (.invokevirtual 243, 3) := by decide +kernel
theorem dX4_fogItem_5 : decode cX4_fogItem 5 = .ok (.aload_n 0, 1) := by decide +kernel
theorem dX4_fogItem_6 : decode cX4_fogItem 6 = .ok (.iconst 0, 1) := by decide +kernel
theorem dX4_fogItem_7 : decode cX4_fogItem 7 = .ok (.bipush 23, 2) := by decide +kernel
theorem dX4_fogItem_9 : decode cX4_fogItem 9 = .ok (.invokevirtual 263, 3) := by decide +kernel
theorem dX4_fogItem_12 : decode cX4_fogItem 12 = .ok (.aload_n 0, 1) := by decide +kernel
theorem dX4_fogItem_13 : decode cX4_fogItem 13 = .ok (.getfield 240, 3) := by decide +kernel
theorem dX4_fogItem_16 : decode cX4_fogItem 16 = .ok (.istore_n 2, 1) := by decide +kernel
theorem dX4_fogItem_17 : decode cX4_fogItem 17 = .ok (.aload_n 0, 1) := by decide +kernel
theorem dX4_fogItem_18 : decode cX4_fogItem 18 = .ok (.getfield 240, 3) := by decide +kernel
theorem dX4_fogItem_21 : decode cX4_fogItem 21 = .ok (.istore_n 3, 1) := by decide +kernel
theorem dX4_fogItem_22 : decode cX4_fogItem 22 = .ok (.aload_n 0, 1) := by decide +kernel
theorem dX4_fogItem_23 : decode cX4_fogItem 23 = .ok (.invokevirtual 247, 3) := by decide +kernel
theorem dX4_fogItem_26 : decode cX4_fogItem 26 = .ok (.ldc2_w 276, 3) := by decide +kernel
theorem dX4_fogItem_29 : decode cX4_fogItem 29 = .ok (.lcmp, 1) := by decide +kernel
theorem dX4_fogItem_30 : decode cX4_fogItem 30 = .ok (.ifCond .ne 20, 3) := by decide +kernel
theorem dX4_fogItem_33 : decode cX4_fogItem 33 = .ok (.aload_n 0, 1) := by decide +kernel
theorem dX4_fogItem_34 : decode cX4_fogItem 34 = .ok (.iconst 1, 1) := by decide +kernel
theorem dX4_fogItem_35 : decode cX4_fogItem 35 = .ok (.invokevirtual 243, 3) := by decide +kernel
theorem dX4_fogItem_38 : decode cX4_fogItem 38 = .ok (.aload_n 0, 1) := by decide +kernel
theorem dX4_fogItem_39 : decode cX4_fogItem 39 = .ok (.iload_n 2, 1) := by decide +kernel
theorem dX4_fogItem_40 : decode cX4_fogItem 40 = .ok (.bipush 23, 2) := by decide +kernel
theorem dX4_fogItem_42 : decode cX4_fogItem 42 = .ok (.invokevirtual 263, 3) := by decide +kernel
theorem dX4_fogItem_45 : decode cX4_fogItem 45 = .ok (.aload_n 0, 1) := by decide +kernel
theorem dX4_fogItem_46 : decode cX4_fogItem 46 = .ok (.getfield 240, 3) := by decide +kernel
theorem dX4_fogItem_49 : decode cX4_fogItem 49 = .ok (.istore_n 3, 1) := by decide +kernel
theorem dX4_fogItem_50 : decode cX4_fogItem 50 = .ok (.iload_n 2, 1) := by decide +kernel
theorem dX4_fogItem_51 : decode cX4_fogItem 51 = .ok (.istore 4, 2) := by decide +kernel
theorem dX4_fogItem_53 : decode cX4_fogItem 53 = .ok (.iload 4, 2) := by decide +kernel
theorem dX4_fogItem_55 : decode cX4_fogItem 55 = .ok (.iload_n 3, 1) := by decide +kernel
theorem dX4_fogItem_56 : decode cX4_fogItem 56 = .ok (.if_icmp .gt 53, 3) := by decide +kernel
theorem dX4_fogItem_59 : decode cX4_fogItem 59 = .ok (.aload_n 0, 1) := by decide +kernel
theorem dX4_fogItem_60 : decode cX4_fogItem 60 = .ok (.getfield 229, 3) := by decide +kernel
theorem dX4_fogItem_63 : decode cX4_fogItem 63 = .ok (.ifCond .ne 46, 3) := by decide +kernel
theorem dX4_fogItem_66 : decode cX4_fogItem 66 = .ok (.aload_n 0, 1) := by decide +kernel
theorem dX4_fogItem_67 : decode cX4_fogItem 67 = .ok (.getfield 7, 3) := by decide +kernel
theorem dX4_fogItem_70 : decode cX4_fogItem 70 = .ok (.iconst 2, 1) := by decide +kernel
theorem dX4_fogItem_71 : decode cX4_fogItem 71 = .ok (.iload_n 1, 1) := by decide +kernel
theorem dX4_fogItem_72 : decode cX4_fogItem 72 = .ok (.ifCond .eq 17, 3) := by decide +kernel
theorem dX4_fogItem_75 : decode cX4_fogItem 75 = .ok (.aload_n 0, 1) := by decide +kernel
theorem dX4_fogItem_76 : decode cX4_fogItem 76 = .ok (.getfield 7, 3) := by decide +kernel
theorem dX4_fogItem_79 : decode cX4_fogItem 79 = .ok (.iconst 2, 1) := by decide +kernel
theorem dX4_fogItem_80 : decode cX4_fogItem 80 = .ok (.iaload, 1) := by decide +kernel
theorem dX4_fogItem_81 : decode cX4_fogItem 81 = .ok (.iconst 1, 1) := by decide +kernel
theorem dX4_fogItem_82 : decode cX4_fogItem 82 = .ok (.iload 4, 2) := by decide +kernel
theorem dX4_fogItem_84 : decode cX4_fogItem 84 = .ok (.ishl, 1) := by decide +kernel
theorem dX4_fogItem_85 : decode cX4_fogItem 85 = .ok (.ior, 1) := by decide +kernel
theorem dX4_fogItem_86 : decode cX4_fogItem 86 = .ok (.goto 16, 3) := by decide +kernel
theorem dX4_fogItem_89 : decode cX4_fogItem 89 = .ok (.aload_n 0, 1) := by decide +kernel
theorem dX4_fogItem_90 : decode cX4_fogItem 90 = .ok (.getfield 7, 3) := by decide +kernel
theorem dX4_fogItem_93 : decode cX4_fogItem 93 = .ok (.iconst 2, 1) := by decide +kernel
theorem dX4_fogItem_94 : decode cX4_fogItem 94 = .ok (.iaload, 1) := by decide +kernel
theorem dX4_fogItem_95 : decode cX4_fogItem 95 = .ok (.iconst 1, 1) := by decide +kernel
theorem dX4_fogItem_96 : decode cX4_fogItem 96 = .ok (.iload 4, 2) := by decide +kernel
theorem dX4_fogItem_98 : decode cX4_fogItem 98 = .ok (.ishl, 1) := by decide +kernel
theorem dX4_fogItem_99 : decode cX4_fogItem 99 = .ok (.iconst (-1), 1) := by decide +kernel
theorem dX4_fogItem_100 : decode cX4_fogItem 100 = .ok (.ixor, 1) := by decide +kernel
theorem dX4_fogItem_101 : decode cX4_fogItem 101 = .ok (.iand, 1) := by decide +kernel
theorem dX4_fogItem_102 : decode cX4_fogItem 102 = .ok (.iastore, 1) := by decide +kernel
theorem dX4_fogItem_103 : decode cX4_fogItem 103 = .ok (.iinc 4 1, 3) := by decide +kernel
theorem dX4_fogItem_106 : decode cX4_fogItem 106 = .ok (.goto (-53), 3) := by decide +kernel
theorem dX4_fogItem_109 : decode cX4_fogItem 109 = .ok (.return_, 1) := by decide +kernel
theorem dX4_item_0 : decode cX4_item 0 = .ok (.aload_n 0, 1) := by decide +kernel
theorem dX4_item_1 : decode cX4_item 1 = .ok (.invokevirtual 278, 3) := by decide +kernel
theorem dX4_item_4 : decode cX4_item 4 = .ok (.istore_n 1, 1) := by decide +kernel
theorem dX4_item_5 : decode cX4_item 5 = .ok (.aload_n 0, 1) := by decide +kernel
theorem dX4_item_6 : decode cX4_item 6 = .ok (.invokevirtual 247, 3) := by decide +kernel
theorem dX4_item_9 : decode cX4_item 9 = .ok (.lstore_n 2, 1) := by decide +kernel
theorem dX4_item_10 : decode cX4_item 10 = .ok (.lload_n 2, 1) := by decide +kernel
theorem dX4_item_11 : decode cX4_item 11 = .ok (.ldc2_w 281, 3) := by decide +kernel
theorem dX4_item_14 : decode cX4_item 14 = .ok (.lcmp, 1) := by decide +kernel
theorem dX4_item_15 : decode cX4_item 15 = .ok (.ifCond .ne 7, 3) := by decide +kernel
theorem dX4_item_18 : decode cX4_item 18 = .ok (.iconst 1, 1) := by decide +kernel
theorem dX4_item_19 : decode cX4_item 19 = .ok (.goto 4, 3) := by decide +kernel
theorem dX4_item_22 : decode cX4_item 22 = .ok (.iconst 0, 1) := by decide +kernel
theorem dX4_item_23 : decode cX4_item 23 = .ok (.istore 4, 2) := by decide +kernel
theorem dX4_item_25 : decode cX4_item 25 = .ok (.iload_n 1, 1) := by decide +kernel
theorem dX4_item_26 : decode cX4_item 26 = .ok (.ifCond .lt 11, 3) := by decide +kernel
theorem dX4_item_29 : decode cX4_item 29 = .ok (.aload_n 0, 1) := by decide +kernel
theorem dX4_item_30 : decode cX4_item 30 = .ok (.iload_n 1, 1) := by decide +kernel
theorem dX4_item_31 : decode cX4_item 31 = .ok (.invokevirtual 283, 3) := by decide +kernel
theorem dX4_item_34 : decode cX4_item 34 = .ok (.goto 75, 3) := by decide +kernel
theorem dX4_item_37 : decode cX4_item 37 = .ok (.iload 4, 2) := by decide +kernel
theorem dX4_item_39 : decode cX4_item 39 = .ok (.ifCond .ne 11, 3) := by decide +kernel
theorem dX4_item_42 : decode cX4_item 42 = .ok (.lload_n 2, 1) := by decide +kernel
theorem dX4_item_43 : decode cX4_item 43 = .ok (.ldc2_w 286, 3) := by decide +kernel
theorem dX4_item_46 : decode cX4_item 46 = .ok (.lcmp, 1) := by decide +kernel
theorem dX4_item_47 : decode cX4_item 47 = .ok (.ifCond .ne 12, 3) := by decide +kernel
theorem dX4_item_50 : decode cX4_item 50 = .ok (.aload_n 0, 1) := by decide +kernel
theorem dX4_item_51 : decode cX4_item 51 = .ok (.iload 4, 2) := by decide +kernel
theorem dX4_item_53 : decode cX4_item 53 = .ok (.invokevirtual 288, 3) := by decide +kernel
theorem dX4_item_56 : decode cX4_item 56 = .ok (.goto 53, 3) := by decide +kernel
theorem dX4_item_59 : decode cX4_item 59 = .ok (.aload_n 0, 1) := by decide +kernel
theorem dX4_item_60 : decode cX4_item 60 = .ok (.lload_n 2, 1) := by decide +kernel
theorem dX4_item_61 : decode cX4_item 61 = .ok (.ldc2_w 291, 3) := by decide +kernel
theorem dX4_item_64 : decode cX4_item 64 = .ok (.lcmp, 1) := by decide +kernel
theorem dX4_item_65 : decode cX4_item 65 = .ok (.ifCond .ne 7, 3) := by decide +kernel
theorem dX4_item_68 : decode cX4_item 68 = .ok (.iconst 1, 1) := by decide +kernel
theorem dX4_item_69 : decode cX4_item 69 = .ok (.goto 4, 3) := by decide +kernel
theorem dX4_item_72 : decode cX4_item 72 = .ok (.iconst 0, 1) := by decide +kernel
theorem dX4_item_73 : decode cX4_item 73 = .ok (.invokevirtual 243, 3) := by decide +kernel
theorem dX4_item_76 : decode cX4_item 76 = .ok (.aload_n 0, 1) := by decide +kernel
theorem dX4_item_77 : decode cX4_item 77 = .ok (.iconst 0, 1) := by decide +kernel
theorem dX4_item_78 : decode cX4_item 78 = .ok (.bipush 35, 2) := by decide +kernel
theorem dX4_item_80 : decode cX4_item 80 = .ok (.invokevirtual 263, 3) := by decide +kernel
theorem dX4_item_83 : decode cX4_item 83 = .ok (.aload_n 0, 1) := by decide +kernel
theorem dX4_item_84 : decode cX4_item 84 = .ok (.getfield 7, 3) := by decide +kernel
theorem dX4_item_87 : decode cX4_item 87 = .ok (.iconst 3, 1) := by decide +kernel
theorem dX4_item_88 : decode cX4_item 88 = .ok (.aload_n 0, 1) := by decide +kernel
theorem dX4_item_89 : decode cX4_item 89 = .ok (.getfield 229, 3) := by decide +kernel
theorem dX4_item_92 : decode cX4_item 92 = .ok (.ifCond .eq 12, 3) := by decide +kernel
theorem dX4_item_95 : decode cX4_item 95 = .ok (.aload_n 0, 1) := by decide +kernel
theorem dX4_item_96 : decode cX4_item 96 = .ok (.getfield 7, 3) := by decide +kernel
theorem dX4_item_99 : decode cX4_item 99 = .ok (.iconst 3, 1) := by decide +kernel
theorem dX4_item_100 : decode cX4_item 100 = .ok (.iaload, 1) := by decide +kernel
theorem dX4_item_101 : decode cX4_item 101 = .ok (.goto 7, 3) := by decide +kernel
theorem dX4_item_104 : decode cX4_item 104 = .ok (.aload_n 0, 1) := by decide +kernel
theorem dX4_item_105 : decode cX4_item 105 = .ok (.getfield 240, 3) := by decide +kernel
theorem dX4_item_108 : decode cX4_item 108 = .ok (.iastore, 1) := by decide +kernel
theorem dX4_item_109 : decode cX4_item 109 = .ok (.return_, 1) := by decide +kernel
theorem dX4_moor_0 : decode cX4_moor 0 = .ok (.aload_n 0, 1) := by decide +kernel
theorem dX4_moor_1 : decode cX4_moor 1 = .ok (.invokevirtual 293, 3) := by decide +kernel
theorem dX4_moor_4 : decode cX4_moor 4 = .ok (.aload_n 0, 1) := by decide +kernel
theorem dX4_moor_5 : decode cX4_moor 5 = .ok (.iconst 0, 1) := by decide +kernel
theorem dX4_moor_6 : decode cX4_moor 6 = .ok (.putfield 229, 3) := by decide +kernel
theorem dX4_moor_9 : decode cX4_moor 9 = .ok (.aload_n 0, 1) := by decide +kernel
theorem dX4_moor_10 : decode cX4_moor 10 = .ok (.iconst 0, 1) := by decide +kernel
theorem dX4_moor_11 : decode cX4_moor 11 = .ok (.putfield 214, 3) := by decide +kernel
theorem dX4_moor_14 : decode cX4_moor 14 = .ok (.aload_n 0, 1) := by decide +kernel
theorem dX4_moor_15 : decode cX4_moor 15 = .ok (.invokevirtual 233, 3) := by decide +kernel
theorem dX4_moor_18 : decode cX4_moor 18 = .ok (.iconst 1, 1) := by decide +kernel
theorem dX4_moor_19 : decode cX4_moor 19 = .ok (.istore_n 1, 1) := by decide +kernel
theorem dX4_moor_20 : decode cX4_moor 20 = .ok (.aload_n 0, 1) := by decide +kernel
theorem dX4_moor_21 : decode cX4_moor 21 = .ok (.invokevirtual 296, 3) := by decide +kernel
theorem dX4_moor_24 : decode cX4_moor 24 = .ok (.aload_n 0, 1) := by decide +kernel
theorem dX4_moor_25 : decode cX4_moor 25 = .ok (.getfield 229, 3) := by decide +kernel
theorem dX4_moor_28 : decode cX4_moor 28 = .ok (.ifCond .ne 31, 3) := by decide +kernel
theorem dX4_moor_31 : decode cX4_moor 31 = .ok (.aload_n 0, 1) := by decide +kernel
theorem dX4_moor_32 : decode cX4_moor 32 = .ok (.aload_n 0, 1) := by decide +kernel
theorem dX4_moor_33 : decode cX4_moor 33 = .ok (.getfield 217, 3) := by decide +kernel
theorem dX4_moor_36 : decode cX4_moor 36 = .ok (.invokevirtual 220, 3) := by decide +kernel
theorem dX4_moor_39 : decode cX4_moor 39 = .ok (.bipush 59, 2) := by decide +kernel
theorem dX4_moor_41 : decode cX4_moor 41 = .ok (.if_icmp .ne 18, 3) := by decide +kernel
theorem dX4_moor_44 : decode cX4_moor 44 = .ok (.aload_n 0, 1) := by decide +kernel
theorem dX4_moor_45 : decode cX4_moor 45 = .ok (.iconst 1, 1) := by decide +kernel
theorem dX4_moor_46 : decode cX4_moor 46 = .ok (.invokevirtual 243, 3) := by decide +kernel
theorem dX4_moor_49 : decode cX4_moor 49 = .ok (.aload_n 0, 1) := by decide +kernel
theorem dX4_moor_50 : decode cX4_moor 50 = .ok (.invokevirtual 296, 3) := by decide +kernel
theorem dX4_moor_53 : decode cX4_moor 53 = .ok (.iinc 1 1, 3) := by decide +kernel
theorem dX4_moor_56 : decode cX4_moor 56 = .ok (.goto (-32), 3) := by decide +kernel
theorem dX4_moor_59 : decode cX4_moor 59 = .ok (.aload_n 0, 1) := by decide +kernel
theorem dX4_moor_60 : decode cX4_moor 60 = .ok (.aload_n 0, 1) := by decide +kernel
theorem dX4_moor_61 : decode cX4_moor 61 = .ok (.getfield 229, 3) := by decide +kernel
theorem dX4_moor_64 : decode cX4_moor 64 = .ok (.ifCond .ne 14, 3) := by decide +kernel
theorem dX4_moor_67 : decode cX4_moor 67 = .ok (.aload_n 0, 1) := by decide +kernel
theorem dX4_moor_68 : decode cX4_moor 68 = .ok (.getfield 217, 3) := by decide +kernel
theorem dX4_moor_71 : decode cX4_moor 71 = .ok (.aload_n 0, 1) := by decide +kernel
theorem dX4_moor_72 : decode cX4_moor 72 = .ok (.getfield 203, 3) := by decide +kernel
theorem dX4_moor_75 : decode cX4_moor 75 = .ok (.if_icmp .ge 7, 3) := by decide +kernel
theorem dX4_moor_78 : decode cX4_moor 78 = .ok (.iconst 1, 1) := by decide +kernel
theorem dX4_moor_79 : decode cX4_moor 79 = .ok (.goto 4, 3) := by decide +kernel
theorem dX4_moor_82 : decode cX4_moor 82 = .ok (.iconst 0, 1) := by decide +kernel
theorem dX4_moor_83 : decode cX4_moor 83 = .ok (.putfield 229, 3) := by decide +kernel
theorem dX4_moor_86 : decode cX4_moor 86 = .ok (.aload_n 0, 1) := by decide +kernel
theorem dX4_moor_87 : decode cX4_moor 87 = .ok (.getfield 229, 3) := by decide +kernel
theorem dX4_moor_90 : decode cX4_moor 90 = .ok (.ifCond .eq 7, 3) := by decide +kernel
theorem dX4_moor_93 : decode cX4_moor 93 = .ok (.aload_n 0, 1) := by decide +kernel
theorem dX4_moor_94 : decode cX4_moor 94 = .ok (.invokevirtual 299, 3) := by decide +kernel
theorem dX4_moor_97 : decode cX4_moor 97 = .ok (.aload_n 0, 1) := by decide +kernel
theorem dX4_moor_98 : decode cX4_moor 98 = .ok (.iconst 0, 1) := by decide +kernel
theorem dX4_moor_99 : decode cX4_moor 99 = .ok (.putfield 203, 3) := by decide +kernel
theorem dX4_moor_102 : decode cX4_moor 102 = .ok (.aload_n 0, 1) := by decide +kernel
theorem dX4_moor_103 : decode cX4_moor 103 = .ok (.getfield 229, 3) := by decide +kernel
theorem dX4_moor_106 : decode cX4_moor 106 = .ok (.ifCond .eq 12, 3) := by decide +kernel
theorem dX4_moor_109 : decode cX4_moor 109 = .ok (.iconst (-1), 1) := by decide +kernel
theorem dX4_moor_110 : decode cX4_moor 110 = .ok (.aload_n 0, 1) := by decide +kernel
theorem dX4_moor_111 : decode cX4_moor 111 = .ok (.getfield 217, 3) := by decide +kernel
theorem dX4_moor_114 : decode cX4_moor 114 = .ok (.isub, 1) := by decide +kernel
theorem dX4_moor_115 : decode cX4_moor 115 = .ok (.goto 4, 3) := by decide +kernel
theorem dX4_moor_118 : decode cX4_moor 118 = .ok (.iload_n 1, 1) := by decide +kernel
theorem dX4_moor_119 : decode cX4_moor 119 = .ok (.ireturn, 1) := by decide +kernel
theorem dX4_isOne_0 : decode cX4_isOne 0 = .ok (.iload_n 0, 1) := by decide +kernel
theorem dX4_isOne_1 : decode cX4_isOne 1 = .ok (.i2l, 1) := by decide +kernel
theorem dX4_isOne_2 : decode cX4_isOne 2 = .ok (.lconst 0, 1) := by decide +kernel
theorem dX4_isOne_3 : decode cX4_isOne 3 = .ok (.ldc2_w 91, 3) := by decide +kernel
theorem dX4_isOne_6 : decode cX4_isOne 6 = .ok (.invokestatic 44, 3) := by decide +kernel
theorem dX4_isOne_9 : decode cX4_isOne 9 = .ok (.ireturn, 1) := by decide +kernel
theorem dX4_sheet_0 : decode cX4_sheet 0 = .ok (.iload_n 1, 1) := by decide +kernel
theorem dX4_sheet_1 : decode cX4_sheet 1 = .ok (.invokestatic 302, 3) := by decide +kernel
theorem dX4_sheet_4 : decode cX4_sheet 4 = .ok (.ifCond .eq 25, 3) := by decide +kernel
theorem dX4_sheet_7 : decode cX4_sheet 7 = .ok (.iload_n 2, 1) := by decide +kernel
theorem dX4_sheet_8 : decode cX4_sheet 8 = .ok (.ifCond .eq 28, 3) := by decide +kernel
theorem dX4_sheet_11 : decode cX4_sheet 11 = .ok (.iload_n 2, 1) := by decide +kernel
theorem dX4_sheet_12 : decode cX4_sheet 12 = .ok (.bipush 8, 2) := by decide +kernel
theorem dX4_sheet_14 : decode cX4_sheet 14 = .ok (.if_icmp .eq 22, 3) := by decide +kernel
theorem dX4_sheet_17 : decode cX4_sheet 17 = .ok (.iload_n 2, 1) := by decide +kernel
theorem dX4_sheet_18 : decode cX4_sheet 18 = .ok (.bipush 16, 2) := by decide +kernel
theorem dX4_sheet_20 : decode cX4_sheet 20 = .ok (.if_icmp .eq 16, 3) := by decide +kernel
theorem dX4_sheet_23 : decode cX4_sheet 23 = .ok (.iload_n 2, 1) := by decide +kernel
theorem dX4_sheet_24 : decode cX4_sheet 24 = .ok (.bipush 64, 2) := by decide +kernel
theorem dX4_sheet_26 : decode cX4_sheet 26 = .ok (.if_icmp .eq 10, 3) := by decide +kernel
theorem dX4_sheet_29 : decode cX4_sheet 29 = .ok (.aload_n 0, 1) := by decide +kernel
theorem dX4_sheet_30 : decode cX4_sheet 30 = .ok (.ldc 41, 2) := by decide +kernel
theorem dX4_sheet_32 : decode cX4_sheet 32 = .ok (.invokevirtual 66, 3) := by decide +kernel
theorem dX4_sheet_35 : decode cX4_sheet 35 = .ok (.ireturn, 1) := by decide +kernel
theorem dX4_sheet_36 : decode cX4_sheet 36 = .ok (.iload_n 3, 1) := by decide +kernel
theorem dX4_sheet_37 : decode cX4_sheet 37 = .ok (.ifCond .ge 11, 3) := by decide +kernel
theorem dX4_sheet_40 : decode cX4_sheet 40 = .ok (.aload_n 0, 1) := by decide +kernel
theorem dX4_sheet_41 : decode cX4_sheet 41 = .ok (.ldc_w 305, 3) := by decide +kernel
theorem dX4_sheet_44 : decode cX4_sheet 44 = .ok (.invokevirtual 66, 3) := by decide +kernel
theorem dX4_sheet_47 : decode cX4_sheet 47 = .ok (.ireturn, 1) := by decide +kernel
theorem dX4_sheet_48 : decode cX4_sheet 48 = .ok (.iload_n 3, 1) := by decide +kernel
theorem dX4_sheet_49 : decode cX4_sheet 49 = .ok (.bipush 40, 2) := by decide +kernel
theorem dX4_sheet_51 : decode cX4_sheet 51 = .ok (.if_icmp .le 10, 3) := by decide +kernel
theorem dX4_sheet_54 : decode cX4_sheet 54 = .ok (.aload_n 0, 1) := by decide +kernel
theorem dX4_sheet_55 : decode cX4_sheet 55 = .ok (.ldc 41, 2) := by decide +kernel
theorem dX4_sheet_57 : decode cX4_sheet 57 = .ok (.invokevirtual 66, 3) := by decide +kernel
theorem dX4_sheet_60 : decode cX4_sheet 60 = .ok (.ireturn, 1) := by decide +kernel
theorem dX4_sheet_61 : decode cX4_sheet 61 = .ok (.aload_n 0, 1) := by decide +kernel
theorem dX4_sheet_62 : decode cX4_sheet 62 = .ok (.getfield 28, 3) := by decide +kernel
theorem dX4_sheet_65 : decode cX4_sheet 65 = .ok (.iload_n 1, 1) := by decide +kernel
theorem dX4_sheet_66 : decode cX4_sheet 66 = .ok (.iload_n 2, 1) := by decide +kernel
theorem dX4_sheet_67 : decode cX4_sheet 67 = .ok (.iastore, 1) := by decide +kernel
theorem dX4_sheet_68 : decode cX4_sheet 68 = .ok (.aload_n 0, 1) := by decide +kernel
theorem dX4_sheet_69 : decode cX4_sheet 69 = .ok (.getfield 31, 3) := by decide +kernel
theorem dX4_sheet_72 : decode cX4_sheet 72 = .ok (.iload_n 1, 1) := by decide +kernel
theorem dX4_sheet_73 : decode cX4_sheet 73 = .ok (.iload_n 2, 1) := by decide +kernel
theorem dX4_sheet_74 : decode cX4_sheet 74 = .ok (.ifCond .ne 7, 3) := by decide +kernel
theorem dX4_sheet_77 : decode cX4_sheet 77 = .ok (.iconst 0, 1) := by decide +kernel
theorem dX4_sheet_78 : decode cX4_sheet 78 = .ok (.goto 4, 3) := by decide +kernel
theorem dX4_sheet_81 : decode cX4_sheet 81 = .ok (.iload_n 3, 1) := by decide +kernel
theorem dX4_sheet_82 : decode cX4_sheet 82 = .ok (.iastore, 1) := by decide +kernel
theorem dX4_sheet_83 : decode cX4_sheet 83 = .ok (.iconst 0, 1) := by decide +kernel
theorem dX4_sheet_84 : decode cX4_sheet 84 = .ok (.istore 4, 2) := by decide +kernel
theorem dX4_sheet_86 : decode cX4_sheet 86 = .ok (.iload 4, 2) := by decide +kernel
theorem dX4_sheet_88 : decode cX4_sheet 88 = .ok (.bipush 40, 2) := by decide +kernel
theorem dX4_sheet_90 : decode cX4_sheet 90 = .ok (.if_icmp .ge 22, 3) := by decide +kernel
theorem dX4_sheet_93 : decode cX4_sheet 93 = .ok (.aload_n 0, 1) := by decide +kernel
theorem dX4_sheet_94 : decode cX4_sheet 94 = .ok (.getfield 34, 3) := by decide +kernel
theorem dX4_sheet_97 : decode cX4_sheet 97 = .ok (.bipush 40, 2) := by decide +kernel
theorem dX4_sheet_99 : decode cX4_sheet 99 = .ok (.iload_n 1, 1) := by decide +kernel
theorem dX4_sheet_100 : decode cX4_sheet 100 = .ok (.imul, 1) := by decide +kernel
theorem dX4_sheet_101 : decode cX4_sheet 101 = .ok (.iload 4, 2) := by decide +kernel
theorem dX4_sheet_103 : decode cX4_sheet 103 = .ok (.iadd, 1) := by decide +kernel
theorem dX4_sheet_104 : decode cX4_sheet 104 = .ok (.lconst 0, 1) := by decide +kernel
theorem dX4_sheet_105 : decode cX4_sheet 105 = .ok (.lastore, 1) := by decide +kernel
theorem dX4_sheet_106 : decode cX4_sheet 106 = .ok (.iinc 4 1, 3) := by decide +kernel
theorem dX4_sheet_109 : decode cX4_sheet 109 = .ok (.goto (-23), 3) := by decide +kernel
theorem dX4_sheet_112 : decode cX4_sheet 112 = .ok (.aload_n 0, 1) := by decide +kernel
theorem dX4_sheet_113 : decode cX4_sheet 113 = .ok (.getfield 31, 3) := by decide +kernel
theorem dX4_sheet_116 : decode cX4_sheet 116 = .ok (.iload_n 1, 1) := by decide +kernel
theorem dX4_sheet_117 : decode cX4_sheet 117 = .ok (.iaload, 1) := by decide +kernel
theorem dX4_sheet_118 : decode cX4_sheet 118 = .ok (.ireturn, 1) := by decide +kernel
theorem dX4_narrowed_0 : decode cX4_narrowed 0 = .ok (.iload_n 0, 1) := by decide +kernel
theorem dX4_narrowed_1 : decode cX4_narrowed 1 = .ok (.bipush 8, 2) := by decide +kernel
theorem dX4_narrowed_3 : decode cX4_narrowed 3 = .ok (.if_icmp .ne 10, 3) := by decide +kernel
theorem dX4_narrowed_6 : decode cX4_narrowed 6 = .ok (.lload_n 1, 1) := by decide +kernel
theorem dX4_narrowed_7 : decode cX4_narrowed 7 = .ok (.l2i, 1) := by decide +kernel
theorem dX4_narrowed_8 : decode cX4_narrowed 8 = .ok (.i2b, 1) := by decide +kernel
theorem dX4_narrowed_9 : decode cX4_narrowed 9 = .ok (.i2l, 1) := by decide +kernel
theorem dX4_narrowed_10 : decode cX4_narrowed 10 = .ok (.goto 17, 3) := by decide +kernel
theorem dX4_narrowed_13 : decode cX4_narrowed 13 = .ok (.iload_n 0, 1) := by decide +kernel
theorem dX4_narrowed_14 : decode cX4_narrowed 14 = .ok (.bipush 16, 2) := by decide +kernel
theorem dX4_narrowed_16 : decode cX4_narrowed 16 = .ok (.if_icmp .ne 10, 3) := by decide +kernel
theorem dX4_narrowed_19 : decode cX4_narrowed 19 = .ok (.lload_n 1, 1) := by decide +kernel
theorem dX4_narrowed_20 : decode cX4_narrowed 20 = .ok (.l2i, 1) := by decide +kernel
theorem dX4_narrowed_21 : decode cX4_narrowed 21 = .ok (.i2s, 1) := by decide +kernel
theorem dX4_narrowed_22 : decode cX4_narrowed 22 = .ok (.i2l, 1) := by decide +kernel
theorem dX4_narrowed_23 : decode cX4_narrowed 23 = .ok (.goto 4, 3) := by decide +kernel
theorem dX4_narrowed_26 : decode cX4_narrowed 26 = .ok (.lload_n 1, 1) := by decide +kernel
theorem dX4_narrowed_27 : decode cX4_narrowed 27 = .ok (.lreturn, 1) := by decide +kernel
theorem dX4_wrongSheet_0 : decode cX4_wrongSheet 0 = .ok (.iload_n 1, 1) := by decide +kernel
theorem dX4_wrongSheet_1 : decode cX4_wrongSheet 1 = .ok (.invokestatic 302, 3) := by decide +kernel
theorem dX4_wrongSheet_4 : decode cX4_wrongSheet 4 = .ok (.ifCond .ne 8, 3) := by decide +kernel
theorem dX4_wrongSheet_7 : decode cX4_wrongSheet 7 = .ok (.ldc 41, 2) := by decide +kernel
theorem dX4_wrongSheet_9 : decode cX4_wrongSheet 9 = .ok (.goto 19, 3) := by decide +kernel
theorem dX4_wrongSheet_12 : decode cX4_wrongSheet 12 = .ok (.aload_n 0, 1) := by decide +kernel
theorem dX4_wrongSheet_13 : decode cX4_wrongSheet 13 = .ok (.getfield 28, 3) := by decide +kernel
theorem dX4_wrongSheet_16 : decode cX4_wrongSheet 16 = .ok (.iload_n 1, 1) := by decide +kernel
theorem dX4_wrongSheet_17 : decode cX4_wrongSheet 17 = .ok (.iaload, 1) := by decide +kernel
theorem dX4_wrongSheet_18 : decode cX4_wrongSheet 18 = .ok (.ifCond .ne 9, 3) := by decide +kernel
theorem dX4_wrongSheet_21 : decode cX4_wrongSheet 21 = .ok (.ldc_w 306, 3) := by decide +kernel
theorem dX4_wrongSheet_24 : decode cX4_wrongSheet 24 = .ok (.goto 4, 3) := by decide +kernel
theorem dX4_wrongSheet_27 : decode cX4_wrongSheet 27 = .ok (.iconst 0, 1) := by decide +kernel
theorem dX4_wrongSheet_28 : decode cX4_wrongSheet 28 = .ok (.ireturn, 1) := by decide +kernel
theorem dX4_write_0 : decode cX4_write 0 = .ok (.aload_n 0, 1) := by decide +kernel
theorem dX4_write_1 : decode cX4_write 1 = .ok (.iload_n 1, 1) := by decide +kernel
theorem dX4_write_2 : decode cX4_write 2 = .ok (.invokevirtual 307, 3) := by decide +kernel
theorem dX4_write_5 : decode cX4_write 5 = .ok (.istore 5, 2) := by decide +kernel
theorem dX4_write_7 : decode cX4_write 7 = .ok (.iload 5, 2) := by decide +kernel
theorem dX4_write_9 : decode cX4_write 9 = .ok (.ifCond .eq 11, 3) := by decide +kernel
theorem dX4_write_12 : decode cX4_write 12 = .ok (.aload_n 0, 1) := by decide +kernel
theorem dX4_write_13 : decode cX4_write 13 = .ok (.iload 5, 2) := by decide +kernel
theorem dX4_write_15 : decode cX4_write 15 = .ok (.invokevirtual 66, 3) := by decide +kernel
theorem dX4_write_18 : decode cX4_write 18 = .ok (.i2l, 1) := by decide +kernel
theorem dX4_write_19 : decode cX4_write 19 = .ok (.lreturn, 1) := by decide +kernel
theorem dX4_write_20 : decode cX4_write 20 = .ok (.iload_n 2, 1) := by decide +kernel
theorem dX4_write_21 : decode cX4_write 21 = .ok (.i2l, 1) := by decide +kernel
theorem dX4_write_22 : decode cX4_write 22 = .ok (.lconst 0, 1) := by decide +kernel
theorem dX4_write_23 : decode cX4_write 23 = .ok (.aload_n 0, 1) := by decide +kernel
theorem dX4_write_24 : decode cX4_write 24 = .ok (.getfield 31, 3) := by decide +kernel
theorem dX4_write_27 : decode cX4_write 27 = .ok (.iload_n 1, 1) := by decide +kernel
theorem dX4_write_28 : decode cX4_write 28 = .ok (.iaload, 1) := by decide +kernel
theorem dX4_write_29 : decode cX4_write 29 = .ok (.iconst 1, 1) := by decide +kernel
theorem dX4_write_30 : decode cX4_write 30 = .ok (.isub, 1) := by decide +kernel
theorem dX4_write_31 : decode cX4_write 31 = .ok (.i2l, 1) := by decide +kernel
theorem dX4_write_32 : decode cX4_write 32 = .ok (.invokestatic 44, 3) := by decide +kernel
theorem dX4_write_35 : decode cX4_write 35 = .ok (.ifCond .ne 11, 3) := by decide +kernel
theorem dX4_write_38 : decode cX4_write 38 = .ok (.aload_n 0, 1) := by decide +kernel
theorem dX4_write_39 : decode cX4_write 39 = .ok (.ldc 41, 2) := by decide +kernel
theorem dX4_write_41 : decode cX4_write 41 = .ok (.invokevirtual 66, 3) := by decide +kernel
theorem dX4_write_44 : decode cX4_write 44 = .ok (.i2l, 1) := by decide +kernel
theorem dX4_write_45 : decode cX4_write 45 = .ok (.lreturn, 1) := by decide +kernel
theorem dX4_write_46 : decode cX4_write 46 = .ok (.aload_n 0, 1) := by decide +kernel
theorem dX4_write_47 : decode cX4_write 47 = .ok (.getfield 34, 3) := by decide +kernel
theorem dX4_write_50 : decode cX4_write 50 = .ok (.bipush 40, 2) := by decide +kernel
theorem dX4_write_52 : decode cX4_write 52 = .ok (.iload_n 1, 1) := by decide +kernel
theorem dX4_write_53 : decode cX4_write 53 = .ok (.imul, 1) := by decide +kernel
theorem dX4_write_54 : decode cX4_write 54 = .ok (.iload_n 2, 1) := by decide +kernel
theorem dX4_write_55 : decode cX4_write 55 = .ok (.iadd, 1) := by decide +kernel
theorem dX4_write_56 : decode cX4_write 56 = .ok (.laload, 1) := by decide +kernel
theorem dX4_write_57 : decode cX4_write 57 = .ok (.lstore 6, 2) := by decide +kernel
theorem dX4_write_59 : decode cX4_write 59 = .ok (.aload_n 0, 1) := by decide +kernel
theorem dX4_write_60 : decode cX4_write 60 = .ok (.getfield 34, 3) := by decide +kernel
theorem dX4_write_63 : decode cX4_write 63 = .ok (.bipush 40, 2) := by decide +kernel
theorem dX4_write_65 : decode cX4_write 65 = .ok (.iload_n 1, 1) := by decide +kernel
theorem dX4_write_66 : decode cX4_write 66 = .ok (.imul, 1) := by decide +kernel
theorem dX4_write_67 : decode cX4_write 67 = .ok (.iload_n 2, 1) := by decide +kernel
theorem dX4_write_68 : decode cX4_write 68 = .ok (.iadd, 1) := by decide +kernel
theorem dX4_write_69 : decode cX4_write 69 = .ok (.aload_n 0, 1) := by decide +kernel
theorem dX4_write_70 : decode cX4_write 70 = .ok (.getfield 28, 3) := by decide +kernel
theorem dX4_write_73 : decode cX4_write 73 = .ok (.iload_n 1, 1) := by decide +kernel
theorem dX4_write_74 : decode cX4_write 74 = .ok (.iaload, 1) := by decide +kernel
theorem dX4_write_75 : decode cX4_write 75 = .ok (.lload_n 3, 1) := by decide +kernel
theorem dX4_write_76 : decode cX4_write 76 = .ok (.invokestatic 310, 3) := by decide +kernel
theorem dX4_write_79 : decode cX4_write 79 = .ok (.lastore, 1) := by decide +kernel
theorem dX4_write_80 : decode cX4_write 80 = .ok (.lload 6, 2) := by decide +kernel
theorem dX4_write_82 : decode cX4_write 82 = .ok (.lreturn, 1) := by decide +kernel
theorem dX4_copy_0 : decode cX4_copy 0 = .ok (.iload_n 1, 1) := by decide +kernel
theorem dX4_copy_1 : decode cX4_copy 1 = .ok (.invokestatic 302, 3) := by decide +kernel
theorem dX4_copy_4 : decode cX4_copy 4 = .ok (.ifCond .eq 10, 3) := by decide +kernel
theorem dX4_copy_7 : decode cX4_copy 7 = .ok (.iload_n 3, 1) := by decide +kernel
theorem dX4_copy_8 : decode cX4_copy 8 = .ok (.invokestatic 302, 3) := by decide +kernel
theorem dX4_copy_11 : decode cX4_copy 11 = .ok (.ifCond .ne 10, 3) := by decide +kernel
theorem dX4_copy_14 : decode cX4_copy 14 = .ok (.aload_n 0, 1) := by decide +kernel
theorem dX4_copy_15 : decode cX4_copy 15 = .ok (.ldc 41, 2) := by decide +kernel
theorem dX4_copy_17 : decode cX4_copy 17 = .ok (.invokevirtual 66, 3) := by decide +kernel
theorem dX4_copy_20 : decode cX4_copy 20 = .ok (.ireturn, 1) := by decide +kernel
theorem dX4_copy_21 : decode cX4_copy 21 = .ok (.aload_n 0, 1) := by decide +kernel
theorem dX4_copy_22 : decode cX4_copy 22 = .ok (.getfield 28, 3) := by decide +kernel
theorem dX4_copy_25 : decode cX4_copy 25 = .ok (.iload_n 1, 1) := by decide +kernel
theorem dX4_copy_26 : decode cX4_copy 26 = .ok (.iaload, 1) := by decide +kernel
theorem dX4_copy_27 : decode cX4_copy 27 = .ok (.ifCond .eq 12, 3) := by decide +kernel
theorem dX4_copy_30 : decode cX4_copy 30 = .ok (.aload_n 0, 1) := by decide +kernel
theorem dX4_copy_31 : decode cX4_copy 31 = .ok (.getfield 28, 3) := by decide +kernel
theorem dX4_copy_34 : decode cX4_copy 34 = .ok (.iload_n 3, 1) := by decide +kernel
theorem dX4_copy_35 : decode cX4_copy 35 = .ok (.iaload, 1) := by decide +kernel
theorem dX4_copy_36 : decode cX4_copy 36 = .ok (.ifCond .ne 11, 3) := by decide +kernel
theorem dX4_copy_39 : decode cX4_copy 39 = .ok (.aload_n 0, 1) := by decide +kernel
theorem dX4_copy_40 : decode cX4_copy 40 = .ok (.ldc_w 306, 3) := by decide +kernel
theorem dX4_copy_43 : decode cX4_copy 43 = .ok (.invokevirtual 66, 3) := by decide +kernel
theorem dX4_copy_46 : decode cX4_copy 46 = .ok (.ireturn, 1) := by decide +kernel
theorem dX4_copy_47 : decode cX4_copy 47 = .ok (.aload_n 0, 1) := by decide +kernel
theorem dX4_copy_48 : decode cX4_copy 48 = .ok (.getfield 28, 3) := by decide +kernel
theorem dX4_copy_51 : decode cX4_copy 51 = .ok (.iload_n 1, 1) := by decide +kernel
theorem dX4_copy_52 : decode cX4_copy 52 = .ok (.iaload, 1) := by decide +kernel
theorem dX4_copy_53 : decode cX4_copy 53 = .ok (.aload_n 0, 1) := by decide +kernel
theorem dX4_copy_54 : decode cX4_copy 54 = .ok (.getfield 28, 3) := by decide +kernel
theorem dX4_copy_57 : decode cX4_copy 57 = .ok (.iload_n 3, 1) := by decide +kernel
theorem dX4_copy_58 : decode cX4_copy 58 = .ok (.iaload, 1) := by decide +kernel
theorem dX4_copy_59 : decode cX4_copy 59 = .ok (.if_icmp .eq 10, 3) := by decide +kernel
theorem dX4_copy_62 : decode cX4_copy 62 = .ok (.aload_n 0, 1) := by decide +kernel
theorem dX4_copy_63 : decode cX4_copy 63 = .ok (.ldc 109, 2) := by decide +kernel
theorem dX4_copy_65 : decode cX4_copy 65 = .ok (.invokevirtual 66, 3) := by decide +kernel
theorem dX4_copy_68 : decode cX4_copy 68 = .ok (.ireturn, 1) := by decide +kernel
theorem dX4_copy_69 : decode cX4_copy 69 = .ok (.iload_n 2, 1) := by decide +kernel
theorem dX4_copy_70 : decode cX4_copy 70 = .ok (.ifCond .lt 40, 3) := by decide +kernel
theorem dX4_copy_73 : decode cX4_copy 73 = .ok (.iload 4, 2) := by decide +kernel
theorem dX4_copy_75 : decode cX4_copy 75 = .ok (.ifCond .lt 35, 3) := by decide +kernel
theorem dX4_copy_78 : decode cX4_copy 78 = .ok (.iload 5, 2) := by decide +kernel
theorem dX4_copy_80 : decode cX4_copy 80 = .ok (.ifCond .lt 30, 3) := by decide +kernel
theorem dX4_copy_83 : decode cX4_copy 83 = .ok (.iload 5, 2) := by decide +kernel
theorem dX4_copy_85 : decode cX4_copy 85 = .ok (.aload_n 0, 1) := by decide +kernel
theorem dX4_copy_86 : decode cX4_copy 86 = .ok (.getfield 31, 3) := by decide +kernel
theorem dX4_copy_89 : decode cX4_copy 89 = .ok (.iload_n 1, 1) := by decide +kernel
theorem dX4_copy_90 : decode cX4_copy 90 = .ok (.iaload, 1) := by decide +kernel
theorem dX4_copy_91 : decode cX4_copy 91 = .ok (.iload_n 2, 1) := by decide +kernel
theorem dX4_copy_92 : decode cX4_copy 92 = .ok (.isub, 1) := by decide +kernel
theorem dX4_copy_93 : decode cX4_copy 93 = .ok (.if_icmp .gt 17, 3) := by decide +kernel
theorem dX4_copy_96 : decode cX4_copy 96 = .ok (.iload 5, 2) := by decide +kernel
theorem dX4_copy_98 : decode cX4_copy 98 = .ok (.aload_n 0, 1) := by decide +kernel
theorem dX4_copy_99 : decode cX4_copy 99 = .ok (.getfield 31, 3) := by decide +kernel
theorem dX4_copy_102 : decode cX4_copy 102 = .ok (.iload_n 3, 1) := by decide +kernel
theorem dX4_copy_103 : decode cX4_copy 103 = .ok (.iaload, 1) := by decide +kernel
theorem dX4_copy_104 : decode cX4_copy 104 = .ok (.iload 4, 2) := by decide +kernel
theorem dX4_copy_106 : decode cX4_copy 106 = .ok (.isub, 1) := by decide +kernel
theorem dX4_copy_107 : decode cX4_copy 107 = .ok (.if_icmp .le 10, 3) := by decide +kernel
theorem dX4_copy_110 : decode cX4_copy 110 = .ok (.aload_n 0, 1) := by decide +kernel
theorem dX4_copy_111 : decode cX4_copy 111 = .ok (.ldc 41, 2) := by decide +kernel
theorem dX4_copy_113 : decode cX4_copy 113 = .ok (.invokevirtual 66, 3) := by decide +kernel
theorem dX4_copy_116 : decode cX4_copy 116 = .ok (.ireturn, 1) := by decide +kernel
theorem dX4_copy_117 : decode cX4_copy 117 = .ok (.iconst 0, 1) := by decide +kernel
theorem dX4_copy_118 : decode cX4_copy 118 = .ok (.istore 6, 2) := by decide +kernel
theorem dX4_copy_120 : decode cX4_copy 120 = .ok (.iload 6, 2) := by decide +kernel
theorem dX4_copy_122 : decode cX4_copy 122 = .ok (.iload 5, 2) := by decide +kernel
theorem dX4_copy_124 : decode cX4_copy 124 = .ok (.if_icmp .ge 30, 3) := by decide +kernel
theorem dX4_copy_127 : decode cX4_copy 127 = .ok (.aload_n 0, 1) := by decide +kernel
theorem dX4_copy_128 : decode cX4_copy 128 = .ok (.getfield 38, 3) := by decide +kernel
theorem dX4_copy_131 : decode cX4_copy 131 = .ok (.iload 6, 2) := by decide +kernel
theorem dX4_copy_133 : decode cX4_copy 133 = .ok (.aload_n 0, 1) := by decide +kernel
theorem dX4_copy_134 : decode cX4_copy 134 = .ok (.getfield 34, 3) := by decide +kernel
theorem dX4_copy_137 : decode cX4_copy 137 = .ok (.bipush 40, 2) := by decide +kernel
theorem dX4_copy_139 : decode cX4_copy 139 = .ok (.iload_n 1, 1) := by decide +kernel
theorem dX4_copy_140 : decode cX4_copy 140 = .ok (.imul, 1) := by decide +kernel
theorem dX4_copy_141 : decode cX4_copy 141 = .ok (.iload_n 2, 1) := by decide +kernel
theorem dX4_copy_142 : decode cX4_copy 142 = .ok (.iadd, 1) := by decide +kernel
theorem dX4_copy_143 : decode cX4_copy 143 = .ok (.iload 6, 2) := by decide +kernel
theorem dX4_copy_145 : decode cX4_copy 145 = .ok (.iadd, 1) := by decide +kernel
theorem dX4_copy_146 : decode cX4_copy 146 = .ok (.laload, 1) := by decide +kernel
theorem dX4_copy_147 : decode cX4_copy 147 = .ok (.lastore, 1) := by decide +kernel
theorem dX4_copy_148 : decode cX4_copy 148 = .ok (.iinc 6 1, 3) := by decide +kernel
theorem dX4_copy_151 : decode cX4_copy 151 = .ok (.goto (-31), 3) := by decide +kernel
theorem dX4_copy_154 : decode cX4_copy 154 = .ok (.iconst 0, 1) := by decide +kernel
theorem dX4_copy_155 : decode cX4_copy 155 = .ok (.istore 6, 2) := by decide +kernel
theorem dX4_copy_157 : decode cX4_copy 157 = .ok (.iload 6, 2) := by decide +kernel
theorem dX4_copy_159 : decode cX4_copy 159 = .ok (.iload 5, 2) := by decide +kernel
theorem dX4_copy_161 : decode cX4_copy 161 = .ok (.if_icmp .ge 31, 3) := by decide +kernel
theorem dX4_copy_164 : decode cX4_copy 164 = .ok (.aload_n 0, 1) := by decide +kernel
theorem dX4_copy_165 : decode cX4_copy 165 = .ok (.getfield 34, 3) := by decide +kernel
theorem dX4_copy_168 : decode cX4_copy 168 = .ok (.bipush 40, 2) := by decide +kernel
theorem dX4_copy_170 : decode cX4_copy 170 = .ok (.iload_n 3, 1) := by decide +kernel
theorem dX4_copy_171 : decode cX4_copy 171 = .ok (.imul, 1) := by decide +kernel
theorem dX4_copy_172 : decode cX4_copy 172 = .ok (.iload 4, 2) := by decide +kernel
theorem dX4_copy_174 : decode cX4_copy 174 = .ok (.iadd, 1) := by decide +kernel
theorem dX4_copy_175 : decode cX4_copy 175 = .ok (.iload 6, 2) := by decide +kernel
theorem dX4_copy_177 : decode cX4_copy 177 = .ok (.iadd, 1) := by decide +kernel
theorem dX4_copy_178 : decode cX4_copy 178 = .ok (.aload_n 0, 1) := by decide +kernel
theorem dX4_copy_179 : decode cX4_copy 179 = .ok (.getfield 38, 3) := by decide +kernel
theorem dX4_copy_182 : decode cX4_copy 182 = .ok (.iload 6, 2) := by decide +kernel
theorem dX4_copy_184 : decode cX4_copy 184 = .ok (.laload, 1) := by decide +kernel
theorem dX4_copy_185 : decode cX4_copy 185 = .ok (.lastore, 1) := by decide +kernel
theorem dX4_copy_186 : decode cX4_copy 186 = .ok (.iinc 6 1, 3) := by decide +kernel
theorem dX4_copy_189 : decode cX4_copy 189 = .ok (.goto (-32), 3) := by decide +kernel
theorem dX4_copy_192 : decode cX4_copy 192 = .ok (.iload 5, 2) := by decide +kernel
theorem dX4_copy_194 : decode cX4_copy 194 = .ok (.ireturn, 1) := by decide +kernel
theorem dX4_lays_0 : decode cX4_lays 0 = .ok (.aload_n 0, 1) := by decide +kernel
theorem dX4_lays_1 : decode cX4_lays 1 = .ok (.iload_n 1, 1) := by decide +kernel
theorem dX4_lays_2 : decode cX4_lays 2 = .ok (.invokevirtual 307, 3) := by decide +kernel
theorem dX4_lays_5 : decode cX4_lays 5 = .ok (.istore_n 2, 1) := by decide +kernel
theorem dX4_lays_6 : decode cX4_lays 6 = .ok (.iload_n 2, 1) := by decide +kernel
theorem dX4_lays_7 : decode cX4_lays 7 = .ok (.ifCond .eq 9, 3) := by decide +kernel
theorem dX4_lays_10 : decode cX4_lays 10 = .ok (.aload_n 0, 1) := by decide +kernel
theorem dX4_lays_11 : decode cX4_lays 11 = .ok (.iload_n 2, 1) := by decide +kernel
theorem dX4_lays_12 : decode cX4_lays 12 = .ok (.invokevirtual 66, 3) := by decide +kernel
theorem dX4_lays_15 : decode cX4_lays 15 = .ok (.ireturn, 1) := by decide +kernel
theorem dX4_lays_16 : decode cX4_lays 16 = .ok (.iconst 0, 1) := by decide +kernel
theorem dX4_lays_17 : decode cX4_lays 17 = .ok (.istore_n 3, 1) := by decide +kernel
theorem dX4_lays_18 : decode cX4_lays 18 = .ok (.iconst 0, 1) := by decide +kernel
theorem dX4_lays_19 : decode cX4_lays 19 = .ok (.istore 4, 2) := by decide +kernel
theorem dX4_lays_21 : decode cX4_lays 21 = .ok (.iload 4, 2) := by decide +kernel
theorem dX4_lays_23 : decode cX4_lays 23 = .ok (.aload_n 0, 1) := by decide +kernel
theorem dX4_lays_24 : decode cX4_lays 24 = .ok (.getfield 31, 3) := by decide +kernel
theorem dX4_lays_27 : decode cX4_lays 27 = .ok (.iload_n 1, 1) := by decide +kernel
theorem dX4_lays_28 : decode cX4_lays 28 = .ok (.iaload, 1) := by decide +kernel
theorem dX4_lays_29 : decode cX4_lays 29 = .ok (.if_icmp .ge 93, 3) := by decide +kernel
theorem dX4_lays_32 : decode cX4_lays 32 = .ok (.iload 4, 2) := by decide +kernel
theorem dX4_lays_34 : decode cX4_lays 34 = .ok (.aload_n 0, 1) := by decide +kernel
theorem dX4_lays_35 : decode cX4_lays 35 = .ok (.getfield 7, 3) := by decide +kernel
theorem dX4_lays_38 : decode cX4_lays 38 = .ok (.iconst 0, 1) := by decide +kernel
theorem dX4_lays_39 : decode cX4_lays 39 = .ok (.iaload, 1) := by decide +kernel
theorem dX4_lays_40 : decode cX4_lays 40 = .ok (.if_icmp .ge 82, 3) := by decide +kernel
theorem dX4_lays_43 : decode cX4_lays 43 = .ok (.aload_n 0, 1) := by decide +kernel
theorem dX4_lays_44 : decode cX4_lays 44 = .ok (.getfield 34, 3) := by decide +kernel
theorem dX4_lays_47 : decode cX4_lays 47 = .ok (.bipush 40, 2) := by decide +kernel
theorem dX4_lays_49 : decode cX4_lays 49 = .ok (.iload_n 1, 1) := by decide +kernel
theorem dX4_lays_50 : decode cX4_lays 50 = .ok (.imul, 1) := by decide +kernel
theorem dX4_lays_51 : decode cX4_lays 51 = .ok (.iload 4, 2) := by decide +kernel
theorem dX4_lays_53 : decode cX4_lays 53 = .ok (.iadd, 1) := by decide +kernel
theorem dX4_lays_54 : decode cX4_lays 54 = .ok (.laload, 1) := by decide +kernel
theorem dX4_lays_55 : decode cX4_lays 55 = .ok (.lconst 0, 1) := by decide +kernel
theorem dX4_lays_56 : decode cX4_lays 56 = .ok (.ldc2_w 93, 3) := by decide +kernel
theorem dX4_lays_59 : decode cX4_lays 59 = .ok (.invokestatic 44, 3) := by decide +kernel
theorem dX4_lays_62 : decode cX4_lays 62 = .ok (.istore 5, 2) := by decide +kernel
theorem dX4_lays_64 : decode cX4_lays 64 = .ok (.aload_n 0, 1) := by decide +kernel
theorem dX4_lays_65 : decode cX4_lays 65 = .ok (.getfield 7, 3) := by decide +kernel
theorem dX4_lays_68 : decode cX4_lays 68 = .ok (.iload 4, 2) := by decide +kernel
theorem dX4_lays_70 : decode cX4_lays 70 = .ok (.iconst 4, 1) := by decide +kernel
theorem dX4_lays_71 : decode cX4_lays 71 = .ok (.invokestatic 54, 3) := by decide +kernel
theorem dX4_lays_74 : decode cX4_lays 74 = .ok (.iload 5, 2) := by decide +kernel
theorem dX4_lays_76 : decode cX4_lays 76 = .ok (.ifCond .eq 19, 3) := by decide +kernel
theorem dX4_lays_79 : decode cX4_lays 79 = .ok (.aload_n 0, 1) := by decide +kernel
theorem dX4_lays_80 : decode cX4_lays 80 = .ok (.getfield 34, 3) := by decide +kernel
theorem dX4_lays_83 : decode cX4_lays 83 = .ok (.bipush 40, 2) := by decide +kernel
theorem dX4_lays_85 : decode cX4_lays 85 = .ok (.iload_n 1, 1) := by decide +kernel
theorem dX4_lays_86 : decode cX4_lays 86 = .ok (.imul, 1) := by decide +kernel
theorem dX4_lays_87 : decode cX4_lays 87 = .ok (.iload 4, 2) := by decide +kernel
theorem dX4_lays_89 : decode cX4_lays 89 = .ok (.iadd, 1) := by decide +kernel
theorem dX4_lays_90 : decode cX4_lays 90 = .ok (.laload, 1) := by decide +kernel
theorem dX4_lays_91 : decode cX4_lays 91 = .ok (.l2i, 1) := by decide +kernel
theorem dX4_lays_92 : decode cX4_lays 92 = .ok (.goto 10, 3) := by decide +kernel
theorem dX4_lays_95 : decode cX4_lays 95 = .ok (.aload_n 0, 1) := by decide +kernel
theorem dX4_lays_96 : decode cX4_lays 96 = .ok (.iload 4, 2) := by decide +kernel
theorem dX4_lays_98 : decode cX4_lays 98 = .ok (.iconst 4, 1) := by decide +kernel
theorem dX4_lays_99 : decode cX4_lays 99 = .ok (.invokevirtual 58, 3) := by decide +kernel
theorem dX4_lays_102 : decode cX4_lays 102 = .ok (.iastore, 1) := by decide +kernel
theorem dX4_lays_103 : decode cX4_lays 103 = .ok (.iload_n 3, 1) := by decide +kernel
theorem dX4_lays_104 : decode cX4_lays 104 = .ok (.iload 5, 2) := by decide +kernel
theorem dX4_lays_106 : decode cX4_lays 106 = .ok (.ifCond .eq 7, 3) := by decide +kernel
theorem dX4_lays_109 : decode cX4_lays 109 = .ok (.iconst 1, 1) := by decide +kernel
theorem dX4_lays_110 : decode cX4_lays 110 = .ok (.goto 4, 3) := by decide +kernel
theorem dX4_lays_113 : decode cX4_lays 113 = .ok (.iconst 0, 1) := by decide +kernel
theorem dX4_lays_114 : decode cX4_lays 114 = .ok (.iadd, 1) := by decide +kernel
theorem dX4_lays_115 : decode cX4_lays 115 = .ok (.istore_n 3, 1) := by decide +kernel
theorem dX4_lays_116 : decode cX4_lays 116 = .ok (.iinc 4 1, 3) := by decide +kernel
theorem dX4_lays_119 : decode cX4_lays 119 = .ok (.goto (-98), 3) := by decide +kernel
theorem dX4_lays_122 : decode cX4_lays 122 = .ok (.iload_n 3, 1) := by decide +kernel
theorem dX4_lays_123 : decode cX4_lays 123 = .ok (.ireturn, 1) := by decide +kernel
theorem dX4_wrongBook_0 : decode cX4_wrongBook 0 = .ok (.aload_n 0, 1) := by decide +kernel
theorem dX4_wrongBook_1 : decode cX4_wrongBook 1 = .ok (.iload_n 1, 1) := by decide +kernel
theorem dX4_wrongBook_2 : decode cX4_wrongBook 2 = .ok (.invokevirtual 307, 3) := by decide +kernel
theorem dX4_wrongBook_5 : decode cX4_wrongBook 5 = .ok (.istore_n 3, 1) := by decide +kernel
theorem dX4_wrongBook_6 : decode cX4_wrongBook 6 = .ok (.iload_n 3, 1) := by decide +kernel
theorem dX4_wrongBook_7 : decode cX4_wrongBook 7 = .ok (.ifCond .eq 7, 3) := by decide +kernel
theorem dX4_wrongBook_10 : decode cX4_wrongBook 10 = .ok (.iload_n 3, 1) := by decide +kernel
theorem dX4_wrongBook_11 : decode cX4_wrongBook 11 = .ok (.goto 17, 3) := by decide +kernel
theorem dX4_wrongBook_14 : decode cX4_wrongBook 14 = .ok (.aload_n 0, 1) := by decide +kernel
theorem dX4_wrongBook_15 : decode cX4_wrongBook 15 = .ok (.iload_n 2, 1) := by decide +kernel
theorem dX4_wrongBook_16 : decode cX4_wrongBook 16 = .ok (.invokevirtual 48, 3) := by decide +kernel
theorem dX4_wrongBook_19 : decode cX4_wrongBook 19 = .ok (.ifCond .eq 7, 3) := by decide +kernel
theorem dX4_wrongBook_22 : decode cX4_wrongBook 22 = .ok (.iconst 0, 1) := by decide +kernel
theorem dX4_wrongBook_23 : decode cX4_wrongBook 23 = .ok (.goto 5, 3) := by decide +kernel
theorem dX4_wrongBook_26 : decode cX4_wrongBook 26 = .ok (.ldc 41, 2) := by decide +kernel
theorem dX4_wrongBook_28 : decode cX4_wrongBook 28 = .ok (.ireturn, 1) := by decide +kernel
theorem dX4_book_0 : decode cX4_book 0 = .ok (.aload_n 0, 1) := by decide +kernel
theorem dX4_book_1 : decode cX4_book 1 = .ok (.iload_n 1, 1) := by decide +kernel
theorem dX4_book_2 : decode cX4_book 2 = .ok (.iload_n 2, 1) := by decide +kernel
theorem dX4_book_3 : decode cX4_book 3 = .ok (.invokevirtual 314, 3) := by decide +kernel
theorem dX4_book_6 : decode cX4_book 6 = .ok (.istore_n 3, 1) := by decide +kernel
theorem dX4_book_7 : decode cX4_book 7 = .ok (.iload_n 3, 1) := by decide +kernel
theorem dX4_book_8 : decode cX4_book 8 = .ok (.ifCond .eq 9, 3) := by decide +kernel
theorem dX4_book_11 : decode cX4_book 11 = .ok (.aload_n 0, 1) := by decide +kernel
theorem dX4_book_12 : decode cX4_book 12 = .ok (.iload_n 3, 1) := by decide +kernel
theorem dX4_book_13 : decode cX4_book 13 = .ok (.invokevirtual 66, 3) := by decide +kernel
theorem dX4_book_16 : decode cX4_book 16 = .ok (.ireturn, 1) := by decide +kernel
theorem dX4_book_17 : decode cX4_book 17 = .ok (.aload_n 0, 1) := by decide +kernel
theorem dX4_book_18 : decode cX4_book 18 = .ok (.invokevirtual 164, 3) := by decide +kernel
theorem dX4_book_21 : decode cX4_book 21 = .ok (.iconst 0, 1) := by decide +kernel
theorem dX4_book_22 : decode cX4_book 22 = .ok (.istore 4, 2) := by decide +kernel
theorem dX4_book_24 : decode cX4_book 24 = .ok (.iload 4, 2) := by decide +kernel
theorem dX4_book_26 : decode cX4_book 26 = .ok (.aload_n 0, 1) := by decide +kernel
theorem dX4_book_27 : decode cX4_book 27 = .ok (.getfield 31, 3) := by decide +kernel
theorem dX4_book_30 : decode cX4_book 30 = .ok (.iload_n 1, 1) := by decide +kernel
theorem dX4_book_31 : decode cX4_book 31 = .ok (.iaload, 1) := by decide +kernel
theorem dX4_book_32 : decode cX4_book 32 = .ok (.if_icmp .ge 41, 3) := by decide +kernel
theorem dX4_book_35 : decode cX4_book 35 = .ok (.aload_n 0, 1) := by decide +kernel
theorem dX4_book_36 : decode cX4_book 36 = .ok (.getfield 34, 3) := by decide +kernel
theorem dX4_book_39 : decode cX4_book 39 = .ok (.bipush 40, 2) := by decide +kernel
theorem dX4_book_41 : decode cX4_book 41 = .ok (.iload_n 1, 1) := by decide +kernel
theorem dX4_book_42 : decode cX4_book 42 = .ok (.imul, 1) := by decide +kernel
theorem dX4_book_43 : decode cX4_book 43 = .ok (.iload 4, 2) := by decide +kernel
theorem dX4_book_45 : decode cX4_book 45 = .ok (.iadd, 1) := by decide +kernel
theorem dX4_book_46 : decode cX4_book 46 = .ok (.aload_n 0, 1) := by decide +kernel
theorem dX4_book_47 : decode cX4_book 47 = .ok (.getfield 28, 3) := by decide +kernel
theorem dX4_book_50 : decode cX4_book 50 = .ok (.iload_n 1, 1) := by decide +kernel
theorem dX4_book_51 : decode cX4_book 51 = .ok (.iaload, 1) := by decide +kernel
theorem dX4_book_52 : decode cX4_book 52 = .ok (.aload_n 0, 1) := by decide +kernel
theorem dX4_book_53 : decode cX4_book 53 = .ok (.iload_n 2, 1) := by decide +kernel
theorem dX4_book_54 : decode cX4_book 54 = .ok (.iconst 1, 1) := by decide +kernel
theorem dX4_book_55 : decode cX4_book 55 = .ok (.invokevirtual 58, 3) := by decide +kernel
theorem dX4_book_58 : decode cX4_book 58 = .ok (.i2l, 1) := by decide +kernel
theorem dX4_book_59 : decode cX4_book 59 = .ok (.invokestatic 310, 3) := by decide +kernel
theorem dX4_book_62 : decode cX4_book 62 = .ok (.lastore, 1) := by decide +kernel
theorem dX4_book_63 : decode cX4_book 63 = .ok (.aload_n 0, 1) := by decide +kernel
theorem dX4_book_64 : decode cX4_book 64 = .ok (.invokevirtual 147, 3) := by decide +kernel
theorem dX4_book_67 : decode cX4_book 67 = .ok (.iinc 4 1, 3) := by decide +kernel
theorem dX4_book_70 : decode cX4_book 70 = .ok (.goto (-46), 3) := by decide +kernel
theorem dX4_book_73 : decode cX4_book 73 = .ok (.aload_n 0, 1) := by decide +kernel
theorem dX4_book_74 : decode cX4_book 74 = .ok (.aload_n 0, 1) := by decide +kernel
theorem dX4_book_75 : decode cX4_book 75 = .ok (.getfield 31, 3) := by decide +kernel
theorem dX4_book_78 : decode cX4_book 78 = .ok (.iload_n 1, 1) := by decide +kernel
theorem dX4_book_79 : decode cX4_book 79 = .ok (.iaload, 1) := by decide +kernel
theorem dX4_book_80 : decode cX4_book 80 = .ok (.invokevirtual 167, 3) := by decide +kernel
theorem dX4_book_83 : decode cX4_book 83 = .ok (.ireturn, 1) := by decide +kernel
theorem dX4_isBook_0 : decode cX4_isBook 0 = .ok (.iconst 0, 1) := by decide +kernel
theorem dX4_isBook_1 : decode cX4_isBook 1 = .ok (.istore_n 3, 1) := by decide +kernel
theorem dX4_isBook_2 : decode cX4_isBook 2 = .ok (.iload_n 3, 1) := by decide +kernel
theorem dX4_isBook_3 : decode cX4_isBook 3 = .ok (.aload_n 0, 1) := by decide +kernel
theorem dX4_isBook_4 : decode cX4_isBook 4 = .ok (.getfield 31, 3) := by decide +kernel
theorem dX4_isBook_7 : decode cX4_isBook 7 = .ok (.iload_n 1, 1) := by decide +kernel
theorem dX4_isBook_8 : decode cX4_isBook 8 = .ok (.iaload, 1) := by decide +kernel
theorem dX4_isBook_9 : decode cX4_isBook 9 = .ok (.if_icmp .ge 37, 3) := by decide +kernel
theorem dX4_isBook_12 : decode cX4_isBook 12 = .ok (.aload_n 0, 1) := by decide +kernel
theorem dX4_isBook_13 : decode cX4_isBook 13 = .ok (.getfield 34, 3) := by decide +kernel
theorem dX4_isBook_16 : decode cX4_isBook 16 = .ok (.bipush 40, 2) := by decide +kernel
theorem dX4_isBook_18 : decode cX4_isBook 18 = .ok (.iload_n 1, 1) := by decide +kernel
theorem dX4_isBook_19 : decode cX4_isBook 19 = .ok (.imul, 1) := by decide +kernel
theorem dX4_isBook_20 : decode cX4_isBook 20 = .ok (.iload_n 3, 1) := by decide +kernel
theorem dX4_isBook_21 : decode cX4_isBook 21 = .ok (.iadd, 1) := by decide +kernel
theorem dX4_isBook_22 : decode cX4_isBook 22 = .ok (.laload, 1) := by decide +kernel
theorem dX4_isBook_23 : decode cX4_isBook 23 = .ok (.aload_n 0, 1) := by decide +kernel
theorem dX4_isBook_24 : decode cX4_isBook 24 = .ok (.iload_n 2, 1) := by decide +kernel
theorem dX4_isBook_25 : decode cX4_isBook 25 = .ok (.iconst 1, 1) := by decide +kernel
theorem dX4_isBook_26 : decode cX4_isBook 26 = .ok (.invokevirtual 58, 3) := by decide +kernel
theorem dX4_isBook_29 : decode cX4_isBook 29 = .ok (.i2l, 1) := by decide +kernel
theorem dX4_isBook_30 : decode cX4_isBook 30 = .ok (.lcmp, 1) := by decide +kernel
theorem dX4_isBook_31 : decode cX4_isBook 31 = .ok (.ifCond .eq 5, 3) := by decide +kernel
theorem dX4_isBook_34 : decode cX4_isBook 34 = .ok (.iconst 0, 1) := by decide +kernel
theorem dX4_isBook_35 : decode cX4_isBook 35 = .ok (.ireturn, 1) := by decide +kernel
theorem dX4_isBook_36 : decode cX4_isBook 36 = .ok (.aload_n 0, 1) := by decide +kernel
theorem dX4_isBook_37 : decode cX4_isBook 37 = .ok (.invokevirtual 147, 3) := by decide +kernel
theorem dX4_isBook_40 : decode cX4_isBook 40 = .ok (.iinc 3 1, 3) := by decide +kernel
theorem dX4_isBook_43 : decode cX4_isBook 43 = .ok (.goto (-41), 3) := by decide +kernel
theorem dX4_isBook_46 : decode cX4_isBook 46 = .ok (.iconst 1, 1) := by decide +kernel
theorem dX4_isBook_47 : decode cX4_isBook 47 = .ok (.ireturn, 1) := by decide +kernel
theorem dX4_read_0 : decode cX4_read 0 = .ok (.aload_n 0, 1) := by decide +kernel
theorem dX4_read_1 : decode cX4_read 1 = .ok (.iload_n 1, 1) := by decide +kernel
theorem dX4_read_2 : decode cX4_read 2 = .ok (.iload_n 2, 1) := by decide +kernel
theorem dX4_read_3 : decode cX4_read 3 = .ok (.invokevirtual 314, 3) := by decide +kernel
theorem dX4_read_6 : decode cX4_read 6 = .ok (.istore_n 3, 1) := by decide +kernel
theorem dX4_read_7 : decode cX4_read 7 = .ok (.iload_n 3, 1) := by decide +kernel
theorem dX4_read_8 : decode cX4_read 8 = .ok (.ifCond .eq 9, 3) := by decide +kernel
theorem dX4_read_11 : decode cX4_read 11 = .ok (.aload_n 0, 1) := by decide +kernel
theorem dX4_read_12 : decode cX4_read 12 = .ok (.iload_n 3, 1) := by decide +kernel
theorem dX4_read_13 : decode cX4_read 13 = .ok (.invokevirtual 66, 3) := by decide +kernel
theorem dX4_read_16 : decode cX4_read 16 = .ok (.ireturn, 1) := by decide +kernel
theorem dX4_read_17 : decode cX4_read 17 = .ok (.aload_n 0, 1) := by decide +kernel
theorem dX4_read_18 : decode cX4_read 18 = .ok (.invokevirtual 164, 3) := by decide +kernel
theorem dX4_read_21 : decode cX4_read 21 = .ok (.iconst 0, 1) := by decide +kernel
theorem dX4_read_22 : decode cX4_read 22 = .ok (.istore 4, 2) := by decide +kernel
theorem dX4_read_24 : decode cX4_read 24 = .ok (.iconst 0, 1) := by decide +kernel
theorem dX4_read_25 : decode cX4_read 25 = .ok (.istore 5, 2) := by decide +kernel
theorem dX4_read_27 : decode cX4_read 27 = .ok (.iload 5, 2) := by decide +kernel
theorem dX4_read_29 : decode cX4_read 29 = .ok (.bipush 24, 2) := by decide +kernel
theorem dX4_read_31 : decode cX4_read 31 = .ok (.if_icmp .ge 60, 3) := by decide +kernel
theorem dX4_read_34 : decode cX4_read 34 = .ok (.aload_n 0, 1) := by decide +kernel
theorem dX4_read_35 : decode cX4_read 35 = .ok (.getfield 7, 3) := by decide +kernel
theorem dX4_read_38 : decode cX4_read 38 = .ok (.iload_n 2, 1) := by decide +kernel
theorem dX4_read_39 : decode cX4_read 39 = .ok (.iconst 0, 1) := by decide +kernel
theorem dX4_read_40 : decode cX4_read 40 = .ok (.invokestatic 54, 3) := by decide +kernel
theorem dX4_read_43 : decode cX4_read 43 = .ok (.iload 5, 2) := by decide +kernel
theorem dX4_read_45 : decode cX4_read 45 = .ok (.iconst 4, 1) := by decide +kernel
theorem dX4_read_46 : decode cX4_read 46 = .ok (.idiv, 1) := by decide +kernel
theorem dX4_read_47 : decode cX4_read 47 = .ok (.iastore, 1) := by decide +kernel
theorem dX4_read_48 : decode cX4_read 48 = .ok (.aload_n 0, 1) := by decide +kernel
theorem dX4_read_49 : decode cX4_read 49 = .ok (.getfield 7, 3) := by decide +kernel
theorem dX4_read_52 : decode cX4_read 52 = .ok (.iload_n 2, 1) := by decide +kernel
theorem dX4_read_53 : decode cX4_read 53 = .ok (.iconst 3, 1) := by decide +kernel
theorem dX4_read_54 : decode cX4_read 54 = .ok (.invokestatic 54, 3) := by decide +kernel
theorem dX4_read_57 : decode cX4_read 57 = .ok (.iload 5, 2) := by decide +kernel
theorem dX4_read_59 : decode cX4_read 59 = .ok (.iconst 4, 1) := by decide +kernel
theorem dX4_read_60 : decode cX4_read 60 = .ok (.irem, 1) := by decide +kernel
theorem dX4_read_61 : decode cX4_read 61 = .ok (.iastore, 1) := by decide +kernel
theorem dX4_read_62 : decode cX4_read 62 = .ok (.aload_n 0, 1) := by decide +kernel
theorem dX4_read_63 : decode cX4_read 63 = .ok (.iload 4, 2) := by decide +kernel
theorem dX4_read_65 : decode cX4_read 65 = .ok (.aload_n 0, 1) := by decide +kernel
theorem dX4_read_66 : decode cX4_read 66 = .ok (.iload_n 1, 1) := by decide +kernel
theorem dX4_read_67 : decode cX4_read 67 = .ok (.iload_n 2, 1) := by decide +kernel
theorem dX4_read_68 : decode cX4_read 68 = .ok (.invokevirtual 317, 3) := by decide +kernel
theorem dX4_read_71 : decode cX4_read 71 = .ok (.ifCond .eq 7, 3) := by decide +kernel
theorem dX4_read_74 : decode cX4_read 74 = .ok (.iconst 1, 1) := by decide +kernel
theorem dX4_read_75 : decode cX4_read 75 = .ok (.goto 4, 3) := by decide +kernel
theorem dX4_read_78 : decode cX4_read 78 = .ok (.iconst 0, 1) := by decide +kernel
theorem dX4_read_79 : decode cX4_read 79 = .ok (.iadd, 1) := by decide +kernel
theorem dX4_read_80 : decode cX4_read 80 = .ok (.invokevirtual 167, 3) := by decide +kernel
theorem dX4_read_83 : decode cX4_read 83 = .ok (.istore 4, 2) := by decide +kernel
theorem dX4_read_85 : decode cX4_read 85 = .ok (.iinc 5 1, 3) := by decide +kernel
theorem dX4_read_88 : decode cX4_read 88 = .ok (.goto (-61), 3) := by decide +kernel
theorem dX4_read_91 : decode cX4_read 91 = .ok (.iload 4, 2) := by decide +kernel
theorem dX4_read_93 : decode cX4_read 93 = .ok (.ireturn, 1) := by decide +kernel
theorem dX4_image_0 : decode cX4_image 0 = .ok (.iconst 0, 1) := by decide +kernel
theorem dX4_image_1 : decode cX4_image 1 = .ok (.istore_n 1, 1) := by decide +kernel
theorem dX4_image_2 : decode cX4_image 2 = .ok (.iload_n 1, 1) := by decide +kernel
theorem dX4_image_3 : decode cX4_image 3 = .ok (.bipush 60, 2) := by decide +kernel
theorem dX4_image_5 : decode cX4_image 5 = .ok (.if_icmp .ge 21, 3) := by decide +kernel
theorem dX4_image_8 : decode cX4_image 8 = .ok (.aload_n 0, 1) := by decide +kernel
theorem dX4_image_9 : decode cX4_image 9 = .ok (.getfield 13, 3) := by decide +kernel
theorem dX4_image_12 : decode cX4_image 12 = .ok (.iload_n 1, 1) := by decide +kernel
theorem dX4_image_13 : decode cX4_image 13 = .ok (.aload_n 0, 1) := by decide +kernel
theorem dX4_image_14 : decode cX4_image 14 = .ok (.getfield 7, 3) := by decide +kernel
theorem dX4_image_17 : decode cX4_image 17 = .ok (.iload_n 1, 1) := by decide +kernel
theorem dX4_image_18 : decode cX4_image 18 = .ok (.iaload, 1) := by decide +kernel
theorem dX4_image_19 : decode cX4_image 19 = .ok (.iastore, 1) := by decide +kernel
theorem dX4_image_20 : decode cX4_image 20 = .ok (.iinc 1 1, 3) := by decide +kernel
theorem dX4_image_23 : decode cX4_image 23 = .ok (.goto (-21), 3) := by decide +kernel
theorem dX4_image_26 : decode cX4_image 26 = .ok (.aload_n 0, 1) := by decide +kernel
theorem dX4_image_27 : decode cX4_image 27 = .ok (.iconst 1, 1) := by decide +kernel
theorem dX4_image_28 : decode cX4_image 28 = .ok (.putfield 320, 3) := by decide +kernel
theorem dX4_image_31 : decode cX4_image 31 = .ok (.iconst 1, 1) := by decide +kernel
theorem dX4_image_32 : decode cX4_image 32 = .ok (.ireturn, 1) := by decide +kernel
theorem dX4_undo_0 : decode cX4_undo 0 = .ok (.aload_n 0, 1) := by decide +kernel
theorem dX4_undo_1 : decode cX4_undo 1 = .ok (.getfield 320, 3) := by decide +kernel
theorem dX4_undo_4 : decode cX4_undo 4 = .ok (.ifCond .ne 10, 3) := by decide +kernel
theorem dX4_undo_7 : decode cX4_undo 7 = .ok (.aload_n 0, 1) := by decide +kernel
theorem dX4_undo_8 : decode cX4_undo 8 = .ok (.ldc 178, 2) := by decide +kernel
theorem dX4_undo_10 : decode cX4_undo 10 = .ok (.invokevirtual 66, 3) := by decide +kernel
theorem dX4_undo_13 : decode cX4_undo 13 = .ok (.ireturn, 1) := by decide +kernel
theorem dX4_undo_14 : decode cX4_undo 14 = .ok (.iconst 0, 1) := by decide +kernel
theorem dX4_undo_15 : decode cX4_undo 15 = .ok (.istore_n 1, 1) := by decide +kernel
theorem dX4_undo_16 : decode cX4_undo 16 = .ok (.iload_n 1, 1) := by decide +kernel
theorem dX4_undo_17 : decode cX4_undo 17 = .ok (.bipush 60, 2) := by decide +kernel
theorem dX4_undo_19 : decode cX4_undo 19 = .ok (.if_icmp .ge 21, 3) := by decide +kernel
theorem dX4_undo_22 : decode cX4_undo 22 = .ok (.aload_n 0, 1) := by decide +kernel
theorem dX4_undo_23 : decode cX4_undo 23 = .ok (.getfield 7, 3) := by decide +kernel
theorem dX4_undo_26 : decode cX4_undo 26 = .ok (.iload_n 1, 1) := by decide +kernel
theorem dX4_undo_27 : decode cX4_undo 27 = .ok (.aload_n 0, 1) := by decide +kernel
theorem dX4_undo_28 : decode cX4_undo 28 = .ok (.getfield 13, 3) := by decide +kernel
theorem dX4_undo_31 : decode cX4_undo 31 = .ok (.iload_n 1, 1) := by decide +kernel
theorem dX4_undo_32 : decode cX4_undo 32 = .ok (.iaload, 1) := by decide +kernel
theorem dX4_undo_33 : decode cX4_undo 33 = .ok (.iastore, 1) := by decide +kernel
theorem dX4_undo_34 : decode cX4_undo 34 = .ok (.iinc 1 1, 3) := by decide +kernel
theorem dX4_undo_37 : decode cX4_undo 37 = .ok (.goto (-21), 3) := by decide +kernel
theorem dX4_undo_40 : decode cX4_undo 40 = .ok (.aload_n 0, 1) := by decide +kernel
theorem dX4_undo_41 : decode cX4_undo 41 = .ok (.getfield 7, 3) := by decide +kernel
theorem dX4_undo_44 : decode cX4_undo 44 = .ok (.iconst 0, 1) := by decide +kernel
theorem dX4_undo_45 : decode cX4_undo 45 = .ok (.iaload, 1) := by decide +kernel
theorem dX4_undo_46 : decode cX4_undo 46 = .ok (.ireturn, 1) := by decide +kernel
theorem dX4_tear_0 : decode cX4_tear 0 = .ok (.aload_n 0, 1) := by decide +kernel
theorem dX4_tear_1 : decode cX4_tear 1 = .ok (.getfield 320, 3) := by decide +kernel
theorem dX4_tear_4 : decode cX4_tear 4 = .ok (.ifCond .eq 7, 3) := by decide +kernel
theorem dX4_tear_7 : decode cX4_tear 7 = .ok (.iconst 1, 1) := by decide +kernel
theorem dX4_tear_8 : decode cX4_tear 8 = .ok (.goto 4, 3) := by decide +kernel
theorem dX4_tear_11 : decode cX4_tear 11 = .ok (.iconst 0, 1) := by decide +kernel
theorem dX4_tear_12 : decode cX4_tear 12 = .ok (.istore_n 1, 1) := by decide +kernel
theorem dX4_tear_13 : decode cX4_tear 13 = .ok (.aload_n 0, 1) := by decide +kernel
theorem dX4_tear_14 : decode cX4_tear 14 = .ok (.iconst 0, 1) := by decide +kernel
theorem dX4_tear_15 : decode cX4_tear 15 = .ok (.putfield 320, 3) := by decide +kernel
theorem dX4_tear_18 : decode cX4_tear 18 = .ok (.iload_n 1, 1) := by decide +kernel
theorem dX4_tear_19 : decode cX4_tear 19 = .ok (.ireturn, 1) := by decide +kernel
theorem dX4_count_0 : decode cX4_count 0 = .ok (.iload_n 1, 1) := by decide +kernel
theorem dX4_count_1 : decode cX4_count 1 = .ok (.tableswitch 61 0 3 #[31, 38, 43, 51], 31) := by decide +kernel
theorem dX4_count_32 : decode cX4_count 32 = .ok (.aload_n 0, 1) := by decide +kernel
theorem dX4_count_33 : decode cX4_count 33 = .ok (.getfield 7, 3) := by decide +kernel
theorem dX4_count_36 : decode cX4_count 36 = .ok (.iconst 0, 1) := by decide +kernel
theorem dX4_count_37 : decode cX4_count 37 = .ok (.iaload, 1) := by decide +kernel
theorem dX4_count_38 : decode cX4_count 38 = .ok (.ireturn, 1) := by decide +kernel
theorem dX4_count_39 : decode cX4_count 39 = .ok (.aload_n 0, 1) := by decide +kernel
theorem dX4_count_40 : decode cX4_count 40 = .ok (.getfield 203, 3) := by decide +kernel
theorem dX4_count_43 : decode cX4_count 43 = .ok (.ireturn, 1) := by decide +kernel
theorem dX4_count_44 : decode cX4_count 44 = .ok (.aload_n 0, 1) := by decide +kernel
theorem dX4_count_45 : decode cX4_count 45 = .ok (.invokevirtual 124, 3) := by decide +kernel
theorem dX4_count_48 : decode cX4_count 48 = .ok (.invokestatic 128, 3) := by decide +kernel
theorem dX4_count_51 : decode cX4_count 51 = .ok (.ireturn, 1) := by decide +kernel
theorem dX4_count_52 : decode cX4_count 52 = .ok (.aload_n 0, 1) := by decide +kernel
theorem dX4_count_53 : decode cX4_count 53 = .ok (.getfield 7, 3) := by decide +kernel
theorem dX4_count_56 : decode cX4_count 56 = .ok (.iconst 2, 1) := by decide +kernel
theorem dX4_count_57 : decode cX4_count 57 = .ok (.iaload, 1) := by decide +kernel
theorem dX4_count_58 : decode cX4_count 58 = .ok (.invokestatic 128, 3) := by decide +kernel
theorem dX4_count_61 : decode cX4_count 61 = .ok (.ireturn, 1) := by decide +kernel
theorem dX4_count_62 : decode cX4_count 62 = .ok (.aload_n 0, 1) := by decide +kernel
theorem dX4_count_63 : decode cX4_count 63 = .ok (.ldc 41, 2) := by decide +kernel
theorem dX4_count_65 : decode cX4_count 65 = .ok (.invokevirtual 66, 3) := by decide +kernel
theorem dX4_count_68 : decode cX4_count 68 = .ok (.ireturn, 1) := by decide +kernel
theorem dX4_status_0 : decode cX4_status 0 = .ok (.iload_n 1, 1) := by decide +kernel
theorem dX4_status_1 : decode cX4_status 1 = .ok (.i2l, 1) := by decide +kernel
theorem dX4_status_2 : decode cX4_status 2 = .ok (.ldc2_w 323, 3) := by decide +kernel
theorem dX4_status_5 : decode cX4_status 5 = .ok (.ldc2_w 325, 3) := by decide +kernel
theorem dX4_status_8 : decode cX4_status 8 = .ok (.invokestatic 44, 3) := by decide +kernel
theorem dX4_status_11 : decode cX4_status 11 = .ok (.ifCond .ne 10, 3) := by decide +kernel
theorem dX4_status_14 : decode cX4_status 14 = .ok (.aload_n 0, 1) := by decide +kernel
theorem dX4_status_15 : decode cX4_status 15 = .ok (.ldc 41, 2) := by decide +kernel
theorem dX4_status_17 : decode cX4_status 17 = .ok (.invokevirtual 66, 3) := by decide +kernel
theorem dX4_status_20 : decode cX4_status 20 = .ok (.ireturn, 1) := by decide +kernel
theorem dX4_status_21 : decode cX4_status 21 = .ok (.iconst 0, 1) := by decide +kernel
theorem dX4_status_22 : decode cX4_status 22 = .ok (.istore_n 2, 1) := by decide +kernel
theorem dX4_status_23 : decode cX4_status 23 = .ok (.iconst 0, 1) := by decide +kernel
theorem dX4_status_24 : decode cX4_status 24 = .ok (.istore_n 3, 1) := by decide +kernel
theorem dX4_status_25 : decode cX4_status 25 = .ok (.iload_n 3, 1) := by decide +kernel
theorem dX4_status_26 : decode cX4_status 26 = .ok (.bipush 7, 2) := by decide +kernel
theorem dX4_status_28 : decode cX4_status 28 = .ok (.if_icmp .ge 31, 3) := by decide +kernel
theorem dX4_status_31 : decode cX4_status 31 = .ok (.iload_n 2, 1) := by decide +kernel
theorem dX4_status_32 : decode cX4_status 32 = .ok (.iload_n 1, 1) := by decide +kernel
theorem dX4_status_33 : decode cX4_status 33 = .ok (.ifCond .lt 8, 3) := by decide +kernel
theorem dX4_status_36 : decode cX4_status 36 = .ok (.iload_n 3, 1) := by decide +kernel
theorem dX4_status_37 : decode cX4_status 37 = .ok (.iload_n 1, 1) := by decide +kernel
theorem dX4_status_38 : decode cX4_status 38 = .ok (.if_icmp .ne 12, 3) := by decide +kernel
theorem dX4_status_41 : decode cX4_status 41 = .ok (.aload_n 0, 1) := by decide +kernel
theorem dX4_status_42 : decode cX4_status 42 = .ok (.getfield 22, 3) := by decide +kernel
theorem dX4_status_45 : decode cX4_status 45 = .ok (.iload_n 3, 1) := by decide +kernel
theorem dX4_status_46 : decode cX4_status 46 = .ok (.iaload, 1) := by decide +kernel
theorem dX4_status_47 : decode cX4_status 47 = .ok (.goto 4, 3) := by decide +kernel
theorem dX4_status_50 : decode cX4_status 50 = .ok (.iconst 0, 1) := by decide +kernel
theorem dX4_status_51 : decode cX4_status 51 = .ok (.iadd, 1) := by decide +kernel
theorem dX4_status_52 : decode cX4_status 52 = .ok (.istore_n 2, 1) := by decide +kernel
theorem dX4_status_53 : decode cX4_status 53 = .ok (.iinc 3 1, 3) := by decide +kernel
theorem dX4_status_56 : decode cX4_status 56 = .ok (.goto (-31), 3) := by decide +kernel
theorem dX4_status_59 : decode cX4_status 59 = .ok (.iload_n 2, 1) := by decide +kernel
theorem dX4_status_60 : decode cX4_status 60 = .ok (.ireturn, 1) := by decide +kernel
end
section
theorem dL_law_0 : decode cL_law 0 = .ok (.new 7, 3) := by decide +kernel
theorem dL_law_3 : decode cL_law 3 = .ok (.dup, 1) := by decide +kernel
theorem dL_law_4 : decode cL_law 4 = .ok (.invokespecial 9, 3) := by decide +kernel
theorem dL_law_7 : decode cL_law 7 = .ok (.astore_n 1, 1) := by decide +kernel
theorem dL_law_8 : decode cL_law 8 = .ok (.new 10, 3) := by decide +kernel
theorem dL_law_11 : decode cL_law 11 = .ok (.dup, 1) := by decide +kernel
theorem dL_law_12 : decode cL_law 12 = .ok (.invokespecial 12, 3) := by decide +kernel
theorem dL_law_15 : decode cL_law 15 = .ok (.astore_n 2, 1) := by decide +kernel
theorem dL_law_16 : decode cL_law 16 = .ok (.iconst 0, 1) := by decide +kernel
theorem dL_law_17 : decode cL_law 17 = .ok (.istore_n 3, 1) := by decide +kernel
theorem dL_law_18 : decode cL_law 18 = .ok (.iload_n 3, 1) := by decide +kernel
theorem dL_law_19 : decode cL_law 19 = .ok (.aload_n 0, 1) := by decide +kernel
theorem dL_law_20 : decode cL_law 20 = .ok (.arraylength, 1) := by decide +kernel
theorem dL_law_21 : decode cL_law 21 = .ok (.bipush 6, 2) := by decide +kernel
theorem dL_law_23 : decode cL_law 23 = .ok (.isub, 1) := by decide +kernel
theorem dL_law_24 : decode cL_law 24 = .ok (.if_icmp .gt 1287, 3) := by decide +kernel
theorem dL_law_27 : decode cL_law 27 = .ok (.aload_n 0, 1) := by decide +kernel
theorem dL_law_28 : decode cL_law 28 = .ok (.iload_n 3, 1) := by decide +kernel
theorem dL_law_29 : decode cL_law 29 = .ok (.iaload, 1) := by decide +kernel
theorem dL_law_30 : decode cL_law 30 = .ok (.bipush 63, 2) := by decide +kernel
theorem dL_law_32 : decode cL_law 32 = .ok (.iand, 1) := by decide +kernel
theorem dL_law_33 : decode cL_law 33 = .ok (.tableswitch 1272 0 37 #[167, 190, 213, 236, 269, 302, 345, 378, 411, 434, 467, 490, 513, 556, 589, 612, 635, 658, 691, 724, 747, 780, 813, 836, 859, 892, 905, 918, 961, 1035, 1098, 1121, 1154, 1187, 1200, 1213, 1226, 1249], 167) := by decide +kernel
theorem dL_law_200 : decode cL_law 200 = .ok (.aload_n 1, 1) := by decide +kernel
theorem dL_law_201 : decode cL_law 201 = .ok (.aload_n 0, 1) := by decide +kernel
theorem dL_law_202 : decode cL_law 202 = .ok (.iload_n 3, 1) := by decide +kernel
theorem dL_law_203 : decode cL_law 203 = .ok (.iconst 1, 1) := by decide +kernel
theorem dL_law_204 : decode cL_law 204 = .ok (.iadd, 1) := by decide +kernel
theorem dL_law_205 : decode cL_law 205 = .ok (.iaload, 1) := by decide +kernel
theorem dL_law_206 : decode cL_law 206 = .ok (.invokevirtual 13, 3) := by decide +kernel
theorem dL_law_209 : decode cL_law 209 = .ok (.aload_n 2, 1) := by decide +kernel
theorem dL_law_210 : decode cL_law 210 = .ok (.aload_n 0, 1) := by decide +kernel
theorem dL_law_211 : decode cL_law 211 = .ok (.iload_n 3, 1) := by decide +kernel
theorem dL_law_212 : decode cL_law 212 = .ok (.iconst 1, 1) := by decide +kernel
theorem dL_law_213 : decode cL_law 213 = .ok (.iadd, 1) := by decide +kernel
theorem dL_law_214 : decode cL_law 214 = .ok (.iaload, 1) := by decide +kernel
theorem dL_law_215 : decode cL_law 215 = .ok (.invokevirtual 17, 3) := by decide +kernel
theorem dL_law_218 : decode cL_law 218 = .ok (.if_icmp .eq 1087, 3) := by decide +kernel
theorem dL_law_221 : decode cL_law 221 = .ok (.iconst 0, 1) := by decide +kernel
theorem dL_law_222 : decode cL_law 222 = .ok (.ireturn, 1) := by decide +kernel
theorem dL_law_223 : decode cL_law 223 = .ok (.aload_n 1, 1) := by decide +kernel
theorem dL_law_224 : decode cL_law 224 = .ok (.aload_n 0, 1) := by decide +kernel
theorem dL_law_225 : decode cL_law 225 = .ok (.iload_n 3, 1) := by decide +kernel
theorem dL_law_226 : decode cL_law 226 = .ok (.iconst 1, 1) := by decide +kernel
theorem dL_law_227 : decode cL_law 227 = .ok (.iadd, 1) := by decide +kernel
theorem dL_law_228 : decode cL_law 228 = .ok (.iaload, 1) := by decide +kernel
theorem dL_law_229 : decode cL_law 229 = .ok (.invokevirtual 18, 3) := by decide +kernel
theorem dL_law_232 : decode cL_law 232 = .ok (.aload_n 2, 1) := by decide +kernel
theorem dL_law_233 : decode cL_law 233 = .ok (.aload_n 0, 1) := by decide +kernel
theorem dL_law_234 : decode cL_law 234 = .ok (.iload_n 3, 1) := by decide +kernel
theorem dL_law_235 : decode cL_law 235 = .ok (.iconst 1, 1) := by decide +kernel
theorem dL_law_236 : decode cL_law 236 = .ok (.iadd, 1) := by decide +kernel
theorem dL_law_237 : decode cL_law 237 = .ok (.iaload, 1) := by decide +kernel
theorem dL_law_238 : decode cL_law 238 = .ok (.invokevirtual 21, 3) := by decide +kernel
theorem dL_law_241 : decode cL_law 241 = .ok (.if_icmp .eq 1064, 3) := by decide +kernel
theorem dL_law_244 : decode cL_law 244 = .ok (.iconst 0, 1) := by decide +kernel
theorem dL_law_245 : decode cL_law 245 = .ok (.ireturn, 1) := by decide +kernel
theorem dL_law_246 : decode cL_law 246 = .ok (.aload_n 1, 1) := by decide +kernel
theorem dL_law_247 : decode cL_law 247 = .ok (.aload_n 0, 1) := by decide +kernel
theorem dL_law_248 : decode cL_law 248 = .ok (.iload_n 3, 1) := by decide +kernel
theorem dL_law_249 : decode cL_law 249 = .ok (.iconst 1, 1) := by decide +kernel
theorem dL_law_250 : decode cL_law 250 = .ok (.iadd, 1) := by decide +kernel
theorem dL_law_251 : decode cL_law 251 = .ok (.iaload, 1) := by decide +kernel
theorem dL_law_252 : decode cL_law 252 = .ok (.invokevirtual 22, 3) := by decide +kernel
theorem dL_law_255 : decode cL_law 255 = .ok (.aload_n 2, 1) := by decide +kernel
theorem dL_law_256 : decode cL_law 256 = .ok (.aload_n 0, 1) := by decide +kernel
theorem dL_law_257 : decode cL_law 257 = .ok (.iload_n 3, 1) := by decide +kernel
theorem dL_law_258 : decode cL_law 258 = .ok (.iconst 1, 1) := by decide +kernel
theorem dL_law_259 : decode cL_law 259 = .ok (.iadd, 1) := by decide +kernel
theorem dL_law_260 : decode cL_law 260 = .ok (.iaload, 1) := by decide +kernel
theorem dL_law_261 : decode cL_law 261 = .ok (.invokevirtual 25, 3) := by decide +kernel
theorem dL_law_264 : decode cL_law 264 = .ok (.if_icmp .eq 1041, 3) := by decide +kernel
theorem dL_law_267 : decode cL_law 267 = .ok (.iconst 0, 1) := by decide +kernel
theorem dL_law_268 : decode cL_law 268 = .ok (.ireturn, 1) := by decide +kernel
theorem dL_law_269 : decode cL_law 269 = .ok (.aload_n 1, 1) := by decide +kernel
theorem dL_law_270 : decode cL_law 270 = .ok (.aload_n 0, 1) := by decide +kernel
theorem dL_law_271 : decode cL_law 271 = .ok (.iload_n 3, 1) := by decide +kernel
theorem dL_law_272 : decode cL_law 272 = .ok (.iconst 1, 1) := by decide +kernel
theorem dL_law_273 : decode cL_law 273 = .ok (.iadd, 1) := by decide +kernel
theorem dL_law_274 : decode cL_law 274 = .ok (.iaload, 1) := by decide +kernel
theorem dL_law_275 : decode cL_law 275 = .ok (.aload_n 0, 1) := by decide +kernel
theorem dL_law_276 : decode cL_law 276 = .ok (.iload_n 3, 1) := by decide +kernel
theorem dL_law_277 : decode cL_law 277 = .ok (.iconst 2, 1) := by decide +kernel
theorem dL_law_278 : decode cL_law 278 = .ok (.iadd, 1) := by decide +kernel
theorem dL_law_279 : decode cL_law 279 = .ok (.iaload, 1) := by decide +kernel
theorem dL_law_280 : decode cL_law 280 = .ok (.invokevirtual 26, 3) := by decide +kernel
theorem dL_law_283 : decode cL_law 283 = .ok (.aload_n 2, 1) := by decide +kernel
theorem dL_law_284 : decode cL_law 284 = .ok (.aload_n 0, 1) := by decide +kernel
theorem dL_law_285 : decode cL_law 285 = .ok (.iload_n 3, 1) := by decide +kernel
theorem dL_law_286 : decode cL_law 286 = .ok (.iconst 1, 1) := by decide +kernel
theorem dL_law_287 : decode cL_law 287 = .ok (.iadd, 1) := by decide +kernel
theorem dL_law_288 : decode cL_law 288 = .ok (.iaload, 1) := by decide +kernel
theorem dL_law_289 : decode cL_law 289 = .ok (.aload_n 0, 1) := by decide +kernel
theorem dL_law_290 : decode cL_law 290 = .ok (.iload_n 3, 1) := by decide +kernel
theorem dL_law_291 : decode cL_law 291 = .ok (.iconst 2, 1) := by decide +kernel
theorem dL_law_292 : decode cL_law 292 = .ok (.iadd, 1) := by decide +kernel
theorem dL_law_293 : decode cL_law 293 = .ok (.iaload, 1) := by decide +kernel
theorem dL_law_294 : decode cL_law 294 = .ok (.invokevirtual 30, 3) := by decide +kernel
theorem dL_law_297 : decode cL_law 297 = .ok (.if_icmp .eq 1008, 3) := by decide +kernel
theorem dL_law_300 : decode cL_law 300 = .ok (.iconst 0, 1) := by decide +kernel
theorem dL_law_301 : decode cL_law 301 = .ok (.ireturn, 1) := by decide +kernel
theorem dL_law_302 : decode cL_law 302 = .ok (.aload_n 1, 1) := by decide +kernel
theorem dL_law_303 : decode cL_law 303 = .ok (.aload_n 0, 1) := by decide +kernel
theorem dL_law_304 : decode cL_law 304 = .ok (.iload_n 3, 1) := by decide +kernel
theorem dL_law_305 : decode cL_law 305 = .ok (.iconst 1, 1) := by decide +kernel
theorem dL_law_306 : decode cL_law 306 = .ok (.iadd, 1) := by decide +kernel
theorem dL_law_307 : decode cL_law 307 = .ok (.iaload, 1) := by decide +kernel
theorem dL_law_308 : decode cL_law 308 = .ok (.aload_n 0, 1) := by decide +kernel
theorem dL_law_309 : decode cL_law 309 = .ok (.iload_n 3, 1) := by decide +kernel
theorem dL_law_310 : decode cL_law 310 = .ok (.iconst 2, 1) := by decide +kernel
theorem dL_law_311 : decode cL_law 311 = .ok (.iadd, 1) := by decide +kernel
theorem dL_law_312 : decode cL_law 312 = .ok (.iaload, 1) := by decide +kernel
theorem dL_law_313 : decode cL_law 313 = .ok (.invokevirtual 31, 3) := by decide +kernel
theorem dL_law_316 : decode cL_law 316 = .ok (.aload_n 2, 1) := by decide +kernel
theorem dL_law_317 : decode cL_law 317 = .ok (.aload_n 0, 1) := by decide +kernel
theorem dL_law_318 : decode cL_law 318 = .ok (.iload_n 3, 1) := by decide +kernel
theorem dL_law_319 : decode cL_law 319 = .ok (.iconst 1, 1) := by decide +kernel
theorem dL_law_320 : decode cL_law 320 = .ok (.iadd, 1) := by decide +kernel
theorem dL_law_321 : decode cL_law 321 = .ok (.iaload, 1) := by decide +kernel
theorem dL_law_322 : decode cL_law 322 = .ok (.aload_n 0, 1) := by decide +kernel
theorem dL_law_323 : decode cL_law 323 = .ok (.iload_n 3, 1) := by decide +kernel
theorem dL_law_324 : decode cL_law 324 = .ok (.iconst 2, 1) := by decide +kernel
theorem dL_law_325 : decode cL_law 325 = .ok (.iadd, 1) := by decide +kernel
theorem dL_law_326 : decode cL_law 326 = .ok (.iaload, 1) := by decide +kernel
theorem dL_law_327 : decode cL_law 327 = .ok (.invokevirtual 34, 3) := by decide +kernel
theorem dL_law_330 : decode cL_law 330 = .ok (.if_icmp .eq 975, 3) := by decide +kernel
theorem dL_law_333 : decode cL_law 333 = .ok (.iconst 0, 1) := by decide +kernel
theorem dL_law_334 : decode cL_law 334 = .ok (.ireturn, 1) := by decide +kernel
theorem dL_law_335 : decode cL_law 335 = .ok (.aload_n 1, 1) := by decide +kernel
theorem dL_law_336 : decode cL_law 336 = .ok (.aload_n 0, 1) := by decide +kernel
theorem dL_law_337 : decode cL_law 337 = .ok (.iload_n 3, 1) := by decide +kernel
theorem dL_law_338 : decode cL_law 338 = .ok (.iconst 1, 1) := by decide +kernel
theorem dL_law_339 : decode cL_law 339 = .ok (.iadd, 1) := by decide +kernel
theorem dL_law_340 : decode cL_law 340 = .ok (.iaload, 1) := by decide +kernel
theorem dL_law_341 : decode cL_law 341 = .ok (.aload_n 0, 1) := by decide +kernel
theorem dL_law_342 : decode cL_law 342 = .ok (.iload_n 3, 1) := by decide +kernel
theorem dL_law_343 : decode cL_law 343 = .ok (.iconst 2, 1) := by decide +kernel
theorem dL_law_344 : decode cL_law 344 = .ok (.iadd, 1) := by decide +kernel
theorem dL_law_345 : decode cL_law 345 = .ok (.iaload, 1) := by decide +kernel
theorem dL_law_346 : decode cL_law 346 = .ok (.aload_n 0, 1) := by decide +kernel
theorem dL_law_347 : decode cL_law 347 = .ok (.iload_n 3, 1) := by decide +kernel
theorem dL_law_348 : decode cL_law 348 = .ok (.iconst 3, 1) := by decide +kernel
theorem dL_law_349 : decode cL_law 349 = .ok (.iadd, 1) := by decide +kernel
theorem dL_law_350 : decode cL_law 350 = .ok (.iaload, 1) := by decide +kernel
theorem dL_law_351 : decode cL_law 351 = .ok (.invokevirtual 35, 3) := by decide +kernel
theorem dL_law_354 : decode cL_law 354 = .ok (.aload_n 2, 1) := by decide +kernel
theorem dL_law_355 : decode cL_law 355 = .ok (.aload_n 0, 1) := by decide +kernel
theorem dL_law_356 : decode cL_law 356 = .ok (.iload_n 3, 1) := by decide +kernel
theorem dL_law_357 : decode cL_law 357 = .ok (.iconst 1, 1) := by decide +kernel
theorem dL_law_358 : decode cL_law 358 = .ok (.iadd, 1) := by decide +kernel
theorem dL_law_359 : decode cL_law 359 = .ok (.iaload, 1) := by decide +kernel
theorem dL_law_360 : decode cL_law 360 = .ok (.aload_n 0, 1) := by decide +kernel
theorem dL_law_361 : decode cL_law 361 = .ok (.iload_n 3, 1) := by decide +kernel
theorem dL_law_362 : decode cL_law 362 = .ok (.iconst 2, 1) := by decide +kernel
theorem dL_law_363 : decode cL_law 363 = .ok (.iadd, 1) := by decide +kernel
theorem dL_law_364 : decode cL_law 364 = .ok (.iaload, 1) := by decide +kernel
theorem dL_law_365 : decode cL_law 365 = .ok (.aload_n 0, 1) := by decide +kernel
theorem dL_law_366 : decode cL_law 366 = .ok (.iload_n 3, 1) := by decide +kernel
theorem dL_law_367 : decode cL_law 367 = .ok (.iconst 3, 1) := by decide +kernel
theorem dL_law_368 : decode cL_law 368 = .ok (.iadd, 1) := by decide +kernel
theorem dL_law_369 : decode cL_law 369 = .ok (.iaload, 1) := by decide +kernel
theorem dL_law_370 : decode cL_law 370 = .ok (.invokevirtual 39, 3) := by decide +kernel
theorem dL_law_373 : decode cL_law 373 = .ok (.if_icmp .eq 932, 3) := by decide +kernel
theorem dL_law_376 : decode cL_law 376 = .ok (.iconst 0, 1) := by decide +kernel
theorem dL_law_377 : decode cL_law 377 = .ok (.ireturn, 1) := by decide +kernel
theorem dL_law_378 : decode cL_law 378 = .ok (.aload_n 1, 1) := by decide +kernel
theorem dL_law_379 : decode cL_law 379 = .ok (.aload_n 0, 1) := by decide +kernel
theorem dL_law_380 : decode cL_law 380 = .ok (.iload_n 3, 1) := by decide +kernel
theorem dL_law_381 : decode cL_law 381 = .ok (.iconst 1, 1) := by decide +kernel
theorem dL_law_382 : decode cL_law 382 = .ok (.iadd, 1) := by decide +kernel
theorem dL_law_383 : decode cL_law 383 = .ok (.iaload, 1) := by decide +kernel
theorem dL_law_384 : decode cL_law 384 = .ok (.aload_n 0, 1) := by decide +kernel
theorem dL_law_385 : decode cL_law 385 = .ok (.iload_n 3, 1) := by decide +kernel
theorem dL_law_386 : decode cL_law 386 = .ok (.iconst 2, 1) := by decide +kernel
theorem dL_law_387 : decode cL_law 387 = .ok (.iadd, 1) := by decide +kernel
theorem dL_law_388 : decode cL_law 388 = .ok (.iaload, 1) := by decide +kernel
theorem dL_law_389 : decode cL_law 389 = .ok (.invokevirtual 40, 3) := by decide +kernel
theorem dL_law_392 : decode cL_law 392 = .ok (.aload_n 2, 1) := by decide +kernel
theorem dL_law_393 : decode cL_law 393 = .ok (.aload_n 0, 1) := by decide +kernel
theorem dL_law_394 : decode cL_law 394 = .ok (.iload_n 3, 1) := by decide +kernel
theorem dL_law_395 : decode cL_law 395 = .ok (.iconst 1, 1) := by decide +kernel
theorem dL_law_396 : decode cL_law 396 = .ok (.iadd, 1) := by decide +kernel
theorem dL_law_397 : decode cL_law 397 = .ok (.iaload, 1) := by decide +kernel
theorem dL_law_398 : decode cL_law 398 = .ok (.aload_n 0, 1) := by decide +kernel
theorem dL_law_399 : decode cL_law 399 = .ok (.iload_n 3, 1) := by decide +kernel
theorem dL_law_400 : decode cL_law 400 = .ok (.iconst 2, 1) := by decide +kernel
theorem dL_law_401 : decode cL_law 401 = .ok (.iadd, 1) := by decide +kernel
theorem dL_law_402 : decode cL_law 402 = .ok (.iaload, 1) := by decide +kernel
theorem dL_law_403 : decode cL_law 403 = .ok (.invokevirtual 43, 3) := by decide +kernel
theorem dL_law_406 : decode cL_law 406 = .ok (.if_icmp .eq 899, 3) := by decide +kernel
theorem dL_law_409 : decode cL_law 409 = .ok (.iconst 0, 1) := by decide +kernel
theorem dL_law_410 : decode cL_law 410 = .ok (.ireturn, 1) := by decide +kernel
theorem dL_law_411 : decode cL_law 411 = .ok (.aload_n 1, 1) := by decide +kernel
theorem dL_law_412 : decode cL_law 412 = .ok (.aload_n 0, 1) := by decide +kernel
theorem dL_law_413 : decode cL_law 413 = .ok (.iload_n 3, 1) := by decide +kernel
theorem dL_law_414 : decode cL_law 414 = .ok (.iconst 1, 1) := by decide +kernel
theorem dL_law_415 : decode cL_law 415 = .ok (.iadd, 1) := by decide +kernel
theorem dL_law_416 : decode cL_law 416 = .ok (.iaload, 1) := by decide +kernel
theorem dL_law_417 : decode cL_law 417 = .ok (.aload_n 0, 1) := by decide +kernel
theorem dL_law_418 : decode cL_law 418 = .ok (.iload_n 3, 1) := by decide +kernel
theorem dL_law_419 : decode cL_law 419 = .ok (.iconst 2, 1) := by decide +kernel
theorem dL_law_420 : decode cL_law 420 = .ok (.iadd, 1) := by decide +kernel
theorem dL_law_421 : decode cL_law 421 = .ok (.iaload, 1) := by decide +kernel
theorem dL_law_422 : decode cL_law 422 = .ok (.invokevirtual 44, 3) := by decide +kernel
theorem dL_law_425 : decode cL_law 425 = .ok (.aload_n 2, 1) := by decide +kernel
theorem dL_law_426 : decode cL_law 426 = .ok (.aload_n 0, 1) := by decide +kernel
theorem dL_law_427 : decode cL_law 427 = .ok (.iload_n 3, 1) := by decide +kernel
theorem dL_law_428 : decode cL_law 428 = .ok (.iconst 1, 1) := by decide +kernel
theorem dL_law_429 : decode cL_law 429 = .ok (.iadd, 1) := by decide +kernel
theorem dL_law_430 : decode cL_law 430 = .ok (.iaload, 1) := by decide +kernel
theorem dL_law_431 : decode cL_law 431 = .ok (.aload_n 0, 1) := by decide +kernel
theorem dL_law_432 : decode cL_law 432 = .ok (.iload_n 3, 1) := by decide +kernel
theorem dL_law_433 : decode cL_law 433 = .ok (.iconst 2, 1) := by decide +kernel
theorem dL_law_434 : decode cL_law 434 = .ok (.iadd, 1) := by decide +kernel
theorem dL_law_435 : decode cL_law 435 = .ok (.iaload, 1) := by decide +kernel
theorem dL_law_436 : decode cL_law 436 = .ok (.invokevirtual 47, 3) := by decide +kernel
theorem dL_law_439 : decode cL_law 439 = .ok (.if_icmp .eq 866, 3) := by decide +kernel
theorem dL_law_442 : decode cL_law 442 = .ok (.iconst 0, 1) := by decide +kernel
theorem dL_law_443 : decode cL_law 443 = .ok (.ireturn, 1) := by decide +kernel
theorem dL_law_444 : decode cL_law 444 = .ok (.aload_n 1, 1) := by decide +kernel
theorem dL_law_445 : decode cL_law 445 = .ok (.aload_n 0, 1) := by decide +kernel
theorem dL_law_446 : decode cL_law 446 = .ok (.iload_n 3, 1) := by decide +kernel
theorem dL_law_447 : decode cL_law 447 = .ok (.iconst 1, 1) := by decide +kernel
theorem dL_law_448 : decode cL_law 448 = .ok (.iadd, 1) := by decide +kernel
theorem dL_law_449 : decode cL_law 449 = .ok (.iaload, 1) := by decide +kernel
theorem dL_law_450 : decode cL_law 450 = .ok (.invokevirtual 48, 3) := by decide +kernel
theorem dL_law_453 : decode cL_law 453 = .ok (.aload_n 2, 1) := by decide +kernel
theorem dL_law_454 : decode cL_law 454 = .ok (.aload_n 0, 1) := by decide +kernel
theorem dL_law_455 : decode cL_law 455 = .ok (.iload_n 3, 1) := by decide +kernel
theorem dL_law_456 : decode cL_law 456 = .ok (.iconst 1, 1) := by decide +kernel
theorem dL_law_457 : decode cL_law 457 = .ok (.iadd, 1) := by decide +kernel
theorem dL_law_458 : decode cL_law 458 = .ok (.iaload, 1) := by decide +kernel
theorem dL_law_459 : decode cL_law 459 = .ok (.invokevirtual 51, 3) := by decide +kernel
theorem dL_law_462 : decode cL_law 462 = .ok (.if_icmp .eq 843, 3) := by decide +kernel
theorem dL_law_465 : decode cL_law 465 = .ok (.iconst 0, 1) := by decide +kernel
theorem dL_law_466 : decode cL_law 466 = .ok (.ireturn, 1) := by decide +kernel
theorem dL_law_467 : decode cL_law 467 = .ok (.aload_n 1, 1) := by decide +kernel
theorem dL_law_468 : decode cL_law 468 = .ok (.aload_n 0, 1) := by decide +kernel
theorem dL_law_469 : decode cL_law 469 = .ok (.iload_n 3, 1) := by decide +kernel
theorem dL_law_470 : decode cL_law 470 = .ok (.iconst 1, 1) := by decide +kernel
theorem dL_law_471 : decode cL_law 471 = .ok (.iadd, 1) := by decide +kernel
theorem dL_law_472 : decode cL_law 472 = .ok (.iaload, 1) := by decide +kernel
theorem dL_law_473 : decode cL_law 473 = .ok (.aload_n 0, 1) := by decide +kernel
theorem dL_law_474 : decode cL_law 474 = .ok (.iload_n 3, 1) := by decide +kernel
theorem dL_law_475 : decode cL_law 475 = .ok (.iconst 2, 1) := by decide +kernel
theorem dL_law_476 : decode cL_law 476 = .ok (.iadd, 1) := by decide +kernel
theorem dL_law_477 : decode cL_law 477 = .ok (.iaload, 1) := by decide +kernel
theorem dL_law_478 : decode cL_law 478 = .ok (.invokevirtual 52, 3) := by decide +kernel
theorem dL_law_481 : decode cL_law 481 = .ok (.aload_n 2, 1) := by decide +kernel
theorem dL_law_482 : decode cL_law 482 = .ok (.aload_n 0, 1) := by decide +kernel
theorem dL_law_483 : decode cL_law 483 = .ok (.iload_n 3, 1) := by decide +kernel
theorem dL_law_484 : decode cL_law 484 = .ok (.iconst 1, 1) := by decide +kernel
theorem dL_law_485 : decode cL_law 485 = .ok (.iadd, 1) := by decide +kernel
theorem dL_law_486 : decode cL_law 486 = .ok (.iaload, 1) := by decide +kernel
theorem dL_law_487 : decode cL_law 487 = .ok (.aload_n 0, 1) := by decide +kernel
theorem dL_law_488 : decode cL_law 488 = .ok (.iload_n 3, 1) := by decide +kernel
theorem dL_law_489 : decode cL_law 489 = .ok (.iconst 2, 1) := by decide +kernel
theorem dL_law_490 : decode cL_law 490 = .ok (.iadd, 1) := by decide +kernel
theorem dL_law_491 : decode cL_law 491 = .ok (.iaload, 1) := by decide +kernel
theorem dL_law_492 : decode cL_law 492 = .ok (.invokevirtual 55, 3) := by decide +kernel
theorem dL_law_495 : decode cL_law 495 = .ok (.if_icmp .eq 810, 3) := by decide +kernel
theorem dL_law_498 : decode cL_law 498 = .ok (.iconst 0, 1) := by decide +kernel
theorem dL_law_499 : decode cL_law 499 = .ok (.ireturn, 1) := by decide +kernel
theorem dL_law_500 : decode cL_law 500 = .ok (.aload_n 1, 1) := by decide +kernel
theorem dL_law_501 : decode cL_law 501 = .ok (.aload_n 0, 1) := by decide +kernel
theorem dL_law_502 : decode cL_law 502 = .ok (.iload_n 3, 1) := by decide +kernel
theorem dL_law_503 : decode cL_law 503 = .ok (.iconst 1, 1) := by decide +kernel
theorem dL_law_504 : decode cL_law 504 = .ok (.iadd, 1) := by decide +kernel
theorem dL_law_505 : decode cL_law 505 = .ok (.iaload, 1) := by decide +kernel
theorem dL_law_506 : decode cL_law 506 = .ok (.invokevirtual 56, 3) := by decide +kernel
theorem dL_law_509 : decode cL_law 509 = .ok (.aload_n 2, 1) := by decide +kernel
theorem dL_law_510 : decode cL_law 510 = .ok (.aload_n 0, 1) := by decide +kernel
theorem dL_law_511 : decode cL_law 511 = .ok (.iload_n 3, 1) := by decide +kernel
theorem dL_law_512 : decode cL_law 512 = .ok (.iconst 1, 1) := by decide +kernel
theorem dL_law_513 : decode cL_law 513 = .ok (.iadd, 1) := by decide +kernel
theorem dL_law_514 : decode cL_law 514 = .ok (.iaload, 1) := by decide +kernel
theorem dL_law_515 : decode cL_law 515 = .ok (.invokevirtual 59, 3) := by decide +kernel
theorem dL_law_518 : decode cL_law 518 = .ok (.if_icmp .eq 787, 3) := by decide +kernel
theorem dL_law_521 : decode cL_law 521 = .ok (.iconst 0, 1) := by decide +kernel
theorem dL_law_522 : decode cL_law 522 = .ok (.ireturn, 1) := by decide +kernel
theorem dL_law_523 : decode cL_law 523 = .ok (.aload_n 1, 1) := by decide +kernel
theorem dL_law_524 : decode cL_law 524 = .ok (.aload_n 0, 1) := by decide +kernel
theorem dL_law_525 : decode cL_law 525 = .ok (.iload_n 3, 1) := by decide +kernel
theorem dL_law_526 : decode cL_law 526 = .ok (.iconst 1, 1) := by decide +kernel
theorem dL_law_527 : decode cL_law 527 = .ok (.iadd, 1) := by decide +kernel
theorem dL_law_528 : decode cL_law 528 = .ok (.iaload, 1) := by decide +kernel
theorem dL_law_529 : decode cL_law 529 = .ok (.invokevirtual 60, 3) := by decide +kernel
theorem dL_law_532 : decode cL_law 532 = .ok (.aload_n 2, 1) := by decide +kernel
theorem dL_law_533 : decode cL_law 533 = .ok (.aload_n 0, 1) := by decide +kernel
theorem dL_law_534 : decode cL_law 534 = .ok (.iload_n 3, 1) := by decide +kernel
theorem dL_law_535 : decode cL_law 535 = .ok (.iconst 1, 1) := by decide +kernel
theorem dL_law_536 : decode cL_law 536 = .ok (.iadd, 1) := by decide +kernel
theorem dL_law_537 : decode cL_law 537 = .ok (.iaload, 1) := by decide +kernel
theorem dL_law_538 : decode cL_law 538 = .ok (.invokevirtual 63, 3) := by decide +kernel
theorem dL_law_541 : decode cL_law 541 = .ok (.if_icmp .eq 764, 3) := by decide +kernel
theorem dL_law_544 : decode cL_law 544 = .ok (.iconst 0, 1) := by decide +kernel
theorem dL_law_545 : decode cL_law 545 = .ok (.ireturn, 1) := by decide +kernel
theorem dL_law_546 : decode cL_law 546 = .ok (.aload_n 1, 1) := by decide +kernel
theorem dL_law_547 : decode cL_law 547 = .ok (.aload_n 0, 1) := by decide +kernel
theorem dL_law_548 : decode cL_law 548 = .ok (.iload_n 3, 1) := by decide +kernel
theorem dL_law_549 : decode cL_law 549 = .ok (.iconst 1, 1) := by decide +kernel
theorem dL_law_550 : decode cL_law 550 = .ok (.iadd, 1) := by decide +kernel
theorem dL_law_551 : decode cL_law 551 = .ok (.iaload, 1) := by decide +kernel
theorem dL_law_552 : decode cL_law 552 = .ok (.aload_n 0, 1) := by decide +kernel
theorem dL_law_553 : decode cL_law 553 = .ok (.iload_n 3, 1) := by decide +kernel
theorem dL_law_554 : decode cL_law 554 = .ok (.iconst 2, 1) := by decide +kernel
theorem dL_law_555 : decode cL_law 555 = .ok (.iadd, 1) := by decide +kernel
theorem dL_law_556 : decode cL_law 556 = .ok (.iaload, 1) := by decide +kernel
theorem dL_law_557 : decode cL_law 557 = .ok (.aload_n 0, 1) := by decide +kernel
theorem dL_law_558 : decode cL_law 558 = .ok (.iload_n 3, 1) := by decide +kernel
theorem dL_law_559 : decode cL_law 559 = .ok (.iconst 3, 1) := by decide +kernel
theorem dL_law_560 : decode cL_law 560 = .ok (.iadd, 1) := by decide +kernel
theorem dL_law_561 : decode cL_law 561 = .ok (.iaload, 1) := by decide +kernel
theorem dL_law_562 : decode cL_law 562 = .ok (.invokevirtual 64, 3) := by decide +kernel
theorem dL_law_565 : decode cL_law 565 = .ok (.aload_n 2, 1) := by decide +kernel
theorem dL_law_566 : decode cL_law 566 = .ok (.aload_n 0, 1) := by decide +kernel
theorem dL_law_567 : decode cL_law 567 = .ok (.iload_n 3, 1) := by decide +kernel
theorem dL_law_568 : decode cL_law 568 = .ok (.iconst 1, 1) := by decide +kernel
theorem dL_law_569 : decode cL_law 569 = .ok (.iadd, 1) := by decide +kernel
theorem dL_law_570 : decode cL_law 570 = .ok (.iaload, 1) := by decide +kernel
theorem dL_law_571 : decode cL_law 571 = .ok (.aload_n 0, 1) := by decide +kernel
theorem dL_law_572 : decode cL_law 572 = .ok (.iload_n 3, 1) := by decide +kernel
theorem dL_law_573 : decode cL_law 573 = .ok (.iconst 2, 1) := by decide +kernel
theorem dL_law_574 : decode cL_law 574 = .ok (.iadd, 1) := by decide +kernel
theorem dL_law_575 : decode cL_law 575 = .ok (.iaload, 1) := by decide +kernel
theorem dL_law_576 : decode cL_law 576 = .ok (.aload_n 0, 1) := by decide +kernel
theorem dL_law_577 : decode cL_law 577 = .ok (.iload_n 3, 1) := by decide +kernel
theorem dL_law_578 : decode cL_law 578 = .ok (.iconst 3, 1) := by decide +kernel
theorem dL_law_579 : decode cL_law 579 = .ok (.iadd, 1) := by decide +kernel
theorem dL_law_580 : decode cL_law 580 = .ok (.iaload, 1) := by decide +kernel
theorem dL_law_581 : decode cL_law 581 = .ok (.invokevirtual 67, 3) := by decide +kernel
theorem dL_law_584 : decode cL_law 584 = .ok (.if_icmp .eq 721, 3) := by decide +kernel
theorem dL_law_587 : decode cL_law 587 = .ok (.iconst 0, 1) := by decide +kernel
theorem dL_law_588 : decode cL_law 588 = .ok (.ireturn, 1) := by decide +kernel
theorem dL_law_589 : decode cL_law 589 = .ok (.aload_n 1, 1) := by decide +kernel
theorem dL_law_590 : decode cL_law 590 = .ok (.aload_n 0, 1) := by decide +kernel
theorem dL_law_591 : decode cL_law 591 = .ok (.iload_n 3, 1) := by decide +kernel
theorem dL_law_592 : decode cL_law 592 = .ok (.iconst 1, 1) := by decide +kernel
theorem dL_law_593 : decode cL_law 593 = .ok (.iadd, 1) := by decide +kernel
theorem dL_law_594 : decode cL_law 594 = .ok (.iaload, 1) := by decide +kernel
theorem dL_law_595 : decode cL_law 595 = .ok (.aload_n 0, 1) := by decide +kernel
theorem dL_law_596 : decode cL_law 596 = .ok (.iload_n 3, 1) := by decide +kernel
theorem dL_law_597 : decode cL_law 597 = .ok (.iconst 2, 1) := by decide +kernel
theorem dL_law_598 : decode cL_law 598 = .ok (.iadd, 1) := by decide +kernel
theorem dL_law_599 : decode cL_law 599 = .ok (.iaload, 1) := by decide +kernel
theorem dL_law_600 : decode cL_law 600 = .ok (.invokevirtual 68, 3) := by decide +kernel
theorem dL_law_603 : decode cL_law 603 = .ok (.aload_n 2, 1) := by decide +kernel
theorem dL_law_604 : decode cL_law 604 = .ok (.aload_n 0, 1) := by decide +kernel
theorem dL_law_605 : decode cL_law 605 = .ok (.iload_n 3, 1) := by decide +kernel
theorem dL_law_606 : decode cL_law 606 = .ok (.iconst 1, 1) := by decide +kernel
theorem dL_law_607 : decode cL_law 607 = .ok (.iadd, 1) := by decide +kernel
theorem dL_law_608 : decode cL_law 608 = .ok (.iaload, 1) := by decide +kernel
theorem dL_law_609 : decode cL_law 609 = .ok (.aload_n 0, 1) := by decide +kernel
theorem dL_law_610 : decode cL_law 610 = .ok (.iload_n 3, 1) := by decide +kernel
theorem dL_law_611 : decode cL_law 611 = .ok (.iconst 2, 1) := by decide +kernel
theorem dL_law_612 : decode cL_law 612 = .ok (.iadd, 1) := by decide +kernel
theorem dL_law_613 : decode cL_law 613 = .ok (.iaload, 1) := by decide +kernel
theorem dL_law_614 : decode cL_law 614 = .ok (.invokevirtual 71, 3) := by decide +kernel
theorem dL_law_617 : decode cL_law 617 = .ok (.if_icmp .eq 688, 3) := by decide +kernel
theorem dL_law_620 : decode cL_law 620 = .ok (.iconst 0, 1) := by decide +kernel
theorem dL_law_621 : decode cL_law 621 = .ok (.ireturn, 1) := by decide +kernel
theorem dL_law_622 : decode cL_law 622 = .ok (.aload_n 1, 1) := by decide +kernel
theorem dL_law_623 : decode cL_law 623 = .ok (.aload_n 0, 1) := by decide +kernel
theorem dL_law_624 : decode cL_law 624 = .ok (.iload_n 3, 1) := by decide +kernel
theorem dL_law_625 : decode cL_law 625 = .ok (.iconst 1, 1) := by decide +kernel
theorem dL_law_626 : decode cL_law 626 = .ok (.iadd, 1) := by decide +kernel
theorem dL_law_627 : decode cL_law 627 = .ok (.iaload, 1) := by decide +kernel
theorem dL_law_628 : decode cL_law 628 = .ok (.invokevirtual 72, 3) := by decide +kernel
theorem dL_law_631 : decode cL_law 631 = .ok (.aload_n 2, 1) := by decide +kernel
theorem dL_law_632 : decode cL_law 632 = .ok (.aload_n 0, 1) := by decide +kernel
theorem dL_law_633 : decode cL_law 633 = .ok (.iload_n 3, 1) := by decide +kernel
theorem dL_law_634 : decode cL_law 634 = .ok (.iconst 1, 1) := by decide +kernel
theorem dL_law_635 : decode cL_law 635 = .ok (.iadd, 1) := by decide +kernel
theorem dL_law_636 : decode cL_law 636 = .ok (.iaload, 1) := by decide +kernel
theorem dL_law_637 : decode cL_law 637 = .ok (.invokevirtual 75, 3) := by decide +kernel
theorem dL_law_640 : decode cL_law 640 = .ok (.if_icmp .eq 665, 3) := by decide +kernel
theorem dL_law_643 : decode cL_law 643 = .ok (.iconst 0, 1) := by decide +kernel
theorem dL_law_644 : decode cL_law 644 = .ok (.ireturn, 1) := by decide +kernel
theorem dL_law_645 : decode cL_law 645 = .ok (.aload_n 1, 1) := by decide +kernel
theorem dL_law_646 : decode cL_law 646 = .ok (.aload_n 0, 1) := by decide +kernel
theorem dL_law_647 : decode cL_law 647 = .ok (.iload_n 3, 1) := by decide +kernel
theorem dL_law_648 : decode cL_law 648 = .ok (.iconst 1, 1) := by decide +kernel
theorem dL_law_649 : decode cL_law 649 = .ok (.iadd, 1) := by decide +kernel
theorem dL_law_650 : decode cL_law 650 = .ok (.iaload, 1) := by decide +kernel
theorem dL_law_651 : decode cL_law 651 = .ok (.invokevirtual 76, 3) := by decide +kernel
theorem dL_law_654 : decode cL_law 654 = .ok (.aload_n 2, 1) := by decide +kernel
theorem dL_law_655 : decode cL_law 655 = .ok (.aload_n 0, 1) := by decide +kernel
theorem dL_law_656 : decode cL_law 656 = .ok (.iload_n 3, 1) := by decide +kernel
theorem dL_law_657 : decode cL_law 657 = .ok (.iconst 1, 1) := by decide +kernel
theorem dL_law_658 : decode cL_law 658 = .ok (.iadd, 1) := by decide +kernel
theorem dL_law_659 : decode cL_law 659 = .ok (.iaload, 1) := by decide +kernel
theorem dL_law_660 : decode cL_law 660 = .ok (.invokevirtual 79, 3) := by decide +kernel
theorem dL_law_663 : decode cL_law 663 = .ok (.if_icmp .eq 642, 3) := by decide +kernel
theorem dL_law_666 : decode cL_law 666 = .ok (.iconst 0, 1) := by decide +kernel
theorem dL_law_667 : decode cL_law 667 = .ok (.ireturn, 1) := by decide +kernel
theorem dL_law_668 : decode cL_law 668 = .ok (.aload_n 1, 1) := by decide +kernel
theorem dL_law_669 : decode cL_law 669 = .ok (.aload_n 0, 1) := by decide +kernel
theorem dL_law_670 : decode cL_law 670 = .ok (.iload_n 3, 1) := by decide +kernel
theorem dL_law_671 : decode cL_law 671 = .ok (.iconst 1, 1) := by decide +kernel
theorem dL_law_672 : decode cL_law 672 = .ok (.iadd, 1) := by decide +kernel
theorem dL_law_673 : decode cL_law 673 = .ok (.iaload, 1) := by decide +kernel
theorem dL_law_674 : decode cL_law 674 = .ok (.invokevirtual 80, 3) := by decide +kernel
theorem dL_law_677 : decode cL_law 677 = .ok (.aload_n 2, 1) := by decide +kernel
theorem dL_law_678 : decode cL_law 678 = .ok (.aload_n 0, 1) := by decide +kernel
theorem dL_law_679 : decode cL_law 679 = .ok (.iload_n 3, 1) := by decide +kernel
theorem dL_law_680 : decode cL_law 680 = .ok (.iconst 1, 1) := by decide +kernel
theorem dL_law_681 : decode cL_law 681 = .ok (.iadd, 1) := by decide +kernel
theorem dL_law_682 : decode cL_law 682 = .ok (.iaload, 1) := by decide +kernel
theorem dL_law_683 : decode cL_law 683 = .ok (.invokevirtual 83, 3) := by decide +kernel
theorem dL_law_686 : decode cL_law 686 = .ok (.if_icmp .eq 619, 3) := by decide +kernel
theorem dL_law_689 : decode cL_law 689 = .ok (.iconst 0, 1) := by decide +kernel
theorem dL_law_690 : decode cL_law 690 = .ok (.ireturn, 1) := by decide +kernel
theorem dL_law_691 : decode cL_law 691 = .ok (.aload_n 1, 1) := by decide +kernel
theorem dL_law_692 : decode cL_law 692 = .ok (.aload_n 0, 1) := by decide +kernel
theorem dL_law_693 : decode cL_law 693 = .ok (.iload_n 3, 1) := by decide +kernel
theorem dL_law_694 : decode cL_law 694 = .ok (.iconst 1, 1) := by decide +kernel
theorem dL_law_695 : decode cL_law 695 = .ok (.iadd, 1) := by decide +kernel
theorem dL_law_696 : decode cL_law 696 = .ok (.iaload, 1) := by decide +kernel
theorem dL_law_697 : decode cL_law 697 = .ok (.aload_n 0, 1) := by decide +kernel
theorem dL_law_698 : decode cL_law 698 = .ok (.iload_n 3, 1) := by decide +kernel
theorem dL_law_699 : decode cL_law 699 = .ok (.iconst 2, 1) := by decide +kernel
theorem dL_law_700 : decode cL_law 700 = .ok (.iadd, 1) := by decide +kernel
theorem dL_law_701 : decode cL_law 701 = .ok (.iaload, 1) := by decide +kernel
theorem dL_law_702 : decode cL_law 702 = .ok (.invokevirtual 84, 3) := by decide +kernel
theorem dL_law_705 : decode cL_law 705 = .ok (.aload_n 2, 1) := by decide +kernel
theorem dL_law_706 : decode cL_law 706 = .ok (.aload_n 0, 1) := by decide +kernel
theorem dL_law_707 : decode cL_law 707 = .ok (.iload_n 3, 1) := by decide +kernel
theorem dL_law_708 : decode cL_law 708 = .ok (.iconst 1, 1) := by decide +kernel
theorem dL_law_709 : decode cL_law 709 = .ok (.iadd, 1) := by decide +kernel
theorem dL_law_710 : decode cL_law 710 = .ok (.iaload, 1) := by decide +kernel
theorem dL_law_711 : decode cL_law 711 = .ok (.aload_n 0, 1) := by decide +kernel
theorem dL_law_712 : decode cL_law 712 = .ok (.iload_n 3, 1) := by decide +kernel
theorem dL_law_713 : decode cL_law 713 = .ok (.iconst 2, 1) := by decide +kernel
theorem dL_law_714 : decode cL_law 714 = .ok (.iadd, 1) := by decide +kernel
theorem dL_law_715 : decode cL_law 715 = .ok (.iaload, 1) := by decide +kernel
theorem dL_law_716 : decode cL_law 716 = .ok (.invokevirtual 87, 3) := by decide +kernel
theorem dL_law_719 : decode cL_law 719 = .ok (.if_icmp .eq 586, 3) := by decide +kernel
theorem dL_law_722 : decode cL_law 722 = .ok (.iconst 0, 1) := by decide +kernel
theorem dL_law_723 : decode cL_law 723 = .ok (.ireturn, 1) := by decide +kernel
theorem dL_law_724 : decode cL_law 724 = .ok (.aload_n 1, 1) := by decide +kernel
theorem dL_law_725 : decode cL_law 725 = .ok (.aload_n 0, 1) := by decide +kernel
theorem dL_law_726 : decode cL_law 726 = .ok (.iload_n 3, 1) := by decide +kernel
theorem dL_law_727 : decode cL_law 727 = .ok (.iconst 1, 1) := by decide +kernel
theorem dL_law_728 : decode cL_law 728 = .ok (.iadd, 1) := by decide +kernel
theorem dL_law_729 : decode cL_law 729 = .ok (.iaload, 1) := by decide +kernel
theorem dL_law_730 : decode cL_law 730 = .ok (.aload_n 0, 1) := by decide +kernel
theorem dL_law_731 : decode cL_law 731 = .ok (.iload_n 3, 1) := by decide +kernel
theorem dL_law_732 : decode cL_law 732 = .ok (.iconst 2, 1) := by decide +kernel
theorem dL_law_733 : decode cL_law 733 = .ok (.iadd, 1) := by decide +kernel
theorem dL_law_734 : decode cL_law 734 = .ok (.iaload, 1) := by decide +kernel
theorem dL_law_735 : decode cL_law 735 = .ok (.invokevirtual 88, 3) := by decide +kernel
theorem dL_law_738 : decode cL_law 738 = .ok (.aload_n 2, 1) := by decide +kernel
theorem dL_law_739 : decode cL_law 739 = .ok (.aload_n 0, 1) := by decide +kernel
theorem dL_law_740 : decode cL_law 740 = .ok (.iload_n 3, 1) := by decide +kernel
theorem dL_law_741 : decode cL_law 741 = .ok (.iconst 1, 1) := by decide +kernel
theorem dL_law_742 : decode cL_law 742 = .ok (.iadd, 1) := by decide +kernel
theorem dL_law_743 : decode cL_law 743 = .ok (.iaload, 1) := by decide +kernel
theorem dL_law_744 : decode cL_law 744 = .ok (.aload_n 0, 1) := by decide +kernel
theorem dL_law_745 : decode cL_law 745 = .ok (.iload_n 3, 1) := by decide +kernel
theorem dL_law_746 : decode cL_law 746 = .ok (.iconst 2, 1) := by decide +kernel
theorem dL_law_747 : decode cL_law 747 = .ok (.iadd, 1) := by decide +kernel
theorem dL_law_748 : decode cL_law 748 = .ok (.iaload, 1) := by decide +kernel
theorem dL_law_749 : decode cL_law 749 = .ok (.invokevirtual 91, 3) := by decide +kernel
theorem dL_law_752 : decode cL_law 752 = .ok (.if_icmp .eq 553, 3) := by decide +kernel
theorem dL_law_755 : decode cL_law 755 = .ok (.iconst 0, 1) := by decide +kernel
theorem dL_law_756 : decode cL_law 756 = .ok (.ireturn, 1) := by decide +kernel
theorem dL_law_757 : decode cL_law 757 = .ok (.aload_n 1, 1) := by decide +kernel
theorem dL_law_758 : decode cL_law 758 = .ok (.aload_n 0, 1) := by decide +kernel
theorem dL_law_759 : decode cL_law 759 = .ok (.iload_n 3, 1) := by decide +kernel
theorem dL_law_760 : decode cL_law 760 = .ok (.iconst 1, 1) := by decide +kernel
theorem dL_law_761 : decode cL_law 761 = .ok (.iadd, 1) := by decide +kernel
theorem dL_law_762 : decode cL_law 762 = .ok (.iaload, 1) := by decide +kernel
theorem dL_law_763 : decode cL_law 763 = .ok (.invokevirtual 92, 3) := by decide +kernel
theorem dL_law_766 : decode cL_law 766 = .ok (.aload_n 2, 1) := by decide +kernel
theorem dL_law_767 : decode cL_law 767 = .ok (.aload_n 0, 1) := by decide +kernel
theorem dL_law_768 : decode cL_law 768 = .ok (.iload_n 3, 1) := by decide +kernel
theorem dL_law_769 : decode cL_law 769 = .ok (.iconst 1, 1) := by decide +kernel
theorem dL_law_770 : decode cL_law 770 = .ok (.iadd, 1) := by decide +kernel
theorem dL_law_771 : decode cL_law 771 = .ok (.iaload, 1) := by decide +kernel
theorem dL_law_772 : decode cL_law 772 = .ok (.invokevirtual 95, 3) := by decide +kernel
theorem dL_law_775 : decode cL_law 775 = .ok (.if_icmp .eq 530, 3) := by decide +kernel
theorem dL_law_778 : decode cL_law 778 = .ok (.iconst 0, 1) := by decide +kernel
theorem dL_law_779 : decode cL_law 779 = .ok (.ireturn, 1) := by decide +kernel
theorem dL_law_780 : decode cL_law 780 = .ok (.aload_n 1, 1) := by decide +kernel
theorem dL_law_781 : decode cL_law 781 = .ok (.aload_n 0, 1) := by decide +kernel
theorem dL_law_782 : decode cL_law 782 = .ok (.iload_n 3, 1) := by decide +kernel
theorem dL_law_783 : decode cL_law 783 = .ok (.iconst 1, 1) := by decide +kernel
theorem dL_law_784 : decode cL_law 784 = .ok (.iadd, 1) := by decide +kernel
theorem dL_law_785 : decode cL_law 785 = .ok (.iaload, 1) := by decide +kernel
theorem dL_law_786 : decode cL_law 786 = .ok (.aload_n 0, 1) := by decide +kernel
theorem dL_law_787 : decode cL_law 787 = .ok (.iload_n 3, 1) := by decide +kernel
theorem dL_law_788 : decode cL_law 788 = .ok (.iconst 2, 1) := by decide +kernel
theorem dL_law_789 : decode cL_law 789 = .ok (.iadd, 1) := by decide +kernel
theorem dL_law_790 : decode cL_law 790 = .ok (.iaload, 1) := by decide +kernel
theorem dL_law_791 : decode cL_law 791 = .ok (.invokevirtual 96, 3) := by decide +kernel
theorem dL_law_794 : decode cL_law 794 = .ok (.aload_n 2, 1) := by decide +kernel
theorem dL_law_795 : decode cL_law 795 = .ok (.aload_n 0, 1) := by decide +kernel
theorem dL_law_796 : decode cL_law 796 = .ok (.iload_n 3, 1) := by decide +kernel
theorem dL_law_797 : decode cL_law 797 = .ok (.iconst 1, 1) := by decide +kernel
theorem dL_law_798 : decode cL_law 798 = .ok (.iadd, 1) := by decide +kernel
theorem dL_law_799 : decode cL_law 799 = .ok (.iaload, 1) := by decide +kernel
theorem dL_law_800 : decode cL_law 800 = .ok (.aload_n 0, 1) := by decide +kernel
theorem dL_law_801 : decode cL_law 801 = .ok (.iload_n 3, 1) := by decide +kernel
theorem dL_law_802 : decode cL_law 802 = .ok (.iconst 2, 1) := by decide +kernel
theorem dL_law_803 : decode cL_law 803 = .ok (.iadd, 1) := by decide +kernel
theorem dL_law_804 : decode cL_law 804 = .ok (.iaload, 1) := by decide +kernel
theorem dL_law_805 : decode cL_law 805 = .ok (.invokevirtual 99, 3) := by decide +kernel
theorem dL_law_808 : decode cL_law 808 = .ok (.if_icmp .eq 497, 3) := by decide +kernel
theorem dL_law_811 : decode cL_law 811 = .ok (.iconst 0, 1) := by decide +kernel
theorem dL_law_812 : decode cL_law 812 = .ok (.ireturn, 1) := by decide +kernel
theorem dL_law_813 : decode cL_law 813 = .ok (.aload_n 1, 1) := by decide +kernel
theorem dL_law_814 : decode cL_law 814 = .ok (.aload_n 0, 1) := by decide +kernel
theorem dL_law_815 : decode cL_law 815 = .ok (.iload_n 3, 1) := by decide +kernel
theorem dL_law_816 : decode cL_law 816 = .ok (.iconst 1, 1) := by decide +kernel
theorem dL_law_817 : decode cL_law 817 = .ok (.iadd, 1) := by decide +kernel
theorem dL_law_818 : decode cL_law 818 = .ok (.iaload, 1) := by decide +kernel
theorem dL_law_819 : decode cL_law 819 = .ok (.aload_n 0, 1) := by decide +kernel
theorem dL_law_820 : decode cL_law 820 = .ok (.iload_n 3, 1) := by decide +kernel
theorem dL_law_821 : decode cL_law 821 = .ok (.iconst 2, 1) := by decide +kernel
theorem dL_law_822 : decode cL_law 822 = .ok (.iadd, 1) := by decide +kernel
theorem dL_law_823 : decode cL_law 823 = .ok (.iaload, 1) := by decide +kernel
theorem dL_law_824 : decode cL_law 824 = .ok (.invokevirtual 100, 3) := by decide +kernel
theorem dL_law_827 : decode cL_law 827 = .ok (.aload_n 2, 1) := by decide +kernel
theorem dL_law_828 : decode cL_law 828 = .ok (.aload_n 0, 1) := by decide +kernel
theorem dL_law_829 : decode cL_law 829 = .ok (.iload_n 3, 1) := by decide +kernel
theorem dL_law_830 : decode cL_law 830 = .ok (.iconst 1, 1) := by decide +kernel
theorem dL_law_831 : decode cL_law 831 = .ok (.iadd, 1) := by decide +kernel
theorem dL_law_832 : decode cL_law 832 = .ok (.iaload, 1) := by decide +kernel
theorem dL_law_833 : decode cL_law 833 = .ok (.aload_n 0, 1) := by decide +kernel
theorem dL_law_834 : decode cL_law 834 = .ok (.iload_n 3, 1) := by decide +kernel
theorem dL_law_835 : decode cL_law 835 = .ok (.iconst 2, 1) := by decide +kernel
theorem dL_law_836 : decode cL_law 836 = .ok (.iadd, 1) := by decide +kernel
theorem dL_law_837 : decode cL_law 837 = .ok (.iaload, 1) := by decide +kernel
theorem dL_law_838 : decode cL_law 838 = .ok (.invokevirtual 103, 3) := by decide +kernel
theorem dL_law_841 : decode cL_law 841 = .ok (.if_icmp .eq 464, 3) := by decide +kernel
theorem dL_law_844 : decode cL_law 844 = .ok (.iconst 0, 1) := by decide +kernel
theorem dL_law_845 : decode cL_law 845 = .ok (.ireturn, 1) := by decide +kernel
theorem dL_law_846 : decode cL_law 846 = .ok (.aload_n 1, 1) := by decide +kernel
theorem dL_law_847 : decode cL_law 847 = .ok (.aload_n 0, 1) := by decide +kernel
theorem dL_law_848 : decode cL_law 848 = .ok (.iload_n 3, 1) := by decide +kernel
theorem dL_law_849 : decode cL_law 849 = .ok (.iconst 1, 1) := by decide +kernel
theorem dL_law_850 : decode cL_law 850 = .ok (.iadd, 1) := by decide +kernel
theorem dL_law_851 : decode cL_law 851 = .ok (.iaload, 1) := by decide +kernel
theorem dL_law_852 : decode cL_law 852 = .ok (.invokevirtual 104, 3) := by decide +kernel
theorem dL_law_855 : decode cL_law 855 = .ok (.aload_n 2, 1) := by decide +kernel
theorem dL_law_856 : decode cL_law 856 = .ok (.aload_n 0, 1) := by decide +kernel
theorem dL_law_857 : decode cL_law 857 = .ok (.iload_n 3, 1) := by decide +kernel
theorem dL_law_858 : decode cL_law 858 = .ok (.iconst 1, 1) := by decide +kernel
theorem dL_law_859 : decode cL_law 859 = .ok (.iadd, 1) := by decide +kernel
theorem dL_law_860 : decode cL_law 860 = .ok (.iaload, 1) := by decide +kernel
theorem dL_law_861 : decode cL_law 861 = .ok (.invokevirtual 107, 3) := by decide +kernel
theorem dL_law_864 : decode cL_law 864 = .ok (.if_icmp .eq 441, 3) := by decide +kernel
theorem dL_law_867 : decode cL_law 867 = .ok (.iconst 0, 1) := by decide +kernel
theorem dL_law_868 : decode cL_law 868 = .ok (.ireturn, 1) := by decide +kernel
theorem dL_law_869 : decode cL_law 869 = .ok (.aload_n 1, 1) := by decide +kernel
theorem dL_law_870 : decode cL_law 870 = .ok (.aload_n 0, 1) := by decide +kernel
theorem dL_law_871 : decode cL_law 871 = .ok (.iload_n 3, 1) := by decide +kernel
theorem dL_law_872 : decode cL_law 872 = .ok (.iconst 1, 1) := by decide +kernel
theorem dL_law_873 : decode cL_law 873 = .ok (.iadd, 1) := by decide +kernel
theorem dL_law_874 : decode cL_law 874 = .ok (.iaload, 1) := by decide +kernel
theorem dL_law_875 : decode cL_law 875 = .ok (.invokevirtual 108, 3) := by decide +kernel
theorem dL_law_878 : decode cL_law 878 = .ok (.aload_n 2, 1) := by decide +kernel
theorem dL_law_879 : decode cL_law 879 = .ok (.aload_n 0, 1) := by decide +kernel
theorem dL_law_880 : decode cL_law 880 = .ok (.iload_n 3, 1) := by decide +kernel
theorem dL_law_881 : decode cL_law 881 = .ok (.iconst 1, 1) := by decide +kernel
theorem dL_law_882 : decode cL_law 882 = .ok (.iadd, 1) := by decide +kernel
theorem dL_law_883 : decode cL_law 883 = .ok (.iaload, 1) := by decide +kernel
theorem dL_law_884 : decode cL_law 884 = .ok (.invokevirtual 111, 3) := by decide +kernel
theorem dL_law_887 : decode cL_law 887 = .ok (.if_icmp .eq 418, 3) := by decide +kernel
theorem dL_law_890 : decode cL_law 890 = .ok (.iconst 0, 1) := by decide +kernel
theorem dL_law_891 : decode cL_law 891 = .ok (.ireturn, 1) := by decide +kernel
theorem dL_law_892 : decode cL_law 892 = .ok (.aload_n 1, 1) := by decide +kernel
theorem dL_law_893 : decode cL_law 893 = .ok (.aload_n 0, 1) := by decide +kernel
theorem dL_law_894 : decode cL_law 894 = .ok (.iload_n 3, 1) := by decide +kernel
theorem dL_law_895 : decode cL_law 895 = .ok (.iconst 1, 1) := by decide +kernel
theorem dL_law_896 : decode cL_law 896 = .ok (.iadd, 1) := by decide +kernel
theorem dL_law_897 : decode cL_law 897 = .ok (.iaload, 1) := by decide +kernel
theorem dL_law_898 : decode cL_law 898 = .ok (.aload_n 0, 1) := by decide +kernel
theorem dL_law_899 : decode cL_law 899 = .ok (.iload_n 3, 1) := by decide +kernel
theorem dL_law_900 : decode cL_law 900 = .ok (.iconst 2, 1) := by decide +kernel
theorem dL_law_901 : decode cL_law 901 = .ok (.iadd, 1) := by decide +kernel
theorem dL_law_902 : decode cL_law 902 = .ok (.iaload, 1) := by decide +kernel
theorem dL_law_903 : decode cL_law 903 = .ok (.invokevirtual 112, 3) := by decide +kernel
theorem dL_law_906 : decode cL_law 906 = .ok (.aload_n 2, 1) := by decide +kernel
theorem dL_law_907 : decode cL_law 907 = .ok (.aload_n 0, 1) := by decide +kernel
theorem dL_law_908 : decode cL_law 908 = .ok (.iload_n 3, 1) := by decide +kernel
theorem dL_law_909 : decode cL_law 909 = .ok (.iconst 1, 1) := by decide +kernel
theorem dL_law_910 : decode cL_law 910 = .ok (.iadd, 1) := by decide +kernel
theorem dL_law_911 : decode cL_law 911 = .ok (.iaload, 1) := by decide +kernel
theorem dL_law_912 : decode cL_law 912 = .ok (.aload_n 0, 1) := by decide +kernel
theorem dL_law_913 : decode cL_law 913 = .ok (.iload_n 3, 1) := by decide +kernel
theorem dL_law_914 : decode cL_law 914 = .ok (.iconst 2, 1) := by decide +kernel
theorem dL_law_915 : decode cL_law 915 = .ok (.iadd, 1) := by decide +kernel
theorem dL_law_916 : decode cL_law 916 = .ok (.iaload, 1) := by decide +kernel
theorem dL_law_917 : decode cL_law 917 = .ok (.invokevirtual 115, 3) := by decide +kernel
theorem dL_law_920 : decode cL_law 920 = .ok (.if_icmp .eq 385, 3) := by decide +kernel
theorem dL_law_923 : decode cL_law 923 = .ok (.iconst 0, 1) := by decide +kernel
theorem dL_law_924 : decode cL_law 924 = .ok (.ireturn, 1) := by decide +kernel
theorem dL_law_925 : decode cL_law 925 = .ok (.aload_n 1, 1) := by decide +kernel
theorem dL_law_926 : decode cL_law 926 = .ok (.invokevirtual 116, 3) := by decide +kernel
theorem dL_law_929 : decode cL_law 929 = .ok (.aload_n 2, 1) := by decide +kernel
theorem dL_law_930 : decode cL_law 930 = .ok (.invokevirtual 120, 3) := by decide +kernel
theorem dL_law_933 : decode cL_law 933 = .ok (.if_icmp .eq 372, 3) := by decide +kernel
theorem dL_law_936 : decode cL_law 936 = .ok (.iconst 0, 1) := by decide +kernel
theorem dL_law_937 : decode cL_law 937 = .ok (.ireturn, 1) := by decide +kernel
theorem dL_law_938 : decode cL_law 938 = .ok (.aload_n 1, 1) := by decide +kernel
theorem dL_law_939 : decode cL_law 939 = .ok (.invokevirtual 121, 3) := by decide +kernel
theorem dL_law_942 : decode cL_law 942 = .ok (.aload_n 2, 1) := by decide +kernel
theorem dL_law_943 : decode cL_law 943 = .ok (.invokevirtual 124, 3) := by decide +kernel
theorem dL_law_946 : decode cL_law 946 = .ok (.if_icmp .eq 359, 3) := by decide +kernel
theorem dL_law_949 : decode cL_law 949 = .ok (.iconst 0, 1) := by decide +kernel
theorem dL_law_950 : decode cL_law 950 = .ok (.ireturn, 1) := by decide +kernel
theorem dL_law_951 : decode cL_law 951 = .ok (.aload_n 1, 1) := by decide +kernel
theorem dL_law_952 : decode cL_law 952 = .ok (.aload_n 0, 1) := by decide +kernel
theorem dL_law_953 : decode cL_law 953 = .ok (.iload_n 3, 1) := by decide +kernel
theorem dL_law_954 : decode cL_law 954 = .ok (.iconst 1, 1) := by decide +kernel
theorem dL_law_955 : decode cL_law 955 = .ok (.iadd, 1) := by decide +kernel
theorem dL_law_956 : decode cL_law 956 = .ok (.iaload, 1) := by decide +kernel
theorem dL_law_957 : decode cL_law 957 = .ok (.aload_n 0, 1) := by decide +kernel
theorem dL_law_958 : decode cL_law 958 = .ok (.iload_n 3, 1) := by decide +kernel
theorem dL_law_959 : decode cL_law 959 = .ok (.iconst 2, 1) := by decide +kernel
theorem dL_law_960 : decode cL_law 960 = .ok (.iadd, 1) := by decide +kernel
theorem dL_law_961 : decode cL_law 961 = .ok (.iaload, 1) := by decide +kernel
theorem dL_law_962 : decode cL_law 962 = .ok (.aload_n 0, 1) := by decide +kernel
theorem dL_law_963 : decode cL_law 963 = .ok (.iload_n 3, 1) := by decide +kernel
theorem dL_law_964 : decode cL_law 964 = .ok (.iconst 3, 1) := by decide +kernel
theorem dL_law_965 : decode cL_law 965 = .ok (.iadd, 1) := by decide +kernel
theorem dL_law_966 : decode cL_law 966 = .ok (.iaload, 1) := by decide +kernel
theorem dL_law_967 : decode cL_law 967 = .ok (.invokevirtual 125, 3) := by decide +kernel
theorem dL_law_970 : decode cL_law 970 = .ok (.aload_n 2, 1) := by decide +kernel
theorem dL_law_971 : decode cL_law 971 = .ok (.aload_n 0, 1) := by decide +kernel
theorem dL_law_972 : decode cL_law 972 = .ok (.iload_n 3, 1) := by decide +kernel
theorem dL_law_973 : decode cL_law 973 = .ok (.iconst 1, 1) := by decide +kernel
theorem dL_law_974 : decode cL_law 974 = .ok (.iadd, 1) := by decide +kernel
theorem dL_law_975 : decode cL_law 975 = .ok (.iaload, 1) := by decide +kernel
theorem dL_law_976 : decode cL_law 976 = .ok (.aload_n 0, 1) := by decide +kernel
theorem dL_law_977 : decode cL_law 977 = .ok (.iload_n 3, 1) := by decide +kernel
theorem dL_law_978 : decode cL_law 978 = .ok (.iconst 2, 1) := by decide +kernel
theorem dL_law_979 : decode cL_law 979 = .ok (.iadd, 1) := by decide +kernel
theorem dL_law_980 : decode cL_law 980 = .ok (.iaload, 1) := by decide +kernel
theorem dL_law_981 : decode cL_law 981 = .ok (.aload_n 0, 1) := by decide +kernel
theorem dL_law_982 : decode cL_law 982 = .ok (.iload_n 3, 1) := by decide +kernel
theorem dL_law_983 : decode cL_law 983 = .ok (.iconst 3, 1) := by decide +kernel
theorem dL_law_984 : decode cL_law 984 = .ok (.iadd, 1) := by decide +kernel
theorem dL_law_985 : decode cL_law 985 = .ok (.iaload, 1) := by decide +kernel
theorem dL_law_986 : decode cL_law 986 = .ok (.invokevirtual 128, 3) := by decide +kernel
theorem dL_law_989 : decode cL_law 989 = .ok (.if_icmp .eq 316, 3) := by decide +kernel
theorem dL_law_992 : decode cL_law 992 = .ok (.iconst 0, 1) := by decide +kernel
theorem dL_law_993 : decode cL_law 993 = .ok (.ireturn, 1) := by decide +kernel
theorem dL_law_994 : decode cL_law 994 = .ok (.aload_n 1, 1) := by decide +kernel
theorem dL_law_995 : decode cL_law 995 = .ok (.aload_n 0, 1) := by decide +kernel
theorem dL_law_996 : decode cL_law 996 = .ok (.iload_n 3, 1) := by decide +kernel
theorem dL_law_997 : decode cL_law 997 = .ok (.iconst 1, 1) := by decide +kernel
theorem dL_law_998 : decode cL_law 998 = .ok (.iadd, 1) := by decide +kernel
theorem dL_law_999 : decode cL_law 999 = .ok (.iaload, 1) := by decide +kernel
theorem dL_law_1000 : decode cL_law 1000 = .ok (.aload_n 0, 1) := by decide +kernel
theorem dL_law_1001 : decode cL_law 1001 = .ok (.iload_n 3, 1) := by decide +kernel
theorem dL_law_1002 : decode cL_law 1002 = .ok (.iconst 2, 1) := by decide +kernel
theorem dL_law_1003 : decode cL_law 1003 = .ok (.iadd, 1) := by decide +kernel
theorem dL_law_1004 : decode cL_law 1004 = .ok (.iaload, 1) := by decide +kernel
theorem dL_law_1005 : decode cL_law 1005 = .ok (.aload_n 0, 1) := by decide +kernel
theorem dL_law_1006 : decode cL_law 1006 = .ok (.iload_n 3, 1) := by decide +kernel
theorem dL_law_1007 : decode cL_law 1007 = .ok (.iconst 3, 1) := by decide +kernel
theorem dL_law_1008 : decode cL_law 1008 = .ok (.iadd, 1) := by decide +kernel
theorem dL_law_1009 : decode cL_law 1009 = .ok (.iaload, 1) := by decide +kernel
theorem dL_law_1010 : decode cL_law 1010 = .ok (.i2l, 1) := by decide +kernel
theorem dL_law_1011 : decode cL_law 1011 = .ok (.bipush 32, 2) := by decide +kernel
theorem dL_law_1013 : decode cL_law 1013 = .ok (.lshl, 1) := by decide +kernel
theorem dL_law_1014 : decode cL_law 1014 = .ok (.aload_n 0, 1) := by decide +kernel
theorem dL_law_1015 : decode cL_law 1015 = .ok (.iload_n 3, 1) := by decide +kernel
theorem dL_law_1016 : decode cL_law 1016 = .ok (.iconst 4, 1) := by decide +kernel
theorem dL_law_1017 : decode cL_law 1017 = .ok (.iadd, 1) := by decide +kernel
theorem dL_law_1018 : decode cL_law 1018 = .ok (.iaload, 1) := by decide +kernel
theorem dL_law_1019 : decode cL_law 1019 = .ok (.i2l, 1) := by decide +kernel
theorem dL_law_1020 : decode cL_law 1020 = .ok (.ldc2_w 129, 3) := by decide +kernel
theorem dL_law_1023 : decode cL_law 1023 = .ok (.land, 1) := by decide +kernel
theorem dL_law_1024 : decode cL_law 1024 = .ok (.lor, 1) := by decide +kernel
theorem dL_law_1025 : decode cL_law 1025 = .ok (.invokevirtual 131, 3) := by decide +kernel
theorem dL_law_1028 : decode cL_law 1028 = .ok (.aload_n 2, 1) := by decide +kernel
theorem dL_law_1029 : decode cL_law 1029 = .ok (.aload_n 0, 1) := by decide +kernel
theorem dL_law_1030 : decode cL_law 1030 = .ok (.iload_n 3, 1) := by decide +kernel
theorem dL_law_1031 : decode cL_law 1031 = .ok (.iconst 1, 1) := by decide +kernel
theorem dL_law_1032 : decode cL_law 1032 = .ok (.iadd, 1) := by decide +kernel
theorem dL_law_1033 : decode cL_law 1033 = .ok (.iaload, 1) := by decide +kernel
theorem dL_law_1034 : decode cL_law 1034 = .ok (.aload_n 0, 1) := by decide +kernel
theorem dL_law_1035 : decode cL_law 1035 = .ok (.iload_n 3, 1) := by decide +kernel
theorem dL_law_1036 : decode cL_law 1036 = .ok (.iconst 2, 1) := by decide +kernel
theorem dL_law_1037 : decode cL_law 1037 = .ok (.iadd, 1) := by decide +kernel
theorem dL_law_1038 : decode cL_law 1038 = .ok (.iaload, 1) := by decide +kernel
theorem dL_law_1039 : decode cL_law 1039 = .ok (.aload_n 0, 1) := by decide +kernel
theorem dL_law_1040 : decode cL_law 1040 = .ok (.iload_n 3, 1) := by decide +kernel
theorem dL_law_1041 : decode cL_law 1041 = .ok (.iconst 3, 1) := by decide +kernel
theorem dL_law_1042 : decode cL_law 1042 = .ok (.iadd, 1) := by decide +kernel
theorem dL_law_1043 : decode cL_law 1043 = .ok (.iaload, 1) := by decide +kernel
theorem dL_law_1044 : decode cL_law 1044 = .ok (.i2l, 1) := by decide +kernel
theorem dL_law_1045 : decode cL_law 1045 = .ok (.bipush 32, 2) := by decide +kernel
theorem dL_law_1047 : decode cL_law 1047 = .ok (.lshl, 1) := by decide +kernel
theorem dL_law_1048 : decode cL_law 1048 = .ok (.aload_n 0, 1) := by decide +kernel
theorem dL_law_1049 : decode cL_law 1049 = .ok (.iload_n 3, 1) := by decide +kernel
theorem dL_law_1050 : decode cL_law 1050 = .ok (.iconst 4, 1) := by decide +kernel
theorem dL_law_1051 : decode cL_law 1051 = .ok (.iadd, 1) := by decide +kernel
theorem dL_law_1052 : decode cL_law 1052 = .ok (.iaload, 1) := by decide +kernel
theorem dL_law_1053 : decode cL_law 1053 = .ok (.i2l, 1) := by decide +kernel
theorem dL_law_1054 : decode cL_law 1054 = .ok (.ldc2_w 129, 3) := by decide +kernel
theorem dL_law_1057 : decode cL_law 1057 = .ok (.land, 1) := by decide +kernel
theorem dL_law_1058 : decode cL_law 1058 = .ok (.lor, 1) := by decide +kernel
theorem dL_law_1059 : decode cL_law 1059 = .ok (.invokevirtual 135, 3) := by decide +kernel
theorem dL_law_1062 : decode cL_law 1062 = .ok (.lcmp, 1) := by decide +kernel
theorem dL_law_1063 : decode cL_law 1063 = .ok (.ifCond .eq 242, 3) := by decide +kernel
theorem dL_law_1066 : decode cL_law 1066 = .ok (.iconst 0, 1) := by decide +kernel
theorem dL_law_1067 : decode cL_law 1067 = .ok (.ireturn, 1) := by decide +kernel
theorem dL_law_1068 : decode cL_law 1068 = .ok (.aload_n 1, 1) := by decide +kernel
theorem dL_law_1069 : decode cL_law 1069 = .ok (.aload_n 0, 1) := by decide +kernel
theorem dL_law_1070 : decode cL_law 1070 = .ok (.iload_n 3, 1) := by decide +kernel
theorem dL_law_1071 : decode cL_law 1071 = .ok (.iconst 1, 1) := by decide +kernel
theorem dL_law_1072 : decode cL_law 1072 = .ok (.iadd, 1) := by decide +kernel
theorem dL_law_1073 : decode cL_law 1073 = .ok (.iaload, 1) := by decide +kernel
theorem dL_law_1074 : decode cL_law 1074 = .ok (.aload_n 0, 1) := by decide +kernel
theorem dL_law_1075 : decode cL_law 1075 = .ok (.iload_n 3, 1) := by decide +kernel
theorem dL_law_1076 : decode cL_law 1076 = .ok (.iconst 2, 1) := by decide +kernel
theorem dL_law_1077 : decode cL_law 1077 = .ok (.iadd, 1) := by decide +kernel
theorem dL_law_1078 : decode cL_law 1078 = .ok (.iaload, 1) := by decide +kernel
theorem dL_law_1079 : decode cL_law 1079 = .ok (.aload_n 0, 1) := by decide +kernel
theorem dL_law_1080 : decode cL_law 1080 = .ok (.iload_n 3, 1) := by decide +kernel
theorem dL_law_1081 : decode cL_law 1081 = .ok (.iconst 3, 1) := by decide +kernel
theorem dL_law_1082 : decode cL_law 1082 = .ok (.iadd, 1) := by decide +kernel
theorem dL_law_1083 : decode cL_law 1083 = .ok (.iaload, 1) := by decide +kernel
theorem dL_law_1084 : decode cL_law 1084 = .ok (.aload_n 0, 1) := by decide +kernel
theorem dL_law_1085 : decode cL_law 1085 = .ok (.iload_n 3, 1) := by decide +kernel
theorem dL_law_1086 : decode cL_law 1086 = .ok (.iconst 4, 1) := by decide +kernel
theorem dL_law_1087 : decode cL_law 1087 = .ok (.iadd, 1) := by decide +kernel
theorem dL_law_1088 : decode cL_law 1088 = .ok (.iaload, 1) := by decide +kernel
theorem dL_law_1089 : decode cL_law 1089 = .ok (.aload_n 0, 1) := by decide +kernel
theorem dL_law_1090 : decode cL_law 1090 = .ok (.iload_n 3, 1) := by decide +kernel
theorem dL_law_1091 : decode cL_law 1091 = .ok (.iconst 5, 1) := by decide +kernel
theorem dL_law_1092 : decode cL_law 1092 = .ok (.iadd, 1) := by decide +kernel
theorem dL_law_1093 : decode cL_law 1093 = .ok (.iaload, 1) := by decide +kernel
theorem dL_law_1094 : decode cL_law 1094 = .ok (.invokevirtual 136, 3) := by decide +kernel
theorem dL_law_1097 : decode cL_law 1097 = .ok (.aload_n 2, 1) := by decide +kernel
theorem dL_law_1098 : decode cL_law 1098 = .ok (.aload_n 0, 1) := by decide +kernel
theorem dL_law_1099 : decode cL_law 1099 = .ok (.iload_n 3, 1) := by decide +kernel
theorem dL_law_1100 : decode cL_law 1100 = .ok (.iconst 1, 1) := by decide +kernel
theorem dL_law_1101 : decode cL_law 1101 = .ok (.iadd, 1) := by decide +kernel
theorem dL_law_1102 : decode cL_law 1102 = .ok (.iaload, 1) := by decide +kernel
theorem dL_law_1103 : decode cL_law 1103 = .ok (.aload_n 0, 1) := by decide +kernel
theorem dL_law_1104 : decode cL_law 1104 = .ok (.iload_n 3, 1) := by decide +kernel
theorem dL_law_1105 : decode cL_law 1105 = .ok (.iconst 2, 1) := by decide +kernel
theorem dL_law_1106 : decode cL_law 1106 = .ok (.iadd, 1) := by decide +kernel
theorem dL_law_1107 : decode cL_law 1107 = .ok (.iaload, 1) := by decide +kernel
theorem dL_law_1108 : decode cL_law 1108 = .ok (.aload_n 0, 1) := by decide +kernel
theorem dL_law_1109 : decode cL_law 1109 = .ok (.iload_n 3, 1) := by decide +kernel
theorem dL_law_1110 : decode cL_law 1110 = .ok (.iconst 3, 1) := by decide +kernel
theorem dL_law_1111 : decode cL_law 1111 = .ok (.iadd, 1) := by decide +kernel
theorem dL_law_1112 : decode cL_law 1112 = .ok (.iaload, 1) := by decide +kernel
theorem dL_law_1113 : decode cL_law 1113 = .ok (.aload_n 0, 1) := by decide +kernel
theorem dL_law_1114 : decode cL_law 1114 = .ok (.iload_n 3, 1) := by decide +kernel
theorem dL_law_1115 : decode cL_law 1115 = .ok (.iconst 4, 1) := by decide +kernel
theorem dL_law_1116 : decode cL_law 1116 = .ok (.iadd, 1) := by decide +kernel
theorem dL_law_1117 : decode cL_law 1117 = .ok (.iaload, 1) := by decide +kernel
theorem dL_law_1118 : decode cL_law 1118 = .ok (.aload_n 0, 1) := by decide +kernel
theorem dL_law_1119 : decode cL_law 1119 = .ok (.iload_n 3, 1) := by decide +kernel
theorem dL_law_1120 : decode cL_law 1120 = .ok (.iconst 5, 1) := by decide +kernel
theorem dL_law_1121 : decode cL_law 1121 = .ok (.iadd, 1) := by decide +kernel
theorem dL_law_1122 : decode cL_law 1122 = .ok (.iaload, 1) := by decide +kernel
theorem dL_law_1123 : decode cL_law 1123 = .ok (.invokevirtual 140, 3) := by decide +kernel
theorem dL_law_1126 : decode cL_law 1126 = .ok (.if_icmp .eq 179, 3) := by decide +kernel
theorem dL_law_1129 : decode cL_law 1129 = .ok (.iconst 0, 1) := by decide +kernel
theorem dL_law_1130 : decode cL_law 1130 = .ok (.ireturn, 1) := by decide +kernel
theorem dL_law_1131 : decode cL_law 1131 = .ok (.aload_n 1, 1) := by decide +kernel
theorem dL_law_1132 : decode cL_law 1132 = .ok (.aload_n 0, 1) := by decide +kernel
theorem dL_law_1133 : decode cL_law 1133 = .ok (.iload_n 3, 1) := by decide +kernel
theorem dL_law_1134 : decode cL_law 1134 = .ok (.iconst 1, 1) := by decide +kernel
theorem dL_law_1135 : decode cL_law 1135 = .ok (.iadd, 1) := by decide +kernel
theorem dL_law_1136 : decode cL_law 1136 = .ok (.iaload, 1) := by decide +kernel
theorem dL_law_1137 : decode cL_law 1137 = .ok (.invokevirtual 141, 3) := by decide +kernel
theorem dL_law_1140 : decode cL_law 1140 = .ok (.aload_n 2, 1) := by decide +kernel
theorem dL_law_1141 : decode cL_law 1141 = .ok (.aload_n 0, 1) := by decide +kernel
theorem dL_law_1142 : decode cL_law 1142 = .ok (.iload_n 3, 1) := by decide +kernel
theorem dL_law_1143 : decode cL_law 1143 = .ok (.iconst 1, 1) := by decide +kernel
theorem dL_law_1144 : decode cL_law 1144 = .ok (.iadd, 1) := by decide +kernel
theorem dL_law_1145 : decode cL_law 1145 = .ok (.iaload, 1) := by decide +kernel
theorem dL_law_1146 : decode cL_law 1146 = .ok (.invokevirtual 144, 3) := by decide +kernel
theorem dL_law_1149 : decode cL_law 1149 = .ok (.if_icmp .eq 156, 3) := by decide +kernel
theorem dL_law_1152 : decode cL_law 1152 = .ok (.iconst 0, 1) := by decide +kernel
theorem dL_law_1153 : decode cL_law 1153 = .ok (.ireturn, 1) := by decide +kernel
theorem dL_law_1154 : decode cL_law 1154 = .ok (.aload_n 1, 1) := by decide +kernel
theorem dL_law_1155 : decode cL_law 1155 = .ok (.aload_n 0, 1) := by decide +kernel
theorem dL_law_1156 : decode cL_law 1156 = .ok (.iload_n 3, 1) := by decide +kernel
theorem dL_law_1157 : decode cL_law 1157 = .ok (.iconst 1, 1) := by decide +kernel
theorem dL_law_1158 : decode cL_law 1158 = .ok (.iadd, 1) := by decide +kernel
theorem dL_law_1159 : decode cL_law 1159 = .ok (.iaload, 1) := by decide +kernel
theorem dL_law_1160 : decode cL_law 1160 = .ok (.aload_n 0, 1) := by decide +kernel
theorem dL_law_1161 : decode cL_law 1161 = .ok (.iload_n 3, 1) := by decide +kernel
theorem dL_law_1162 : decode cL_law 1162 = .ok (.iconst 2, 1) := by decide +kernel
theorem dL_law_1163 : decode cL_law 1163 = .ok (.iadd, 1) := by decide +kernel
theorem dL_law_1164 : decode cL_law 1164 = .ok (.iaload, 1) := by decide +kernel
theorem dL_law_1165 : decode cL_law 1165 = .ok (.invokevirtual 145, 3) := by decide +kernel
theorem dL_law_1168 : decode cL_law 1168 = .ok (.aload_n 2, 1) := by decide +kernel
theorem dL_law_1169 : decode cL_law 1169 = .ok (.aload_n 0, 1) := by decide +kernel
theorem dL_law_1170 : decode cL_law 1170 = .ok (.iload_n 3, 1) := by decide +kernel
theorem dL_law_1171 : decode cL_law 1171 = .ok (.iconst 1, 1) := by decide +kernel
theorem dL_law_1172 : decode cL_law 1172 = .ok (.iadd, 1) := by decide +kernel
theorem dL_law_1173 : decode cL_law 1173 = .ok (.iaload, 1) := by decide +kernel
theorem dL_law_1174 : decode cL_law 1174 = .ok (.aload_n 0, 1) := by decide +kernel
theorem dL_law_1175 : decode cL_law 1175 = .ok (.iload_n 3, 1) := by decide +kernel
theorem dL_law_1176 : decode cL_law 1176 = .ok (.iconst 2, 1) := by decide +kernel
theorem dL_law_1177 : decode cL_law 1177 = .ok (.iadd, 1) := by decide +kernel
theorem dL_law_1178 : decode cL_law 1178 = .ok (.iaload, 1) := by decide +kernel
theorem dL_law_1179 : decode cL_law 1179 = .ok (.invokevirtual 148, 3) := by decide +kernel
theorem dL_law_1182 : decode cL_law 1182 = .ok (.if_icmp .eq 123, 3) := by decide +kernel
theorem dL_law_1185 : decode cL_law 1185 = .ok (.iconst 0, 1) := by decide +kernel
theorem dL_law_1186 : decode cL_law 1186 = .ok (.ireturn, 1) := by decide +kernel
theorem dL_law_1187 : decode cL_law 1187 = .ok (.aload_n 1, 1) := by decide +kernel
theorem dL_law_1188 : decode cL_law 1188 = .ok (.aload_n 0, 1) := by decide +kernel
theorem dL_law_1189 : decode cL_law 1189 = .ok (.iload_n 3, 1) := by decide +kernel
theorem dL_law_1190 : decode cL_law 1190 = .ok (.iconst 1, 1) := by decide +kernel
theorem dL_law_1191 : decode cL_law 1191 = .ok (.iadd, 1) := by decide +kernel
theorem dL_law_1192 : decode cL_law 1192 = .ok (.iaload, 1) := by decide +kernel
theorem dL_law_1193 : decode cL_law 1193 = .ok (.aload_n 0, 1) := by decide +kernel
theorem dL_law_1194 : decode cL_law 1194 = .ok (.iload_n 3, 1) := by decide +kernel
theorem dL_law_1195 : decode cL_law 1195 = .ok (.iconst 2, 1) := by decide +kernel
theorem dL_law_1196 : decode cL_law 1196 = .ok (.iadd, 1) := by decide +kernel
theorem dL_law_1197 : decode cL_law 1197 = .ok (.iaload, 1) := by decide +kernel
theorem dL_law_1198 : decode cL_law 1198 = .ok (.invokevirtual 149, 3) := by decide +kernel
theorem dL_law_1201 : decode cL_law 1201 = .ok (.aload_n 2, 1) := by decide +kernel
theorem dL_law_1202 : decode cL_law 1202 = .ok (.aload_n 0, 1) := by decide +kernel
theorem dL_law_1203 : decode cL_law 1203 = .ok (.iload_n 3, 1) := by decide +kernel
theorem dL_law_1204 : decode cL_law 1204 = .ok (.iconst 1, 1) := by decide +kernel
theorem dL_law_1205 : decode cL_law 1205 = .ok (.iadd, 1) := by decide +kernel
theorem dL_law_1206 : decode cL_law 1206 = .ok (.iaload, 1) := by decide +kernel
theorem dL_law_1207 : decode cL_law 1207 = .ok (.aload_n 0, 1) := by decide +kernel
theorem dL_law_1208 : decode cL_law 1208 = .ok (.iload_n 3, 1) := by decide +kernel
theorem dL_law_1209 : decode cL_law 1209 = .ok (.iconst 2, 1) := by decide +kernel
theorem dL_law_1210 : decode cL_law 1210 = .ok (.iadd, 1) := by decide +kernel
theorem dL_law_1211 : decode cL_law 1211 = .ok (.iaload, 1) := by decide +kernel
theorem dL_law_1212 : decode cL_law 1212 = .ok (.invokevirtual 152, 3) := by decide +kernel
theorem dL_law_1215 : decode cL_law 1215 = .ok (.if_icmp .eq 90, 3) := by decide +kernel
theorem dL_law_1218 : decode cL_law 1218 = .ok (.iconst 0, 1) := by decide +kernel
theorem dL_law_1219 : decode cL_law 1219 = .ok (.ireturn, 1) := by decide +kernel
theorem dL_law_1220 : decode cL_law 1220 = .ok (.aload_n 1, 1) := by decide +kernel
theorem dL_law_1221 : decode cL_law 1221 = .ok (.invokevirtual 153, 3) := by decide +kernel
theorem dL_law_1224 : decode cL_law 1224 = .ok (.aload_n 2, 1) := by decide +kernel
theorem dL_law_1225 : decode cL_law 1225 = .ok (.invokevirtual 156, 3) := by decide +kernel
theorem dL_law_1228 : decode cL_law 1228 = .ok (.if_icmp .eq 77, 3) := by decide +kernel
theorem dL_law_1231 : decode cL_law 1231 = .ok (.iconst 0, 1) := by decide +kernel
theorem dL_law_1232 : decode cL_law 1232 = .ok (.ireturn, 1) := by decide +kernel
theorem dL_law_1233 : decode cL_law 1233 = .ok (.aload_n 1, 1) := by decide +kernel
theorem dL_law_1234 : decode cL_law 1234 = .ok (.invokevirtual 157, 3) := by decide +kernel
theorem dL_law_1237 : decode cL_law 1237 = .ok (.aload_n 2, 1) := by decide +kernel
theorem dL_law_1238 : decode cL_law 1238 = .ok (.invokevirtual 160, 3) := by decide +kernel
theorem dL_law_1241 : decode cL_law 1241 = .ok (.if_icmp .eq 64, 3) := by decide +kernel
theorem dL_law_1244 : decode cL_law 1244 = .ok (.iconst 0, 1) := by decide +kernel
theorem dL_law_1245 : decode cL_law 1245 = .ok (.ireturn, 1) := by decide +kernel
theorem dL_law_1246 : decode cL_law 1246 = .ok (.aload_n 1, 1) := by decide +kernel
theorem dL_law_1247 : decode cL_law 1247 = .ok (.invokevirtual 161, 3) := by decide +kernel
theorem dL_law_1250 : decode cL_law 1250 = .ok (.aload_n 2, 1) := by decide +kernel
theorem dL_law_1251 : decode cL_law 1251 = .ok (.invokevirtual 164, 3) := by decide +kernel
theorem dL_law_1254 : decode cL_law 1254 = .ok (.if_icmp .eq 51, 3) := by decide +kernel
theorem dL_law_1257 : decode cL_law 1257 = .ok (.iconst 0, 1) := by decide +kernel
theorem dL_law_1258 : decode cL_law 1258 = .ok (.ireturn, 1) := by decide +kernel
theorem dL_law_1259 : decode cL_law 1259 = .ok (.aload_n 1, 1) := by decide +kernel
theorem dL_law_1260 : decode cL_law 1260 = .ok (.aload_n 0, 1) := by decide +kernel
theorem dL_law_1261 : decode cL_law 1261 = .ok (.iload_n 3, 1) := by decide +kernel
theorem dL_law_1262 : decode cL_law 1262 = .ok (.iconst 1, 1) := by decide +kernel
theorem dL_law_1263 : decode cL_law 1263 = .ok (.iadd, 1) := by decide +kernel
theorem dL_law_1264 : decode cL_law 1264 = .ok (.iaload, 1) := by decide +kernel
theorem dL_law_1265 : decode cL_law 1265 = .ok (.invokevirtual 165, 3) := by decide +kernel
theorem dL_law_1268 : decode cL_law 1268 = .ok (.aload_n 2, 1) := by decide +kernel
theorem dL_law_1269 : decode cL_law 1269 = .ok (.aload_n 0, 1) := by decide +kernel
theorem dL_law_1270 : decode cL_law 1270 = .ok (.iload_n 3, 1) := by decide +kernel
theorem dL_law_1271 : decode cL_law 1271 = .ok (.iconst 1, 1) := by decide +kernel
theorem dL_law_1272 : decode cL_law 1272 = .ok (.iadd, 1) := by decide +kernel
theorem dL_law_1273 : decode cL_law 1273 = .ok (.iaload, 1) := by decide +kernel
theorem dL_law_1274 : decode cL_law 1274 = .ok (.invokevirtual 168, 3) := by decide +kernel
theorem dL_law_1277 : decode cL_law 1277 = .ok (.if_icmp .eq 28, 3) := by decide +kernel
theorem dL_law_1280 : decode cL_law 1280 = .ok (.iconst 0, 1) := by decide +kernel
theorem dL_law_1281 : decode cL_law 1281 = .ok (.ireturn, 1) := by decide +kernel
theorem dL_law_1282 : decode cL_law 1282 = .ok (.aload_n 1, 1) := by decide +kernel
theorem dL_law_1283 : decode cL_law 1283 = .ok (.aload_n 0, 1) := by decide +kernel
theorem dL_law_1284 : decode cL_law 1284 = .ok (.iload_n 3, 1) := by decide +kernel
theorem dL_law_1285 : decode cL_law 1285 = .ok (.iconst 1, 1) := by decide +kernel
theorem dL_law_1286 : decode cL_law 1286 = .ok (.iadd, 1) := by decide +kernel
theorem dL_law_1287 : decode cL_law 1287 = .ok (.iaload, 1) := by decide +kernel
theorem dL_law_1288 : decode cL_law 1288 = .ok (.invokevirtual 169, 3) := by decide +kernel
theorem dL_law_1291 : decode cL_law 1291 = .ok (.aload_n 2, 1) := by decide +kernel
theorem dL_law_1292 : decode cL_law 1292 = .ok (.aload_n 0, 1) := by decide +kernel
theorem dL_law_1293 : decode cL_law 1293 = .ok (.iload_n 3, 1) := by decide +kernel
theorem dL_law_1294 : decode cL_law 1294 = .ok (.iconst 1, 1) := by decide +kernel
theorem dL_law_1295 : decode cL_law 1295 = .ok (.iadd, 1) := by decide +kernel
theorem dL_law_1296 : decode cL_law 1296 = .ok (.iaload, 1) := by decide +kernel
theorem dL_law_1297 : decode cL_law 1297 = .ok (.invokevirtual 172, 3) := by decide +kernel
theorem dL_law_1300 : decode cL_law 1300 = .ok (.if_icmp .eq 5, 3) := by decide +kernel
theorem dL_law_1303 : decode cL_law 1303 = .ok (.iconst 0, 1) := by decide +kernel
theorem dL_law_1304 : decode cL_law 1304 = .ok (.ireturn, 1) := by decide +kernel
theorem dL_law_1305 : decode cL_law 1305 = .ok (.iinc 3 6, 3) := by decide +kernel
theorem dL_law_1308 : decode cL_law 1308 = .ok (.goto (-1290), 3) := by decide +kernel
theorem dL_law_1311 : decode cL_law 1311 = .ok (.iconst 1, 1) := by decide +kernel
theorem dL_law_1312 : decode cL_law 1312 = .ok (.ireturn, 1) := by decide +kernel
end
section
/-! ===== pure words of the mirrored programs ===== -/
abbrev VV : Type := (Nat → Nat → Int32) × (Nat → Nat → Int64)
def inb (i : Int32) (n : Nat) : Bool := !(decide (i < 0) || decide (n ≤ i.toNatClampNeg))
theorem inb_in {i : Int32} {n : Nat} (h : inb i n = true) : vp_in i n := by
  unfold inb at h
  unfold vp_in
  simpa using h
theorem in_inb {i : Int32} {n : Nat} (h : vp_in i n) : inb i n = true := by
  unfold inb
  unfold vp_in at h
  simpa using h
theorem g_some {α : Type} {c : Bool} {x : Option α} {y : α} (h : (if c = true then x else none) = some y) : c = true ∧ x = some y := by
  cases c with
  | true => exact ⟨rfl, by simpa using h⟩
  | false => simp at h
theorem i_t {α : Type} {c : Prop} [d : Decidable c] {x y r : α} (hc : c) (h : @ite α c d x y = r) : x = r := by rw [if_pos hc] at h; exact h
theorem i_f {α : Type} {c : Prop} [d : Decidable c] {x y r : α} (hc : ¬ c) (h : @ite α c d x y = r) : y = r := by rw [if_neg hc] at h; exact h
theorem b_some {α β : Type} {x : Option α} {f : α → Option β} {y : β} (h : x.bind f = some y) : ∃ a, x = some a ∧ f a = some y := by
  cases x with
  | none => simp at h
  | some a => exact ⟨a, rfl, by simpa using h⟩
def bV {α : Type} (x : VV) (f : VV → α) : α := f x
theorem bv_ex {α : Type} {x : VV} {f : VV → α} {r : α} (h : bV x f = r) : ∃ y, y = x ∧ f y = r := ⟨x, rfl, h⟩
def wI (V : VV) (c k : Nat) (v : Int32) : VV := (fun c' => if c' = c then upd (V.1 c) k v else V.1 c', V.2)
def wJ (V : VV) (c k : Nat) (v : Int64) : VV := (V.1, fun c' => if c' = c then vp_updL (V.2 c) k v else V.2 c')
def cpI (V : VV) (c1 c0 sp dp n : Nat) : VV := (fun c' => if c' = c1 then va_cpy (V.1 c0) (V.1 c1) sp dp n else V.1 c', V.2)
def cpJ (V : VV) (c1 c0 sp dp n : Nat) : VV := (V.1, fun c' => if c' = c1 then va_cpy (V.2 c0) (V.2 c1) sp dp n else V.2 c')
theorem tbl_out {x : Int32} {lo hi : Int} (h : ∀ k : Int, lo ≤ k → k ≤ hi → x ≠ Int32.ofInt k) : x.toInt < lo ∨ hi < x.toInt := by
  by_cases h1 : x.toInt < lo
  · exact Or.inl h1
  · by_cases h2 : hi < x.toInt
    · exact Or.inr h2
    · exact absurd (Int32.ofInt_toInt x).symm (h x.toInt (by omega) (by omega))
/-! ===== the tables' words that keep ===== -/
def TG : List Cond := lw_tbl.filter goodWord
theorem tg {w : Cond} (i : Nat) (h : lw_tbl[i]? = some w) (g : goodWord w = true) : w ∈ TG := List.mem_filter.mpr ⟨List.mem_of_getElem? h, g⟩
theorem tg_ws {ws : List Cond} (h : ∀ w ∈ ws, w ∈ lw_tbl) (g : ws.all goodWord = true) : ∀ w ∈ ws, w ∈ TG := fun w hw => List.mem_filter.mpr ⟨h w hw, List.all_eq_true.mp g w hw⟩
theorem tg_good {w : Cond} (h : w ∈ TG) : (w.onTables && w.keeps) = true ∨ ∃ ty, w = .arrayClass ty := good_of_word (List.mem_filter.mp h).2
theorem tgX0 : ∀ w ∈ u_ws RX0 TX0 11, w ∈ TG := tg_ws inX0 (by decide +kernel)
theorem tgX1 : ∀ w ∈ u_ws RX1 TX1 3, w ∈ TG := tg_ws inX1 (by decide +kernel)
theorem tgX2 : ∀ w ∈ u_ws RX2 TX2 7, w ∈ TG := tg_ws inX2 (by decide +kernel)
theorem tgX3 : ∀ w ∈ u_ws RX3 TX3 7, w ∈ TG := tg_ws inX3 (by decide +kernel)
theorem tgX4 : ∀ w ∈ u_ws RX4 TX4 18, w ∈ TG := tg_ws inX4 (by decide +kernel)
/-! ===== worlds of fixed shape ===== -/
def gW (n : Nat) (ad : Nat → Nat) (cell : Nat → va_E) : va_W := (List.range n).map fun c => (ad c, cell c)
theorem gW_at {n : Nat} {ad : Nat → Nat} {cell : Nat → va_E} {c : Nat} (h : c < n) : (gW n ad cell)[c]? = some (ad c, cell c) := by
  simp [gW, List.getElem?_map, List.getElem?_range, h]
theorem gW_some {n : Nat} {ad : Nat → Nat} {cell : Nat → va_E} {c : Nat} {q : Nat × va_E} (h : (gW n ad cell)[c]? = some q) : c < n ∧ q = (ad c, cell c) := by
  have h1 : c < n := by
    have := (List.getElem?_eq_some_iff.mp h).1
    simpa [gW] using this
  rw [gW_at h1] at h
  exact ⟨h1, (Option.some.inj h).symm⟩
theorem gW_set {n : Nat} {ad : Nat → Nat} {cell cell' : Nat → va_E} {c : Nat} {e : va_E} (hc : c < n) (he : cell' c = e) (hn : ∀ i, i ≠ c → cell' i = cell i) : (gW n ad cell).set c (ad c, e) = gW n ad cell' := by
  apply List.ext_getElem?
  intro i
  by_cases hi : i = c
  · subst hi
    rw [gW_at hc, List.getElem?_set_self (by simpa [gW] using hc), he]
  · rw [List.getElem?_set_ne (Ne.symm hi)]
    by_cases h2 : i < n
    · rw [gW_at h2, gW_at h2, hn i hi]
    · rw [List.getElem?_eq_none (by simp [gW]; omega), List.getElem?_eq_none (by simp [gW]; omega)]
def inA (n : Nat) (ad : Nat → Nat) : Nat → Prop := fun q => ∃ c, c < n ∧ q = ad c
def Inj (n : Nat) (ad : Nat → Nat) : Prop := ∀ i j, i < n → j < n → ad i = ad j → i = j
theorem gW_D {n : Nat} {ad : Nat → Nat} {cell : Nat → va_E} (h : Inj n ad) : va_D (inA n ad) (gW n ad cell) := by
  refine ⟨fun i j p q hi hj hpq => ?_, fun k q hk => ?_⟩
  · obtain ⟨h1, rfl⟩ := gW_some hi
    obtain ⟨h2, rfl⟩ := gW_some hj
    exact h i j h1 h2 hpq
  · obtain ⟨h1, rfl⟩ := gW_some hk
    exact ⟨k, h1, rfl⟩
/-- tables, array classes, addresses -/
abbrev Gd : Type := va_G × (ClassId × ClassId × ClassId) × (Nat → Nat)
abbrev tyL (G : Gd) : List (ClassId × FieldType) := [(G.2.1.1, .int), (G.2.1.2.1, .long), (G.2.1.2.2, .object "FogKept$Sheet")]
/-- a predicate on states that stays while nothing outside the world changes -/
def XS (n : Nat) (G : Gd) (X : State → Prop) : Prop := (∀ (U : State) (g : JFrame) (mk : MethodId) (a : Array Value), X U → X (U.calling g mk a)) ∧ ∀ s U : State, X s → s.WarmedH U.vm → (∀ q : Nat, q < s.heap.size → ¬ inA n G.2.2 q → U.heap[q]? = s.heap[q]?) → X U
abbrev Cx (n : Nat) (G : Gd) (X : State → Prop) (p : Program) (m : MethodId) (c : Code) (cc : ByteArray) (nL : Nat) (s : State) (args : Array Value) (own : String) : Prop := CallFix p m c cc nL s args TG own ∧ va_K G.1 vwCl (tyL G) s ∧ Inj n G.2.2 ∧ XS n G X ∧ X s
abbrev Dy (n : Nat) (G : Gd) (cell : Nat → va_E) (s : State) (H : Heap) (locs : List Loc) : Prop := va_P G.1 vwCl (gW n G.2.2 cell) H ∧ va_S (inA n G.2.2) s.heap H locs
/-- a method's start and its world behind it -/
def PPs (n : Nat) (G : Gd) (X : State → Prop) (cell : Nat → va_E) (U : State) : Prop := va_P G.1 vwCl (gW n G.2.2 cell) U.heap ∧ va_K G.1 vwCl (tyL G) U ∧ X U
def PPt (n : Nat) (G : Gd) (cell : Nat → va_E) (U : State) : Prop := va_P G.1 vwCl (gW n G.2.2 cell) U.heap
abbrev wsM (y : MethodName) (bytes : ByteArray) (maxL : Nat) (ret : Option FieldType) : List Cond := .code y bytes maxL ret :: TG
abbrev QI (n : Nat) (G : Gd) (cell' : Nat → va_E) (P : Int32 → Prop) := va_Qi (fun (r : Int32) (_ : Unit) => P r) (fun _ t => PPt n G cell' t) (inA n G.2.2)
abbrev QL (n : Nat) (G : Gd) (cell' : Nat → va_E) (P : Int64 → Prop) := va_Ql (fun (r : Int64) (_ : Unit) => P r) (fun _ t => PPt n G cell' t) (inA n G.2.2)
abbrev QV (n : Nat) (G : Gd) (cell' : Nat → va_E) := va_Qv (fun (_ : Unit) => True) (fun _ t => PPt n G cell' t) (inA n G.2.2)
abbrev rmF (fr lo : Nat) : Room := { frames := fr, cells := 0, slots := 0, locals := lo }
/-- an int method -/
def MI (l : Launch) (n : Nat) (G : Gd) (X : State → Prop) (y : MethodName) (bytes : ByteArray) (maxL : Nat) (fr lo : Nat) (vals : List Value) (cell cell' : Nat → va_E) (r0 : Int32) : Prop := Met l y (wsM y bytes maxL (some .int)) (rmF fr lo) (va_Pc vals (PPs n G X cell)) (QI n G cell' (fun r => r = r0)) 0 0 (inA n G.2.2)
def MZ (l : Launch) (n : Nat) (G : Gd) (X : State → Prop) (y : MethodName) (bytes : ByteArray) (maxL : Nat) (fr lo : Nat) (vals : List Value) (cell cell' : Nat → va_E) (r0 : Int32) : Prop := Met l y (wsM y bytes maxL (some .boolean)) (rmF fr lo) (va_Pc vals (PPs n G X cell)) (QI n G cell' (fun r => r = r0 ∧ narrow .boolean (.int r0) = .int r0)) 0 0 (inA n G.2.2)
def MJ (l : Launch) (n : Nat) (G : Gd) (X : State → Prop) (y : MethodName) (bytes : ByteArray) (maxL : Nat) (fr lo : Nat) (vals : List Value) (cell cell' : Nat → va_E) (r0 : Int64) : Prop := Met l y (wsM y bytes maxL (some .long)) (rmF fr lo) (va_Pc vals (PPs n G X cell)) (QL n G cell' (fun r => r = r0)) 0 0 (inA n G.2.2)
def MV (l : Launch) (n : Nat) (G : Gd) (X : State → Prop) (y : MethodName) (bytes : ByteArray) (maxL : Nat) (fr lo : Nat) (vals : List Value) (cell cell' : Nat → va_E) : Prop := Met l y (wsM y bytes maxL none) (rmF fr lo) (va_Pc vals (PPs n G X cell)) (QV n G cell') 0 0 (inA n G.2.2)
theorem PPs_blind {n : Nat} {G : Gd} {X : State → Prop} {cell : Nat → va_E} {vals : List Value} (hX : XS n G X) : FrameBlind (va_Pc vals (PPs n G X cell)) := by
  intro a U g mk q
  obtain ⟨q0, qP, qK, qX⟩ := q
  exact ⟨q0, qP, va_K.moved (u := U) (U := U.calling g mk a) (Vm.Alike.refl U.vm) qK, hX.1 U g mk a qX⟩
theorem PPs_at {n : Nat} {G : Gd} {X : State → Prop} {cell : Nat → va_E} {vals : List Value} {s : State} {H : Heap} {locs : List Loc} (hX : XS n G X) (hs : X s) (hK : va_K G.1 vwCl (tyL G) s) (hd : Dy n G cell s H locs) : ∀ U : State, U.heap = H → s.WarmedH U.vm → va_Pc vals (PPs n G X cell) vals.toArray U := by
  intro U hU hW
  exact ⟨rfl, by rw [hU]; exact hd.1, va_K.moved hW.alike hK, hX.2 s U hs hW (fun q h1 h2 => by rw [hU]; exact hd.2.2.1 q h1 h2)⟩
/-- the start of a walk -/
theorem walk_of {l : Launch} {n : Nat} {G : Gd} {X : State → Prop} {y : MethodName} {bytes : ByteArray} {maxL : Nat} {ret : Option FieldType} {rm : Room} {vals : List Value} {cell : Nat → va_E} {Qc : Array Value → State → Outcome → State → Prop} {own : String} (hy : plainName y.cls = true) (ho : y.cls = own) (hJ : Inj n G.2.2) (hX : XS n G X) (hlen : (lg_sl vals).length ≤ maxL)
    (body : ∀ p e s m below meth c, Cx n G X p m c bytes maxL s vals.toArray own → meth.sig.returnType = ret → meth.locks = false → ∀ ls, lv_has ls maxL (lv_args 0 vals) → Dy n G cell s s.heap [] → W p l e rm s m vals.toArray below meth c s.heap [] 0 0 (MQ below Qc vals.toArray s 0 0 (inA n G.2.2)) (F0 m 0 ls [])) :
    Met l y (wsM y bytes maxL ret) rm (va_Pc vals (PPs n G X cell)) Qc 0 0 (inA n G.2.2) := by
  refine Met.ofW (cc := bytes) (maxL := maxL) (ret := ret) hy rfl ?_
  intro p e s m args below meth c s₁ B hml hv
  obtain ⟨rfl, hP, hK, hXs⟩ := hv
  have hts := atoms_spec (ws := wsM y bytes maxL ret) B.pre
  have hown : s.vm.findClass own = some m.cls := by rw [← ho]; exact findClass_of_methodNamed B.named
  have hl := lv_entry vals (n := maxL) hlen
  rw [lg_entry_eq]
  exact body p e s m below meth c ⟨⟨B.exec, B.bytes, hml, hown, fun w h => hts w (List.mem_cons_of_mem _ h)⟩, hK, hJ, hX, hXs⟩ B.returns B.notSynchronized _ hl ⟨hP, va_S.rf⟩
end
section
section RW
variable {p : Program} {l : Launch} {e : Env} {R : Room} {s : State} {m : MethodId} {args : Array Value} {below : List Frame} {meth : Method} {c : Code} {H : Heap} {locs : List Loc} {Q : State → Prop}
variable {cc : ByteArray} {pc nL : Nat} {ls : Array Slot} {rest : List Value} {n : Nat} {G : Gd} {X : State → Prop} {cell cell' : Nat → va_E} {own : String}
theorem rgetf (C : Cx n G X p m c cc nL s args own) (hd : Dy n G cell s H locs) {Cn : String} {T : u_T} {N ci index c0 : Nat} {fs : List Value} (hc : c0 < n) (he : cell c0 = .inr (ci, fs)) (hcl : vwCl[ci]? = some (Cn, T, N)) (hin : ∀ w ∈ u_ws Cn T N, w ∈ TG) (k : Nat) (hk : k < N) (hlink : Cond.fieldLink own index (T k).1 (T k).2.1 (T k).2.2.1 ∈ TG) {v : Value} (hv : fs[k]? = some v) (hdg : decode cc pc = .ok (.getfield index, 3))
    (kk : W p l e R s m args below meth c H locs 0 0 Q (F0 m (pc + 3) ls (v :: rest))) : W p l e R s m args below meth c H locs 0 0 Q (F0 m pc ls (.ref (G.2.2 c0) :: rest)) :=
  va_get C.1.1 C.1.2.1 C.1.2.2.2.2 hin C.1.2.2.2.1 C.2.1 hd.1 c0 ((gW_at hc).trans (by rw [he])) hcl k hk (C.1.2.2.2.2 _ hlink) (fun _ h => h) hv hdg kk
theorem rputf (C : Cx n G X p m c cc nL s args own) (hd : Dy n G cell s H locs) {Cn : String} {T : u_T} {N ci index c0 : Nat} {fs : List Value} (hc : c0 < n) (he : cell c0 = .inr (ci, fs)) (hcl : vwCl[ci]? = some (Cn, T, N)) (hin : ∀ w ∈ u_ws Cn T N, w ∈ TG) (ty0 : Nat → FieldType) (hty : ∀ k, k < N → parseFieldDescriptor (T k).2.2.1 = some (ty0 k)) (hnm : ∀ a, a < N → ∀ b, b < N → a ≠ b → (T a).2.1 ≠ (T b).2.1) (k : Nat) (hk : k < N) (hlink : Cond.fieldLink own index (T k).1 (T k).2.1 (T k).2.2.1 ∈ TG) (hfin : (T k).2.2.2 = false) {ty : FieldType} {v : Value} (hdd : parseFieldDescriptor (T k).2.2.1 = some ty) (hn : narrow ty v = v) (hfit : fits ty v = true) (hl : k < fs.length)
    (h1 : cell' c0 = .inr (ci, fs.set k v)) (h2 : ∀ i, i ≠ c0 → cell' i = cell i) (hdg : decode cc pc = .ok (.putfield index, 3))
    (kk : ∀ (H : Heap) (locs : List Loc), Dy n G cell' s H locs → W p l e R s m args below meth c H locs 0 0 Q (F0 m (pc + 3) ls rest)) : W p l e R s m args below meth c H locs 0 0 Q (F0 m pc ls (v :: .ref (G.2.2 c0) :: rest)) :=
  va_put C.1.1 C.1.2.1 C.1.2.2.2.2 hin ty0 hty hnm C.1.2.2.2.1 C.2.1 hd.1 (gW_D C.2.2.1) hd.2 c0 ((gW_at hc).trans (by rw [he])) hcl k hk (C.1.2.2.2.2 _ hlink) (fun _ h => h) hfin hdd hn hfit hl hdg
    (fun H1 locs1 hP _ hS => kk H1 locs1 ⟨by rw [gW_set hc h1 h2] at hP; exact hP, hS⟩)
theorem riald (C : Cx n G X p m c cc nL s args own) (hd : Dy n G cell s H locs) {c0 N : Nat} {f : Nat → Int32} (hc : c0 < n) (he : cell c0 = .inl (G.2.1.1, N, .inl f)) {i : Int32} (hi : inb i N = true) (hdg : decode cc pc = .ok (.iaload, 1))
    (kk : W p l e R s m args below meth c H locs 0 0 Q (F0 m (pc + 1) ls (.int (f i.toNatClampNeg) :: rest))) : W p l e R s m args below meth c H locs 0 0 Q (F0 m pc ls (.int i :: .ref (G.2.2 c0) :: rest)) :=
  va_iald C.1.1 C.1.2.1 C.2.1 hd.1 c0 0 ((gW_at hc).trans (by rw [he])) rfl (inb_in hi) hdg kk
theorem rlald (C : Cx n G X p m c cc nL s args own) (hd : Dy n G cell s H locs) {c0 N : Nat} {f : Nat → Int64} (hc : c0 < n) (he : cell c0 = .inl (G.2.1.2.1, N, .inr (.inl f))) {i : Int32} (hi : inb i N = true) (hdg : decode cc pc = .ok (.laload, 1))
    (kk : W p l e R s m args below meth c H locs 0 0 Q (F0 m (pc + 1) ls (.long (f i.toNatClampNeg) :: rest))) : W p l e R s m args below meth c H locs 0 0 Q (F0 m pc ls (.int i :: .ref (G.2.2 c0) :: rest)) :=
  va_lald C.1.1 C.1.2.1 C.2.1 hd.1 c0 1 ((gW_at hc).trans (by rw [he])) rfl (inb_in hi) hdg kk
theorem raald (C : Cx n G X p m c cc nL s args own) (hd : Dy n G cell s H locs) {c0 N : Nat} {f : Nat → Option Nat} (hc : c0 < n) (he : cell c0 = .inl (G.2.1.2.2, N, .inr (.inr (.inr (.inr f))))) {i : Int32} (hi : inb i N = true) (hdg : decode cc pc = .ok (.aaload, 1))
    (kk : W p l e R s m args below meth c H locs 0 0 Q (F0 m (pc + 1) ls (va_rf (f i.toNatClampNeg) :: rest))) : W p l e R s m args below meth c H locs 0 0 Q (F0 m pc ls (.int i :: .ref (G.2.2 c0) :: rest)) :=
  va_aldq C.1.1 C.1.2.1 C.2.1 hd.1 c0 2 ((gW_at hc).trans (by rw [he])) rfl (inb_in hi) hdg kk
theorem riast (C : Cx n G X p m c cc nL s args own) (hd : Dy n G cell s H locs) {c0 N : Nat} {f : Nat → Int32} (hc : c0 < n) (he : cell c0 = .inl (G.2.1.1, N, .inl f)) {i x : Int32} (hi : inb i N = true) (h1 : cell' c0 = .inl (G.2.1.1, N, .inl (upd f i.toNatClampNeg x))) (h2 : ∀ i, i ≠ c0 → cell' i = cell i) (hdg : decode cc pc = .ok (.iastore, 1))
    (kk : ∀ (H : Heap) (locs : List Loc), Dy n G cell' s H locs → W p l e R s m args below meth c H locs 0 0 Q (F0 m (pc + 1) ls rest)) : W p l e R s m args below meth c H locs 0 0 Q (F0 m pc ls (.int x :: .int i :: .ref (G.2.2 c0) :: rest)) :=
  va_iast C.1.1 C.1.2.1 C.2.1 hd.1 (gW_D C.2.2.1) hd.2 c0 0 ((gW_at hc).trans (by rw [he])) rfl (inb_in hi) hdg
    (fun H1 locs1 hP _ hS => kk H1 locs1 ⟨by rw [gW_set hc h1 h2] at hP; exact hP, hS⟩)
theorem rlast (C : Cx n G X p m c cc nL s args own) (hd : Dy n G cell s H locs) {c0 N : Nat} {f : Nat → Int64} (hc : c0 < n) (he : cell c0 = .inl (G.2.1.2.1, N, .inr (.inl f))) {i : Int32} {x : Int64} (hi : inb i N = true) (h1 : cell' c0 = .inl (G.2.1.2.1, N, .inr (.inl (vp_updL f i.toNatClampNeg x)))) (h2 : ∀ i, i ≠ c0 → cell' i = cell i) (hdg : decode cc pc = .ok (.lastore, 1))
    (kk : ∀ (H : Heap) (locs : List Loc), Dy n G cell' s H locs → W p l e R s m args below meth c H locs 0 0 Q (F0 m (pc + 1) ls rest)) : W p l e R s m args below meth c H locs 0 0 Q (F0 m pc ls (.long x :: .int i :: .ref (G.2.2 c0) :: rest)) :=
  va_last C.1.1 C.1.2.1 C.2.1 hd.1 (gW_D C.2.2.1) hd.2 c0 1 ((gW_at hc).trans (by rw [he])) rfl (inb_in hi) hdg
    (fun H1 locs1 hP _ hS => kk H1 locs1 ⟨by rw [gW_set hc h1 h2] at hP; exact hP, hS⟩)
/-! calls -/
/-- what a call of y by the pool's entry idx of own rests on -/
abbrev CWv (own : String) (idx : Nat) (y : MethodName) (bytes : ByteArray) (maxL : Nat) (ret : Option FieldType) (np : Nat) : Prop := Cond.methodLink own idx y ∈ TG ∧ Cond.instanceMethod y ∈ TG ∧ Cond.selects y.cls y y ∈ TG ∧ Cond.initialized y.cls ∈ TG ∧ Cond.code y bytes maxL ret ∈ TG ∧ (y.cls ≠ "java/lang/invoke/MethodHandle" ∧ y.cls ≠ "java/lang/invoke/VarHandle" ∧ (parseMethodDescriptor y.desc).map (fun d => d.parameters.length) = some np)
abbrev CWs (own : String) (idx : Nat) (y : MethodName) (bytes : ByteArray) (maxL : Nat) (ret : Option FieldType) (np : Nat) : Prop := Cond.methodLink own idx y ∈ TG ∧ Cond.static y ∈ TG ∧ Cond.initialized y.cls ∈ TG ∧ Cond.code y bytes maxL ret ∈ TG ∧ (y.cls ≠ "java/lang/invoke/MethodHandle" ∧ y.cls ≠ "java/lang/invoke/VarHandle" ∧ (parseMethodDescriptor y.desc).map (fun d => d.parameters.length) = some np)
abbrev CWn (y : MethodName) (bytes : ByteArray) (maxL : Nat) (ret : Option FieldType) (np : Nat) : Prop := Cond.static y ∈ TG ∧ Cond.initialized y.cls ∈ TG ∧ Cond.code y bytes maxL ret ∈ TG ∧ (y.cls ≠ "java/lang/invoke/MethodHandle" ∧ y.cls ≠ "java/lang/invoke/VarHandle" ∧ (parseMethodDescriptor y.desc).map (fun d => d.parameters.length) = some np)
theorem wsM_good {y : MethodName} {bytes : ByteArray} {maxL : Nat} {ret : Option FieldType} (h : Cond.code y bytes maxL ret ∈ TG) : GoodIn TG (wsM y bytes maxL ret) := fun w hw => (List.mem_cons.mp hw).elim (fun e => by rw [e]; exact ⟨h, tg_good h⟩) (fun h => ⟨h, tg_good h⟩)
variable {y : MethodName} {bytes : ByteArray} {maxL idx np fr lo : Nat} {ret : Option FieldType} {As : List Value} {c0 ci N : Nat} {fs : List Value} {T : u_T}
theorem cw_v (C : Cx n G X p m c cc nL s args own) (K : CWv own idx y bytes maxL ret np) (hR : fr + 1 ≤ R.frames ∧ 8 + (maxL + 11) + lo ≤ R.locals) : CallW R s args own y.cls idx y bytes maxL ret (wsM y bytes maxL ret) (rmF fr lo) 0 0 np :=
  have ht := C.1.2.2.2.2
  ⟨callB_of np ht (wsM_good K.2.2.2.2.1) rfl rfl rfl (ht _ K.2.2.2.1) (ht _ K.1) K.2.2.2.2.2 hR, ht _ K.2.1, ht _ K.2.2.1⟩
theorem cw_s (C : Cx n G X p m c cc nL s args own) (K : CWs own idx y bytes maxL ret np) (hR : fr + 1 ≤ R.frames ∧ 8 + (maxL + 11) + lo ≤ R.locals) : CallB R s args own idx y bytes maxL ret (wsM y bytes maxL ret) (rmF fr lo) 0 0 np ∧ (Cond.static y).before args s = true :=
  have ht := C.1.2.2.2.2
  ⟨callB_of np ht (wsM_good K.2.2.2.1) rfl rfl rfl (ht _ K.2.2.1) (ht _ K.1) K.2.2.2.2 hR, ht _ K.2.1⟩
theorem cw_n {host : String} (C : Cx n G X p m c cc nL s args own) (K : CWn y bytes maxL ret np) (hN : va_Nw (.methodLinkNest own idx y host) s) (hR : fr + 1 ≤ R.frames ∧ 8 + (maxL + 11) + lo ≤ R.locals) : va_CN R s args own idx y host bytes maxL ret (wsM y bytes maxL ret) (rmF fr lo) 0 0 np ∧ (Cond.static y).before args s = true ∧ True :=
  have ht := C.1.2.2.2.2
  ⟨va_cnB np ht (wsM_good K.2.2.1) rfl rfl rfl hN (ht _ K.2.1) K.2.2.2 hR, ht _ K.1, trivial⟩
theorem ppt_of {t : State} {H1 : Heap} (ht : t.heap = H1) (h : va_P G.1 vwCl (gW n G.2.2 cell) H1) : PPt n G cell t := by subst ht; exact h
theorem dy_back {s t : State} {H1 : Heap} {locs : List Loc} (ht : t.heap = H1) (hB : PPt n G cell' t) (hS : va_S (inA n G.2.2) s.heap H1 locs) : Dy n G cell' s H1 locs := ⟨by rw [← ht]; exact hB, hS⟩
theorem runV {Qc : Array Value → State → Outcome → State → Prop} (C : Cx n G X p m c cc nL s args own) (hd : Dy n G cell s H locs) (hls : ls.size = nL) (K : CWv own idx y bytes maxL ret np) (hc : c0 < n) (he : cell c0 = .inr (ci, fs)) (hcl : vwCl[ci]? = some (y.cls, T, N))
    (hM : Met l y (wsM y bytes maxL ret) (rmF fr lo) (va_Pc (.ref (G.2.2 c0) :: As) (PPs n G X cell)) Qc 0 0 (inA n G.2.2)) (hR : fr + 1 ≤ R.frames ∧ 8 + (maxL + 11) + lo ≤ R.locals) (hn : As.length = np) {st : List Value} (hst : st = As.reverse ++ .ref (G.2.2 c0) :: rest) (hr8 : (rest.map fun v => v.category).sum ≤ 8) (hdg : decode cc pc = .ok (.invokevirtual idx, 3)) :
    va_Run p l e R s m args below meth c H locs 0 0 0 0 (F0 m pc ls st) rest (Qc (Value.ref (G.2.2 c0) :: As).toArray) (inA n G.2.2) := by
  refine va_runV C.1 hM (cw_v C K hR) ⟨PPs_blind C.2.2.2.1, ?_, PPs_at C.2.2.2.1 C.2.2.2.2 C.2.1 hd⟩ rfl hn hls hst (lv_room hr8) hdg ⟨Nat.zero_le _, Nat.zero_le _⟩
  obtain ⟨cl1, a1, a2, a3⟩ := va_recv C.2.1 hd.1 hcl ((gW_at hc).trans (by rw [he]))
  exact ⟨cl1, a1, a2, a3⟩
theorem runS {Qc : Array Value → State → Outcome → State → Prop} (C : Cx n G X p m c cc nL s args own) (hd : Dy n G cell s H locs) (hls : ls.size = nL) (K : CWs own idx y bytes maxL ret np)
    (hM : Met l y (wsM y bytes maxL ret) (rmF fr lo) (va_Pc As (PPs n G X cell)) Qc 0 0 (inA n G.2.2)) (hR : fr + 1 ≤ R.frames ∧ 8 + (maxL + 11) + lo ≤ R.locals) (hn : As.length = np) {st : List Value} (hst : st = As.reverse ++ rest) (hr8 : (rest.map fun v => v.category).sum ≤ 8) (hdg : decode cc pc = .ok (.invokestatic idx, 3)) :
    va_Run p l e R s m args below meth c H locs 0 0 0 0 (F0 m pc ls st) rest (Qc As.toArray) (inA n G.2.2) :=
  va_runS C.1 hM (cw_s C K hR) ⟨PPs_blind C.2.2.2.1, PPs_at C.2.2.2.1 C.2.2.2.2 C.2.1 hd⟩ rfl hn hls hst (lv_room hr8) hdg ⟨Nat.zero_le _, Nat.zero_le _⟩
theorem runN {host : String} {Qc : Array Value → State → Outcome → State → Prop} (C : Cx n G X p m c cc nL s args own) (hd : Dy n G cell s H locs) (hls : ls.size = nL) (K : CWn y bytes maxL ret np) (hN : va_Nw (.methodLinkNest own idx y host) s)
    (hM : Met l y (wsM y bytes maxL ret) (rmF fr lo) (va_Pc As (PPs n G X cell)) Qc 0 0 (inA n G.2.2)) (hR : fr + 1 ≤ R.frames ∧ 8 + (maxL + 11) + lo ≤ R.locals) (hn : As.length = np) {st : List Value} (hst : st = As.reverse ++ rest) (hr8 : (rest.map fun v => v.category).sum ≤ 8) (hdg : decode cc pc = .ok (.invokestatic idx, 3)) :
    va_Run p l e R s m args below meth c H locs 0 0 0 0 (F0 m pc ls st) rest (Qc As.toArray) (inA n G.2.2) :=
  va_runSN C.1 hM (cw_n C K hN hR) ⟨PPs_blind C.2.2.2.1, PPs_at C.2.2.2.1 C.2.2.2.2 C.2.1 hd⟩ rfl hn hls hst (lv_room hr8) hdg ⟨Nat.zero_le _, Nat.zero_le _⟩
variable {st : List Value} {a : Array Value}
theorem afti {P : Int32 → Prop} (hr : va_Run p l e R s m args below meth c H locs 0 0 0 0 (F0 m pc ls st) rest (QI n G cell' P a) (inA n G.2.2)) (hd : Dy n G cell s H locs) (kk : ∀ (r : Int32) (H : Heap) (locs : List Loc), P r → Dy n G cell' s H locs → W p l e R s m args below meth c H locs 0 0 Q (F0 m (pc + 3) ls (.int r :: rest))) : W p l e R s m args below meth c H locs 0 0 Q (F0 m pc ls st) :=
  va_calli hr hd.2 (fun _ _ h => h) (fun _ h => h) (fun r _ t H1 locs1 ht _ hw hB _ _ hS => kk r H1 locs1 hw (dy_back ht hB hS))
theorem aftl {P : Int64 → Prop} (hr : va_Run p l e R s m args below meth c H locs 0 0 0 0 (F0 m pc ls st) rest (QL n G cell' P a) (inA n G.2.2)) (hd : Dy n G cell s H locs) (kk : ∀ (r : Int64) (H : Heap) (locs : List Loc), P r → Dy n G cell' s H locs → W p l e R s m args below meth c H locs 0 0 Q (F0 m (pc + 3) ls (.long r :: rest))) : W p l e R s m args below meth c H locs 0 0 Q (F0 m pc ls st) :=
  va_calll hr hd.2 (fun _ _ h => h) (fun _ h => h) (fun r _ t H1 locs1 ht _ hw hB _ _ hS => kk r H1 locs1 hw (dy_back ht hB hS))
theorem aftv (hr : va_Run p l e R s m args below meth c H locs 0 0 0 0 (F0 m pc ls st) rest (QV n G cell' a) (inA n G.2.2)) (hd : Dy n G cell s H locs) (kk : ∀ (H : Heap) (locs : List Loc), Dy n G cell' s H locs → W p l e R s m args below meth c H locs 0 0 Q (F0 m (pc + 3) ls rest)) : W p l e R s m args below meth c H locs 0 0 Q (F0 m pc ls st) :=
  va_callv hr hd.2 (fun _ _ h => h) (fun _ h => h) (fun _ t H1 locs1 ht _ _ hB _ _ hS => kk H1 locs1 (dy_back ht hB hS))
/-! by the kinds of what comes back -/
theorem kVI {r0 : Int32} (C : Cx n G X p m c cc nL s args own) (hd : Dy n G cell s H locs) (hls : ls.size = nL) (K : CWv own idx y bytes maxL (some .int) np) (hc : c0 < n) (he : cell c0 = .inr (ci, fs)) (hcl : vwCl[ci]? = some (y.cls, T, N)) (hM : MI l n G X y bytes maxL fr lo (.ref (G.2.2 c0) :: As) cell cell' r0) (hR : fr + 1 ≤ R.frames ∧ 8 + (maxL + 11) + lo ≤ R.locals) (hn : As.length = np) (hst : st = As.reverse ++ .ref (G.2.2 c0) :: rest) (hr8 : (rest.map fun v => v.category).sum ≤ 8) (hdg : decode cc pc = .ok (.invokevirtual idx, 3))
    (kk : ∀ (H : Heap) (locs : List Loc), Dy n G cell' s H locs → W p l e R s m args below meth c H locs 0 0 Q (F0 m (pc + 3) ls (.int r0 :: rest))) : W p l e R s m args below meth c H locs 0 0 Q (F0 m pc ls st) :=
  afti (runV C hd hls K hc he hcl hM hR hn hst hr8 hdg) hd (fun r H locs hr hd => by rw [hr]; exact kk H locs hd)
theorem kVZ {r0 : Int32} (C : Cx n G X p m c cc nL s args own) (hd : Dy n G cell s H locs) (hls : ls.size = nL) (K : CWv own idx y bytes maxL (some .boolean) np) (hc : c0 < n) (he : cell c0 = .inr (ci, fs)) (hcl : vwCl[ci]? = some (y.cls, T, N)) (hM : MZ l n G X y bytes maxL fr lo (.ref (G.2.2 c0) :: As) cell cell' r0) (hR : fr + 1 ≤ R.frames ∧ 8 + (maxL + 11) + lo ≤ R.locals) (hn : As.length = np) (hst : st = As.reverse ++ .ref (G.2.2 c0) :: rest) (hr8 : (rest.map fun v => v.category).sum ≤ 8) (hdg : decode cc pc = .ok (.invokevirtual idx, 3))
    (kk : ∀ (H : Heap) (locs : List Loc), narrow .boolean (.int r0) = .int r0 → Dy n G cell' s H locs → W p l e R s m args below meth c H locs 0 0 Q (F0 m (pc + 3) ls (.int r0 :: rest))) : W p l e R s m args below meth c H locs 0 0 Q (F0 m pc ls st) :=
  afti (runV C hd hls K hc he hcl hM hR hn hst hr8 hdg) hd (fun r H locs hr hd => by rw [hr.1]; exact kk H locs hr.2 hd)
theorem kVJ {r0 : Int64} (C : Cx n G X p m c cc nL s args own) (hd : Dy n G cell s H locs) (hls : ls.size = nL) (K : CWv own idx y bytes maxL (some .long) np) (hc : c0 < n) (he : cell c0 = .inr (ci, fs)) (hcl : vwCl[ci]? = some (y.cls, T, N)) (hM : MJ l n G X y bytes maxL fr lo (.ref (G.2.2 c0) :: As) cell cell' r0) (hR : fr + 1 ≤ R.frames ∧ 8 + (maxL + 11) + lo ≤ R.locals) (hn : As.length = np) (hst : st = As.reverse ++ .ref (G.2.2 c0) :: rest) (hr8 : (rest.map fun v => v.category).sum ≤ 8) (hdg : decode cc pc = .ok (.invokevirtual idx, 3))
    (kk : ∀ (H : Heap) (locs : List Loc), Dy n G cell' s H locs → W p l e R s m args below meth c H locs 0 0 Q (F0 m (pc + 3) ls (.long r0 :: rest))) : W p l e R s m args below meth c H locs 0 0 Q (F0 m pc ls st) :=
  aftl (runV C hd hls K hc he hcl hM hR hn hst hr8 hdg) hd (fun r H locs hr hd => by rw [hr]; exact kk H locs hd)
theorem kVV (C : Cx n G X p m c cc nL s args own) (hd : Dy n G cell s H locs) (hls : ls.size = nL) (K : CWv own idx y bytes maxL none np) (hc : c0 < n) (he : cell c0 = .inr (ci, fs)) (hcl : vwCl[ci]? = some (y.cls, T, N)) (hM : MV l n G X y bytes maxL fr lo (.ref (G.2.2 c0) :: As) cell cell') (hR : fr + 1 ≤ R.frames ∧ 8 + (maxL + 11) + lo ≤ R.locals) (hn : As.length = np) (hst : st = As.reverse ++ .ref (G.2.2 c0) :: rest) (hr8 : (rest.map fun v => v.category).sum ≤ 8) (hdg : decode cc pc = .ok (.invokevirtual idx, 3))
    (kk : ∀ (H : Heap) (locs : List Loc), Dy n G cell' s H locs → W p l e R s m args below meth c H locs 0 0 Q (F0 m (pc + 3) ls rest)) : W p l e R s m args below meth c H locs 0 0 Q (F0 m pc ls st) :=
  aftv (runV C hd hls K hc he hcl hM hR hn hst hr8 hdg) hd kk
theorem kSI {r0 : Int32} (C : Cx n G X p m c cc nL s args own) (hd : Dy n G cell s H locs) (hls : ls.size = nL) (K : CWs own idx y bytes maxL (some .int) np) (hM : MI l n G X y bytes maxL fr lo As cell cell' r0) (hR : fr + 1 ≤ R.frames ∧ 8 + (maxL + 11) + lo ≤ R.locals) (hn : As.length = np) (hst : st = As.reverse ++ rest) (hr8 : (rest.map fun v => v.category).sum ≤ 8) (hdg : decode cc pc = .ok (.invokestatic idx, 3))
    (kk : ∀ (H : Heap) (locs : List Loc), Dy n G cell' s H locs → W p l e R s m args below meth c H locs 0 0 Q (F0 m (pc + 3) ls (.int r0 :: rest))) : W p l e R s m args below meth c H locs 0 0 Q (F0 m pc ls st) :=
  afti (runS C hd hls K hM hR hn hst hr8 hdg) hd (fun r H locs hr hd => by rw [hr]; exact kk H locs hd)
theorem kSZ {r0 : Int32} (C : Cx n G X p m c cc nL s args own) (hd : Dy n G cell s H locs) (hls : ls.size = nL) (K : CWs own idx y bytes maxL (some .boolean) np) (hM : MZ l n G X y bytes maxL fr lo As cell cell' r0) (hR : fr + 1 ≤ R.frames ∧ 8 + (maxL + 11) + lo ≤ R.locals) (hn : As.length = np) (hst : st = As.reverse ++ rest) (hr8 : (rest.map fun v => v.category).sum ≤ 8) (hdg : decode cc pc = .ok (.invokestatic idx, 3))
    (kk : ∀ (H : Heap) (locs : List Loc), narrow .boolean (.int r0) = .int r0 → Dy n G cell' s H locs → W p l e R s m args below meth c H locs 0 0 Q (F0 m (pc + 3) ls (.int r0 :: rest))) : W p l e R s m args below meth c H locs 0 0 Q (F0 m pc ls st) :=
  afti (runS C hd hls K hM hR hn hst hr8 hdg) hd (fun r H locs hr hd => by rw [hr.1]; exact kk H locs hr.2 hd)
theorem kSJ {r0 : Int64} (C : Cx n G X p m c cc nL s args own) (hd : Dy n G cell s H locs) (hls : ls.size = nL) (K : CWs own idx y bytes maxL (some .long) np) (hM : MJ l n G X y bytes maxL fr lo As cell cell' r0) (hR : fr + 1 ≤ R.frames ∧ 8 + (maxL + 11) + lo ≤ R.locals) (hn : As.length = np) (hst : st = As.reverse ++ rest) (hr8 : (rest.map fun v => v.category).sum ≤ 8) (hdg : decode cc pc = .ok (.invokestatic idx, 3))
    (kk : ∀ (H : Heap) (locs : List Loc), Dy n G cell' s H locs → W p l e R s m args below meth c H locs 0 0 Q (F0 m (pc + 3) ls (.long r0 :: rest))) : W p l e R s m args below meth c H locs 0 0 Q (F0 m pc ls st) :=
  aftl (runS C hd hls K hM hR hn hst hr8 hdg) hd (fun r H locs hr hd => by rw [hr]; exact kk H locs hd)
theorem kNI {host : String} {r0 : Int32} (C : Cx n G X p m c cc nL s args own) (hd : Dy n G cell s H locs) (hls : ls.size = nL) (K : CWn y bytes maxL (some .int) np) (hN : va_Nw (.methodLinkNest own idx y host) s) (hM : MI l n G X y bytes maxL fr lo As cell cell' r0) (hR : fr + 1 ≤ R.frames ∧ 8 + (maxL + 11) + lo ≤ R.locals) (hn : As.length = np) (hst : st = As.reverse ++ rest) (hr8 : (rest.map fun v => v.category).sum ≤ 8) (hdg : decode cc pc = .ok (.invokestatic idx, 3))
    (kk : ∀ (H : Heap) (locs : List Loc), Dy n G cell' s H locs → W p l e R s m args below meth c H locs 0 0 Q (F0 m (pc + 3) ls (.int r0 :: rest))) : W p l e R s m args below meth c H locs 0 0 Q (F0 m pc ls st) :=
  afti (runN C hd hls K hN hM hR hn hst hr8 hdg) hd (fun r H locs hr hd => by rw [hr]; exact kk H locs hd)
/-! ends -/
theorem retI {P : Int32 → Prop} {v : Int32} (C : Cx n G X p m c cc nL s args own) (hr : meth.sig.returnType = some .int) (hlk : meth.locks = false) (hd : Dy n G cell s H locs) (hP : P v) (hdg : decode cc pc = .ok (.ireturn, 1)) : W p l e R s m args below meth c H locs 0 0 (MQ below (QI n G cell P) args s 0 0 (inA n G.2.2)) (F0 m pc ls [.int v]) :=
  W.iret C.1.1 C.1.2.1 hr (fun t ht _ => ⟨⟨v, (), rfl, hP, ppt_of ht hd.1⟩, hd.2.F ht⟩) hd.2.2.2 hdg hlk
theorem retZ {P : Int32 → Prop} {v : Int32} (C : Cx n G X p m c cc nL s args own) (hr : meth.sig.returnType = some .boolean) (hlk : meth.locks = false) (hd : Dy n G cell s H locs) (hz : narrow .boolean (.int v) = .int v) (hP : P v) (hdg : decode cc pc = .ok (.ireturn, 1)) : W p l e R s m args below meth c H locs 0 0 (MQ below (QI n G cell P) args s 0 0 (inA n G.2.2)) (F0 m pc ls [.int v]) :=
  W.zret C.1.1 C.1.2.1 hr hz (fun t ht _ => ⟨⟨v, (), rfl, hP, ppt_of ht hd.1⟩, hd.2.F ht⟩) hd.2.2.2 hdg hlk
theorem retJ {P : Int64 → Prop} {v : Int64} (C : Cx n G X p m c cc nL s args own) (hr : meth.sig.returnType = some .long) (hlk : meth.locks = false) (hd : Dy n G cell s H locs) (hP : P v) (hdg : decode cc pc = .ok (.lreturn, 1)) : W p l e R s m args below meth c H locs 0 0 (MQ below (QL n G cell P) args s 0 0 (inA n G.2.2)) (F0 m pc ls [.long v]) :=
  W.lret C.1.1 C.1.2.1 hr (fun t ht _ => ⟨⟨v, (), rfl, hP, ppt_of ht hd.1⟩, hd.2.F ht⟩) hd.2.2.2 hdg hlk
theorem retV (C : Cx n G X p m c cc nL s args own) (hr : meth.sig.returnType = none) (hlk : meth.locks = false) (hd : Dy n G cell s H locs) (hdg : decode cc pc = .ok (.return_, 1)) : W p l e R s m args below meth c H locs 0 0 (MQ below (QV n G cell) args s 0 0 (inA n G.2.2)) (F0 m pc ls []) :=
  W.vret C.1.1 C.1.2.1 hr (fun t ht _ => ⟨⟨(), rfl, trivial, ppt_of ht hd.1⟩, hd.2.F ht⟩) hd.2.2.2 hdg hlk
end RW
end
section
/-! ===== the cells: the reference's (11), the class's (37) ===== -/
theorem wI_ne {V : VV} {c k i : Nat} {v : Int32} (h : i ≠ c) : (wI V c k v).1 i = V.1 i := by simp [wI, h]
theorem wI_eq {V : VV} {c k : Nat} {v : Int32} : (wI V c k v).1 c = upd (V.1 c) k v := by simp [wI]
theorem wI_2 {V : VV} {c k : Nat} {v : Int32} : (wI V c k v).2 = V.2 := rfl
theorem wJ_1 {V : VV} {c k : Nat} {v : Int64} : (wJ V c k v).1 = V.1 := rfl
theorem wJ_ne {V : VV} {c k i : Nat} {v : Int64} (h : i ≠ c) : (wJ V c k v).2 i = V.2 i := by simp [wJ, h]
theorem wJ_eq {V : VV} {c k : Nat} {v : Int64} : (wJ V c k v).2 c = vp_updL (V.2 c) k v := by simp [wJ]
def cMo (G : Gd) (f : Nat → Int32) (g : Nat → Int64) (c : Nat) : va_E := match c with
  | 0 => .inr (4, [.ref (G.2.2 1), .ref (G.2.2 2), .ref (G.2.2 3), .ref (G.2.2 4), .ref (G.2.2 5), .int (f 5), .int (f 6), .int (f 7), .ref (G.2.2 6), .int (f 9), .int (f 10), .int (f 11), .int (f 12), .int (f 13), .ref (G.2.2 7), .ref (G.2.2 8), .ref (G.2.2 9), .ref (G.2.2 10)])
  | 1 => .inl (G.2.1.1, 60, .inl f)
  | 2 => .inl (G.2.1.1, 60, .inl f)
  | 3 => .inl (G.2.1.1, 60, .inl f)
  | 4 => .inl (G.2.1.1, 60, .inl f)
  | 5 => .inl (G.2.1.1, 7, .inl f)
  | 6 => .inl (G.2.1.1, 120, .inl f)
  | 7 => .inl (G.2.1.1, 4, .inl f)
  | 8 => .inl (G.2.1.1, 4, .inl f)
  | 9 => .inl (G.2.1.2.1, 160, .inr (.inl g))
  | _ => .inl (G.2.1.2.1, 40, .inr (.inl g))
def cM (G : Gd) (V : VV) (c : Nat) : va_E := cMo G (V.1 c) (V.2 c) c
def cCo (G : Gd) (f : Nat → Int32) (g : Nat → Int64) (c : Nat) : va_E :=
  if c < 24 then (if c % 8 = 0 then .inr (0, [.int (f 0), .int (f 1), .int (f 2), .int (f 3), .ref (G.2.2 (c + 1)), .ref (G.2.2 (c + 2)), .ref (G.2.2 (c + 3)), .ref (G.2.2 (c + 4)), .ref (G.2.2 (c + 5)), .ref (G.2.2 (c + 6)), .ref (G.2.2 (c + 7))]) else .inl (G.2.1.1, 8, .inl f))
  else if c < 29 then (match c with
    | 24 => .inr (3, [.ref (G.2.2 (8 * 0)), .ref (G.2.2 (8 * 1)), .ref (G.2.2 (8 * 2)), .int (f 3), .ref (G.2.2 25), .ref (G.2.2 27), .ref (G.2.2 28)])
    | 25 => .inr (2, [.int (f 0), .ref (G.2.2 26), .int (f 2), .int (f 3), .int (f 4), .int (f 5), .int (f 6)])
    | 26 => .inl (G.2.1.1, 120, .inl f)
    | 27 => .inl (G.2.1.2.2, 4, .inr (.inr (.inr (.inr (fun k => some (G.2.2 (29 + 2 * k)))))))
    | _ => .inl (G.2.1.1, 7, .inl f))
  else if c % 2 = 1 then .inr (1, [.int (f 0), .int (f 1), .ref (G.2.2 (c + 1))])
  else .inl (G.2.1.2.1, 40, .inr (.inl g))
def cC (G : Gd) (V : VV) (c : Nat) : va_E := cCo G (V.1 c) (V.2 c) c
theorem cM_ne {G : Gd} {V V1 : VV} {c k : Nat} {v : Int32} (e : V1 = wI V c k v) : ∀ i, i ≠ c → cM G V1 i = cM G V i := by
  intro i h
  unfold cM
  rw [e, wI_ne h, wI_2]
theorem cC_ne {G : Gd} {V V1 : VV} {c k : Nat} {v : Int32} (e : V1 = wI V c k v) : ∀ i, i ≠ c → cC G V1 i = cC G V i := by
  intro i h
  unfold cC
  rw [e, wI_ne h, wI_2]
theorem cM_neJ {G : Gd} {V V1 : VV} {c k : Nat} {v : Int64} (e : V1 = wJ V c k v) : ∀ i, i ≠ c → cM G V1 i = cM G V i := by
  intro i h
  unfold cM
  rw [e, wJ_ne h, wJ_1]
theorem cC_neJ {G : Gd} {V V1 : VV} {c k : Nat} {v : Int64} (e : V1 = wJ V c k v) : ∀ i, i ≠ c → cC G V1 i = cC G V i := by
  intro i h
  unfold cC
  rw [e, wJ_ne h, wJ_1]
theorem lt_moor {j : Nat} (h : j < 3) : 8 * j < 37 := by omega
theorem lt_marr {j : Nat} (h : j < 3) (k : Nat) (hk : k < 8) : 8 * j + k < 37 := by omega
theorem lt_sh {k : Nat} (h : k < 4) : 29 + 2 * k < 37 := by omega
theorem lt_sn {k : Nat} (h : k < 4) : 29 + 2 * k + 1 < 37 := by omega
theorem cC_moor {G : Gd} {V : VV} {j : Nat} (h : j < 3) : cC G V (8 * j) = .inr (0, [.int (V.1 (8 * j) 0), .int (V.1 (8 * j) 1), .int (V.1 (8 * j) 2), .int (V.1 (8 * j) 3), .ref (G.2.2 (8 * j + 1)), .ref (G.2.2 (8 * j + 2)), .ref (G.2.2 (8 * j + 3)), .ref (G.2.2 (8 * j + 4)), .ref (G.2.2 (8 * j + 5)), .ref (G.2.2 (8 * j + 6)), .ref (G.2.2 (8 * j + 7))]) := by
  unfold cC cCo
  rw [if_pos (by omega), if_pos (by omega)]
theorem cC_marr {G : Gd} {V : VV} {j : Nat} (h : j < 3) (k : Nat) (h0 : 0 < k) (hk : k < 8) : cC G V (8 * j + k) = .inl (G.2.1.1, 8, .inl (V.1 (8 * j + k))) := by
  unfold cC cCo
  rw [if_pos (by omega), if_neg (by omega)]
theorem cC_sh {G : Gd} {V : VV} {k : Nat} (h : k < 4) : cC G V (29 + 2 * k) = .inr (1, [.int (V.1 (29 + 2 * k) 0), .int (V.1 (29 + 2 * k) 1), .ref (G.2.2 (29 + 2 * k + 1))]) := by
  unfold cC cCo
  rw [if_neg (by omega), if_neg (by omega), if_pos (by omega)]
theorem cC_sn {G : Gd} {V : VV} {k : Nat} (h : k < 4) : cC G V (29 + 2 * k + 1) = .inl (G.2.1.2.1, 40, .inr (.inl (V.2 (29 + 2 * k + 1)))) := by
  unfold cC cCo
  rw [if_neg (by omega), if_neg (by omega), if_neg (by omega)]
theorem cC_moor_w {G : Gd} {V V1 : VV} {j k : Nat} {v : Int32} (h : j < 3) (hk : k < 4) (e : V1 = wI V (8 * j) k v) : cC G V1 (8 * j) = .inr (0, ([.int (V.1 (8 * j) 0), .int (V.1 (8 * j) 1), .int (V.1 (8 * j) 2), .int (V.1 (8 * j) 3), .ref (G.2.2 (8 * j + 1)), .ref (G.2.2 (8 * j + 2)), .ref (G.2.2 (8 * j + 3)), .ref (G.2.2 (8 * j + 4)), .ref (G.2.2 (8 * j + 5)), .ref (G.2.2 (8 * j + 6)), .ref (G.2.2 (8 * j + 7))] : List Value).set k (.int v)) := by
  rw [cC_moor h, e, wI_eq]
  rcases (show k = 0 ∨ k = 1 ∨ k = 2 ∨ k = 3 by omega) with rfl | rfl | rfl | rfl <;> rfl
theorem cC_marr_w {G : Gd} {V V1 : VV} {j : Nat} {i : Nat} {v : Int32} (h : j < 3) (k : Nat) (h0 : 0 < k) (hk : k < 8) (e : V1 = wI V (8 * j + k) i v) : cC G V1 (8 * j + k) = .inl (G.2.1.1, 8, .inl (upd (V.1 (8 * j + k)) i v)) := by
  rw [cC_marr h k h0 hk, e, wI_eq]
theorem cC_sh_w {G : Gd} {V V1 : VV} {k i : Nat} {v : Int32} (h : k < 4) (hi : i < 2) (e : V1 = wI V (29 + 2 * k) i v) : cC G V1 (29 + 2 * k) = .inr (1, ([.int (V.1 (29 + 2 * k) 0), .int (V.1 (29 + 2 * k) 1), .ref (G.2.2 (29 + 2 * k + 1))] : List Value).set i (.int v)) := by
  rw [cC_sh h, e, wI_eq]
  rcases (show i = 0 ∨ i = 1 by omega) with rfl | rfl <;> rfl
theorem cC_sn_w {G : Gd} {V V1 : VV} {k i : Nat} {v : Int64} (h : k < 4) (e : V1 = wJ V (29 + 2 * k + 1) i v) : cC G V1 (29 + 2 * k + 1) = .inl (G.2.1.2.1, 40, .inr (.inl (vp_updL (V.2 (29 + 2 * k + 1)) i v))) := by
  rw [cC_sn h, e, wJ_eq]
theorem cC24 {G : Gd} {V : VV} : cC G V 24 = .inr (3, [.ref (G.2.2 (8 * 0)), .ref (G.2.2 (8 * 1)), .ref (G.2.2 (8 * 2)), .int (V.1 24 3), .ref (G.2.2 25), .ref (G.2.2 27), .ref (G.2.2 28)]) := rfl
theorem cC25 {G : Gd} {V : VV} : cC G V 25 = .inr (2, [.int (V.1 25 0), .ref (G.2.2 26), .int (V.1 25 2), .int (V.1 25 3), .int (V.1 25 4), .int (V.1 25 5), .int (V.1 25 6)]) := rfl
theorem cC24_w {G : Gd} {V V1 : VV} {v : Int32} (e : V1 = wI V 24 3 v) : cC G V1 24 = .inr (3, ([.ref (G.2.2 (8 * 0)), .ref (G.2.2 (8 * 1)), .ref (G.2.2 (8 * 2)), .int (V.1 24 3), .ref (G.2.2 25), .ref (G.2.2 27), .ref (G.2.2 28)] : List Value).set 3 (.int v)) := by rw [cC24, e, wI_eq]; rfl
theorem cC25_w {G : Gd} {V V1 : VV} {k : Nat} {v : Int32} (hk : k = 0 ∨ k = 2 ∨ k = 3 ∨ k = 4 ∨ k = 5 ∨ k = 6) (e : V1 = wI V 25 k v) : cC G V1 25 = .inr (2, ([.int (V.1 25 0), .ref (G.2.2 26), .int (V.1 25 2), .int (V.1 25 3), .int (V.1 25 4), .int (V.1 25 5), .int (V.1 25 6)] : List Value).set k (.int v)) := by
  rw [cC25, e, wI_eq]
  rcases hk with rfl | rfl | rfl | rfl | rfl | rfl <;> rfl
theorem cC26 {G : Gd} {V : VV} : cC G V 26 = .inl (G.2.1.1, 120, .inl (V.1 26)) := rfl
theorem cC27 {G : Gd} {V : VV} : cC G V 27 = .inl (G.2.1.2.2, 4, .inr (.inr (.inr (.inr (fun k => some (G.2.2 (29 + 2 * k))))))) := rfl
theorem cC28 {G : Gd} {V : VV} : cC G V 28 = .inl (G.2.1.1, 7, .inl (V.1 28)) := rfl
theorem cM0 {G : Gd} {V : VV} : cM G V 0 = .inr (4, [.ref (G.2.2 1), .ref (G.2.2 2), .ref (G.2.2 3), .ref (G.2.2 4), .ref (G.2.2 5), .int (V.1 0 5), .int (V.1 0 6), .int (V.1 0 7), .ref (G.2.2 6), .int (V.1 0 9), .int (V.1 0 10), .int (V.1 0 11), .int (V.1 0 12), .int (V.1 0 13), .ref (G.2.2 7), .ref (G.2.2 8), .ref (G.2.2 9), .ref (G.2.2 10)]) := rfl
theorem cM0_w {G : Gd} {V V1 : VV} {k : Nat} {v : Int32} (hk : k = 5 ∨ k = 6 ∨ k = 7 ∨ k = 9 ∨ k = 10 ∨ k = 11 ∨ k = 12 ∨ k = 13) (e : V1 = wI V 0 k v) : cM G V1 0 = .inr (4, ([.ref (G.2.2 1), .ref (G.2.2 2), .ref (G.2.2 3), .ref (G.2.2 4), .ref (G.2.2 5), .int (V.1 0 5), .int (V.1 0 6), .int (V.1 0 7), .ref (G.2.2 6), .int (V.1 0 9), .int (V.1 0 10), .int (V.1 0 11), .int (V.1 0 12), .int (V.1 0 13), .ref (G.2.2 7), .ref (G.2.2 8), .ref (G.2.2 9), .ref (G.2.2 10)] : List Value).set k (.int v)) := by
  rw [cM0, e, wI_eq]
  rcases hk with rfl | rfl | rfl | rfl | rfl | rfl | rfl | rfl <;> rfl
end
section
theorem cMa1 {G : Gd} {V : VV} : cM G V 1 = .inl (G.2.1.1, 60, .inl (V.1 1)) := rfl
theorem cMa2 {G : Gd} {V : VV} : cM G V 2 = .inl (G.2.1.1, 60, .inl (V.1 2)) := rfl
theorem cMa3 {G : Gd} {V : VV} : cM G V 3 = .inl (G.2.1.1, 60, .inl (V.1 3)) := rfl
theorem cMa4 {G : Gd} {V : VV} : cM G V 4 = .inl (G.2.1.1, 60, .inl (V.1 4)) := rfl
theorem cMa5 {G : Gd} {V : VV} : cM G V 5 = .inl (G.2.1.1, 7, .inl (V.1 5)) := rfl
theorem cMa6 {G : Gd} {V : VV} : cM G V 6 = .inl (G.2.1.1, 120, .inl (V.1 6)) := rfl
theorem cMa7 {G : Gd} {V : VV} : cM G V 7 = .inl (G.2.1.1, 4, .inl (V.1 7)) := rfl
theorem cMa8 {G : Gd} {V : VV} : cM G V 8 = .inl (G.2.1.1, 4, .inl (V.1 8)) := rfl
theorem cMa9 {G : Gd} {V : VV} : cM G V 9 = .inl (G.2.1.2.1, 160, .inr (.inl (V.2 9))) := rfl
theorem cMa10 {G : Gd} {V : VV} : cM G V 10 = .inl (G.2.1.2.1, 40, .inr (.inl (V.2 10))) := rfl
theorem cMaw1 {G : Gd} {V V1 : VV} {i : Nat} {v : Int32} (e : V1 = wI V 1 i v) : cM G V1 1 = .inl (G.2.1.1, 60, .inl (upd (V.1 1) i v)) := by rw [cMa1, e, wI_eq]
theorem cMaw2 {G : Gd} {V V1 : VV} {i : Nat} {v : Int32} (e : V1 = wI V 2 i v) : cM G V1 2 = .inl (G.2.1.1, 60, .inl (upd (V.1 2) i v)) := by rw [cMa2, e, wI_eq]
theorem cMaw3 {G : Gd} {V V1 : VV} {i : Nat} {v : Int32} (e : V1 = wI V 3 i v) : cM G V1 3 = .inl (G.2.1.1, 60, .inl (upd (V.1 3) i v)) := by rw [cMa3, e, wI_eq]
theorem cMaw4 {G : Gd} {V V1 : VV} {i : Nat} {v : Int32} (e : V1 = wI V 4 i v) : cM G V1 4 = .inl (G.2.1.1, 60, .inl (upd (V.1 4) i v)) := by rw [cMa4, e, wI_eq]
theorem cMaw5 {G : Gd} {V V1 : VV} {i : Nat} {v : Int32} (e : V1 = wI V 5 i v) : cM G V1 5 = .inl (G.2.1.1, 7, .inl (upd (V.1 5) i v)) := by rw [cMa5, e, wI_eq]
theorem cMaw6 {G : Gd} {V V1 : VV} {i : Nat} {v : Int32} (e : V1 = wI V 6 i v) : cM G V1 6 = .inl (G.2.1.1, 120, .inl (upd (V.1 6) i v)) := by rw [cMa6, e, wI_eq]
theorem cMaw7 {G : Gd} {V V1 : VV} {i : Nat} {v : Int32} (e : V1 = wI V 7 i v) : cM G V1 7 = .inl (G.2.1.1, 4, .inl (upd (V.1 7) i v)) := by rw [cMa7, e, wI_eq]
theorem cMaw8 {G : Gd} {V V1 : VV} {i : Nat} {v : Int32} (e : V1 = wI V 8 i v) : cM G V1 8 = .inl (G.2.1.1, 4, .inl (upd (V.1 8) i v)) := by rw [cMa8, e, wI_eq]
theorem cMaw9 {G : Gd} {V V1 : VV} {i : Nat} {v : Int64} (e : V1 = wJ V 9 i v) : cM G V1 9 = .inl (G.2.1.2.1, 160, .inr (.inl (vp_updL (V.2 9) i v))) := by rw [cMa9, e, wJ_eq]
theorem cMaw10 {G : Gd} {V V1 : VV} {i : Nat} {v : Int64} (e : V1 = wJ V 10 i v) : cM G V1 10 = .inl (G.2.1.2.1, 40, .inr (.inl (vp_updL (V.2 10) i v))) := by rw [cMa10, e, wJ_eq]
theorem cC26_w {G : Gd} {V V1 : VV} {i : Nat} {v : Int32} (e : V1 = wI V 26 i v) : cC G V1 26 = .inl (G.2.1.1, 120, .inl (upd (V.1 26) i v)) := by rw [cC26, e, wI_eq]
theorem cC28_w {G : Gd} {V V1 : VV} {i : Nat} {v : Int32} (e : V1 = wI V 28 i v) : cC G V1 28 = .inl (G.2.1.1, 7, .inl (upd (V.1 28) i v)) := by rw [cC28, e, wI_eq]
theorem ite_cases {α : Type} {c : Prop} [d : Decidable c] {x y r : α} (h : @ite α c d x y = r) : (c ∧ x = r) ∨ (¬ c ∧ y = r) := by
  by_cases hc : c
  · exact Or.inl ⟨hc, i_t hc h⟩
  · exact Or.inr ⟨hc, i_f hc h⟩
def XM : State → Prop := fun _ => True
theorem xs_M {n : Nat} (G : Gd) : XS n G XM := ⟨fun _ _ _ _ _ => trivial, fun _ _ _ _ _ => trivial⟩
section RE
variable {p : Program} {l : Launch} {e : Env} {R : Room} {s : State} {m : MethodId} {args : Array Value} {below : List Frame} {meth : Method} {c : Code} {H : Heap} {locs : List Loc}
variable {cc : ByteArray} {pc nL : Nat} {ls : Array Slot} {n : Nat} {G : Gd} {X : State → Prop} {own : String} {cf : VV → Nat → va_E} {V V' : VV}
theorem retIe {v r : Int32} (C : Cx n G X p m c cc nL s args own) (hr : meth.sig.returnType = some .int) (hlk : meth.locks = false) (hd : Dy n G (cf V) s H locs) (he : some (v, V) = some (r, V')) (hdg : decode cc pc = .ok (.ireturn, 1)) : W p l e R s m args below meth c H locs 0 0 (MQ below (QI n G (cf V') (fun r' => r' = r)) args s 0 0 (inA n G.2.2)) (F0 m pc ls [.int v]) := by
  cases he
  exact retI C hr hlk hd rfl hdg
theorem retZe {v r : Int32} (C : Cx n G X p m c cc nL s args own) (hr : meth.sig.returnType = some .boolean) (hlk : meth.locks = false) (hd : Dy n G (cf V) s H locs) (hz : narrow .boolean (.int v) = .int v) (he : some (v, V) = some (r, V')) (hdg : decode cc pc = .ok (.ireturn, 1)) : W p l e R s m args below meth c H locs 0 0 (MQ below (QI n G (cf V') (fun r' => r' = r ∧ narrow .boolean (.int r) = .int r)) args s 0 0 (inA n G.2.2)) (F0 m pc ls [.int v]) := by
  cases he
  exact retZ C hr hlk hd hz ⟨rfl, hz⟩ hdg
theorem retJe {v r : Int64} (C : Cx n G X p m c cc nL s args own) (hr : meth.sig.returnType = some .long) (hlk : meth.locks = false) (hd : Dy n G (cf V) s H locs) (he : some (v, V) = some (r, V')) (hdg : decode cc pc = .ok (.lreturn, 1)) : W p l e R s m args below meth c H locs 0 0 (MQ below (QL n G (cf V') (fun r' => r' = r)) args s 0 0 (inA n G.2.2)) (F0 m pc ls [.long v]) := by
  cases he
  exact retJ C hr hlk hd rfl hdg
theorem retVe (C : Cx n G X p m c cc nL s args own) (hr : meth.sig.returnType = none) (hlk : meth.locks = false) (hd : Dy n G (cf V) s H locs) (he : some V = some V') (hdg : decode cc pc = .ok (.return_, 1)) : W p l e R s m args below meth c H locs 0 0 (MQ below (QV n G (cf V')) args s 0 0 (inA n G.2.2)) (F0 m pc ls []) := by
  cases he
  exact retV C hr hlk hd hdg
end RE
section RT
variable {p : Program} {l : Launch} {e : Env} {R : Room} {s : State} {m : MethodId} {args : Array Value} {below : List Frame} {meth : Method} {c : Code} {H : Heap} {locs : List Loc} {Q : State → Prop}
variable {cc : ByteArray} {pc : Nat} {ls : Array Slot} {rest : List Value}
theorem rtabIn (hexec : p.tables.exec = Jvm.exec) (hb : c.code = cc) {dflt lo hi : Int} {offs : Array Int} {len : Nat} {x k : Int32} {off : Int} {tgt : Nat} (hdg : decode cc pc = .ok (.tableswitch dflt lo hi offs, len)) (hk : x = k) (h1 : ¬ k.toInt < lo) (h2 : ¬ hi < k.toInt) (ho : offs[(k.toInt - lo).toNat]? = some off) (ht : (pc : Int) + off = (tgt : Int))
    (kk : W p l e R s m args below meth c H locs 0 0 Q (F0 m tgt ls rest)) : W p l e R s m args below meth c H locs 0 0 Q (F0 m pc ls (.int x :: rest)) := by
  subst hk
  exact lv_tableIn hexec hb hdg h1 h2 ho ht kk
theorem rlookIn (hexec : p.tables.exec = Jvm.exec) (hb : c.code = cc) {dflt : Int} {ps : Array (Int × Int)} {len : Nat} {x k : Int32} {off : Int} {tgt : Nat} (hdg : decode cc pc = .ok (.lookupswitch dflt ps, len)) (hk : x = k) (hp : (ps.toList.zip (ps.toList.drop 1)).all (fun (a, next) => a.1 < next.1) = true) (ho : Op.lookupswitch.offset ps.toList dflt k.toInt = off) (ht : (pc : Int) + off = (tgt : Int))
    (kk : W p l e R s m args below meth c H locs 0 0 Q (F0 m tgt ls rest)) : W p l e R s m args below meth c H locs 0 0 Q (F0 m pc ls (.int x :: rest)) := by
  subst hk
  exact lv_lookup hexec hb hdg hp ho ht kk
end RT
end
section
def f_X4_in (a1 : Int64) (a2 : Int64) (a3 : Int64) (V : VV) : Option (Int32 × VV) := (if (lg_cmp a1 a2) < 0 then some (0, V) else (if 0 < (lg_cmp a1 a3) then some (0, V) else some (1, V)))
def f_X4_finds (a1 : Int32) (V : VV) : Option (Int32 × VV) := (if inb ((-1000000001) - a1) 7 = true then (if inb ((-1000000001) - a1) 7 = true then (bV (wI V 5 (Int32.toNatClampNeg (((-1000000001) - a1))) ((V.1 5 (Int32.toNatClampNeg (((-1000000001) - a1)))) + 1)) fun V3 => some (a1, V3)) else none) else none)
def f_X4_saves_L2 : Nat → Int32 → VV → Option VV
  | 0, _, _ => none
  | n + 1, x1, V => (if 60 ≤ x1 then some V else (if inb x1 60 = true then (if inb x1 60 = true then (bV (wI V 3 (Int32.toNatClampNeg (x1)) (V.1 1 (Int32.toNatClampNeg (x1)))) fun V4 => (f_X4_saves_L2 n ((x1 + 1)) V4)) else none) else none))
def f_X4_saves (V : VV) : Option VV := (f_X4_saves_L2 200 0 V)
def f_X4_putsBack_L2 : Nat → Int32 → VV → Option VV
  | 0, _, _ => none
  | n + 1, x1, V => (if 60 ≤ x1 then some V else (if inb x1 60 = true then (if inb x1 60 = true then (bV (wI V 1 (Int32.toNatClampNeg (x1)) (V.1 3 (Int32.toNatClampNeg (x1)))) fun V4 => (f_X4_putsBack_L2 n ((x1 + 1)) V4)) else none) else none))
def f_X4_putsBack (V : VV) : Option VV := (f_X4_putsBack_L2 200 0 V)
def f_X4_laysAside_L2 : Nat → Int32 → VV → Option VV
  | 0, _, _ => none
  | n + 1, x1, V => (if 60 ≤ x1 then some V else (if inb x1 60 = true then (if inb x1 60 = true then (bV (wI V 4 (Int32.toNatClampNeg (x1)) (V.1 1 (Int32.toNatClampNeg (x1)))) fun V4 => (f_X4_laysAside_L2 n ((x1 + 1)) V4)) else none) else none))
def f_X4_laysAside (V : VV) : Option VV := (f_X4_laysAside_L2 200 0 V)
def f_X4_takesBack_L2 : Nat → Int32 → Int32 → VV → Option (Int32 × VV)
  | 0, _, _, _ => none
  | n + 1, x1, x2, V => (if 60 ≤ x2 then some (x1, V) else (if inb x2 60 = true then (if inb x2 60 = true then (bV (wI V 1 (Int32.toNatClampNeg (x2)) (V.1 4 (Int32.toNatClampNeg (x2)))) fun V4 => (f_X4_takesBack_L2 n x1 ((x2 + 1)) V4)) else none) else none))
def f_X4_takesBack (a1 : Int32) (V : VV) : Option (Int32 × VV) := (f_X4_takesBack_L2 200 a1 0 V)
def f_X4_becomes (a1 : Int32) (a2 : Int32) (V : VV) : Option (Int32 × VV) := (if inb a1 60 = true then (if inb a1 60 = true then (bV (wI V 1 (Int32.toNatClampNeg (a1)) a2) fun V3 => some ((V.1 1 (Int32.toNatClampNeg (a1))), V3)) else none) else none)
def f_X4_isCell (a1 : Int32) (V : VV) : Option (Int32 × VV) := ((f_X4_in ((a1 : Int32).toInt64) 0 35 V).bind fun q1 => some (q1.1, q1.2))
def f_X4_isWalker (a1 : Int32) (V : VV) : Option (Int32 × VV) := (if inb 0 60 = true then ((f_X4_in ((a1 : Int32).toInt64) 0 ((((V.1 1 (Int32.toNatClampNeg (0))) - 1) : Int32).toInt64) V).bind fun q2 => some (q2.1, q2.2)) else none)
def f_X4_areTwo (a1 : Int32) (a2 : Int32) (V : VV) : Option (Int32 × VV) := ((f_X4_isWalker a1 V).bind fun q1 => (if q1.1 = 0 then some (0, q1.2) else ((f_X4_isWalker a2 q1.2).bind fun q3 => (if q3.1 = 0 then some (0, q3.2) else (if a1 = a2 then some (0, q3.2) else some (1, q3.2))))))
def f_X4_isKind (a1 : Int32) (V : VV) : Option (Int32 × VV) := ((f_X4_in ((a1 : Int32).toInt64) 0 5 V).bind fun q1 => some (q1.1, q1.2))
def f_X4_spotOf (a1 : Int32) (a2 : Int32) (V : VV) : Option (Int32 × VV) := some (((4 + (7 * a1)) + a2), V)
def f_X4_its (a1 : Int32) (a2 : Int32) (V : VV) : Option (Int32 × VV) := ((f_X4_spotOf a1 a2 V).bind fun q1 => (if inb q1.1 60 = true then some ((q1.2.1 1 (Int32.toNatClampNeg (q1.1))), q1.2) else none))
def f_X4_isFree (a1 : Int32) (V : VV) : Option (Int32 × VV) := ((f_X4_its a1 5 V).bind fun q1 => (if q1.1 = (-1) then some (1, q1.2) else some (0, q1.2)))
def f_X4_fog (a1 : Int32) (V : VV) : Option (Int32 × VV) := ((f_X4_in ((a1 : Int32).toInt64) 0 16777215 V).bind fun q1 => (if q1.1 = 0 then ((f_X4_finds (-1000000001) q1.2).bind fun q3 => some (q3.1, q3.2)) else ((f_X4_becomes 2 a1 q1.2).bind fun q4 => some (q4.1, q4.2))))
def f_X4_village (a1 : Int32) (V : VV) : Option (Int32 × VV) := ((f_X4_isCell a1 V).bind fun q1 => (if q1.1 = 0 then ((f_X4_finds (-1000000001) q1.2).bind fun q3 => some (q3.1, q3.2)) else ((f_X4_becomes 3 a1 q1.2).bind fun q4 => some (q4.1, q4.2))))
def f_X4_thoseAt_L4 : Nat → Int32 → Int32 → Int32 → VV → Option (Int32 × VV)
  | 0, _, _, _, _ => none
  | n + 1, x1, x2, x3, V => (if inb 0 60 = true then (if (V.1 1 (Int32.toNatClampNeg (0))) ≤ x3 then some (x2, V) else ((f_X4_its x3 1 V).bind fun q3 => (if q3.1 = x1 then (f_X4_thoseAt_L4 n x1 ((x2 ||| (1 <<< (x3 &&& 31)))) ((x3 + 1)) q3.2) else (f_X4_thoseAt_L4 n x1 ((x2 ||| 0)) ((x3 + 1)) q3.2)))) else none)
def f_X4_thoseAt (a1 : Int32) (V : VV) : Option (Int32 × VV) := (f_X4_thoseAt_L4 200 a1 0 0 V)
def f_X4_at (a1 : Int32) (V : VV) : Option (Int32 × VV) := ((f_X4_isCell a1 V).bind fun q1 => (if q1.1 = 0 then ((f_X4_finds (-1000000001) q1.2).bind fun q3 => some (q3.1, q3.2)) else ((f_X4_thoseAt a1 q1.2).bind fun q4 => some (q4.1, q4.2))))
def f_X4_adds (a1 : Int32) (a2 : Int32) (V : VV) : Option (Int32 × VV) := (if inb 0 60 = true then ((f_X4_spotOf (V.1 1 (Int32.toNatClampNeg (0))) 0 V).bind fun q2 => (if inb q2.1 60 = true then (bV (wI q2.2 1 (Int32.toNatClampNeg (q2.1)) a1) fun V4 => ((f_X4_spotOf (V.1 1 (Int32.toNatClampNeg (0))) 1 V4).bind fun q5 => (if inb q5.1 60 = true then (bV (wI q5.2 1 (Int32.toNatClampNeg (q5.1)) a2) fun V7 => ((f_X4_spotOf (V.1 1 (Int32.toNatClampNeg (0))) 2 V7).bind fun q8 => (if inb q8.1 60 = true then (bV (wI q8.2 1 (Int32.toNatClampNeg (q8.1)) a2) fun V10 => ((f_X4_spotOf (V.1 1 (Int32.toNatClampNeg (0))) 3 V10).bind fun q11 => (if inb q11.1 60 = true then (bV (wI q11.2 1 (Int32.toNatClampNeg (q11.1)) 0) fun V13 => ((f_X4_spotOf (V.1 1 (Int32.toNatClampNeg (0))) 4 V13).bind fun q14 => (if inb q14.1 60 = true then (bV (wI q14.2 1 (Int32.toNatClampNeg (q14.1)) 0) fun V16 => ((f_X4_spotOf (V.1 1 (Int32.toNatClampNeg (0))) 5 V16).bind fun q17 => (if inb q17.1 60 = true then (bV (wI q17.2 1 (Int32.toNatClampNeg (q17.1)) (-1)) fun V19 => ((f_X4_spotOf (V.1 1 (Int32.toNatClampNeg (0))) 6 V19).bind fun q20 => (if inb q20.1 60 = true then (bV (wI q20.2 1 (Int32.toNatClampNeg (q20.1)) (-1)) fun V22 => (if inb 0 60 = true then (if inb 0 60 = true then (bV (wI V22 1 (Int32.toNatClampNeg (0)) ((V22.1 1 (Int32.toNatClampNeg (0))) + 1)) fun V25 => some ((V.1 1 (Int32.toNatClampNeg (0))), V25)) else none) else none)) else none))) else none))) else none))) else none))) else none))) else none))) else none)) else none)
def f_X4_walker (a1 : Int32) (a2 : Int32) (V : VV) : Option (Int32 × VV) := ((f_X4_isKind a1 V).bind fun q1 => (if q1.1 = 0 then ((f_X4_finds (-1000000001) q1.2).bind fun q3 => some (q3.1, q3.2)) else ((f_X4_isCell a2 q1.2).bind fun q4 => (if q4.1 = 0 then ((f_X4_finds (-1000000001) q4.2).bind fun q10 => some (q10.1, q10.2)) else (if inb 0 60 = true then (if (q4.2.1 1 (Int32.toNatClampNeg (0))) = 8 then ((f_X4_finds (-1000000002) q4.2).bind fun q9 => some (q9.1, q9.2)) else ((f_X4_adds a1 a2 q4.2).bind fun q8 => some (q8.1, q8.2))) else none)))))
def f_X4_stepsOf (a1 : Int32) (V : VV) : Option (Int32 × VV) := (if inb 1 60 = true then (if ((V.1 1 (Int32.toNatClampNeg (1))) - (V.1 1 (Int32.toNatClampNeg (1))) / 2 * 2) = 0 then ((f_X4_its a1 0 V).bind fun q10 => (if q10.1 = 2 then some (1, q10.2) else (if q10.1 = 3 then some (0, q10.2) else (if q10.1 = 4 then some (2, q10.2) else (if q10.1 = 5 then (if inb 1 60 = true then (if ((q10.2.1 1 (Int32.toNatClampNeg (1))) - (q10.2.1 1 (Int32.toNatClampNeg (1))) / 3 * 3) = 0 then some ((1 + 1), q10.2) else some (1, q10.2)) else none) else some (1, q10.2)))))) else ((f_X4_its a1 0 V).bind fun q3 => (if q3.1 = 2 then some (0, q3.2) else (if q3.1 = 3 then some (0, q3.2) else (if q3.1 = 4 then some (2, q3.2) else (if q3.1 = 5 then (if inb 1 60 = true then (if ((q3.2.1 1 (Int32.toNatClampNeg (1))) - (q3.2.1 1 (Int32.toNatClampNeg (1))) / 3 * 3) = 0 then some ((0 + 1), q3.2) else some (0, q3.2)) else none) else some (1, q3.2))))))) else none)
def f_X4_turnsOf (a1 : Int32) (V : VV) : Option (Int32 × VV) := ((f_X4_its a1 0 V).bind fun q1 => (if q1.1 = 1 then (if inb 1 60 = true then (if ((q1.2.1 1 (Int32.toNatClampNeg (1))) - (q1.2.1 1 (Int32.toNatClampNeg (1))) / 3 * 3) = 0 then some (1, q1.2) else some (0, q1.2)) else none) else (if q1.1 = 2 then some (0, q1.2) else (if q1.1 = 3 then some (1, q1.2) else (if q1.1 = 4 then (if inb 1 60 = true then (if ((q1.2.1 1 (Int32.toNatClampNeg (1))) - (q1.2.1 1 (Int32.toNatClampNeg (1))) / 3 * 3) = 0 then some (1, q1.2) else some (0, q1.2)) else none) else (if q1.1 = 5 then (if inb 1 60 = true then (if ((q1.2.1 1 (Int32.toNatClampNeg (1))) - (q1.2.1 1 (Int32.toNatClampNeg (1))) / 4 * 4) = 1 then some (2, q1.2) else some (0, q1.2)) else none) else some (0, q1.2)))))))
def f_X4_of (a1 : Int32) (a2 : Int32) (V : VV) : Option (Int32 × VV) := ((f_X4_isWalker a1 V).bind fun q1 => (if q1.1 = 0 then ((f_X4_finds (-1000000001) q1.2).bind fun q3 => some (q3.1, q3.2)) else ((f_X4_in ((a2 : Int32).toInt64) 0 8 q1.2).bind fun q4 => (if q4.1 = 0 then ((f_X4_finds (-1000000001) q4.2).bind fun q11 => some (q11.1, q11.2)) else (if 6 < a2 then (if a2 = 7 then ((f_X4_stepsOf a1 q4.2).bind fun q9 => some (q9.1, q9.2)) else ((f_X4_turnsOf a1 q4.2).bind fun q8 => some (q8.1, q8.2))) else ((f_X4_its a1 a2 q4.2).bind fun q10 => some (q10.1, q10.2)))))))
def f_X4_isPart (a1 : Int32) (a2 : Int32) (V : VV) : Option (Int32 × VV) := (if a1 = 1 then ((f_X4_isCell a2 V).bind fun q2 => some (q2.1, q2.2)) else (if a1 = 2 then ((f_X4_isCell a2 V).bind fun q4 => some (q4.1, q4.2)) else (if a1 = 3 then ((f_X4_in ((a2 : Int32).toInt64) 0 3 V).bind fun q6 => some (q6.1, q6.2)) else (if a1 = 4 then ((f_X4_in ((a2 : Int32).toInt64) 0 15 V).bind fun q8 => (if q8.1 = 0 then some (0, q8.2) else some (1, q8.2))) else some (0, V)))))
def f_X4_comesTo (a1 : Int32) (a2 : Int32) (V : VV) : Option VV := ((f_X4_spotOf a1 1 V).bind fun q1 => (if inb q1.1 60 = true then (bV (wI q1.2 1 (Int32.toNatClampNeg (q1.1)) a2) fun V3 => ((f_X4_isFree a1 V3).bind fun q4 => (if q4.1 = 0 then ((f_X4_its a1 5 q4.2).bind fun q6 => ((f_X4_spotOf q6.1 1 q6.2).bind fun q7 => (if inb q7.1 60 = true then (bV (wI q7.2 1 (Int32.toNatClampNeg (q7.1)) a2) fun V9 => some V9) else none))) else some q4.2))) else none))
def f_X4_set (a1 : Int32) (a2 : Int32) (a3 : Int32) (V : VV) : Option (Int32 × VV) := ((f_X4_isWalker a1 V).bind fun q1 => (if q1.1 = 0 then ((f_X4_finds (-1000000001) q1.2).bind fun q3 => some (q3.1, q3.2)) else ((f_X4_isPart a2 a3 q1.2).bind fun q4 => (if q4.1 = 0 then ((f_X4_finds (-1000000001) q4.2).bind fun q10 => some (q10.1, q10.2)) else ((f_X4_spotOf a1 a2 q4.2).bind fun q6 => ((f_X4_becomes q6.1 a3 q6.2).bind fun q7 => (if a2 = 1 then ((f_X4_comesTo a1 a3 q7.2).bind fun V9 => some (q7.1, V9)) else some (q7.1, q7.2))))))))
def f_X4_turn (a1 : Int32) (a2 : Int32) (V : VV) : Option (Int32 × VV) := ((f_X4_isWalker a1 V).bind fun q1 => (if q1.1 = 0 then ((f_X4_finds (-1000000001) q1.2).bind fun q3 => some (q3.1, q3.2)) else ((f_X4_isKind a2 q1.2).bind fun q4 => (if q4.1 = 0 then ((f_X4_finds (-1000000001) q4.2).bind fun q6 => some (q6.1, q6.2)) else ((f_X4_spotOf a1 0 q4.2).bind fun q7 => ((f_X4_becomes q7.1 a2 q7.2).bind fun q8 => some (q8.1, q8.2)))))))
def f_X4_isUnder (a1 : Int32) (a2 : Int32) (V : VV) : Option (Int32 × VV) := (if a2 = 0 then some (1, V) else (if a1 = a2 then some (1, V) else (if a1 ≤ 3 then some (0, V) else (if (a1 - 3) = a2 then some (1, V) else some (0, V)))))
def f_X4_as (a1 : Int32) (a2 : Int32) (V : VV) : Option (Int32 × VV) := ((f_X4_isWalker a1 V).bind fun q1 => (if q1.1 = 0 then ((f_X4_finds (-1000000001) q1.2).bind fun q3 => some (q3.1, q3.2)) else ((f_X4_isKind a2 q1.2).bind fun q4 => (if q4.1 = 0 then ((f_X4_finds (-1000000001) q4.2).bind fun q11 => some (q11.1, q11.2)) else ((f_X4_its a1 0 q4.2).bind fun q6 => ((f_X4_isUnder q6.1 a2 q6.2).bind fun q7 => (if q7.1 = 0 then ((f_X4_finds (-1000000003) q7.2).bind fun q9 => some (q9.1, q9.2)) else ((f_X4_its a1 4 q7.2).bind fun q10 => some (q10.1, q10.2)))))))))
def f_X4_isFreed (a1 : Int32) (V : VV) : Option VV := ((f_X4_spotOf a1 5 V).bind fun q1 => (if inb q1.1 60 = true then (bV (wI q1.2 1 (Int32.toNatClampNeg (q1.1)) (-1)) fun V3 => ((f_X4_spotOf a1 6 V3).bind fun q4 => (if inb q4.1 60 = true then (bV (wI q4.2 1 (Int32.toNatClampNeg (q4.1)) (-1)) fun V6 => some V6) else none))) else none))
def f_X4_lets (a1 : Int32) (V : VV) : Option (Int32 × VV) := ((f_X4_its a1 5 V).bind fun q1 => ((f_X4_isFreed q1.1 q1.2).bind fun V2 => ((f_X4_isFreed a1 V2).bind fun V3 => some (q1.1, V3))))
def f_X4_free (a1 : Int32) (V : VV) : Option (Int32 × VV) := ((f_X4_isWalker a1 V).bind fun q1 => (if q1.1 = 0 then ((f_X4_finds (-1000000001) q1.2).bind fun q7 => some (q7.1, q7.2)) else ((f_X4_isFree a1 q1.2).bind fun q3 => (if q3.1 = 0 then ((f_X4_lets a1 q3.2).bind fun q5 => some (q5.1, q5.2)) else ((f_X4_finds (-1000000005) q3.2).bind fun q6 => some (q6.1, q6.2))))))
def f_X4_keeps (a1 : Int32) (a2 : Int32) (V : VV) : Option VV := ((f_X4_spotOf a1 5 V).bind fun q1 => (if inb q1.1 60 = true then (bV (wI q1.2 1 (Int32.toNatClampNeg (q1.1)) a2) fun V3 => ((f_X4_spotOf a2 5 V3).bind fun q4 => (if inb q4.1 60 = true then (bV (wI q4.2 1 (Int32.toNatClampNeg (q4.1)) a1) fun V6 => ((f_X4_spotOf a1 6 V6).bind fun q7 => ((f_X4_its a2 4 q7.2).bind fun q8 => (if inb q7.1 60 = true then (bV (wI q8.2 1 (Int32.toNatClampNeg (q7.1)) q8.1) fun V10 => ((f_X4_spotOf a2 6 V10).bind fun q11 => ((f_X4_its a1 4 q11.2).bind fun q12 => (if inb q11.1 60 = true then (bV (wI q12.2 1 (Int32.toNatClampNeg (q11.1)) q12.1) fun V14 => some V14) else none)))) else none)))) else none))) else none))
def f_X4_ones_L4 : Nat → Int32 → Int32 → VV → Option (Int32 × VV)
  | 0, _, _, _ => none
  | n + 1, x1, x2, V => (if x2 = 0 then some (x1, V) else (f_X4_ones_L4 n ((x1 + 1)) ((x2 &&& (x2 - 1))) V))
def f_X4_ones (a1 : Int32) (V : VV) : Option (Int32 × VV) := (f_X4_ones_L4 200 0 a1 V)
def f_X4_thoseKept_L4 : Nat → Int32 → Int32 → VV → Option (Int32 × VV)
  | 0, _, _, _ => none
  | n + 1, x1, x2, V => (if inb 0 60 = true then (if (V.1 1 (Int32.toNatClampNeg (0))) ≤ x2 then some (x1, V) else ((f_X4_isFree x2 V).bind fun q3 => (if q3.1 = 0 then (f_X4_thoseKept_L4 n ((x1 ||| (1 <<< (x2 &&& 31)))) ((x2 + 1)) q3.2) else (f_X4_thoseKept_L4 n ((x1 ||| 0)) ((x2 + 1)) q3.2)))) else none)
def f_X4_thoseKept (V : VV) : Option (Int32 × VV) := (f_X4_thoseKept_L4 200 0 0 V)
def f_X4_keep (a1 : Int32) (a2 : Int32) (V : VV) : Option (Int32 × VV) := ((f_X4_areTwo a1 a2 V).bind fun q1 => (if q1.1 = 0 then ((f_X4_finds (-1000000001) q1.2).bind fun q16 => some (q16.1, q16.2)) else ((f_X4_isFree a1 q1.2).bind fun q3 => (if q3.1 = 0 then ((f_X4_finds (-1000000005) q3.2).bind fun q5 => some (q5.1, q5.2)) else ((f_X4_isFree a2 q3.2).bind fun q6 => (if q6.1 = 0 then ((f_X4_finds (-1000000005) q6.2).bind fun q8 => some (q8.1, q8.2)) else ((f_X4_its a1 1 q6.2).bind fun q9 => ((f_X4_its a2 1 q9.2).bind fun q10 => (if q9.1 = q10.1 then ((f_X4_keeps a1 a2 q10.2).bind fun V12 => ((f_X4_thoseKept V12).bind fun q13 => ((f_X4_ones q13.1 q13.2).bind fun q14 => some (q14.1, q14.2)))) else ((f_X4_finds (-1000000005) q10.2).bind fun q15 => some (q15.1, q15.2)))))))))))
def f_X4_isFoggy (V : VV) : Option (Int32 × VV) := (if inb 2 60 = true then (if inb 1 60 = true then (if (((V.1 1 (Int32.toNatClampNeg (2))) >>> (((V.1 1 (Int32.toNatClampNeg (1))) - (V.1 1 (Int32.toNatClampNeg (1))) / 24 * 24) &&& 31)) &&& 1) = 1 then some (1, V) else some (0, V)) else none) else none)
def f_X4_turns (a1 : Int32) (V : VV) : Option VV := ((f_X4_spotOf a1 3 V).bind fun q1 => ((f_X4_its a1 3 q1.2).bind fun q2 => (if inb q1.1 60 = true then (bV (wI q2.2 1 (Int32.toNatClampNeg (q1.1)) ((q2.1 + 1) - (q2.1 + 1) / 4 * 4)) fun V4 => some V4) else none)))
def f_X4_towards (a1 : Int32) (a2 : Int32) (V : VV) : Option (Int32 × VV) := (if a2 = 0 then (if 6 ≤ a1 then some ((a1 - 6), V) else some ((-1), V)) else (if a2 = 1 then (if (a1 - a1 / 6 * 6) = 5 then some ((-1), V) else some ((a1 + 1), V)) else (if a2 = 2 then (if a1 < 30 then some ((a1 + 6), V) else some ((-1), V)) else (if (a1 - a1 / 6 * 6) = 0 then some ((-1), V) else some ((a1 - 1), V)))))
def f_X4_goes_L35 : Nat → Int32 → Int32 → Int32 → VV → Option VV
  | 0, _, _, _, _ => none
  | n + 1, x1, x3, x4, V => (if x3 ≤ x4 then ((f_X4_its x1 1 V).bind fun q5 => ((f_X4_comesTo x1 q5.1 q5.2).bind fun V6 => some V6)) else ((f_X4_its x1 1 V).bind fun q7 => ((f_X4_its x1 3 q7.2).bind fun q8 => ((f_X4_towards q7.1 q8.1 q8.2).bind fun q9 => (if 0 ≤ q9.1 then ((f_X4_spotOf x1 1 q9.2).bind fun q11 => (if inb q11.1 60 = true then (bV (wI q11.2 1 (Int32.toNatClampNeg (q11.1)) q9.1) fun V13 => (f_X4_goes_L35 n x1 x3 ((x4 + 1)) V13)) else none)) else ((f_X4_turns x1 q9.2).bind fun V14 => (f_X4_goes_L35 n x1 x3 ((x4 + 1)) V14)))))))
def f_X4_goes_L15 : Nat → Int32 → Int32 → Int32 → Int32 → VV → Option VV
  | 0, _, _, _, _, _ => none
  | n + 1, x1, x2, x3, x4, V => (if x2 ≤ x4 then (f_X4_goes_L35 200 x1 x3 0 V) else ((f_X4_turns x1 V).bind fun V15 => (f_X4_goes_L15 n x1 x2 x3 ((x4 + 1)) V15)))
def f_X4_goes (a1 : Int32) (V : VV) : Option VV := ((f_X4_turnsOf a1 V).bind fun q1 => ((f_X4_stepsOf a1 q1.2).bind fun q2 => (f_X4_goes_L15 200 a1 (q1.1) (q2.1) 0 q2.2)))
def f_X4_meetAt_L4 : Nat → Int32 → Int32 → Int32 → VV → Option VV
  | 0, _, _, _, _ => none
  | n + 1, x1, x2, x3, V => (if inb 0 60 = true then (if (V.1 1 (Int32.toNatClampNeg (0))) ≤ x3 then (if x2 < 0 then some V else ((f_X4_its x2 0 V).bind fun q4 => (if q4.1 = 5 then ((f_X4_its x2 2 q4.2).bind fun q6 => (if q6.1 = x1 then ((f_X4_keeps x2 x2 q6.2).bind fun V8 => some V8) else some q6.2)) else some q4.2))) else ((f_X4_isFree x3 V).bind fun q9 => (if q9.1 = 0 then (f_X4_meetAt_L4 n x1 x2 ((x3 + 1)) q9.2) else ((f_X4_its x3 1 q9.2).bind fun q11 => (if q11.1 = x1 then (if x2 < 0 then (f_X4_meetAt_L4 n x1 x3 ((x3 + 1)) q11.2) else ((f_X4_keeps x2 x3 q11.2).bind fun V14 => (f_X4_meetAt_L4 n x1 ((-1)) ((x3 + 1)) V14))) else (f_X4_meetAt_L4 n x1 x2 ((x3 + 1)) q11.2)))))) else none)
def f_X4_meetAt (a1 : Int32) (V : VV) : Option VV := (f_X4_meetAt_L4 200 a1 ((-1)) 0 V)
def f_X4_goesHour_L90 : Nat → Int32 → Int32 → VV → Option VV
  | 0, _, _, _ => none
  | n + 1, x1, x2, V => (if 36 ≤ x2 then (if inb 1 60 = true then (if inb 1 60 = true then (bV (wI V 1 (Int32.toNatClampNeg (1)) ((V.1 1 (Int32.toNatClampNeg (1))) + 1)) fun V9 => some V9) else none) else none) else (if x1 = 0 then (if inb 1 60 = true then (if inb 1 60 = true then (bV (wI V 1 (Int32.toNatClampNeg (1)) ((V.1 1 (Int32.toNatClampNeg (1))) + 1)) fun V13 => some V13) else none) else none) else ((f_X4_meetAt x2 V).bind fun V14 => (f_X4_goesHour_L90 n x1 ((x2 + 1)) V14))))
def f_X4_goesHour_L49 : Nat → Int32 → Int32 → VV → Option VV
  | 0, _, _, _ => none
  | n + 1, x1, x2, V => (if inb 0 60 = true then (if (V.1 1 (Int32.toNatClampNeg (0))) ≤ x2 then (f_X4_goesHour_L90 200 x1 0 V) else ((f_X4_isFree x2 V).bind fun q15 => (if q15.1 = 0 then ((f_X4_its x2 5 q15.2).bind fun q18 => (if q18.1 < x2 then (f_X4_goesHour_L49 n x1 ((x2 + 1)) q18.2) else ((f_X4_goes x2 q18.2).bind fun V20 => (f_X4_goesHour_L49 n x1 ((x2 + 1)) V20)))) else ((f_X4_goes x2 q15.2).bind fun V17 => (f_X4_goesHour_L49 n x1 ((x2 + 1)) V17))))) else none)
def f_X4_goesHour_L7 : Nat → Int32 → Int32 → VV → Option VV
  | 0, _, _, _ => none
  | n + 1, x1, x2, V => (if inb 0 60 = true then (if (V.1 1 (Int32.toNatClampNeg (0))) ≤ x2 then (f_X4_goesHour_L49 200 x1 0 V) else (if x1 = 0 then ((f_X4_its x2 1 V).bind fun q22 => (if inb 3 60 = true then (if q22.1 = (q22.2.1 1 (Int32.toNatClampNeg (3))) then (f_X4_goesHour_L7 n x1 ((x2 + 1)) q22.2) else ((f_X4_isFreed x2 q22.2).bind fun V25 => (f_X4_goesHour_L7 n x1 ((x2 + 1)) V25))) else none)) else (f_X4_goesHour_L49 200 x1 0 V))) else none)
def f_X4_goesHour (V : VV) : Option VV := ((f_X4_isFoggy V).bind fun q1 => (f_X4_goesHour_L7 200 (q1.1) 0 q1.2))
def f_X4_hoursGo_L2 : Nat → Int32 → Int32 → VV → Option VV
  | 0, _, _, _ => none
  | n + 1, x1, x2, V => (if x1 ≤ x2 then some V else ((f_X4_goesHour V).bind fun V2 => (f_X4_hoursGo_L2 n x1 ((x2 + 1)) V2)))
def f_X4_hoursGo (a1 : Int32) (V : VV) : Option VV := (f_X4_hoursGo_L2 200 a1 0 V)
def f_X4_hours (a1 : Int32) (V : VV) : Option (Int32 × VV) := ((f_X4_in ((a1 : Int32).toInt64) 1 60 V).bind fun q1 => (if q1.1 = 0 then ((f_X4_finds (-1000000001) q1.2).bind fun q8 => some (q8.1, q8.2)) else (if inb 1 60 = true then (if ((q1.2.1 1 (Int32.toNatClampNeg (1))) + a1) ≤ 99999 then ((f_X4_hoursGo a1 q1.2).bind fun V5 => ((f_X4_thoseKept V5).bind fun q6 => some (q6.1, q6.2))) else ((f_X4_finds (-1000000005) q1.2).bind fun q7 => some (q7.1, q7.2))) else none)))
def f_X4_isGlad (a1 : Int32) (V : VV) : Option (Int32 × VV) := ((f_X4_isFree a1 V).bind fun q1 => (if q1.1 = 0 then ((f_X4_its a1 5 q1.2).bind fun q3 => (if q3.1 = a1 then some (0, q3.2) else ((f_X4_its a1 6 q3.2).bind fun q5 => ((f_X4_its a1 4 q5.2).bind fun q6 => (if q5.1 = q6.1 then some (1, q6.2) else some (0, q6.2)))))) else some (0, q1.2)))
def f_X4_thoseGlad_L4 : Nat → Int32 → Int32 → VV → Option (Int32 × VV)
  | 0, _, _, _ => none
  | n + 1, x1, x2, V => (if inb 0 60 = true then (if (V.1 1 (Int32.toNatClampNeg (0))) ≤ x2 then some (x1, V) else ((f_X4_isGlad x2 V).bind fun q3 => (if q3.1 = 0 then (f_X4_thoseGlad_L4 n ((x1 ||| 0)) ((x2 + 1)) q3.2) else (f_X4_thoseGlad_L4 n ((x1 ||| (1 <<< (x2 &&& 31)))) ((x2 + 1)) q3.2)))) else none)
def f_X4_thoseGlad (V : VV) : Option (Int32 × VV) := (f_X4_thoseGlad_L4 200 0 0 V)
def f_X4_now (a1 : Int32) (V : VV) : Option (Int32 × VV) := (if a1 = 0 then (if inb 1 60 = true then some ((V.1 1 (Int32.toNatClampNeg (1))), V) else none) else (if a1 = 1 then (if inb 2 60 = true then some ((V.1 1 (Int32.toNatClampNeg (2))), V) else none) else (if a1 = 2 then ((f_X4_isFoggy V).bind fun q6 => (if q6.1 = 0 then some (0, q6.2) else some (1, q6.2))) else (if a1 = 3 then ((f_X4_thoseKept V).bind fun q9 => some (q9.1, q9.2)) else (if a1 = 4 then ((f_X4_thoseGlad V).bind fun q11 => some (q11.1, q11.2)) else (if a1 = 5 then (if inb 3 60 = true then some ((V.1 1 (Int32.toNatClampNeg (3))), V) else none) else ((f_X4_finds (-1000000001) V).bind fun q14 => some (q14.1, q14.2))))))))
def f_X4_on (a1 : Int32) (a2 : Int32) (a3 : Int32) (V : VV) : Option (Int32 × VV) := ((f_X4_isWalker a1 V).bind fun q1 => (if q1.1 = 0 then ((f_X4_finds (-1000000001) q1.2).bind fun q3 => some (q3.1, q3.2)) else ((f_X4_in ((a2 : Int32).toInt64) 0 60 q1.2).bind fun q4 => (if q4.1 = 0 then ((f_X4_finds (-1000000001) q4.2).bind fun q6 => some (q6.1, q6.2)) else ((f_X4_in ((a3 : Int32).toInt64) 0 2 q4.2).bind fun q7 => (if q7.1 = 0 then ((f_X4_finds (-1000000001) q7.2).bind fun q19 => some (q19.1, q19.2)) else ((f_X4_laysAside q7.2).bind fun V9 => ((f_X4_hoursGo a2 V9).bind fun V10 => (if a3 = 0 then ((f_X4_its a1 1 V10).bind fun q17 => ((f_X4_takesBack q17.1 q17.2).bind fun q18 => some (q18.1, q18.2))) else (if a3 = 1 then ((f_X4_its a1 5 V10).bind fun q15 => ((f_X4_takesBack q15.1 q15.2).bind fun q16 => some (q16.1, q16.2))) else ((f_X4_its a1 6 V10).bind fun q13 => ((f_X4_takesBack q13.1 q13.2).bind fun q14 => some (q14.1, q14.2)))))))))))))
def f_X4_isSo (a1 : Int32) (a2 : Int32) (a3 : Int32) (V : VV) : Option (Int32 × VV) := (if a1 = 0 then ((f_X4_its a2 5 V).bind fun q8 => (if q8.1 = a3 then some (1, q8.2) else some (0, q8.2))) else (if a1 = 1 then ((f_X4_isFree a2 V).bind fun q6 => (if q6.1 = 0 then some (1, q6.2) else some (0, q6.2))) else (if a1 = 2 then ((f_X4_isFree a2 V).bind fun q5 => some (q5.1, q5.2)) else ((f_X4_isGlad a2 V).bind fun q4 => some (q4.1, q4.2)))))
def f_X4_firstSo_L3 : Nat → Int32 → Int32 → Int32 → Int32 → Int32 → VV → Option (Int32 × VV)
  | 0, _, _, _, _, _, _ => none
  | n + 1, x1, x2, x3, x4, x5, V => (if x4 < x5 then some (x5, V) else ((f_X4_isSo x1 x2 x3 V).bind fun q2 => (if q2.1 = 0 then ((f_X4_goesHour q2.2).bind fun V4 => (f_X4_firstSo_L3 n x1 x2 x3 x4 ((x5 + 1)) V4)) else some (x5, q2.2))))
def f_X4_firstSo (a1 : Int32) (a2 : Int32) (a3 : Int32) (a4 : Int32) (V : VV) : Option (Int32 × VV) := (f_X4_firstSo_L3 200 a1 a2 a3 a4 0 V)
def f_X4_foundSo (a1 : Int32) (a2 : Int32) (a3 : Int32) (V : VV) : Option (Int32 × VV) := ((f_X4_laysAside V).bind fun V1 => ((f_X4_firstSo a1 a2 a3 100 V1).bind fun q2 => ((f_X4_takesBack q2.1 q2.2).bind fun q3 => (if q3.1 ≤ 100 then some (q3.1, q3.2) else ((f_X4_finds (-1000000004) q3.2).bind fun q5 => some (q5.1, q5.2))))))
def f_X4_meet (a1 : Int32) (a2 : Int32) (V : VV) : Option (Int32 × VV) := ((f_X4_areTwo a1 a2 V).bind fun q1 => (if q1.1 = 0 then ((f_X4_finds (-1000000001) q1.2).bind fun q3 => some (q3.1, q3.2)) else ((f_X4_foundSo 0 a1 a2 q1.2).bind fun q4 => some (q4.1, q4.2))))
def f_X4_when (a1 : Int32) (V : VV) : Option (Int32 × VV) := ((f_X4_isWalker a1 V).bind fun q1 => (if q1.1 = 0 then ((f_X4_finds (-1000000001) q1.2).bind fun q3 => some (q3.1, q3.2)) else ((f_X4_foundSo 1 a1 0 q1.2).bind fun q4 => some (q4.1, q4.2))))
def f_X4_till (a1 : Int32) (V : VV) : Option (Int32 × VV) := ((f_X4_isWalker a1 V).bind fun q1 => (if q1.1 = 0 then ((f_X4_finds (-1000000001) q1.2).bind fun q3 => some (q3.1, q3.2)) else ((f_X4_foundSo 2 a1 0 q1.2).bind fun q4 => some (q4.1, q4.2))))
def f_X4_glad (a1 : Int32) (V : VV) : Option (Int32 × VV) := ((f_X4_isWalker a1 V).bind fun q1 => (if q1.1 = 0 then ((f_X4_finds (-1000000001) q1.2).bind fun q3 => some (q3.1, q3.2)) else ((f_X4_foundSo 3 a1 0 q1.2).bind fun q4 => some (q4.1, q4.2))))
def f_X4_begins (a1 : Int32) (V : VV) : Option VV := (bV (wI V 0 6 (-1)) fun V1 => (bV (wI V1 0 7 (a1 + 1)) fun V2 => some V2))
def f_X4_tries (a1 : Int32) (a2 : Int32) (V : VV) : Option VV := (if (V.1 0 7) ≤ a2 then (bV (wI V 0 6 (V.1 0 6)) fun V2 => (if (V2.1 0 7) ≤ a2 then (bV (wI V2 0 7 (V2.1 0 7)) fun V4 => some V4) else (bV (wI V2 0 7 a2) fun V5 => some V5))) else (bV (wI V 0 6 a1) fun V6 => (if (V6.1 0 7) ≤ a2 then (bV (wI V6 0 7 (V6.1 0 7)) fun V8 => some V8) else (bV (wI V6 0 7 a2) fun V9 => some V9))))
def f_X4_bestOrNone (V : VV) : Option (Int32 × VV) := (if 0 ≤ (V.1 0 6) then some ((V.1 0 6), V) else ((f_X4_finds (-1000000004) V).bind fun q2 => some (q2.1, q2.2)))
def f_X4_heading_L28 : Nat → Int32 → Int32 → Int32 → VV → Option (Int32 × VV)
  | 0, _, _, _, _ => none
  | n + 1, x1, x2, x3, V => (if 4 ≤ x3 then ((f_X4_bestOrNone V).bind fun q6 => some (q6.1, q6.2)) else ((f_X4_spotOf x1 3 V).bind fun q7 => (if inb q7.1 60 = true then (bV (wI q7.2 1 (Int32.toNatClampNeg (q7.1)) x3) fun V9 => ((f_X4_firstSo 0 x1 x2 100 V9).bind fun q10 => ((f_X4_takesBack q10.1 q10.2).bind fun q11 => ((f_X4_tries x3 q11.1 q11.2).bind fun V12 => (f_X4_heading_L28 n x1 x2 ((x3 + 1)) V12))))) else none)))
def f_X4_heading (a1 : Int32) (a2 : Int32) (V : VV) : Option (Int32 × VV) := ((f_X4_areTwo a1 a2 V).bind fun q1 => (if q1.1 = 0 then ((f_X4_finds (-1000000001) q1.2).bind fun q13 => some (q13.1, q13.2)) else ((f_X4_begins 100 q1.2).bind fun V3 => ((f_X4_laysAside V3).bind fun V4 => (f_X4_heading_L28 200 a1 a2 0 V4)))))
def f_X4_begin_L28 : Nat → Int32 → Int32 → Int32 → VV → Option (Int32 × VV)
  | 0, _, _, _, _ => none
  | n + 1, x1, x2, x3, V => (if 36 ≤ x3 then ((f_X4_bestOrNone V).bind fun q6 => some (q6.1, q6.2)) else ((f_X4_isFree x1 V).bind fun q7 => (if q7.1 = 0 then ((f_X4_lets x1 q7.2).bind fun q9 => ((f_X4_spotOf x1 1 q9.2).bind fun q10 => (if inb q10.1 60 = true then (bV (wI q10.2 1 (Int32.toNatClampNeg (q10.1)) x3) fun V12 => ((f_X4_firstSo 0 x1 x2 30 V12).bind fun q13 => ((f_X4_takesBack q13.1 q13.2).bind fun q14 => ((f_X4_tries x3 q14.1 q14.2).bind fun V15 => (f_X4_begin_L28 n x1 x2 ((x3 + 1)) V15))))) else none))) else ((f_X4_spotOf x1 1 q7.2).bind fun q16 => (if inb q16.1 60 = true then (bV (wI q16.2 1 (Int32.toNatClampNeg (q16.1)) x3) fun V18 => ((f_X4_firstSo 0 x1 x2 30 V18).bind fun q19 => ((f_X4_takesBack q19.1 q19.2).bind fun q20 => ((f_X4_tries x3 q20.1 q20.2).bind fun V21 => (f_X4_begin_L28 n x1 x2 ((x3 + 1)) V21))))) else none)))))
def f_X4_begin (a1 : Int32) (a2 : Int32) (V : VV) : Option (Int32 × VV) := ((f_X4_areTwo a1 a2 V).bind fun q1 => (if q1.1 = 0 then ((f_X4_finds (-1000000001) q1.2).bind fun q22 => some (q22.1, q22.2)) else ((f_X4_begins 30 q1.2).bind fun V3 => ((f_X4_laysAside V3).bind fun V4 => (f_X4_begin_L28 200 a1 a2 0 V4)))))
def f_X4_kind_L27 : Nat → Int32 → Int32 → VV → Option (Int32 × VV)
  | 0, _, _, _ => none
  | n + 1, x1, x2, V => (if 5 < x2 then ((f_X4_bestOrNone V).bind fun q6 => some (q6.1, q6.2)) else ((f_X4_spotOf x1 0 V).bind fun q7 => (if inb q7.1 60 = true then (bV (wI q7.2 1 (Int32.toNatClampNeg (q7.1)) x2) fun V9 => ((f_X4_firstSo 1 x1 0 100 V9).bind fun q10 => ((f_X4_takesBack q10.1 q10.2).bind fun q11 => ((f_X4_tries x2 q11.1 q11.2).bind fun V12 => (f_X4_kind_L27 n x1 ((x2 + 1)) V12))))) else none)))
def f_X4_kind (a1 : Int32) (V : VV) : Option (Int32 × VV) := ((f_X4_isWalker a1 V).bind fun q1 => (if q1.1 = 0 then ((f_X4_finds (-1000000001) q1.2).bind fun q13 => some (q13.1, q13.2)) else ((f_X4_begins 100 q1.2).bind fun V3 => ((f_X4_laysAside V3).bind fun V4 => (f_X4_kind_L27 200 a1 0 V4)))))
def f_X4_hour_L28 : Nat → Int32 → Int32 → Int32 → VV → Option (Int32 × VV)
  | 0, _, _, _, _ => none
  | n + 1, x1, x2, x3, V => (if 24 ≤ x3 then ((f_X4_bestOrNone V).bind fun q6 => some (q6.1, q6.2)) else (if inb 2 60 = true then (bV (wI V 1 (Int32.toNatClampNeg (2)) (1 <<< (x3 &&& 31))) fun V8 => ((f_X4_firstSo 0 x1 x2 60 V8).bind fun q9 => ((f_X4_takesBack q9.1 q9.2).bind fun q10 => ((f_X4_tries x3 q10.1 q10.2).bind fun V11 => (f_X4_hour_L28 n x1 x2 ((x3 + 1)) V11))))) else none))
def f_X4_hour (a1 : Int32) (a2 : Int32) (V : VV) : Option (Int32 × VV) := ((f_X4_areTwo a1 a2 V).bind fun q1 => (if q1.1 = 0 then ((f_X4_finds (-1000000001) q1.2).bind fun q12 => some (q12.1, q12.2)) else ((f_X4_begins 60 q1.2).bind fun V3 => ((f_X4_laysAside V3).bind fun V4 => (f_X4_hour_L28 200 a1 a2 0 V4)))))
def f_X4_hope_L39 : Nat → Int32 → Int32 → Int32 → Int32 → Int32 → VV → Option (Int32 × VV)
  | 0, _, _, _, _, _, _ => none
  | n + 1, x1, x2, x3, x4, x5, V => (if 16 ≤ x5 then some (x4, V) else ((f_X4_spotOf x1 4 V).bind fun q8 => (if inb q8.1 60 = true then (bV (wI q8.2 1 (Int32.toNatClampNeg (q8.1)) x5) fun V10 => ((f_X4_hoursGo x2 V10).bind fun V11 => ((f_X4_thoseGlad V11).bind fun q12 => ((f_X4_ones q12.1 q12.2).bind fun q13 => ((f_X4_takesBack q13.1 q13.2).bind fun q14 => (if q14.1 ≤ x3 then (if q14.1 ≤ x3 then (f_X4_hope_L39 n x1 x2 x3 x4 ((x5 + 1)) q14.2) else (f_X4_hope_L39 n x1 x2 (q14.1) x4 ((x5 + 1)) q14.2)) else (if q14.1 ≤ x3 then (f_X4_hope_L39 n x1 x2 x3 x5 ((x5 + 1)) q14.2) else (f_X4_hope_L39 n x1 x2 (q14.1) x5 ((x5 + 1)) q14.2)))))))) else none)))
def f_X4_hope (a1 : Int32) (a2 : Int32) (V : VV) : Option (Int32 × VV) := ((f_X4_isWalker a1 V).bind fun q1 => (if q1.1 = 0 then ((f_X4_finds (-1000000001) q1.2).bind fun q3 => some (q3.1, q3.2)) else ((f_X4_in ((a2 : Int32).toInt64) 0 60 q1.2).bind fun q4 => (if q4.1 = 0 then ((f_X4_finds (-1000000001) q4.2).bind fun q18 => some (q18.1, q18.2)) else ((f_X4_laysAside q4.2).bind fun V6 => (f_X4_hope_L39 200 a1 a2 ((-1)) 0 0 V6))))))
def f_X4_more_L30 : Nat → Int32 → Int32 → Int32 → Int32 → VV → Option (Int32 × VV)
  | 0, _, _, _, _, _ => none
  | n + 1, x1, x2, x3, x4, V => (if 24 ≤ x4 then some (x3, V) else (if inb 2 60 = true then (if inb 2 60 = true then (bV (wI V 1 (Int32.toNatClampNeg (2)) ((V.1 1 (Int32.toNatClampNeg (2))) ||| (1 <<< (x4 &&& 31)))) fun V7 => ((f_X4_hoursGo x1 V7).bind fun V8 => ((f_X4_thoseKept V8).bind fun q9 => ((f_X4_ones q9.1 q9.2).bind fun q10 => ((f_X4_takesBack q10.1 q10.2).bind fun q11 => (if q11.1 ≤ x2 then (if q11.1 ≤ x2 then (f_X4_more_L30 n x1 x2 x3 ((x4 + 1)) q11.2) else (f_X4_more_L30 n x1 (q11.1) x3 ((x4 + 1)) q11.2)) else (if q11.1 ≤ x2 then (f_X4_more_L30 n x1 x2 x4 ((x4 + 1)) q11.2) else (f_X4_more_L30 n x1 (q11.1) x4 ((x4 + 1)) q11.2)))))))) else none) else none))
def f_X4_more (a1 : Int32) (V : VV) : Option (Int32 × VV) := ((f_X4_in ((a1 : Int32).toInt64) 0 60 V).bind fun q1 => (if q1.1 = 0 then ((f_X4_finds (-1000000001) q1.2).bind fun q15 => some (q15.1, q15.2)) else ((f_X4_laysAside q1.2).bind fun V3 => (f_X4_more_L30 200 a1 ((-1)) 0 0 V3))))
def f_X4_best_L30 : Nat → Int32 → Int32 → Int32 → Int32 → VV → Option (Int32 × VV)
  | 0, _, _, _, _, _ => none
  | n + 1, x1, x2, x3, x4, V => (if 36 ≤ x4 then some (x3, V) else (if inb 3 60 = true then (bV (wI V 1 (Int32.toNatClampNeg (3)) x4) fun V6 => ((f_X4_hoursGo x1 V6).bind fun V7 => ((f_X4_thoseKept V7).bind fun q8 => ((f_X4_ones q8.1 q8.2).bind fun q9 => ((f_X4_takesBack q9.1 q9.2).bind fun q10 => (if q10.1 ≤ x2 then (if q10.1 ≤ x2 then (f_X4_best_L30 n x1 x2 x3 ((x4 + 1)) q10.2) else (f_X4_best_L30 n x1 (q10.1) x3 ((x4 + 1)) q10.2)) else (if q10.1 ≤ x2 then (f_X4_best_L30 n x1 x2 x4 ((x4 + 1)) q10.2) else (f_X4_best_L30 n x1 (q10.1) x4 ((x4 + 1)) q10.2)))))))) else none))
def f_X4_best (a1 : Int32) (V : VV) : Option (Int32 × VV) := ((f_X4_in ((a1 : Int32).toInt64) 0 30 V).bind fun q1 => (if q1.1 = 0 then ((f_X4_finds (-1000000001) q1.2).bind fun q14 => some (q14.1, q14.2)) else ((f_X4_laysAside q1.2).bind fun V3 => (f_X4_best_L30 200 a1 ((-1)) 0 0 V3))))
def f_X4_feed_L41 : Nat → Int32 → Int32 → VV → Option (Int32 × VV)
  | 0, _, _, _ => none
  | n + 1, x1, x3, V => (if x3 < 0 then some ((V.1 0 9), V) else (if inb (V.1 0 9) 120 = true then (bV (wI V 6 (Int32.toNatClampNeg ((V.1 0 9))) ((x1 >>> ((8 * x3) &&& 31)) &&& 255)) fun V6 => (bV (wI V6 0 9 ((V6.1 0 9) + 1)) fun V7 => (f_X4_feed_L41 n x1 ((x3 + (-1))) V7))) else none))
def f_X4_feed (a1 : Int32) (a2 : Int32) (V : VV) : Option (Int32 × VV) := ((f_X4_in ((a2 : Int32).toInt64) 1 4 V).bind fun q1 => (if q1.1 = 0 then ((f_X4_finds (-1000000001) q1.2).bind fun q9 => some (q9.1, q9.2)) else (if ((q1.2.1 0 9) + a2) ≤ 120 then (f_X4_feed_L41 200 a1 ((a2 - 1)) q1.2) else ((f_X4_finds (-1000000002) q1.2).bind fun q8 => some (q8.1, q8.2)))))
def f_X4_wipe (V : VV) : Option (Int32 × VV) := (bV (wI V 0 9 0) fun V1 => some ((V.1 0 9), V1))
def f_X4_byteAt (a1 : Int32) (V : VV) : Option (Int32 × VV) := (if (V.1 0 9) ≤ a1 then some ((-1), V) else (if inb a1 120 = true then some ((V.1 6 (Int32.toNatClampNeg (a1))), V) else none))
def f_X4_isLetter (a1 : Int32) (V : VV) : Option (Int32 × VV) := ((f_X4_in ((a1 : Int32).toInt64) 97 122 V).bind fun q1 => some (q1.1, q1.2))
def f_X4_isDigit (a1 : Int32) (V : VV) : Option (Int32 × VV) := ((f_X4_in ((a1 : Int32).toInt64) 48 57 V).bind fun q1 => some (q1.1, q1.2))
def f_X4_token_L86 : Nat → Int32 → Int32 → VV → Option VV
  | 0, _, _, _ => none
  | n + 1, x1, x2, V => (if x1 = 0 then (if x2 = 0 then some V else ((f_X4_byteAt (V.1 0 11) V).bind fun q12 => ((f_X4_isDigit q12.1 q12.2).bind fun q13 => (if q13.1 = 0 then some q13.2 else (bV (wI q13.2 0 11 ((q13.2.1 0 11) + 1)) fun V15 => (f_X4_token_L86 n x1 x2 V15)))))) else ((f_X4_byteAt (V.1 0 11) V).bind fun q16 => ((f_X4_isLetter q16.1 q16.2).bind fun q17 => (if q17.1 = 0 then (if x2 = 0 then some q17.2 else ((f_X4_byteAt (q17.2.1 0 11) q17.2).bind fun q21 => ((f_X4_isDigit q21.1 q21.2).bind fun q22 => (if q22.1 = 0 then some q22.2 else (bV (wI q22.2 0 11 ((q22.2.1 0 11) + 1)) fun V24 => (f_X4_token_L86 n x1 x2 V24)))))) else (bV (wI q17.2 0 11 ((q17.2.1 0 11) + 1)) fun V19 => (f_X4_token_L86 n x1 x2 V19))))))
def f_X4_token_L8 : Nat → VV → Option VV
  | 0, _ => none
  | n + 1, V => ((f_X4_byteAt (V.1 0 10) V).bind fun q2 => (if q2.1 = 32 then (bV (wI q2.2 0 10 ((q2.2.1 0 10) + 1)) fun V26 => (f_X4_token_L8 n  V26)) else ((f_X4_byteAt (q2.2.1 0 10) q2.2).bind fun q4 => ((f_X4_isLetter q4.1 q4.2).bind fun q5 => ((f_X4_byteAt (q5.2.1 0 10) q5.2).bind fun q6 => ((f_X4_isDigit q6.1 q6.2).bind fun q7 => (if (q7.2.1 0 9) ≤ (q7.2.1 0 10) then (bV (wI q7.2 0 11 (q7.2.1 0 10)) fun V9 => (f_X4_token_L86 200 (q5.1) (q7.1) V9)) else (bV (wI q7.2 0 11 ((q7.2.1 0 10) + 1)) fun V25 => (f_X4_token_L86 200 (q5.1) (q7.1) V25)))))))))
def f_X4_token (V : VV) : Option VV := (bV (wI V 0 10 (V.1 0 11)) fun V1 => (f_X4_token_L8 200  V1))
def f_X4_must (a1 : Int32) (V : VV) : Option VV := (if (V.1 0 13) = 0 then (if a1 = 0 then (bV (wI V 0 13 1) fun V9 => (if (V9.1 0 13) = 0 then ((f_X4_token V9).bind fun V11 => some V11) else some V9)) else (bV (wI V 0 13 0) fun V6 => (if (V6.1 0 13) = 0 then ((f_X4_token V6).bind fun V8 => some V8) else some V6))) else (bV (wI V 0 13 1) fun V2 => (if (V2.1 0 13) = 0 then ((f_X4_token V2).bind fun V4 => some V4) else some V2)))
def f_X4_word_L7 : Nat → Int64 → Int32 → VV → Option (Int64 × VV)
  | 0, _, _, _ => none
  | n + 1, x1, x3, V => (if (V.1 0 11) ≤ x3 then (if (V.1 0 13) = 0 then ((f_X4_byteAt (V.1 0 10) V).bind fun q3 => ((f_X4_isLetter q3.1 q3.2).bind fun q4 => (if q4.1 = 0 then some (0, q4.2) else some (x1, q4.2)))) else some (0, V)) else (if (lg_cmp x1 36028797018963967) ≤ 0 then (if inb x3 120 = true then (f_X4_word_L7 n (((32 * x1) + ((((V.1 6 (Int32.toNatClampNeg (x3))) - 96) : Int32).toInt64))) ((x3 + 1)) V) else none) else (f_X4_word_L7 n x1 ((x3 + 1)) V)))
def f_X4_word (V : VV) : Option (Int64 × VV) := (f_X4_word_L7 200 0 ((V.1 0 10)) V)
def f_X4_number_L29 : Nat → Int32 → Int32 → Int32 → Int32 → Int32 → VV → Option VV
  | 0, _, _, _, _, _, _ => none
  | n + 1, x1, x2, x3, x4, x5, V => (if (V.1 0 11) ≤ x5 then (bV (wI V 0 12 x4) fun V5 => (if x3 = 0 then ((f_X4_must 0 V5).bind fun V7 => some V7) else ((f_X4_in ((x4 : Int32).toInt64) ((x1 : Int32).toInt64) ((x2 : Int32).toInt64) V5).bind fun q8 => (if q8.1 = 0 then ((f_X4_must 0 q8.2).bind fun V10 => some V10) else ((f_X4_must 1 q8.2).bind fun V11 => some V11))))) else (if x3 = 0 then (bV (wI V 0 12 x4) fun V13 => (if x3 = 0 then ((f_X4_must 0 V13).bind fun V15 => some V15) else ((f_X4_in ((x4 : Int32).toInt64) ((x1 : Int32).toInt64) ((x2 : Int32).toInt64) V13).bind fun q16 => (if q16.1 = 0 then ((f_X4_must 0 q16.2).bind fun V18 => some V18) else ((f_X4_must 1 q16.2).bind fun V19 => some V19))))) else (if x4 ≤ 999 then (if inb x5 120 = true then (f_X4_number_L29 n x1 x2 x3 ((((10 * x4) + (V.1 6 (Int32.toNatClampNeg (x5)))) - 48)) ((x5 + 1)) V) else none) else (f_X4_number_L29 n x1 x2 x3 x4 ((x5 + 1)) V))))
def f_X4_number (a1 : Int32) (a2 : Int32) (V : VV) : Option VV := (if (V.1 0 13) = 0 then ((f_X4_byteAt (V.1 0 10) V).bind fun q2 => ((f_X4_isDigit q2.1 q2.2).bind fun q3 => (f_X4_number_L29 200 a1 a2 (q3.1) 0 ((q3.2.1 0 10)) q3.2))) else some V)
def f_X4_kindHere (V : VV) : Option (Int32 × VV) := ((f_X4_word V).bind fun q1 => (if (lg_cmp q1.1 773205170) = 0 then some (0, q1.2) else (if (lg_cmp q1.1 661609780804) = 0 then some (1, q1.2) else (if (lg_cmp q1.1 24416759) = 0 then some (2, q1.2) else (if (lg_cmp q1.1 409204) = 0 then some (3, q1.2) else (if (lg_cmp q1.1 3193326) = 0 then some (4, q1.2) else (if (lg_cmp q1.1 2190877894) = 0 then some (5, q1.2) else some ((-1), q1.2))))))))
def f_X4_partItem (a1 : Int64) (a2 : Int32) (a3 : Int32) (V : VV) : Option VV := ((f_X4_word V).bind fun q1 => (if (lg_cmp q1.1 a1) = 0 then ((f_X4_must 1 q1.2).bind fun V3 => ((f_X4_number 0 a3 V3).bind fun V4 => (if (V4.1 0 13) = 0 then (if inb a2 60 = true then (bV (wI V4 1 (Int32.toNatClampNeg (a2)) (V4.1 0 12)) fun V7 => some V7) else none) else (if inb a2 60 = true then (if inb a2 60 = true then (bV (wI V4 1 (Int32.toNatClampNeg (a2)) (V4.1 1 (Int32.toNatClampNeg (a2)))) fun V10 => some V10) else none) else none)))) else some q1.2))
def f_X4_walkerItem (a1 : Int32) (V : VV) : Option VV := (if inb 0 60 = true then (if 8 ≤ (V.1 1 (Int32.toNatClampNeg (0))) then ((f_X4_must 0 V).bind fun V3 => ((f_X4_word V3).bind fun q4 => (if (lg_cmp q4.1 52) = 0 then ((f_X4_must 1 q4.2).bind fun V14 => ((f_X4_number 0 35 V14).bind fun V15 => (if (V15.1 0 13) = 0 then ((f_X4_adds a1 (V15.1 0 12) V15).bind fun q17 => ((f_X4_spotOf q17.1 3 q17.2).bind fun q18 => ((f_X4_partItem 8758896071 q18.1 3 q18.2).bind fun V19 => ((f_X4_spotOf q17.1 4 V19).bind fun q20 => ((f_X4_partItem 8896691 q20.1 15 q20.2).bind fun V21 => some V21))))) else some V15))) else ((f_X4_must 0 q4.2).bind fun V6 => ((f_X4_number 0 35 V6).bind fun V7 => (if (V7.1 0 13) = 0 then ((f_X4_adds a1 (V7.1 0 12) V7).bind fun q9 => ((f_X4_spotOf q9.1 3 q9.2).bind fun q10 => ((f_X4_partItem 8758896071 q10.1 3 q10.2).bind fun V11 => ((f_X4_spotOf q9.1 4 V11).bind fun q12 => ((f_X4_partItem 8896691 q12.1 15 q12.2).bind fun V13 => some V13))))) else some V7)))))) else ((f_X4_must 1 V).bind fun V22 => ((f_X4_word V22).bind fun q23 => (if (lg_cmp q23.1 52) = 0 then ((f_X4_must 1 q23.2).bind fun V33 => ((f_X4_number 0 35 V33).bind fun V34 => (if (V34.1 0 13) = 0 then ((f_X4_adds a1 (V34.1 0 12) V34).bind fun q36 => ((f_X4_spotOf q36.1 3 q36.2).bind fun q37 => ((f_X4_partItem 8758896071 q37.1 3 q37.2).bind fun V38 => ((f_X4_spotOf q36.1 4 V38).bind fun q39 => ((f_X4_partItem 8896691 q39.1 15 q39.2).bind fun V40 => some V40))))) else some V34))) else ((f_X4_must 0 q23.2).bind fun V25 => ((f_X4_number 0 35 V25).bind fun V26 => (if (V26.1 0 13) = 0 then ((f_X4_adds a1 (V26.1 0 12) V26).bind fun q28 => ((f_X4_spotOf q28.1 3 q28.2).bind fun q29 => ((f_X4_partItem 8758896071 q29.1 3 q29.2).bind fun V30 => ((f_X4_spotOf q28.1 4 V30).bind fun q31 => ((f_X4_partItem 8896691 q31.1 15 q31.2).bind fun V32 => some V32))))) else some V26))))))) else none)
def f_X4_fogItem_L53 : Nat → Int32 → Int32 → Int32 → VV → Option VV
  | 0, _, _, _, _ => none
  | n + 1, x1, x3, x4, V => (if x3 < x4 then some V else (if (V.1 0 13) = 0 then (if x1 = 0 then (if inb 2 60 = true then (if inb 2 60 = true then (bV (wI V 1 (Int32.toNatClampNeg (2)) ((V.1 1 (Int32.toNatClampNeg (2))) &&& ((1 <<< (x4 &&& 31)) ^^^ (-1)))) fun V10 => (f_X4_fogItem_L53 n x1 x3 ((x4 + 1)) V10)) else none) else none) else (if inb 2 60 = true then (if inb 2 60 = true then (bV (wI V 1 (Int32.toNatClampNeg (2)) ((V.1 1 (Int32.toNatClampNeg (2))) ||| (1 <<< (x4 &&& 31)))) fun V13 => (f_X4_fogItem_L53 n x1 x3 ((x4 + 1)) V13)) else none) else none)) else some V))
def f_X4_fogItem (a1 : Int32) (V : VV) : Option VV := ((f_X4_must 1 V).bind fun V1 => ((f_X4_number 0 23 V1).bind fun V2 => ((f_X4_word V2).bind fun q3 => (if (lg_cmp q3.1 655) = 0 then ((f_X4_must 1 q3.2).bind fun V14 => ((f_X4_number (V2.1 0 12) 23 V14).bind fun V15 => (f_X4_fogItem_L53 200 a1 ((V15.1 0 12)) ((V2.1 0 12)) V15))) else (f_X4_fogItem_L53 200 a1 ((V2.1 0 12)) ((V2.1 0 12)) q3.2)))))
def f_X4_item (V : VV) : Option VV := ((f_X4_kindHere V).bind fun q1 => ((f_X4_word q1.2).bind fun q2 => (if (lg_cmp q2.1 6631) = 0 then (if q1.1 < 0 then ((f_X4_fogItem 1 q2.2).bind fun V28 => some V28) else ((f_X4_walkerItem q1.1 q2.2).bind fun V29 => some V29)) else (if q1.1 < 0 then (if (lg_cmp q2.1 3544114) = 0 then ((f_X4_fogItem 0 q2.2).bind fun V24 => some V24) else (if (lg_cmp q2.1 23937287397) = 0 then ((f_X4_must 1 q2.2).bind fun V16 => ((f_X4_number 0 35 V16).bind fun V17 => (if (V17.1 0 13) = 0 then (if inb 3 60 = true then (bV (wI V17 1 (Int32.toNatClampNeg (3)) (V17.1 0 12)) fun V20 => some V20) else none) else (if inb 3 60 = true then (if inb 3 60 = true then (bV (wI V17 1 (Int32.toNatClampNeg (3)) (V17.1 1 (Int32.toNatClampNeg (3)))) fun V23 => some V23) else none) else none)))) else ((f_X4_must 0 q2.2).bind fun V8 => ((f_X4_number 0 35 V8).bind fun V9 => (if (V9.1 0 13) = 0 then (if inb 3 60 = true then (bV (wI V9 1 (Int32.toNatClampNeg (3)) (V9.1 0 12)) fun V12 => some V12) else none) else (if inb 3 60 = true then (if inb 3 60 = true then (bV (wI V9 1 (Int32.toNatClampNeg (3)) (V9.1 1 (Int32.toNatClampNeg (3)))) fun V15 => some V15) else none) else none)))))) else ((f_X4_walkerItem q1.1 q2.2).bind fun V25 => some V25)))))
def f_X4_moor_L24 : Nat → Int32 → VV → Option (Int32 × VV)
  | 0, _, _ => none
  | n + 1, x1, V => (if (V.1 0 13) = 0 then ((f_X4_byteAt (V.1 0 10) V).bind fun q30 => (if q30.1 = 59 then ((f_X4_must 1 q30.2).bind fun V55 => ((f_X4_item V55).bind fun V56 => (f_X4_moor_L24 n ((x1 + 1)) V56))) else (if (q30.2.1 0 13) = 0 then (if (q30.2.1 0 9) ≤ (q30.2.1 0 10) then (bV (wI q30.2 0 13 0) fun V41 => (if (V41.1 0 13) = 0 then (bV (wI V41 0 9 0) fun V43 => (if (V43.1 0 13) = 0 then some (x1, V43) else some (((-1) - (V43.1 0 10)), V43))) else ((f_X4_putsBack V41).bind fun V45 => (bV (wI V45 0 9 0) fun V46 => (if (V46.1 0 13) = 0 then some (x1, V46) else some (((-1) - (V46.1 0 10)), V46)))))) else (bV (wI q30.2 0 13 1) fun V48 => (if (V48.1 0 13) = 0 then (bV (wI V48 0 9 0) fun V50 => (if (V50.1 0 13) = 0 then some (x1, V50) else some (((-1) - (V50.1 0 10)), V50))) else ((f_X4_putsBack V48).bind fun V52 => (bV (wI V52 0 9 0) fun V53 => (if (V53.1 0 13) = 0 then some (x1, V53) else some (((-1) - (V53.1 0 10)), V53))))))) else (bV (wI q30.2 0 13 1) fun V33 => (if (V33.1 0 13) = 0 then (bV (wI V33 0 9 0) fun V35 => (if (V35.1 0 13) = 0 then some (x1, V35) else some (((-1) - (V35.1 0 10)), V35))) else ((f_X4_putsBack V33).bind fun V37 => (bV (wI V37 0 9 0) fun V38 => (if (V38.1 0 13) = 0 then some (x1, V38) else some (((-1) - (V38.1 0 10)), V38))))))))) else (if (V.1 0 13) = 0 then (if (V.1 0 9) ≤ (V.1 0 10) then (bV (wI V 0 13 0) fun V16 => (if (V16.1 0 13) = 0 then (bV (wI V16 0 9 0) fun V18 => (if (V18.1 0 13) = 0 then some (x1, V18) else some (((-1) - (V18.1 0 10)), V18))) else ((f_X4_putsBack V16).bind fun V20 => (bV (wI V20 0 9 0) fun V21 => (if (V21.1 0 13) = 0 then some (x1, V21) else some (((-1) - (V21.1 0 10)), V21)))))) else (bV (wI V 0 13 1) fun V23 => (if (V23.1 0 13) = 0 then (bV (wI V23 0 9 0) fun V25 => (if (V25.1 0 13) = 0 then some (x1, V25) else some (((-1) - (V25.1 0 10)), V25))) else ((f_X4_putsBack V23).bind fun V27 => (bV (wI V27 0 9 0) fun V28 => (if (V28.1 0 13) = 0 then some (x1, V28) else some (((-1) - (V28.1 0 10)), V28))))))) else (bV (wI V 0 13 1) fun V8 => (if (V8.1 0 13) = 0 then (bV (wI V8 0 9 0) fun V10 => (if (V10.1 0 13) = 0 then some (x1, V10) else some (((-1) - (V10.1 0 10)), V10))) else ((f_X4_putsBack V8).bind fun V12 => (bV (wI V12 0 9 0) fun V13 => (if (V13.1 0 13) = 0 then some (x1, V13) else some (((-1) - (V13.1 0 10)), V13))))))))
def f_X4_moor (V : VV) : Option (Int32 × VV) := ((f_X4_saves V).bind fun V1 => (bV (wI V1 0 13 0) fun V2 => (bV (wI V2 0 11 0) fun V3 => ((f_X4_token V3).bind fun V4 => ((f_X4_item V4).bind fun V5 => (f_X4_moor_L24 200 1 V5))))))
def f_X4_isOne (a1 : Int32) (V : VV) : Option (Int32 × VV) := ((f_X4_in ((a1 : Int32).toInt64) 0 3 V).bind fun q1 => some (q1.1, q1.2))
def f_X4_sheet_L86 : Nat → Int32 → Int32 → VV → Option (Int32 × VV)
  | 0, _, _, _ => none
  | n + 1, x1, x4, V => (if 40 ≤ x4 then (if inb x1 4 = true then some ((V.1 8 (Int32.toNatClampNeg (x1))), V) else none) else (if inb ((40 * x1) + x4) 160 = true then (bV (wJ V 9 (Int32.toNatClampNeg (((40 * x1) + x4))) 0) fun V15 => (f_X4_sheet_L86 n x1 ((x4 + 1)) V15)) else none))
def f_X4_sheet (a1 : Int32) (a2 : Int32) (a3 : Int32) (V : VV) : Option (Int32 × VV) := ((f_X4_isOne a1 V).bind fun q1 => (if q1.1 = 0 then ((f_X4_finds (-1000000001) q1.2).bind fun q3 => some (q3.1, q3.2)) else (if a2 = 0 then (if 0 ≤ a3 then (if a3 ≤ 40 then (if inb a1 4 = true then (bV (wI q1.2 7 (Int32.toNatClampNeg (a1)) a2) fun V8 => (if a2 = 0 then (if inb a1 4 = true then (bV (wI V8 8 (Int32.toNatClampNeg (a1)) 0) fun V17 => (f_X4_sheet_L86 200 a1 0 V17)) else none) else (if inb a1 4 = true then (bV (wI V8 8 (Int32.toNatClampNeg (a1)) a3) fun V11 => (f_X4_sheet_L86 200 a1 0 V11)) else none))) else none) else ((f_X4_finds (-1000000001) q1.2).bind fun q18 => some (q18.1, q18.2))) else ((f_X4_finds (-1000000007) q1.2).bind fun q19 => some (q19.1, q19.2))) else (if a2 = 8 then (if 0 ≤ a3 then (if a3 ≤ 40 then (if inb a1 4 = true then (bV (wI q1.2 7 (Int32.toNatClampNeg (a1)) a2) fun V24 => (if a2 = 0 then (if inb a1 4 = true then (bV (wI V24 8 (Int32.toNatClampNeg (a1)) 0) fun V29 => (f_X4_sheet_L86 200 a1 0 V29)) else none) else (if inb a1 4 = true then (bV (wI V24 8 (Int32.toNatClampNeg (a1)) a3) fun V27 => (f_X4_sheet_L86 200 a1 0 V27)) else none))) else none) else ((f_X4_finds (-1000000001) q1.2).bind fun q30 => some (q30.1, q30.2))) else ((f_X4_finds (-1000000007) q1.2).bind fun q31 => some (q31.1, q31.2))) else (if a2 = 16 then (if 0 ≤ a3 then (if a3 ≤ 40 then (if inb a1 4 = true then (bV (wI q1.2 7 (Int32.toNatClampNeg (a1)) a2) fun V36 => (if a2 = 0 then (if inb a1 4 = true then (bV (wI V36 8 (Int32.toNatClampNeg (a1)) 0) fun V41 => (f_X4_sheet_L86 200 a1 0 V41)) else none) else (if inb a1 4 = true then (bV (wI V36 8 (Int32.toNatClampNeg (a1)) a3) fun V39 => (f_X4_sheet_L86 200 a1 0 V39)) else none))) else none) else ((f_X4_finds (-1000000001) q1.2).bind fun q42 => some (q42.1, q42.2))) else ((f_X4_finds (-1000000007) q1.2).bind fun q43 => some (q43.1, q43.2))) else (if a2 = 64 then (if 0 ≤ a3 then (if a3 ≤ 40 then (if inb a1 4 = true then (bV (wI q1.2 7 (Int32.toNatClampNeg (a1)) a2) fun V48 => (if a2 = 0 then (if inb a1 4 = true then (bV (wI V48 8 (Int32.toNatClampNeg (a1)) 0) fun V53 => (f_X4_sheet_L86 200 a1 0 V53)) else none) else (if inb a1 4 = true then (bV (wI V48 8 (Int32.toNatClampNeg (a1)) a3) fun V51 => (f_X4_sheet_L86 200 a1 0 V51)) else none))) else none) else ((f_X4_finds (-1000000001) q1.2).bind fun q54 => some (q54.1, q54.2))) else ((f_X4_finds (-1000000007) q1.2).bind fun q55 => some (q55.1, q55.2))) else ((f_X4_finds (-1000000001) q1.2).bind fun q56 => some (q56.1, q56.2))))))))
def f_X4_narrowed (a1 : Int32) (a2 : Int64) (V : VV) : Option (Int64 × VV) := (if a1 = 8 then some (((((((a2 : Int64).toInt32) : Int32).toInt8.toInt32) : Int32).toInt64), V) else (if a1 = 16 then some (((((((a2 : Int64).toInt32) : Int32).toInt16.toInt32) : Int32).toInt64), V) else some (a2, V)))
def f_X4_wrongSheet (a1 : Int32) (V : VV) : Option (Int32 × VV) := ((f_X4_isOne a1 V).bind fun q1 => (if q1.1 = 0 then some ((-1000000001), q1.2) else (if inb a1 4 = true then (if (q1.2.1 7 (Int32.toNatClampNeg (a1))) = 0 then some ((-1000000006), q1.2) else some (0, q1.2)) else none)))
def f_X4_write (a1 : Int32) (a2 : Int32) (a3 : Int64) (V : VV) : Option (Int64 × VV) := ((f_X4_wrongSheet a1 V).bind fun q1 => (if q1.1 = 0 then (if inb a1 4 = true then ((f_X4_in ((a2 : Int32).toInt64) 0 ((((q1.2.1 8 (Int32.toNatClampNeg (a1))) - 1) : Int32).toInt64) q1.2).bind fun q4 => (if q4.1 = 0 then ((f_X4_finds (-1000000001) q4.2).bind fun q11 => some (((q11.1 : Int32).toInt64), q11.2)) else (if inb ((40 * a1) + a2) 160 = true then (if inb a1 4 = true then ((f_X4_narrowed (q4.2.1 7 (Int32.toNatClampNeg (a1))) a3 q4.2).bind fun q8 => (if inb ((40 * a1) + a2) 160 = true then (bV (wJ q8.2 9 (Int32.toNatClampNeg (((40 * a1) + a2))) q8.1) fun V10 => some ((q4.2.2 9 (Int32.toNatClampNeg (((40 * a1) + a2)))), V10)) else none)) else none) else none))) else none) else ((f_X4_finds q1.1 q1.2).bind fun q12 => some (((q12.1 : Int32).toInt64), q12.2))))
def f_X4_copy_L157 : Nat → Int32 → Int32 → Int32 → Int32 → VV → Option (Int32 × VV)
  | 0, _, _, _, _, _ => none
  | n + 1, x3, x4, x5, x6, V => (if x5 ≤ x6 then some (x5, V) else (if inb x6 40 = true then (if inb (((40 * x3) + x4) + x6) 160 = true then (bV (wJ V 9 (Int32.toNatClampNeg ((((40 * x3) + x4) + x6))) (V.2 10 (Int32.toNatClampNeg (x6)))) fun V29 => (f_X4_copy_L157 n x3 x4 x5 ((x6 + 1)) V29)) else none) else none))
def f_X4_copy_L120 : Nat → Int32 → Int32 → Int32 → Int32 → Int32 → Int32 → VV → Option (Int32 × VV)
  | 0, _, _, _, _, _, _, _ => none
  | n + 1, x1, x2, x3, x4, x5, x6, V => (if x5 ≤ x6 then (f_X4_copy_L157 200 x3 x4 x5 0 V) else (if inb (((40 * x1) + x2) + x6) 160 = true then (if inb x6 40 = true then (bV (wJ V 10 (Int32.toNatClampNeg (x6)) (V.2 9 (Int32.toNatClampNeg ((((40 * x1) + x2) + x6))))) fun V32 => (f_X4_copy_L120 n x1 x2 x3 x4 x5 ((x6 + 1)) V32)) else none) else none))
def f_X4_copy (a1 : Int32) (a2 : Int32) (a3 : Int32) (a4 : Int32) (a5 : Int32) (V : VV) : Option (Int32 × VV) := ((f_X4_isOne a1 V).bind fun q1 => (if q1.1 = 0 then ((f_X4_finds (-1000000001) q1.2).bind fun q3 => some (q3.1, q3.2)) else ((f_X4_isOne a3 q1.2).bind fun q4 => (if q4.1 = 0 then ((f_X4_finds (-1000000001) q4.2).bind fun q36 => some (q36.1, q36.2)) else (if inb a1 4 = true then (if (q4.2.1 7 (Int32.toNatClampNeg (a1))) = 0 then ((f_X4_finds (-1000000006) q4.2).bind fun q8 => some (q8.1, q8.2)) else (if inb a3 4 = true then (if (q4.2.1 7 (Int32.toNatClampNeg (a3))) = 0 then ((f_X4_finds (-1000000006) q4.2).bind fun q35 => some (q35.1, q35.2)) else (if inb a1 4 = true then (if inb a3 4 = true then (if (q4.2.1 7 (Int32.toNatClampNeg (a1))) = (q4.2.1 7 (Int32.toNatClampNeg (a3))) then (if a2 < 0 then ((f_X4_finds (-1000000001) q4.2).bind fun q15 => some (q15.1, q15.2)) else (if a4 < 0 then ((f_X4_finds (-1000000001) q4.2).bind fun q17 => some (q17.1, q17.2)) else (if a5 < 0 then ((f_X4_finds (-1000000001) q4.2).bind fun q19 => some (q19.1, q19.2)) else (if inb a1 4 = true then (if ((q4.2.1 8 (Int32.toNatClampNeg (a1))) - a2) < a5 then ((f_X4_finds (-1000000001) q4.2).bind fun q22 => some (q22.1, q22.2)) else (if inb a3 4 = true then (if a5 ≤ ((q4.2.1 8 (Int32.toNatClampNeg (a3))) - a4) then (f_X4_copy_L120 200 a1 a2 a3 a4 a5 0 q4.2) else ((f_X4_finds (-1000000001) q4.2).bind fun q33 => some (q33.1, q33.2))) else none)) else none)))) else ((f_X4_finds (-1000000003) q4.2).bind fun q34 => some (q34.1, q34.2))) else none) else none)) else none)) else none)))))
def f_X4_lays_L21 : Nat → Int32 → Int32 → Int32 → VV → Option (Int32 × VV)
  | 0, _, _, _, _ => none
  | n + 1, x1, x3, x4, V => (if inb x1 4 = true then (if (V.1 8 (Int32.toNatClampNeg (x1))) ≤ x4 then some (x3, V) else (if inb 0 60 = true then (if (V.1 1 (Int32.toNatClampNeg (0))) ≤ x4 then some (x3, V) else (if inb ((40 * x1) + x4) 160 = true then ((f_X4_in (V.2 9 (Int32.toNatClampNeg (((40 * x1) + x4)))) 0 15 V).bind fun q8 => ((f_X4_spotOf x4 4 q8.2).bind fun q9 => (if q8.1 = 0 then ((f_X4_its x4 4 q9.2).bind fun q11 => (if inb q9.1 60 = true then (bV (wI q11.2 1 (Int32.toNatClampNeg (q9.1)) q11.1) fun V13 => (if q8.1 = 0 then (f_X4_lays_L21 n x1 ((x3 + 0)) ((x4 + 1)) V13) else (f_X4_lays_L21 n x1 ((x3 + 1)) ((x4 + 1)) V13))) else none)) else (if inb ((40 * x1) + x4) 160 = true then (if inb q9.1 60 = true then (bV (wI q9.2 1 (Int32.toNatClampNeg (q9.1)) (((q9.2.2 9 (Int32.toNatClampNeg (((40 * x1) + x4)))) : Int64).toInt32)) fun V17 => (if q8.1 = 0 then (f_X4_lays_L21 n x1 ((x3 + 0)) ((x4 + 1)) V17) else (f_X4_lays_L21 n x1 ((x3 + 1)) ((x4 + 1)) V17))) else none) else none)))) else none)) else none)) else none)
def f_X4_lays (a1 : Int32) (V : VV) : Option (Int32 × VV) := ((f_X4_wrongSheet a1 V).bind fun q1 => (if q1.1 = 0 then (f_X4_lays_L21 200 a1 0 0 q1.2) else ((f_X4_finds q1.1 q1.2).bind fun q19 => some (q19.1, q19.2))))
def f_X4_wrongBook (a1 : Int32) (a2 : Int32) (V : VV) : Option (Int32 × VV) := ((f_X4_wrongSheet a1 V).bind fun q1 => (if q1.1 = 0 then ((f_X4_isWalker a2 q1.2).bind fun q3 => (if q3.1 = 0 then some ((-1000000001), q3.2) else some (0, q3.2))) else some (q1.1, q1.2)))
def f_X4_book_L24 : Nat → Int32 → Int32 → Int32 → VV → Option (Int32 × VV)
  | 0, _, _, _, _ => none
  | n + 1, x1, x2, x4, V => (if inb x1 4 = true then (if (V.1 8 (Int32.toNatClampNeg (x1))) ≤ x4 then (if inb x1 4 = true then ((f_X4_takesBack (V.1 8 (Int32.toNatClampNeg (x1))) V).bind fun q7 => some (q7.1, q7.2)) else none) else (if inb x1 4 = true then ((f_X4_its x2 1 V).bind fun q9 => ((f_X4_narrowed (V.1 7 (Int32.toNatClampNeg (x1))) ((q9.1 : Int32).toInt64) q9.2).bind fun q10 => (if inb ((40 * x1) + x4) 160 = true then (bV (wJ q10.2 9 (Int32.toNatClampNeg (((40 * x1) + x4))) q10.1) fun V12 => ((f_X4_goesHour V12).bind fun V13 => (f_X4_book_L24 n x1 x2 ((x4 + 1)) V13))) else none))) else none)) else none)
def f_X4_book (a1 : Int32) (a2 : Int32) (V : VV) : Option (Int32 × VV) := ((f_X4_wrongBook a1 a2 V).bind fun q1 => (if q1.1 = 0 then ((f_X4_laysAside q1.2).bind fun V3 => (f_X4_book_L24 200 a1 a2 0 V3)) else ((f_X4_finds q1.1 q1.2).bind fun q14 => some (q14.1, q14.2))))
def f_X4_isBook_L2 : Nat → Int32 → Int32 → Int32 → VV → Option (Int32 × VV)
  | 0, _, _, _, _ => none
  | n + 1, x1, x2, x3, V => (if inb x1 4 = true then (if (V.1 8 (Int32.toNatClampNeg (x1))) ≤ x3 then some (1, V) else (if inb ((40 * x1) + x3) 160 = true then ((f_X4_its x2 1 V).bind fun q4 => (if (lg_cmp (V.2 9 (Int32.toNatClampNeg (((40 * x1) + x3)))) ((q4.1 : Int32).toInt64)) = 0 then ((f_X4_goesHour q4.2).bind fun V6 => (f_X4_isBook_L2 n x1 x2 ((x3 + 1)) V6)) else some (0, q4.2))) else none)) else none)
def f_X4_isBook (a1 : Int32) (a2 : Int32) (V : VV) : Option (Int32 × VV) := (f_X4_isBook_L2 200 a1 a2 0 V)
def f_X4_read_L27 : Nat → Int32 → Int32 → Int32 → Int32 → VV → Option (Int32 × VV)
  | 0, _, _, _, _, _ => none
  | n + 1, x1, x2, x4, x5, V => (if 24 ≤ x5 then some (x4, V) else ((f_X4_spotOf x2 0 V).bind fun q5 => (if inb q5.1 60 = true then (bV (wI q5.2 1 (Int32.toNatClampNeg (q5.1)) (x5 / 4)) fun V7 => ((f_X4_spotOf x2 3 V7).bind fun q8 => (if inb q8.1 60 = true then (bV (wI q8.2 1 (Int32.toNatClampNeg (q8.1)) (x5 - x5 / 4 * 4)) fun V10 => ((f_X4_isBook x1 x2 V10).bind fun q11 => (if q11.1 = 0 then ((f_X4_takesBack (x4 + 0) q11.2).bind fun q13 => (f_X4_read_L27 n x1 x2 (q13.1) ((x5 + 1)) q13.2)) else ((f_X4_takesBack (x4 + 1) q11.2).bind fun q14 => (f_X4_read_L27 n x1 x2 (q14.1) ((x5 + 1)) q14.2))))) else none))) else none)))
def f_X4_read (a1 : Int32) (a2 : Int32) (V : VV) : Option (Int32 × VV) := ((f_X4_wrongBook a1 a2 V).bind fun q1 => (if q1.1 = 0 then ((f_X4_laysAside q1.2).bind fun V3 => (f_X4_read_L27 200 a1 a2 0 0 V3)) else ((f_X4_finds q1.1 q1.2).bind fun q15 => some (q15.1, q15.2))))
def f_X4_image_L2 : Nat → Int32 → VV → Option (Int32 × VV)
  | 0, _, _ => none
  | n + 1, x1, V => (if 60 ≤ x1 then (bV (wI V 0 5 1) fun V2 => some (1, V2)) else (if inb x1 60 = true then (if inb x1 60 = true then (bV (wI V 2 (Int32.toNatClampNeg (x1)) (V.1 1 (Int32.toNatClampNeg (x1)))) fun V5 => (f_X4_image_L2 n ((x1 + 1)) V5)) else none) else none))
def f_X4_image (V : VV) : Option (Int32 × VV) := (f_X4_image_L2 200 0 V)
def f_X4_undo_L16 : Nat → Int32 → VV → Option (Int32 × VV)
  | 0, _, _ => none
  | n + 1, x1, V => (if 60 ≤ x1 then (if inb 0 60 = true then some ((V.1 1 (Int32.toNatClampNeg (0))), V) else none) else (if inb x1 60 = true then (if inb x1 60 = true then (bV (wI V 1 (Int32.toNatClampNeg (x1)) (V.1 2 (Int32.toNatClampNeg (x1)))) fun V6 => (f_X4_undo_L16 n ((x1 + 1)) V6)) else none) else none))
def f_X4_undo (V : VV) : Option (Int32 × VV) := (if (V.1 0 5) = 0 then ((f_X4_finds (-1000000004) V).bind fun q7 => some (q7.1, q7.2)) else (f_X4_undo_L16 200 0 V))
def f_X4_tear (V : VV) : Option (Int32 × VV) := (if (V.1 0 5) = 0 then (bV (wI V 0 5 0) fun V2 => some (0, V2)) else (bV (wI V 0 5 0) fun V3 => some (1, V3)))
def f_X4_count (a1 : Int32) (V : VV) : Option (Int32 × VV) := (if a1 = 0 then (if inb 0 60 = true then some ((V.1 1 (Int32.toNatClampNeg (0))), V) else none) else (if a1 = 1 then some ((V.1 0 9), V) else (if a1 = 2 then ((f_X4_thoseKept V).bind fun q5 => ((f_X4_ones q5.1 q5.2).bind fun q6 => some (q6.1, q6.2))) else (if a1 = 3 then (if inb 2 60 = true then ((f_X4_ones (V.1 1 (Int32.toNatClampNeg (2))) V).bind fun q9 => some (q9.1, q9.2)) else none) else ((f_X4_finds (-1000000001) V).bind fun q10 => some (q10.1, q10.2))))))
def f_X4_status_L25 : Nat → Int32 → Int32 → Int32 → VV → Option (Int32 × VV)
  | 0, _, _, _, _ => none
  | n + 1, x1, x2, x3, V => (if 7 ≤ x3 then some (x2, V) else (if x1 < 0 then (if inb x3 7 = true then (f_X4_status_L25 n x1 ((x2 + (V.1 5 (Int32.toNatClampNeg (x3))))) ((x3 + 1)) V) else none) else (if x3 = x1 then (if inb x3 7 = true then (f_X4_status_L25 n x1 ((x2 + (V.1 5 (Int32.toNatClampNeg (x3))))) ((x3 + 1)) V) else none) else (f_X4_status_L25 n x1 ((x2 + 0)) ((x3 + 1)) V))))
def f_X4_status (a1 : Int32) (V : VV) : Option (Int32 × VV) := ((f_X4_in ((a1 : Int32).toInt64) (-1) 6 V).bind fun q1 => (if q1.1 = 0 then ((f_X4_finds (-1000000001) q1.2).bind fun q8 => some (q8.1, q8.2)) else (f_X4_status_L25 200 a1 0 0 q1.2)))
end
section
/-! ===== what stands outside the world: statics and texts ===== -/
abbrev Ks : Type := (Nat → Nat) × (Nat → Nat) × Nat
def poolS : List Nat := [107, 109, 111, 113, 115, 117, 49, 59, 61, 76, 86, 91, 95]
def textS : List String := ["walker", "shepherd", "widow", "lost", "canon", "bailiff", "fog", "clear", "village", "at", "heading", "hopes", "to"]
def bytS : List (List Int32) := [[119, 97, 108, 107, 101, 114], [115, 104, 101, 112, 104, 101, 114, 100], [119, 105, 100, 111, 119], [108, 111, 115, 116], [99, 97, 110, 111, 110], [98, 97, 105, 108, 105, 102, 102], [102, 111, 103], [99, 108, 101, 97, 114], [118, 105, 108, 108, 97, 103, 101], [97, 116], [104, 101, 97, 100, 105, 110, 103], [104, 111, 112, 101, 115], [116, 111]]
def lenS : List Nat := [6, 8, 5, 4, 5, 7, 3, 5, 7, 2, 7, 5, 2]
def kaV (j : Nat) : Int32 := [-1, 0, 0, 0, 1, 2].getD j 0
def XC (G : Gd) (ks : Ks) (U : State) : Prop := va_Z "FogKept" "KIND_ABOVE" "[I" (.ref ks.2.2) (inA 37 G.2.2) U U.heap ∧ va_T .int ks.2.2 6 (fun j => .int (kaV j)) (inA 37 G.2.2) U U.heap ∧ vk_S 13 lenS bytS ks.1 ks.2.1 (inA 37 G.2.2) U U.heap ∧ (∀ i, i < 13 → vk_R "FogKept$Tape" (poolS.getD i 0) (textS.getD i "") (ks.1 i) U) ∧ va_Z "java/lang/String" "COMPACT_STRINGS" "Z" (.int 1) (inA 37 G.2.2) U U.heap ∧ va_Zq "jdk/internal/util/Preconditions" "SIOOBE_FORMATTER" "Ljava/util/function/BiFunction;" (inA 37 G.2.2) U U.heap ∧ va_Nw (.methodLinkNest RX0 56 yX3_stepsOf "FogKept") U ∧ va_Nw (.methodLinkNest RX0 60 yX3_turnsOf "FogKept") U ∧ va_Nw (.methodLinkNest RX0 92 yX3_cellTowards "FogKept") U
theorem zq_moved {C n d : String} {A : Nat → Prop} {u U : State} {H : Heap} (hvm : u.vm.Alike U.vm) (h : va_Zq C n d A u H) : va_Zq C n d A U H := h.elim (fun h => Or.inl (h.moved hvm)) (fun ⟨t, h⟩ => Or.inr ⟨t, h.moved hvm⟩)
theorem zq_kept {C n d : String} {A : Nat → Prop} {U : State} {H H1 : Heap} (h : va_Zq C n d A U H) (hq : ∀ a : Nat, a < H.size → ¬ A a → H1[a]? = H[a]?) : va_Zq C n d A U H1 := h.elim (fun h => Or.inl (h.kept hq)) (fun ⟨t, h⟩ => Or.inr ⟨t, h.kept hq⟩)
theorem xs_C (G : Gd) (ks : Ks) : XS 37 G (XC G ks) := by
  refine ⟨fun U g mk a h => ?_, fun s U h hW hq => ?_⟩
  · obtain ⟨h1, h2, h3, h4, h5, h6, n1, n2, n3⟩ := h
    exact ⟨va_Z.moved (u := U) (Vm.Alike.refl U.vm) h1, va_T.moved (u := U) (Vm.Alike.refl U.vm) h2, vk_S.moved (u := U) (Vm.Alike.refl U.vm) h3, fun i hi => vk_R.same (u := U) rfl (h4 i hi), va_Z.moved (u := U) (Vm.Alike.refl U.vm) h5, zq_moved (u := U) (Vm.Alike.refl U.vm) h6, va_Nw.same rfl (u := U) rfl n1, va_Nw.same rfl (u := U) rfl n2, va_Nw.same rfl (u := U) rfl n3⟩
  · obtain ⟨h1, h2, h3, h4, h5, h6, n1, n2, n3⟩ := h
    exact ⟨(h1.moved hW.alike).kept hq, (h2.moved hW.alike).kept hq, (h3.moved hW.alike).kept hq, fun i hi => vk_R.warm hW (h4 i hi), (h5.moved hW.alike).kept hq, zq_kept (zq_moved hW.alike h6) hq, n1.warmM hW, n2.warmM hW, n3.warmM hW⟩
/-- a method of the JDK that only answers -/
def MT (l : Launch) (G : Gd) (ks : Ks) (ty : FieldType) (y : MethodName) (bytes : ByteArray) (maxL : Nat) (fr lo : Nat) (vals : List Value) (cell : Nat → va_E) (r0 : Int32) : Prop := Met l y (wsM y bytes maxL (some ty)) (rmF fr lo) (va_Pc vals (PPs 37 G (XC G ks) cell)) (QI 37 G cell (fun r => r = r0)) 0 0 (inA 37 G.2.2)
section ST
variable {p : Program} {l : Launch} {e : Env} {R : Room} {s : State} {m : MethodId} {args : Array Value} {below : List Frame} {meth : Method} {c : Code} {H : Heap} {locs : List Loc} {Q : State → Prop}
variable {cc : ByteArray} {pc nL : Nat} {ls : Array Slot} {rest : List Value} {n : Nat} {G : Gd} {X : State → Prop} {cell cell' : Nat → va_E} {own : String} {ks : Ks}
variable {y : MethodName} {bytes : ByteArray} {maxL idx np fr lo : Nat} {ret : Option FieldType} {As : List Value} {st : List Value}
theorem retT {ty : FieldType} {P : Int32 → Prop} {v : Int32} (C : Cx n G X p m c cc nL s args own) (hr : meth.sig.returnType = some ty) (hlk : meth.locks = false) (hd : Dy n G cell s H locs) (hz : narrow ty (.int v) = .int v) (hP : P v) (hdg : decode cc pc = .ok (.ireturn, 1)) : W p l e R s m args below meth c H locs 0 0 (MQ below (QI n G cell P) args s 0 0 (inA n G.2.2)) (F0 m pc ls [.int v]) :=
  W.zret C.1.1 C.1.2.1 hr hz (fun t ht _ => ⟨⟨v, (), rfl, hP, ppt_of ht hd.1⟩, hd.2.F ht⟩) hd.2.2.2 hdg hlk
theorem kST {ty : FieldType} {r0 : Int32} (C : Cx 37 G (XC G ks) p m c cc nL s args own) (hd : Dy 37 G cell s H locs) (hls : ls.size = nL) (K : CWs own idx y bytes maxL (some ty) np) (hM : MT l G ks ty y bytes maxL fr lo As cell r0) (hR : fr + 1 ≤ R.frames ∧ 8 + (maxL + 11) + lo ≤ R.locals) (hn : As.length = np) (hst : st = As.reverse ++ rest) (hr8 : (rest.map fun v => v.category).sum ≤ 8) (hdg : decode cc pc = .ok (.invokestatic idx, 3))
    (kk : ∀ (H : Heap) (locs : List Loc), Dy 37 G cell s H locs → W p l e R s m args below meth c H locs 0 0 Q (F0 m (pc + 3) ls (.int r0 :: rest))) : W p l e R s m args below meth c H locs 0 0 Q (F0 m pc ls st) :=
  afti (runS C hd hls K hM hR hn hst hr8 hdg) hd (fun r H locs hr hd => by rw [hr]; exact kk H locs hd)
/-- a call on a text -/
theorem kVS {ty : FieldType} {r0 : Int32} {i : Nat} (C : Cx 37 G (XC G ks) p m c cc nL s args own) (hd : Dy 37 G cell s H locs) (hls : ls.size = nL) (K : CWv own idx y bytes maxL (some ty) np) (hy : y.cls = "java/lang/String") (hi : i < 13) (hM : MT l G ks ty y bytes maxL fr lo (.ref (ks.1 i) :: As) cell r0) (hR : fr + 1 ≤ R.frames ∧ 8 + (maxL + 11) + lo ≤ R.locals) (hn : As.length = np) (hst : st = As.reverse ++ .ref (ks.1 i) :: rest) (hr8 : (rest.map fun v => v.category).sum ≤ 8) (hdg : decode cc pc = .ok (.invokevirtual idx, 3))
    (kk : ∀ (H : Heap) (locs : List Loc), Dy 37 G cell s H locs → W p l e R s m args below meth c H locs 0 0 Q (F0 m (pc + 3) ls (.int r0 :: rest))) : W p l e R s m args below meth c H locs 0 0 Q (F0 m pc ls st) := by
  refine afti (va_runV C.1 hM (cw_v C K hR) ⟨PPs_blind C.2.2.2.1, ?_, PPs_at C.2.2.2.1 C.2.2.2.2 C.2.1 hd⟩ rfl hn hls hst (lv_room hr8) hdg ⟨Nat.zero_le _, Nat.zero_le _⟩) hd (fun r H locs hr hd => by rw [hr]; exact kk H locs hd)
  rw [hy]
  exact vk_recv C.2.2.2.2.2.2.1 hi hd.2
end ST
theorem ty_boolean_1 : narrow .boolean (.int 1) = .int 1 := rfl
theorem jw_f9 : Cond.fieldLink RJ0 9 "java/lang/String" "value" "[B" ∈ TG := tg 1168 (by decide +kernel) (by decide +kernel)
theorem jw_f15 : Cond.fieldLink RJ0 15 "java/lang/String" "coder" "B" ∈ TG := tg 1169 (by decide +kernel) (by decide +kernel)
theorem jw_f38 : Cond.fieldLink RJ0 38 "java/lang/String" "COMPACT_STRINGS" "Z" ∈ TG := tg 552 (by decide +kernel) (by decide +kernel)
theorem jw_f1053 : Cond.fieldLink RJ0 1053 "jdk/internal/util/Preconditions" "SIOOBE_FORMATTER" "Ljava/util/function/BiFunction;" ∈ TG := tg 568 (by decide +kernel) (by decide +kernel)
theorem jk_coder : CWv RJ0 335 yJ0_coder_7d493 cJ0_coder_7d493 1 (some .byte) 0 := ⟨tg 548 (by decide +kernel) (by decide +kernel), tg 549 (by decide +kernel) (by decide +kernel), tg 550 (by decide +kernel) (by decide +kernel), tg 81 (by decide +kernel) (by decide +kernel), tg 551 (by decide +kernel) (by decide +kernel), by decide +kernel⟩
theorem jk_isLatin1 : CWv RJ0 492 yJ0_isLatin1_aae02 cJ0_isLatin1_aae02 1 (some .boolean) 0 := ⟨tg 558 (by decide +kernel) (by decide +kernel), tg 559 (by decide +kernel) (by decide +kernel), tg 560 (by decide +kernel) (by decide +kernel), tg 81 (by decide +kernel) (by decide +kernel), tg 561 (by decide +kernel) (by decide +kernel), by decide +kernel⟩
theorem jk_l1charAt : CWs RJ0 495 yJ1_charAt_3b067 cJ1_charAt_3b067 2 (some .char) 2 := ⟨tg 562 (by decide +kernel) (by decide +kernel), tg 563 (by decide +kernel) (by decide +kernel), tg 82 (by decide +kernel) (by decide +kernel), tg 564 (by decide +kernel) (by decide +kernel), by decide +kernel⟩
theorem jk_checkIndex : CWs RJ1 9 yJ0_checkIndex_df160 cJ0_checkIndex_df160 2 none 2 := ⟨tg 565 (by decide +kernel) (by decide +kernel), tg 566 (by decide +kernel) (by decide +kernel), tg 81 (by decide +kernel) (by decide +kernel), tg 567 (by decide +kernel) (by decide +kernel), by decide +kernel⟩
theorem jk_pre : CWs RJ0 1059 yJ3_checkIndex_8e157 cJ3_checkIndex_8e157 3 (some .int) 3 := ⟨tg 570 (by decide +kernel) (by decide +kernel), tg 571 (by decide +kernel) (by decide +kernel), tg 83 (by decide +kernel) (by decide +kernel), tg 572 (by decide +kernel) (by decide +kernel), by decide +kernel⟩
theorem jk_length : CWv RX2 119 yJ0_length_8abf5 cJ0_length_8abf5 1 (some .int) 0 := ⟨tg 544 (by decide +kernel) (by decide +kernel), tg 545 (by decide +kernel) (by decide +kernel), tg 546 (by decide +kernel) (by decide +kernel), tg 81 (by decide +kernel) (by decide +kernel), tg 547 (by decide +kernel) (by decide +kernel), by decide +kernel⟩
theorem jk_charAt : CWv RX2 123 yJ0_charAt_5068e cJ0_charAt_5068e 2 (some .char) 1 := ⟨tg 554 (by decide +kernel) (by decide +kernel), tg 555 (by decide +kernel) (by decide +kernel), tg 556 (by decide +kernel) (by decide +kernel), tg 81 (by decide +kernel) (by decide +kernel), tg 557 (by decide +kernel) (by decide +kernel), by decide +kernel⟩
set_option maxRecDepth 100000 in
set_option maxHeartbeats 4000000 in
theorem j_coder (l : Launch) (G : Gd) (ks : Ks) (hJ : Inj 37 G.2.2) {i : Nat} (hi : i < 13) {cell : Nat → va_E} : MT l G ks .byte yJ0_coder_7d493 cJ0_coder_7d493 1 0 0 [.ref (ks.1 i)] cell 0 := by
  refine walk_of (own := RJ0) (by decide) rfl hJ (xs_C G ks) (Nat.le_of_ble_eq_true rfl) ?_
  intro p e s m below meth c C hr hlk ls hl hd
  have hl : lv_has ls 1 [(0, .ref (ks.1 i))] := hl
  obtain ⟨⟨hx, hb, hml, hown, hts⟩, -⟩ := id C
  have Z := C.2.2.2.2
  refine va_gets hx hb Z.2.2.2.2.1 hd.2 hown (hts _ jw_f38) (fun _ h => h) dJ0_coder_7d493_0 ?_
  refine lv_if_eq (tgt := 13) hx hb dJ0_coder_7d493_3 (by decide) (fun hc => absurd hc (by decide)) (fun hc => ?_)
  refine lv_aload_n hx hb dJ0_coder_7d493_6 rfl (lv_at hl 0 rfl) ?_
  refine vk_getf hx hb (Z.2.2.1.1 i hi).2.1 hd.2 hown (hts _ jw_f15) (fun _ h => h) dJ0_coder_7d493_7 ?_
  refine lv_goto (tgt := 14) hx hb dJ0_coder_7d493_10 (by decide) ?_
  exact retT C hr hlk hd rfl rfl dJ0_coder_7d493_14
set_option maxRecDepth 100000 in
set_option maxHeartbeats 4000000 in
theorem j_isLatin1 (l : Launch) (G : Gd) (ks : Ks) (hJ : Inj 37 G.2.2) {i : Nat} (hi : i < 13) {cell : Nat → va_E} : MT l G ks .boolean yJ0_isLatin1_aae02 cJ0_isLatin1_aae02 1 0 0 [.ref (ks.1 i)] cell 1 := by
  refine walk_of (own := RJ0) (by decide) rfl hJ (xs_C G ks) (Nat.le_of_ble_eq_true rfl) ?_
  intro p e s m below meth c C hr hlk ls hl hd
  have hl : lv_has ls 1 [(0, .ref (ks.1 i))] := hl
  obtain ⟨⟨hx, hb, hml, hown, hts⟩, -⟩ := id C
  have Z := C.2.2.2.2
  refine va_gets hx hb Z.2.2.2.2.1 hd.2 hown (hts _ jw_f38) (fun _ h => h) dJ0_isLatin1_aae02_0 ?_
  refine lv_if_eq (tgt := 17) hx hb dJ0_isLatin1_aae02_3 (by decide) (fun hc => absurd hc (by decide)) (fun hc => ?_)
  refine lv_aload_n hx hb dJ0_isLatin1_aae02_6 rfl (lv_at hl 0 rfl) ?_
  refine vk_getf hx hb (Z.2.2.1.1 i hi).2.1 hd.2 hown (hts _ jw_f15) (fun _ h => h) dJ0_isLatin1_aae02_7 ?_
  refine lv_if_ne (tgt := 17) hx hb dJ0_isLatin1_aae02_10 (by decide) (fun hc => absurd rfl hc) (fun hc => ?_)
  refine lv_iconst (v := 1) hx hb dJ0_isLatin1_aae02_13 (by decide) ?_
  refine lv_goto (tgt := 18) hx hb dJ0_isLatin1_aae02_14 (by decide) ?_
  exact retT C hr hlk hd rfl rfl dJ0_isLatin1_aae02_18
set_option maxRecDepth 100000 in
set_option maxHeartbeats 4000000 in
theorem j_length (l : Launch) (G : Gd) (ks : Ks) (hJ : Inj 37 G.2.2) {i : Nat} (hi : i < 13) {cell : Nat → va_E} : MT l G ks .int yJ0_length_8abf5 cJ0_length_8abf5 1 1 20 [.ref (ks.1 i)] cell (nI (lenS.getD i 0)) := by
  refine walk_of (own := RJ0) (by decide) rfl hJ (xs_C G ks) (Nat.le_of_ble_eq_true rfl) ?_
  intro p e s m below meth c C hr hlk ls hl hd
  have hl : lv_has ls 1 [(0, .ref (ks.1 i))] := hl
  obtain ⟨⟨hx, hb, hml, hown, hts⟩, -⟩ := id C
  have Z := C.2.2.2.2
  refine lv_aload_n hx hb dJ0_length_8abf5_0 rfl (lv_at hl 0 rfl) ?_
  refine vk_getf hx hb (Z.2.2.1.1 i hi).2.2.1 hd.2 hown (hts _ jw_f9) (fun _ h => h) dJ0_length_8abf5_1 ?_
  refine va_tlen hx hb (Z.2.2.1.1 i hi).2.2.2 hd.2 rfl dJ0_length_8abf5_4 ?_
  refine lv_aload_n hx hb dJ0_length_8abf5_5 rfl (lv_at hl 0 rfl) ?_
  refine kVS (i := i) C hd hl.1 jk_coder rfl hi (j_coder l G ks hJ hi) ⟨Nat.le_of_ble_eq_true rfl, Nat.le_of_ble_eq_true rfl⟩ rfl (rest := [.int _]) rfl (Nat.le_of_ble_eq_true rfl) dJ0_length_8abf5_6 (fun H locs hd => ?_)
  refine lv_ishr hx hb dJ0_length_8abf5_9 ?_
  exact retT C hr hlk hd rfl (sb_shr0 _) dJ0_length_8abf5_10
set_option maxRecDepth 100000 in
set_option maxHeartbeats 4000000 in
theorem j_pre (l : Launch) (G : Gd) (ks : Ks) (hJ : Inj 37 G.2.2) {a n : Int32} {v : Value} (hv : v = .null ∨ ∃ t, v = .ref t) (h0 : ¬ a < 0) (h1 : a < n) {cell : Nat → va_E} : MT l G ks .int yJ3_checkIndex_8e157 cJ3_checkIndex_8e157 3 0 0 [.int a, .int n, v] cell a := by
  have hlen : (lg_sl [.int a, .int n, v]).length ≤ 3 := by rcases hv with rfl | ⟨t, rfl⟩ <;> exact Nat.le_of_ble_eq_true rfl
  refine walk_of (own := RJ3) (by decide) rfl hJ (xs_C G ks) hlen ?_
  intro p e s m below meth c C hr hlk ls hl hd
  have hl : lv_has ls 3 [(0, .int a), (1, .int n), (2, v)] := hl
  obtain ⟨⟨hx, hb, hml, hown, hts⟩, -⟩ := id C
  refine lv_iload_n hx hb dJ3_checkIndex_8e157_0 rfl (lv_at hl 0 rfl) ?_
  refine lv_if_lt (tgt := 9) hx hb dJ3_checkIndex_8e157_1 (by decide) (fun hc => absurd hc h0) (fun hc => ?_)
  refine lv_iload_n hx hb dJ3_checkIndex_8e157_4 rfl (lv_at hl 0 rfl) ?_
  refine lv_iload_n hx hb dJ3_checkIndex_8e157_5 rfl (lv_at hl 1 rfl) ?_
  refine lv_icmp_lt (tgt := 16) hx hb dJ3_checkIndex_8e157_6 (by decide) (fun hc => ?_) (fun hc => absurd h1 hc)
  refine lv_iload_n hx hb dJ3_checkIndex_8e157_16 rfl (lv_at hl 0 rfl) ?_
  exact retT C hr hlk hd rfl rfl dJ3_checkIndex_8e157_17
set_option maxRecDepth 100000 in
set_option maxHeartbeats 4000000 in
theorem j_checkIndex (l : Launch) (G : Gd) (ks : Ks) (hJ : Inj 37 G.2.2) {a n : Int32} (h0 : ¬ a < 0) (h1 : a < n) {cell : Nat → va_E} : MV l 37 G (XC G ks) yJ0_checkIndex_df160 cJ0_checkIndex_df160 2 1 22 [.int a, .int n] cell cell := by
  refine walk_of (own := RJ0) (by decide) rfl hJ (xs_C G ks) (Nat.le_of_ble_eq_true rfl) ?_
  intro p e s m below meth c C hr hlk ls hl hd
  have hl : lv_has ls 2 [(0, .int a), (1, .int n)] := hl
  obtain ⟨⟨hx, hb, hml, hown, hts⟩, -⟩ := id C
  obtain ⟨v, hv, hZ⟩ : ∃ v : Value, (v = .null ∨ ∃ t, v = .ref t) ∧ va_Z "jdk/internal/util/Preconditions" "SIOOBE_FORMATTER" "Ljava/util/function/BiFunction;" v (inA 37 G.2.2) s s.heap := by
    rcases C.2.2.2.2.2.2.2.2.2.1 with h | ⟨t, h⟩
    · exact ⟨_, Or.inl rfl, h⟩
    · exact ⟨_, Or.inr ⟨t, rfl⟩, h⟩
  refine lv_iload_n hx hb dJ0_checkIndex_df160_0 rfl (lv_at hl 0 rfl) ?_
  refine lv_iload_n hx hb dJ0_checkIndex_df160_1 rfl (lv_at hl 1 rfl) ?_
  refine va_gets hx hb hZ hd.2 hown (hts _ jw_f1053) (fun _ h => h) dJ0_checkIndex_df160_2 ?_
  refine kST C hd hl.1 jk_pre (j_pre l G ks hJ hv h0 h1) ⟨Nat.le_of_ble_eq_true rfl, Nat.le_of_ble_eq_true rfl⟩ rfl (rest := []) rfl (Nat.le_of_ble_eq_true rfl) dJ0_checkIndex_df160_5 (fun H locs hd => ?_)
  refine lv_pop hx hb dJ0_checkIndex_df160_8 rfl ?_
  exact retV C hr hlk hd dJ0_checkIndex_df160_9
/-- the char at k of a text -/
def chS (i k : Nat) : Int32 := (((bytS.getD i []).getD k 0 &&& 255).toUInt32 % 65536).toInt32
theorem lenS_lt : ∀ i, i < 13 → lenS.getD i 0 < 2 ^ 31 := by decide +kernel
set_option maxRecDepth 100000 in
set_option maxHeartbeats 4000000 in
theorem j_l1charAt (l : Launch) (G : Gd) (ks : Ks) (hJ : Inj 37 G.2.2) {i : Nat} (hi : i < 13) {a : Int32} (ha : inb a (lenS.getD i 0) = true) {cell : Nat → va_E} : MT l G ks .char yJ1_charAt_3b067 cJ1_charAt_3b067 2 2 43 [.ref (ks.2.1 i), .int a] cell (chS i a.toNatClampNeg) := by
  refine walk_of (own := RJ1) (by decide) rfl hJ (xs_C G ks) (Nat.le_of_ble_eq_true rfl) ?_
  intro p e s m below meth c C hr hlk ls hl hd
  have hl : lv_has ls 2 [(0, .ref (ks.2.1 i)), (1, .int a)] := hl
  obtain ⟨⟨hx, hb, hml, hown, hts⟩, -⟩ := id C
  have Z := C.2.2.2.2
  have hin := inb_in ha
  obtain ⟨j, hj, ej⟩ := vp_in_of hin (lenS_lt i hi)
  refine lv_iload_n hx hb dJ1_charAt_3b067_0 rfl (lv_at hl 1 rfl) ?_
  refine lv_aload_n hx hb dJ1_charAt_3b067_1 rfl (lv_at hl 0 rfl) ?_
  refine va_tlen hx hb (Z.2.2.1.1 i hi).2.2.2 hd.2 rfl dJ1_charAt_3b067_2 ?_
  refine aftv (runS C hd hl.1 jk_checkIndex (j_checkIndex l G ks hJ (fun h => hin (Or.inl h)) (by rw [ej]; exact nI_lt hj (lenS_lt i hi))) ⟨Nat.le_of_ble_eq_true rfl, Nat.le_of_ble_eq_true rfl⟩ rfl (rest := []) rfl (Nat.le_of_ble_eq_true rfl) dJ1_charAt_3b067_3) hd (fun H locs hd => ?_)
  refine lv_aload_n hx hb dJ1_charAt_3b067_6 rfl (lv_at hl 0 rfl) ?_
  refine lv_iload_n hx hb dJ1_charAt_3b067_7 rfl (lv_at hl 1 rfl) ?_
  refine va_tb hx hb (Z.2.2.1.1 i hi).2.2.2 hd.2 hin rfl dJ1_charAt_3b067_8 ?_
  refine lv_sipush (v := 255) hx hb dJ1_charAt_3b067_9 (by decide) ?_
  refine lv_iand hx hb dJ1_charAt_3b067_12 ?_
  refine lv_i2c hx hb dJ1_charAt_3b067_13 rfl ?_
  exact retT C hr hlk hd (pk_nc _) rfl dJ1_charAt_3b067_14
set_option maxRecDepth 100000 in
set_option maxHeartbeats 4000000 in
theorem j_charAt (l : Launch) (G : Gd) (ks : Ks) (hJ : Inj 37 G.2.2) {i : Nat} (hi : i < 13) {a : Int32} (ha : inb a (lenS.getD i 0) = true) {cell : Nat → va_E} : MT l G ks .char yJ0_charAt_5068e cJ0_charAt_5068e 2 3 64 [.ref (ks.1 i), .int a] cell (chS i a.toNatClampNeg) := by
  refine walk_of (own := RJ0) (by decide) rfl hJ (xs_C G ks) (Nat.le_of_ble_eq_true rfl) ?_
  intro p e s m below meth c C hr hlk ls hl hd
  have hl : lv_has ls 2 [(0, .ref (ks.1 i)), (1, .int a)] := hl
  obtain ⟨⟨hx, hb, hml, hown, hts⟩, -⟩ := id C
  have Z := C.2.2.2.2
  refine lv_aload_n hx hb dJ0_charAt_5068e_0 rfl (lv_at hl 0 rfl) ?_
  refine kVS (i := i) C hd hl.1 jk_isLatin1 rfl hi (j_isLatin1 l G ks hJ hi) ⟨Nat.le_of_ble_eq_true rfl, Nat.le_of_ble_eq_true rfl⟩ rfl (rest := []) rfl (Nat.le_of_ble_eq_true rfl) dJ0_charAt_5068e_1 (fun H locs hd => ?_)
  refine lv_if_eq (tgt := 16) hx hb dJ0_charAt_5068e_4 (by decide) (fun hc => absurd hc (by decide)) (fun hc => ?_)
  refine lv_aload_n hx hb dJ0_charAt_5068e_7 rfl (lv_at hl 0 rfl) ?_
  refine vk_getf hx hb (Z.2.2.1.1 i hi).2.2.1 hd.2 hown (hts _ jw_f9) (fun _ h => h) dJ0_charAt_5068e_8 ?_
  refine lv_iload_n hx hb dJ0_charAt_5068e_11 rfl (lv_at hl 1 rfl) ?_
  refine kST C hd hl.1 jk_l1charAt (j_l1charAt l G ks hJ hi ha) ⟨Nat.le_of_ble_eq_true rfl, Nat.le_of_ble_eq_true rfl⟩ rfl (rest := []) rfl (Nat.le_of_ble_eq_true rfl) dJ0_charAt_5068e_12 (fun H locs hd => ?_)
  exact retT C hr hlk hd (pk_nc _) rfl dJ0_charAt_5068e_15
end
section
/-! ===== rows for the class: copying, sheets, names ===== -/
def cpok (sp dp k : Int32) (N0 N1 : Nat) : Bool := !decide (sp < 0) && (!decide (dp < 0) && (!decide (k < 0) && (decide (sp.toNatClampNeg + k.toNatClampNeg ≤ N0) && decide (dp.toNatClampNeg + k.toNatClampNeg ≤ N1))))
theorem cpok_out {sp dp k : Int32} {N0 N1 : Nat} (h : cpok sp dp k N0 N1 = true) : ¬ sp < 0 ∧ ¬ dp < 0 ∧ ¬ k < 0 ∧ sp.toNatClampNeg + k.toNatClampNeg ≤ N0 ∧ dp.toNatClampNeg + k.toNatClampNeg ≤ N1 := by
  unfold cpok at h
  simpa using h
theorem cpI_ne {V : VV} {c1 c0 sp dp n i : Nat} (h : i ≠ c1) : (cpI V c1 c0 sp dp n).1 i = V.1 i := by simp [cpI, h]
theorem cpI_eq {V : VV} {c1 c0 sp dp n : Nat} : (cpI V c1 c0 sp dp n).1 c1 = va_cpy (V.1 c0) (V.1 c1) sp dp n := by simp [cpI]
theorem cpJ_ne {V : VV} {c1 c0 sp dp n i : Nat} (h : i ≠ c1) : (cpJ V c1 c0 sp dp n).2 i = V.2 i := by simp [cpJ, h]
theorem cpJ_eq {V : VV} {c1 c0 sp dp n : Nat} : (cpJ V c1 c0 sp dp n).2 c1 = va_cpy (V.2 c0) (V.2 c1) sp dp n := by simp [cpJ]
theorem cC_neC {G : Gd} {V V1 : VV} {c1 c0 sp dp n : Nat} (e : V1 = cpI V c1 c0 sp dp n) : ∀ i, i ≠ c1 → cC G V1 i = cC G V i := by
  intro i h
  unfold cC
  rw [e, cpI_ne h]
  rfl
theorem cC_neCJ {G : Gd} {V V1 : VV} {c1 c0 sp dp n : Nat} (e : V1 = cpJ V c1 c0 sp dp n) : ∀ i, i ≠ c1 → cC G V1 i = cC G V i := by
  intro i h
  unfold cC
  rw [e, cpJ_ne h]
  rfl
theorem cC_marr_c {G : Gd} {V V1 : VV} {j c0 sp dp n : Nat} (h : j < 3) (k : Nat) (h0 : 0 < k) (hk : k < 8) (e : V1 = cpI V (8 * j + k) c0 sp dp n) : cC G V1 (8 * j + k) = .inl (G.2.1.1, 8, .inl (va_cpy (V.1 c0) (V.1 (8 * j + k)) sp dp n)) := by
  rw [cC_marr h k h0 hk, e, cpI_eq]
theorem cC_sn_c {G : Gd} {V V1 : VV} {k c0 sp dp n : Nat} (h : k < 4) (e : V1 = cpJ V (29 + 2 * k + 1) c0 sp dp n) : cC G V1 (29 + 2 * k + 1) = .inl (G.2.1.2.1, 40, .inr (.inl (va_cpy (V.2 c0) (V.2 (29 + 2 * k + 1)) sp dp n))) := by
  rw [cC_sn h, e, cpJ_eq]
theorem aw_nat : Cond.native arraycopyName ∈ TG := tg 413 (by decide +kernel) (by decide +kernel)
theorem aw_st : Cond.static arraycopyName ∈ TG := tg 412 (by decide +kernel) (by decide +kernel)
theorem aw_in : Cond.initialized "java/lang/System" ∈ TG := tg 79 (by decide +kernel) (by decide +kernel)
theorem aw_X0 : Cond.methodLink RX0 46 arraycopyName ∈ TG := tg 411 (by decide +kernel) (by decide +kernel)
theorem aw_X3 : Cond.methodLink RX3 209 arraycopyName ∈ TG := tg 653 (by decide +kernel) (by decide +kernel)
theorem mw_l : Cond.methodLink RX2 134 Lib.Math.min.name ∈ TG := tg 520 (by decide +kernel) (by decide +kernel)
theorem mw_s : Cond.static Lib.Math.min.name ∈ TG := tg 521 (by decide +kernel) (by decide +kernel)
theorem mw_i : Cond.initialized "java/lang/Math" ∈ TG := tg 80 (by decide +kernel) (by decide +kernel)
theorem mw_c : Cond.code Lib.Math.min.name Lib.Math.min.code 2 (some .int) ∈ TG := tg 522 (by decide +kernel) (by decide +kernel)
theorem kaw : Cond.fieldLink RX3 245 "FogKept" "KIND_ABOVE" "[I" ∈ TG := tg 314 (by decide +kernel) (by decide +kernel)
theorem look_out2 {x : Int32} {a b oa ob d : Int} (ha : ¬ x = Int32.ofInt a) (hb : ¬ x = Int32.ofInt b) : Op.lookupswitch.offset [(a, oa), (b, ob)] d x.toInt = d := by
  have h1 : ¬ a = x.toInt := fun h => ha (by rw [h, Int32.ofInt_toInt])
  have h2 : ¬ b = x.toInt := fun h => hb (by rw [h, Int32.ofInt_toInt])
  simp [Op.lookupswitch.offset, h1, h2]
/-- the sheet that an answer of sheetOf names -/
def shO (G : Gd) (r : Int32) : Option Nat := if r < 0 then none else some (G.2.2 (29 + 2 * r.toNatClampNeg))
def MS (l : Launch) (G : Gd) (ks : Ks) (y : MethodName) (bytes : ByteArray) (maxL : Nat) (fr lo : Nat) (vals : List Value) (cell cell' : Nat → va_E) (r0 : Int32) : Prop := Met l y (wsM y bytes maxL (some (.object "FogKept$Sheet"))) (rmF fr lo) (va_Pc vals (PPs 37 G (XC G ks) cell)) (va_Qq (fun (o : Option Nat) (_ : Unit) => o = shO G r0) (fun _ t => PPt 37 G cell' t) (inA 37 G.2.2)) 0 0 (inA 37 G.2.2)
def MN (l : Launch) (G : Gd) (ks : Ks) (y : MethodName) (bytes : ByteArray) (maxL : Nat) (fr lo : Nat) (vals : List Value) (cell cell' : Nat → va_E) (r0 : Int32) : Prop := Met l y (wsM y bytes maxL (some (.object "java/lang/String"))) (rmF fr lo) (va_Pc vals (PPs 37 G (XC G ks) cell)) (va_Qr (fun (_ : Unit) => True) (fun _ a t => (a = ks.1 r0.toNatClampNeg ∧ r0.toNatClampNeg < 13) ∧ PPt 37 G cell' t) (inA 37 G.2.2)) 0 0 (inA 37 G.2.2)
section CR
variable {p : Program} {l : Launch} {e : Env} {R : Room} {s : State} {m : MethodId} {args : Array Value} {below : List Frame} {meth : Method} {c : Code} {H : Heap} {locs : List Loc} {Q : State → Prop}
variable {cc : ByteArray} {pc nL : Nat} {ls : Array Slot} {rest : List Value} {n : Nat} {G : Gd} {X : State → Prop} {cell cell' : Nat → va_E} {own : String} {ks : Ks}
variable {y : MethodName} {bytes : ByteArray} {maxL idx np fr lo : Nat} {ret : Option FieldType} {As : List Value} {st : List Value} {c0 ci N : Nat} {fs : List Value} {T : u_T} {V V' : VV}
theorem rcpI (C : Cx n G X p m c cc nL s args own) (hd : Dy n G cell s H locs) (hls : ls.size = nL) {c0 c1 N0 N1 : Nat} {f g : Nat → Int32} (hc0 : c0 < n) (he0 : cell c0 = .inl (G.2.1.1, N0, .inl f)) (hc1 : c1 < n) (he1 : cell c1 = .inl (G.2.1.1, N1, .inl g)) (hlink : Cond.methodLink own idx arraycopyName ∈ TG) {sp dp k : Int32} (hok : cpok sp dp k N0 N1 = true) (h1 : cell' c1 = .inl (G.2.1.1, N1, .inl (va_cpy f g sp.toNatClampNeg dp.toNatClampNeg k.toNatClampNeg))) (h2 : ∀ i, i ≠ c1 → cell' i = cell i) (hR : 1 ≤ R.frames ∧ 30 ≤ R.locals) (hr8 : (rest.map fun v => v.category).sum ≤ 8) (hdg : decode cc pc = .ok (.invokestatic idx, 3))
    (kk : ∀ (H : Heap) (locs : List Loc), Dy n G cell' s H locs → W p l e R s m args below meth c H locs 0 0 Q (F0 m (pc + 3) ls rest)) : W p l e R s m args below meth c H locs 0 0 Q (F0 m pc ls (.int k :: .int dp :: .ref (G.2.2 c1) :: .int sp :: .ref (G.2.2 c0) :: rest)) := by
  obtain ⟨g1, g2, g3, g4, g5⟩ := cpok_out hok
  have ht := C.1.2.2.2.2
  have hw : nativeFrameWords "java/lang/System" "arraycopy" 5 = 7 := by decide +kernel
  exact va_copyi C.1.1 C.1.2.1 (C.1.2.2.1.trans hls.symm) C.1.2.2.2.1 (ht _ hlink) (ht _ aw_nat) (ht _ aw_st) (ht _ aw_in) C.2.1 hd.1 (gW_D C.2.2.1) hd.2 c0 c1 0 0 (ty := .int) ((gW_at hc0).trans (by rw [he0])) ((gW_at hc1).trans (by rw [he1])) rfl rfl rfl g1 g2 g3 g4 g5 (fun _ _ => rfl) hR.1 (by rw [hw]; omega) hdg
    (fun H1 locs1 hP _ hS => kk H1 locs1 ⟨by rw [gW_set hc1 h1 h2] at hP; exact hP, hS⟩)
theorem rcpJ (C : Cx n G X p m c cc nL s args own) (hd : Dy n G cell s H locs) (hls : ls.size = nL) {c0 c1 N0 N1 : Nat} {f g : Nat → Int64} (hc0 : c0 < n) (he0 : cell c0 = .inl (G.2.1.2.1, N0, .inr (.inl f))) (hc1 : c1 < n) (he1 : cell c1 = .inl (G.2.1.2.1, N1, .inr (.inl g))) (hlink : Cond.methodLink own idx arraycopyName ∈ TG) {sp dp k : Int32} (hok : cpok sp dp k N0 N1 = true) (h1 : cell' c1 = .inl (G.2.1.2.1, N1, .inr (.inl (va_cpy f g sp.toNatClampNeg dp.toNatClampNeg k.toNatClampNeg)))) (h2 : ∀ i, i ≠ c1 → cell' i = cell i) (hR : 1 ≤ R.frames ∧ 30 ≤ R.locals) (hr8 : (rest.map fun v => v.category).sum ≤ 8) (hdg : decode cc pc = .ok (.invokestatic idx, 3))
    (kk : ∀ (H : Heap) (locs : List Loc), Dy n G cell' s H locs → W p l e R s m args below meth c H locs 0 0 Q (F0 m (pc + 3) ls rest)) : W p l e R s m args below meth c H locs 0 0 Q (F0 m pc ls (.int k :: .int dp :: .ref (G.2.2 c1) :: .int sp :: .ref (G.2.2 c0) :: rest)) := by
  obtain ⟨g1, g2, g3, g4, g5⟩ := cpok_out hok
  have ht := C.1.2.2.2.2
  have hw : nativeFrameWords "java/lang/System" "arraycopy" 5 = 7 := by decide +kernel
  exact va_copyl C.1.1 C.1.2.1 (C.1.2.2.1.trans hls.symm) C.1.2.2.2.1 (ht _ hlink) (ht _ aw_nat) (ht _ aw_st) (ht _ aw_in) C.2.1 hd.1 (gW_D C.2.2.1) hd.2 c0 c1 1 1 (ty := .long) ((gW_at hc0).trans (by rw [he0])) ((gW_at hc1).trans (by rw [he1])) rfl rfl rfl g1 g2 g3 g4 g5 (fun _ _ => rfl) hR.1 (by rw [hw]; omega) hdg
    (fun H1 locs1 hP _ hS => kk H1 locs1 ⟨by rw [gW_set hc1 h1 h2] at hP; exact hP, hS⟩)
theorem kVQ {r0 : Int32} (C : Cx 37 G (XC G ks) p m c cc nL s args own) (hd : Dy 37 G cell s H locs) (hls : ls.size = nL) (K : CWv own idx y bytes maxL (some (.object "FogKept$Sheet")) np) (hc : c0 < 37) (he : cell c0 = .inr (ci, fs)) (hcl : vwCl[ci]? = some (y.cls, T, N)) (hM : MS l G ks y bytes maxL fr lo (.ref (G.2.2 c0) :: As) cell cell' r0 ∧ (¬ r0 < 0 → r0.toNatClampNeg < 4)) (hR : fr + 1 ≤ R.frames ∧ 8 + (maxL + 11) + lo ≤ R.locals) (hn : As.length = np) (hst : st = As.reverse ++ .ref (G.2.2 c0) :: rest) (hr8 : (rest.map fun v => v.category).sum ≤ 8) (hdg : decode cc pc = .ok (.invokevirtual idx, 3))
    (kn : r0 < 0 → ∀ (H : Heap) (locs : List Loc), Dy 37 G cell' s H locs → W p l e R s m args below meth c H locs 0 0 Q (F0 m (pc + 3) ls (.null :: rest)))
    (kr : ¬ r0 < 0 → r0.toNatClampNeg < 4 → ∀ (H : Heap) (locs : List Loc), Dy 37 G cell' s H locs → W p l e R s m args below meth c H locs 0 0 Q (F0 m (pc + 3) ls (.ref (G.2.2 (29 + 2 * r0.toNatClampNeg)) :: rest))) : W p l e R s m args below meth c H locs 0 0 Q (F0 m pc ls st) := by
  refine va_callq (runV C hd hls K hc he hcl hM.1 hR hn hst hr8 hdg) hd.2 (fun _ _ h => h) (fun _ h => h) (fun r _ t H1 locs1 ht _ hw hB _ _ hS => ?_)
  subst hw
  by_cases h : r0 < 0
  · rw [show va_rf (shO G r0) = .null by rw [shO, if_pos h]; rfl]
    exact kn h H1 locs1 (dy_back ht hB hS)
  · rw [show va_rf (shO G r0) = .ref (G.2.2 (29 + 2 * r0.toNatClampNeg)) by rw [shO, if_neg h]; rfl]
    exact kr h (hM.2 h) H1 locs1 (dy_back ht hB hS)
theorem kSR {r0 : Int32} (C : Cx 37 G (XC G ks) p m c cc nL s args own) (hd : Dy 37 G cell s H locs) (hls : ls.size = nL) (K : CWs own idx y bytes maxL (some (.object "java/lang/String")) np) (hM : MN l G ks y bytes maxL fr lo As cell cell' r0) (hR : fr + 1 ≤ R.frames ∧ 8 + (maxL + 11) + lo ≤ R.locals) (hn : As.length = np) (hst : st = As.reverse ++ rest) (hr8 : (rest.map fun v => v.category).sum ≤ 8) (hdg : decode cc pc = .ok (.invokestatic idx, 3))
    (kk : ∀ (H : Heap) (locs : List Loc), r0.toNatClampNeg < 13 → Dy 37 G cell' s H locs → W p l e R s m args below meth c H locs 0 0 Q (F0 m (pc + 3) ls (.ref (ks.1 r0.toNatClampNeg) :: rest))) : W p l e R s m args below meth c H locs 0 0 Q (F0 m pc ls st) := by
  refine va_callr (runS C hd hls K hM hR hn hst hr8 hdg) hd.2 (fun _ _ h => h) (fun _ h => h) (fun _ a t H1 locs1 ht _ _ hB _ _ hS => ?_)
  obtain ⟨⟨h1, h2⟩, h3⟩ := hB
  rw [h1]
  exact kk H1 locs1 h2 (dy_back ht h3 hS)
theorem retSe {v r : Int32} {k : Nat} (C : Cx 37 G X p m c cc nL s args own) (hr : meth.sig.returnType = some (.object "java/lang/String")) (hlk : meth.locks = false) (hd : Dy 37 G (cC G V) s H locs) (hv : v.toNatClampNeg = k) (hk : k < 13) (he : some (v, V) = some (r, V')) (hdg : decode cc pc = .ok (.areturn, 1)) : W p l e R s m args below meth c H locs 0 0 (MQ below (va_Qr (fun (_ : Unit) => True) (fun _ a t => (a = ks.1 r.toNatClampNeg ∧ r.toNatClampNeg < 13) ∧ PPt 37 G (cC G V') t) (inA 37 G.2.2)) args s 0 0 (inA 37 G.2.2)) (F0 m pc ls [.ref (ks.1 k)]) := by
  cases he
  exact W.aret C.1.1 C.1.2.1 hr (Or.inl ⟨_, rfl⟩) (Or.inr ⟨_, rfl⟩) (fun t ht _ => ⟨⟨(), ks.1 k, rfl, trivial, ⟨by rw [hv], by rw [hv]; exact hk⟩, ppt_of ht hd.1⟩, hd.2.F ht⟩) hd.2.2.2 hdg hlk
theorem retQ {r : Int32} {v : Value} (C : Cx 37 G X p m c cc nL s args own) (hr : meth.sig.returnType = some (.object "FogKept$Sheet")) (hlk : meth.locks = false) (hd : Dy 37 G cell s H locs) (hv : v = va_rf (shO G r)) (hdg : decode cc pc = .ok (.areturn, 1)) : W p l e R s m args below meth c H locs 0 0 (MQ below (va_Qq (fun (o : Option Nat) (_ : Unit) => o = shO G r) (fun _ t => PPt 37 G cell t) (inA 37 G.2.2)) args s 0 0 (inA 37 G.2.2)) (F0 m pc ls [v]) := by
  subst hv
  refine W.aret C.1.1 C.1.2.1 hr (Or.inl ⟨_, rfl⟩) ?_ (fun t ht _ => ⟨⟨_, (), rfl, rfl, ppt_of ht hd.1⟩, hd.2.F ht⟩) hd.2.2.2 hdg hlk
  unfold shO
  by_cases h : r < 0
  · rw [if_pos h]; exact Or.inl rfl
  · rw [if_neg h]; exact Or.inr ⟨_, rfl⟩
end CR
def f_X3_sheetOf (a1 : Int32) (V : VV) : Option (Int32 × VV) := if a1 < 0 then some (-1, V) else if 4 ≤ a1 then some (-1, V) else some (a1, V)
theorem sh_in {a : Int32} (h0 : ¬ a < 0) (h1 : ¬ 4 ≤ a) : ∃ j : Nat, j < 4 ∧ a = nI j := by
  rcases pk_ix a (n := 4) (by decide) with h | h | h
  · exact absurd h h0
  · exact absurd h h1
  · exact h
set_option maxRecDepth 100000 in
set_option maxHeartbeats 4000000 in
theorem c_X3_sheetOf (l : Launch) (G : Gd) (ks : Ks) (hJ : Inj 37 G.2.2) {a1 : Int32} {V V' : VV} {r : Int32} (he : f_X3_sheetOf a1 V = some (r, V')) : MS l G ks yX3_sheetOf cX3_sheetOf 2 0 0 [.ref (G.2.2 24), .int a1] (cC G V) (cC G V') r ∧ (¬ r < 0 → r.toNatClampNeg < 4) := by
  unfold f_X3_sheetOf at he
  refine ⟨?_, fun hr => ?_⟩
  · refine walk_of (own := RX3) (by decide) rfl hJ (xs_C G ks) (Nat.le_of_ble_eq_true rfl) ?_
    intro p e s m below meth c C hr hlk ls hl hd
    have hl : lv_has ls 2 [(0, .ref (G.2.2 24)), (1, .int a1)] := hl
    obtain ⟨⟨hx, hb, hml, hown, hts⟩, -⟩ := id C
    refine lv_iload_n hx hb dX3_sheetOf_0 rfl (lv_at hl 1 rfl) ?_
    refine lv_if_lt (tgt := 18) hx hb dX3_sheetOf_1 (by decide) (fun hc1 => ?_) (fun hc1 => ?_)
    · replace he := i_t hc1 he
      cases he
      refine lv_null hx hb dX3_sheetOf_18 ?_
      exact retQ C hr hlk hd rfl dX3_sheetOf_19
    · replace he := i_f hc1 he
      refine lv_iload_n hx hb dX3_sheetOf_4 rfl (lv_at hl 1 rfl) ?_
      refine lv_iconst (v := 4) hx hb dX3_sheetOf_5 (by decide) ?_
      refine lv_icmp_ge (tgt := 18) hx hb dX3_sheetOf_6 (by decide) (fun hc2 => ?_) (fun hc2 => ?_)
      · replace he := i_t hc2 he
        cases he
        refine lv_null hx hb dX3_sheetOf_18 ?_
        exact retQ C hr hlk hd rfl dX3_sheetOf_19
      · replace he := i_f hc2 he
        cases he
        refine lv_aload_n hx hb dX3_sheetOf_9 rfl (lv_at hl 0 rfl) ?_
        refine rgetf C hd (by decide) cC24 rfl tgX3 5 (by decide) (show Cond.fieldLink RX3 35 (TX3 5).1 (TX3 5).2.1 (TX3 5).2.2.1 ∈ TG from tg 204 (by decide +kernel) (by decide +kernel)) rfl dX3_sheetOf_10 ?_
        refine lv_iload_n hx hb dX3_sheetOf_13 rfl (lv_at hl 1 rfl) ?_
        have hin : inb a1 4 = true := in_inb (by obtain ⟨j, hj, rfl⟩ := sh_in hc1 hc2; exact vp_in_nI hj (by decide))
        refine raald C hd (by decide) cC27 hin dX3_sheetOf_14 ?_
        refine lv_goto (tgt := 19) hx hb dX3_sheetOf_15 (by decide) ?_
        exact retQ C hr hlk hd (by rw [shO, if_neg hc1]) dX3_sheetOf_19
  · by_cases h1 : a1 < 0
    · replace he := i_t h1 he
      cases he
      exact absurd (by decide) hr
    · replace he := i_f h1 he
      by_cases h2 : 4 ≤ a1
      · replace he := i_t h2 he
        cases he
        exact absurd (by decide) hr
      · replace he := i_f h2 he
        cases he
        obtain ⟨j, hj, rfl⟩ := sh_in h1 h2
        rw [nI_clamp (by omega)]
        exact hj
end
section
def f_X3_finding (a1 : Int32) (V : VV) : Option (Int32 × VV) := (if ((-1000000001) - a1) < 0 then some (a1, V) else (if 7 ≤ ((-1000000001) - a1) then some (a1, V) else (if inb ((-1000000001) - a1) 7 = true then (if inb ((-1000000001) - a1) 7 = true then (bV (wI V 28 (Int32.toNatClampNeg (((-1000000001) - a1))) ((V.1 28 (Int32.toNatClampNeg (((-1000000001) - a1)))) + 1)) fun V5 => some (a1, V5)) else none) else none)))
def f_X3_fog (a1 : Int32) (V : VV) : Option (Int32 × VV) := (if a1 < 0 then ((f_X3_finding (-1000000001) V).bind fun q2 => some (q2.1, q2.2)) else (if a1 ≤ 16777215 then (bV (wI V (8 * 0) 1 a1) fun V4 => some ((V.1 (8 * 0) 1), V4)) else ((f_X3_finding (-1000000001) V).bind fun q5 => some (q5.1, q5.2))))
def f_X3_isCell (a1 : Int32) (V : VV) : Option (Int32 × VV) := (if a1 < 0 then some (0, V) else (if 36 ≤ a1 then some (0, V) else some (1, V)))
def f_X3_village (a1 : Int32) (V : VV) : Option (Int32 × VV) := ((f_X3_isCell a1 V).bind fun q1 => (if q1.1 = 0 then ((f_X3_finding (-1000000001) q1.2).bind fun q4 => some (q4.1, q4.2)) else (bV (wI q1.2 (8 * 0) 2 a1) fun V3 => some ((q1.2.1 (8 * 0) 2), V3))))
def f_X0_setAt_L4 (j : Nat) : Nat → Int32 → Int32 → Int32 → VV → Option (Int32 × VV)
  | 0, _, _, _, _ => none
  | n + 1, x1, x2, x3, V => (if (V.1 (8 * j) 3) ≤ x3 then some (x2, V) else (if inb x3 8 = true then (if (V.1 (8 * j + 2) (Int32.toNatClampNeg (x3))) = x1 then (f_X0_setAt_L4 j n x1 ((x2 ||| (1 <<< (x3 &&& 31)))) ((x3 + 1)) V) else (f_X0_setAt_L4 j n x1 x2 ((x3 + 1)) V)) else none))
def f_X0_setAt (j : Nat) (a1 : Int32) (V : VV) : Option (Int32 × VV) := (f_X0_setAt_L4 j 200 a1 0 0 V)
def f_X3_at (a1 : Int32) (V : VV) : Option (Int32 × VV) := ((f_X3_isCell a1 V).bind fun q1 => (if q1.1 = 0 then ((f_X3_finding (-1000000001) q1.2).bind fun q4 => some (q4.1, q4.2)) else ((f_X0_setAt 0 a1 q1.2).bind fun q3 => some (q3.1, q3.2))))
def f_X3_isKind (a1 : Int32) (V : VV) : Option (Int32 × VV) := (if a1 < 0 then some (0, V) else (if 6 ≤ a1 then some (0, V) else some (1, V)))
def f_X0_hasRoom (j : Nat) (V : VV) : Option (Int32 × VV) := (if 8 ≤ (V.1 (8 * j) 3) then some (0, V) else some (1, V))
def f_X0_come (j : Nat) (a1 : Int32) (a2 : Int32) (V : VV) : Option (Int32 × VV) := ((f_X0_hasRoom j V).bind fun q1 => (if q1.1 = 0 then some ((-1), q1.2) else (if inb (q1.2.1 (8 * j) 3) 8 = true then (bV (wI q1.2 (8 * j + 1) (Int32.toNatClampNeg ((q1.2.1 (8 * j) 3))) a1) fun V4 => (if inb (q1.2.1 (8 * j) 3) 8 = true then (bV (wI V4 (8 * j + 2) (Int32.toNatClampNeg ((q1.2.1 (8 * j) 3))) a2) fun V6 => (if inb (q1.2.1 (8 * j) 3) 8 = true then (bV (wI V6 (8 * j + 3) (Int32.toNatClampNeg ((q1.2.1 (8 * j) 3))) a2) fun V8 => (if inb (q1.2.1 (8 * j) 3) 8 = true then (bV (wI V8 (8 * j + 4) (Int32.toNatClampNeg ((q1.2.1 (8 * j) 3))) 0) fun V10 => (if inb (q1.2.1 (8 * j) 3) 8 = true then (bV (wI V10 (8 * j + 5) (Int32.toNatClampNeg ((q1.2.1 (8 * j) 3))) 0) fun V12 => (if inb (q1.2.1 (8 * j) 3) 8 = true then (bV (wI V12 (8 * j + 6) (Int32.toNatClampNeg ((q1.2.1 (8 * j) 3))) (-1)) fun V14 => (if inb (q1.2.1 (8 * j) 3) 8 = true then (bV (wI V14 (8 * j + 7) (Int32.toNatClampNeg ((q1.2.1 (8 * j) 3))) (-1)) fun V16 => (bV (wI V16 (8 * j) 3 ((V16.1 (8 * j) 3) + 1)) fun V17 => some ((q1.2.1 (8 * j) 3), V17))) else none)) else none)) else none)) else none)) else none)) else none)) else none)))
def f_X3_walker (a1 : Int32) (a2 : Int32) (V : VV) : Option (Int32 × VV) := ((f_X3_isKind a1 V).bind fun q1 => (if q1.1 = 0 then ((f_X3_finding (-1000000001) q1.2).bind fun q3 => some (q3.1, q3.2)) else ((f_X3_isCell a2 q1.2).bind fun q4 => (if q4.1 = 0 then ((f_X3_finding (-1000000001) q4.2).bind fun q10 => some (q10.1, q10.2)) else ((f_X0_hasRoom 0 q4.2).bind fun q6 => (if q6.1 = 0 then ((f_X3_finding (-1000000002) q6.2).bind fun q9 => some (q9.1, q9.2)) else ((f_X0_come 0 a1 a2 q6.2).bind fun q8 => some (q8.1, q8.2))))))))
def f_X0_has (j : Nat) (a1 : Int32) (V : VV) : Option (Int32 × VV) := (if a1 < 0 then some (0, V) else (if (V.1 (8 * j) 3) ≤ a1 then some (0, V) else some (1, V)))
def f_X3_widowSteps (a1 : Int32) (V : VV) : Option (Int32 × VV) := (if (a1 - a1 / 2 * 2) = 0 then some (1, V) else some (0, V))
def f_X3_everyThird (a1 : Int32) (V : VV) : Option (Int32 × VV) := (if (a1 - a1 / 3 * 3) = 0 then some (1, V) else some (0, V))
def f_X3_stepsOf (a1 : Int32) (a2 : Int32) (V : VV) : Option (Int32 × VV) := (if a1 = 2 then ((f_X3_widowSteps a2 V).bind fun q2 => some (q2.1, q2.2)) else (if a1 = 3 then some (0, V) else (if a1 = 4 then some (2, V) else (if a1 = 5 then ((f_X3_widowSteps a2 V).bind fun q6 => ((f_X3_everyThird a2 q6.2).bind fun q7 => some ((q6.1 + q7.1), q7.2))) else some (1, V)))))
def f_X3_turnsOf (a1 : Int32) (a2 : Int32) (V : VV) : Option (Int32 × VV) := (if a1 = 1 then ((f_X3_everyThird a2 V).bind fun q2 => some (q2.1, q2.2)) else (if a1 = 2 then some (0, V) else (if a1 = 3 then some (1, V) else (if a1 = 4 then ((f_X3_everyThird a2 V).bind fun q6 => some (q6.1, q6.2)) else (if a1 = 5 then (if (a2 - a2 / 4 * 4) = 1 then some (2, V) else some (0, V)) else some (0, V))))))
def f_X0_tell (j : Nat) (a1 : Int32) (a2 : Int32) (V : VV) : Option (Int32 × VV) := (if a2 = 0 then (if inb a1 8 = true then some ((V.1 (8 * j + 1) (Int32.toNatClampNeg (a1))), V) else none) else (if a2 = 1 then (if inb a1 8 = true then some ((V.1 (8 * j + 2) (Int32.toNatClampNeg (a1))), V) else none) else (if a2 = 2 then (if inb a1 8 = true then some ((V.1 (8 * j + 3) (Int32.toNatClampNeg (a1))), V) else none) else (if a2 = 3 then (if inb a1 8 = true then some ((V.1 (8 * j + 4) (Int32.toNatClampNeg (a1))), V) else none) else (if a2 = 4 then (if inb a1 8 = true then some ((V.1 (8 * j + 5) (Int32.toNatClampNeg (a1))), V) else none) else (if a2 = 5 then (if inb a1 8 = true then some ((V.1 (8 * j + 6) (Int32.toNatClampNeg (a1))), V) else none) else (if a2 = 6 then (if inb a1 8 = true then some ((V.1 (8 * j + 7) (Int32.toNatClampNeg (a1))), V) else none) else (if a2 = 7 then (if inb a1 8 = true then ((f_X3_stepsOf (V.1 (8 * j + 1) (Int32.toNatClampNeg (a1))) (V.1 (8 * j) 0) V).bind fun q17 => some (q17.1, q17.2)) else none) else (if inb a1 8 = true then ((f_X3_turnsOf (V.1 (8 * j + 1) (Int32.toNatClampNeg (a1))) (V.1 (8 * j) 0) V).bind fun q19 => some (q19.1, q19.2)) else none)))))))))
def f_X3_of (a1 : Int32) (a2 : Int32) (V : VV) : Option (Int32 × VV) := ((f_X0_has 0 a1 V).bind fun q1 => (if q1.1 = 0 then ((f_X3_finding (-1000000001) q1.2).bind fun q3 => some (q3.1, q3.2)) else (if a2 < 0 then ((f_X3_finding (-1000000001) q1.2).bind fun q5 => some (q5.1, q5.2)) else (if a2 ≤ 8 then ((f_X0_tell 0 a1 a2 q1.2).bind fun q7 => some (q7.1, q7.2)) else ((f_X3_finding (-1000000001) q1.2).bind fun q8 => some (q8.1, q8.2))))))
def f_X3_valuesOf (a1 : Int32) (V : VV) : Option (Int32 × VV) := (if a1 = 1 then some (36, V) else (if a1 = 2 then some (36, V) else (if a1 = 3 then some (4, V) else some (16, V))))
def f_X0_bringAlong (j : Nat) (a1 : Int32) (V : VV) : Option VV := (if inb a1 8 = true then ((f_X0_has j (V.1 (8 * j + 6) (Int32.toNatClampNeg (a1))) V).bind fun q2 => (if q2.1 = 0 then some q2.2 else (if inb a1 8 = true then (if inb (V.1 (8 * j + 6) (Int32.toNatClampNeg (a1))) 8 = true then (bV (wI q2.2 (8 * j + 2) (Int32.toNatClampNeg ((V.1 (8 * j + 6) (Int32.toNatClampNeg (a1))))) (q2.2.1 (8 * j + 2) (Int32.toNatClampNeg (a1)))) fun V6 => some V6) else none) else none))) else none)
def f_X0_moveTo (j : Nat) (a1 : Int32) (a2 : Int32) (V : VV) : Option VV := (if inb a1 8 = true then (bV (wI V (8 * j + 2) (Int32.toNatClampNeg (a1)) a2) fun V2 => ((f_X0_bringAlong j a1 V2).bind fun V3 => some V3)) else none)
def f_X3_set (a1 : Int32) (a2 : Int32) (a3 : Int32) (V : VV) : Option (Int32 × VV) := ((f_X0_has 0 a1 V).bind fun q1 => (if q1.1 = 0 then ((f_X3_finding (-1000000001) q1.2).bind fun q3 => some (q3.1, q3.2)) else (if a2 < 1 then ((f_X3_finding (-1000000001) q1.2).bind fun q5 => some (q5.1, q5.2)) else (if 4 < a2 then ((f_X3_finding (-1000000001) q1.2).bind fun q7 => some (q7.1, q7.2)) else (if a3 < 0 then ((f_X3_finding (-1000000001) q1.2).bind fun q9 => some (q9.1, q9.2)) else ((f_X3_valuesOf a2 q1.2).bind fun q10 => (if a3 < q10.1 then ((f_X0_tell 0 a1 a2 q10.2).bind fun q12 => (if a2 = 1 then ((f_X0_moveTo 0 a1 a3 q12.2).bind fun V14 => some (q12.1, V14)) else (if a2 = 2 then (if inb a1 8 = true then (bV (wI q12.2 (8 * 0 + 3) (Int32.toNatClampNeg (a1)) a3) fun V17 => some (q12.1, V17)) else none) else (if a2 = 3 then (if inb a1 8 = true then (bV (wI q12.2 (8 * 0 + 4) (Int32.toNatClampNeg (a1)) a3) fun V20 => some (q12.1, V20)) else none) else (if inb a1 8 = true then (bV (wI q12.2 (8 * 0 + 5) (Int32.toNatClampNeg (a1)) a3) fun V22 => some (q12.1, V22)) else none))))) else ((f_X3_finding (-1000000001) q10.2).bind fun q23 => some (q23.1, q23.2)))))))))
def f_X3_turn (a1 : Int32) (a2 : Int32) (V : VV) : Option (Int32 × VV) := ((f_X0_has 0 a1 V).bind fun q1 => (if q1.1 = 0 then ((f_X3_finding (-1000000001) q1.2).bind fun q3 => some (q3.1, q3.2)) else ((f_X3_isKind a2 q1.2).bind fun q4 => (if q4.1 = 0 then ((f_X3_finding (-1000000001) q4.2).bind fun q9 => some (q9.1, q9.2)) else (if inb a1 8 = true then (if inb a1 8 = true then (bV (wI q4.2 (8 * 0 + 1) (Int32.toNatClampNeg (a1)) a2) fun V8 => some ((q4.2.1 (8 * 0 + 1) (Int32.toNatClampNeg (a1))), V8)) else none) else none)))))
def f_X3_isOrIsUnder_L4 : Nat → Int32 → Int32 → Int32 → VV → Option (Int32 × VV)
  | 0, _, _, _, _ => none
  | n + 1, x1, x2, x3, V => (if 6 ≤ x3 then some (0, V) else ((f_X3_isKind x2 V).bind fun q2 => (if q2.1 = 0 then some (0, q2.2) else (if x2 = x1 then some (1, q2.2) else (if inb x2 6 = true then (f_X3_isOrIsUnder_L4 n x1 ((kaV (Int32.toNatClampNeg (x2)))) ((x3 + 1)) q2.2) else none)))))
def f_X3_isOrIsUnder (a1 : Int32) (a2 : Int32) (V : VV) : Option (Int32 × VV) := (f_X3_isOrIsUnder_L4 200 a2 a1 0 V)
def f_X3_as (a1 : Int32) (a2 : Int32) (V : VV) : Option (Int32 × VV) := ((f_X0_has 0 a1 V).bind fun q1 => (if q1.1 = 0 then ((f_X3_finding (-1000000001) q1.2).bind fun q3 => some (q3.1, q3.2)) else ((f_X3_isKind a2 q1.2).bind fun q4 => (if q4.1 = 0 then ((f_X3_finding (-1000000001) q4.2).bind fun q11 => some (q11.1, q11.2)) else (if inb a1 8 = true then ((f_X3_isOrIsUnder (q4.2.1 (8 * 0 + 1) (Int32.toNatClampNeg (a1))) a2 q4.2).bind fun q7 => (if q7.1 = 0 then ((f_X3_finding (-1000000003) q7.2).bind fun q10 => some (q10.1, q10.2)) else (if inb a1 8 = true then some ((q7.2.1 (8 * 0 + 5) (Int32.toNatClampNeg (a1))), q7.2) else none))) else none)))))
def f_X0_isFree (j : Nat) (a1 : Int32) (V : VV) : Option (Int32 × VV) := (if inb a1 8 = true then (if (V.1 (8 * j + 6) (Int32.toNatClampNeg (a1))) = (-1) then some (1, V) else some (0, V)) else none)
def f_X0_release (j : Nat) (a1 : Int32) (V : VV) : Option VV := (if inb a1 8 = true then ((f_X0_has j (V.1 (8 * j + 6) (Int32.toNatClampNeg (a1))) V).bind fun q2 => (if q2.1 = 0 then (if inb a1 8 = true then (bV (wI q2.2 (8 * j + 6) (Int32.toNatClampNeg (a1)) (-1)) fun V5 => (if inb a1 8 = true then (bV (wI V5 (8 * j + 7) (Int32.toNatClampNeg (a1)) (-1)) fun V7 => some V7) else none)) else none) else (if inb (V.1 (8 * j + 6) (Int32.toNatClampNeg (a1))) 8 = true then (bV (wI q2.2 (8 * j + 6) (Int32.toNatClampNeg ((V.1 (8 * j + 6) (Int32.toNatClampNeg (a1))))) (-1)) fun V9 => (if inb (V.1 (8 * j + 6) (Int32.toNatClampNeg (a1))) 8 = true then (bV (wI V9 (8 * j + 7) (Int32.toNatClampNeg ((V.1 (8 * j + 6) (Int32.toNatClampNeg (a1))))) (-1)) fun V11 => (if inb a1 8 = true then (bV (wI V11 (8 * j + 6) (Int32.toNatClampNeg (a1)) (-1)) fun V13 => (if inb a1 8 = true then (bV (wI V13 (8 * j + 7) (Int32.toNatClampNeg (a1)) (-1)) fun V15 => some V15) else none)) else none)) else none)) else none))) else none)
def f_X3_free (a1 : Int32) (V : VV) : Option (Int32 × VV) := ((f_X0_has 0 a1 V).bind fun q1 => (if q1.1 = 0 then ((f_X3_finding (-1000000001) q1.2).bind fun q8 => some (q8.1, q8.2)) else ((f_X0_isFree 0 a1 q1.2).bind fun q3 => (if q3.1 = 0 then (if inb a1 8 = true then ((f_X0_release 0 a1 q3.2).bind fun V6 => some ((q3.2.1 (8 * 0 + 6) (Int32.toNatClampNeg (a1))), V6)) else none) else ((f_X3_finding (-1000000005) q3.2).bind fun q7 => some (q7.1, q7.2))))))
def f_X3_areTwo (a1 : Int32) (a2 : Int32) (V : VV) : Option (Int32 × VV) := ((f_X0_has 0 a1 V).bind fun q1 => (if q1.1 = 0 then some (0, q1.2) else ((f_X0_has 0 a2 q1.2).bind fun q3 => (if q3.1 = 0 then some (0, q3.2) else (if a1 = a2 then some (0, q3.2) else some (1, q3.2))))))
def f_X0_keepTwo (j : Nat) (a1 : Int32) (a2 : Int32) (V : VV) : Option VV := (if inb a1 8 = true then (bV (wI V (8 * j + 6) (Int32.toNatClampNeg (a1)) a2) fun V2 => (if inb a2 8 = true then (if inb a1 8 = true then (bV (wI V2 (8 * j + 7) (Int32.toNatClampNeg (a1)) (V2.1 (8 * j + 5) (Int32.toNatClampNeg (a2)))) fun V5 => (if inb a2 8 = true then (bV (wI V5 (8 * j + 6) (Int32.toNatClampNeg (a2)) a1) fun V7 => (if inb a1 8 = true then (if inb a2 8 = true then (bV (wI V7 (8 * j + 7) (Int32.toNatClampNeg (a2)) (V7.1 (8 * j + 5) (Int32.toNatClampNeg (a1)))) fun V10 => some V10) else none) else none)) else none)) else none) else none)) else none)
def f_X0_keptSet_L4 (j : Nat) : Nat → Int32 → Int32 → VV → Option (Int32 × VV)
  | 0, _, _, _ => none
  | n + 1, x1, x2, V => (if (V.1 (8 * j) 3) ≤ x2 then some (x1, V) else ((f_X0_isFree j x2 V).bind fun q2 => (if q2.1 = 0 then (f_X0_keptSet_L4 j n ((x1 ||| (1 <<< (x2 &&& 31)))) ((x2 + 1)) q2.2) else (f_X0_keptSet_L4 j n x1 ((x2 + 1)) q2.2))))
def f_X0_keptSet (j : Nat) (V : VV) : Option (Int32 × VV) := (f_X0_keptSet_L4 j 200 0 0 V)
def f_J6_bitCount_0f7a4 (a1 : Int32) (V : VV) : Option (Int32 × VV) := some (((((((((a1 - (((a1).toUInt32 >>> ((1 : Int32).toUInt32 &&& Int32.toUInt32 31)).toInt32 &&& 1431655765)) &&& 858993459) + ((((a1 - (((a1).toUInt32 >>> ((1 : Int32).toUInt32 &&& Int32.toUInt32 31)).toInt32 &&& 1431655765))).toUInt32 >>> ((2 : Int32).toUInt32 &&& Int32.toUInt32 31)).toInt32 &&& 858993459)) + (((((a1 - (((a1).toUInt32 >>> ((1 : Int32).toUInt32 &&& Int32.toUInt32 31)).toInt32 &&& 1431655765)) &&& 858993459) + ((((a1 - (((a1).toUInt32 >>> ((1 : Int32).toUInt32 &&& Int32.toUInt32 31)).toInt32 &&& 1431655765))).toUInt32 >>> ((2 : Int32).toUInt32 &&& Int32.toUInt32 31)).toInt32 &&& 858993459))).toUInt32 >>> ((4 : Int32).toUInt32 &&& Int32.toUInt32 31)).toInt32) &&& 252645135) + (((((((a1 - (((a1).toUInt32 >>> ((1 : Int32).toUInt32 &&& Int32.toUInt32 31)).toInt32 &&& 1431655765)) &&& 858993459) + ((((a1 - (((a1).toUInt32 >>> ((1 : Int32).toUInt32 &&& Int32.toUInt32 31)).toInt32 &&& 1431655765))).toUInt32 >>> ((2 : Int32).toUInt32 &&& Int32.toUInt32 31)).toInt32 &&& 858993459)) + (((((a1 - (((a1).toUInt32 >>> ((1 : Int32).toUInt32 &&& Int32.toUInt32 31)).toInt32 &&& 1431655765)) &&& 858993459) + ((((a1 - (((a1).toUInt32 >>> ((1 : Int32).toUInt32 &&& Int32.toUInt32 31)).toInt32 &&& 1431655765))).toUInt32 >>> ((2 : Int32).toUInt32 &&& Int32.toUInt32 31)).toInt32 &&& 858993459))).toUInt32 >>> ((4 : Int32).toUInt32 &&& Int32.toUInt32 31)).toInt32) &&& 252645135)).toUInt32 >>> ((8 : Int32).toUInt32 &&& Int32.toUInt32 31)).toInt32) + ((((((((a1 - (((a1).toUInt32 >>> ((1 : Int32).toUInt32 &&& Int32.toUInt32 31)).toInt32 &&& 1431655765)) &&& 858993459) + ((((a1 - (((a1).toUInt32 >>> ((1 : Int32).toUInt32 &&& Int32.toUInt32 31)).toInt32 &&& 1431655765))).toUInt32 >>> ((2 : Int32).toUInt32 &&& Int32.toUInt32 31)).toInt32 &&& 858993459)) + (((((a1 - (((a1).toUInt32 >>> ((1 : Int32).toUInt32 &&& Int32.toUInt32 31)).toInt32 &&& 1431655765)) &&& 858993459) + ((((a1 - (((a1).toUInt32 >>> ((1 : Int32).toUInt32 &&& Int32.toUInt32 31)).toInt32 &&& 1431655765))).toUInt32 >>> ((2 : Int32).toUInt32 &&& Int32.toUInt32 31)).toInt32 &&& 858993459))).toUInt32 >>> ((4 : Int32).toUInt32 &&& Int32.toUInt32 31)).toInt32) &&& 252645135) + (((((((a1 - (((a1).toUInt32 >>> ((1 : Int32).toUInt32 &&& Int32.toUInt32 31)).toInt32 &&& 1431655765)) &&& 858993459) + ((((a1 - (((a1).toUInt32 >>> ((1 : Int32).toUInt32 &&& Int32.toUInt32 31)).toInt32 &&& 1431655765))).toUInt32 >>> ((2 : Int32).toUInt32 &&& Int32.toUInt32 31)).toInt32 &&& 858993459)) + (((((a1 - (((a1).toUInt32 >>> ((1 : Int32).toUInt32 &&& Int32.toUInt32 31)).toInt32 &&& 1431655765)) &&& 858993459) + ((((a1 - (((a1).toUInt32 >>> ((1 : Int32).toUInt32 &&& Int32.toUInt32 31)).toInt32 &&& 1431655765))).toUInt32 >>> ((2 : Int32).toUInt32 &&& Int32.toUInt32 31)).toInt32 &&& 858993459))).toUInt32 >>> ((4 : Int32).toUInt32 &&& Int32.toUInt32 31)).toInt32) &&& 252645135)).toUInt32 >>> ((8 : Int32).toUInt32 &&& Int32.toUInt32 31)).toInt32)).toUInt32 >>> ((16 : Int32).toUInt32 &&& Int32.toUInt32 31)).toInt32) &&& 63), V)
def f_X3_keep (a1 : Int32) (a2 : Int32) (V : VV) : Option (Int32 × VV) := ((f_X3_areTwo a1 a2 V).bind fun q1 => (if q1.1 = 0 then ((f_X3_finding (-1000000001) q1.2).bind fun q16 => some (q16.1, q16.2)) else ((f_X0_isFree 0 a1 q1.2).bind fun q3 => (if q3.1 = 0 then ((f_X3_finding (-1000000005) q3.2).bind fun q5 => some (q5.1, q5.2)) else ((f_X0_isFree 0 a2 q3.2).bind fun q6 => (if q6.1 = 0 then ((f_X3_finding (-1000000005) q6.2).bind fun q8 => some (q8.1, q8.2)) else (if inb a1 8 = true then (if inb a2 8 = true then (if (q6.2.1 (8 * 0 + 2) (Int32.toNatClampNeg (a1))) = (q6.2.1 (8 * 0 + 2) (Int32.toNatClampNeg (a2))) then ((f_X0_keepTwo 0 a1 a2 q6.2).bind fun V12 => ((f_X0_keptSet 0 V12).bind fun q13 => ((f_J6_bitCount_0f7a4 q13.1 q13.2).bind fun q14 => some (q14.1, q14.2)))) else ((f_X3_finding (-1000000005) q6.2).bind fun q15 => some (q15.1, q15.2))) else none) else none)))))))
def f_X0_isFoggy (j : Nat) (V : VV) : Option (Int32 × VV) := (if (((V.1 (8 * j) 1) >>> (((V.1 (8 * j) 0) - (V.1 (8 * j) 0) / 24 * 24) &&& 31)) &&& 1) = 1 then some (1, V) else some (0, V))
def f_X0_lift_L2 (j : Nat) : Nat → Int32 → VV → Option VV
  | 0, _, _ => none
  | n + 1, x1, V => (if (V.1 (8 * j) 3) ≤ x1 then some V else (if inb x1 8 = true then (if (V.1 (8 * j + 2) (Int32.toNatClampNeg (x1))) = (V.1 (8 * j) 2) then (f_X0_lift_L2 j n ((x1 + 1)) V) else (if inb x1 8 = true then (bV (wI V (8 * j + 6) (Int32.toNatClampNeg (x1)) (-1)) fun V5 => (if inb x1 8 = true then (bV (wI V5 (8 * j + 7) (Int32.toNatClampNeg (x1)) (-1)) fun V7 => (f_X0_lift_L2 j n ((x1 + 1)) V7)) else none)) else none)) else none))
def f_X0_lift (j : Nat) (V : VV) : Option VV := (f_X0_lift_L2 j 200 0 V)
def f_X3_cellTowards (a1 : Int32) (a2 : Int32) (V : VV) : Option (Int32 × VV) := (if a2 = 0 then (if a1 < 6 then some ((-1), V) else some ((a1 - 6), V)) else (if a2 = 1 then (if 5 ≤ (a1 - a1 / 6 * 6) then some ((-1), V) else some ((a1 + 1), V)) else (if a2 = 2 then (if 30 ≤ a1 then some ((-1), V) else some ((a1 + 6), V)) else (if (a1 - a1 / 6 * 6) ≤ 0 then some ((-1), V) else some ((a1 - 1), V)))))
def f_X0_go_L44 (j : Nat) : Nat → Int32 → Int32 → Int32 → VV → Option VV
  | 0, _, _, _, _ => none
  | n + 1, x1, x2, x3, V => (if x2 ≤ x3 then some V else (if inb x1 8 = true then (if inb x1 8 = true then ((f_X3_cellTowards (V.1 (8 * j + 2) (Int32.toNatClampNeg (x1))) (V.1 (8 * j + 4) (Int32.toNatClampNeg (x1))) V).bind fun q11 => (if q11.1 < 0 then (if inb x1 8 = true then (if inb x1 8 = true then (bV (wI q11.2 (8 * j + 4) (Int32.toNatClampNeg (x1)) (((q11.2.1 (8 * j + 4) (Int32.toNatClampNeg (x1))) + 1) - ((q11.2.1 (8 * j + 4) (Int32.toNatClampNeg (x1))) + 1) / 4 * 4)) fun V15 => (f_X0_go_L44 j n x1 x2 ((x3 + 1)) V15)) else none) else none) else (if inb x1 8 = true then (bV (wI q11.2 (8 * j + 2) (Int32.toNatClampNeg (x1)) q11.1) fun V17 => (f_X0_go_L44 j n x1 x2 ((x3 + 1)) V17)) else none))) else none) else none))
def f_X0_go (j : Nat) (a1 : Int32) (V : VV) : Option VV := (if inb a1 8 = true then (if inb a1 8 = true then ((f_X3_turnsOf (V.1 (8 * j + 1) (Int32.toNatClampNeg (a1))) (V.1 (8 * j) 0) V).bind fun q3 => (if inb a1 8 = true then (bV (wI q3.2 (8 * j + 4) (Int32.toNatClampNeg (a1)) (((V.1 (8 * j + 4) (Int32.toNatClampNeg (a1))) + q3.1) - ((V.1 (8 * j + 4) (Int32.toNatClampNeg (a1))) + q3.1) / 4 * 4)) fun V5 => (if inb a1 8 = true then ((f_X3_stepsOf (V5.1 (8 * j + 1) (Int32.toNatClampNeg (a1))) (V5.1 (8 * j) 0) V5).bind fun q7 => (f_X0_go_L44 j 200 a1 (q7.1) 0 q7.2)) else none)) else none)) else none) else none)
def f_X0_nextFreeBeside_L4 (j : Nat) : Nat → Int32 → Int32 → VV → Option (Int32 × VV)
  | 0, _, _, _ => none
  | n + 1, x1, x2, V => (if (V.1 (8 * j) 3) ≤ x2 then some ((-1), V) else (if inb x2 8 = true then (if inb x1 8 = true then (if (V.1 (8 * j + 2) (Int32.toNatClampNeg (x2))) = (V.1 (8 * j + 2) (Int32.toNatClampNeg (x1))) then ((f_X0_isFree j x2 V).bind fun q5 => (if q5.1 = 0 then (f_X0_nextFreeBeside_L4 j n x1 ((x2 + 1)) q5.2) else some (x2, q5.2))) else (f_X0_nextFreeBeside_L4 j n x1 ((x2 + 1)) V)) else none) else none))
def f_X0_nextFreeBeside (j : Nat) (a1 : Int32) (V : VV) : Option (Int32 × VV) := (f_X0_nextFreeBeside_L4 j 200 a1 ((a1 + 1)) V)
def f_X0_collide_L2 (j : Nat) : Nat → Int32 → VV → Option VV
  | 0, _, _ => none
  | n + 1, x1, V => (if (V.1 (8 * j) 3) ≤ x1 then some V else ((f_X0_isFree j x1 V).bind fun q2 => (if q2.1 = 0 then (f_X0_collide_L2 j n ((x1 + 1)) q2.2) else ((f_X0_nextFreeBeside j x1 q2.2).bind fun q4 => ((f_X0_has j q4.1 q4.2).bind fun q5 => (if q5.1 = 0 then (if inb x1 8 = true then (if (q5.2.1 (8 * j + 1) (Int32.toNatClampNeg (x1))) = 5 then (if inb x1 8 = true then (if inb x1 8 = true then (if (q5.2.1 (8 * j + 2) (Int32.toNatClampNeg (x1))) = (q5.2.1 (8 * j + 3) (Int32.toNatClampNeg (x1))) then ((f_X0_keepTwo j x1 x1 q5.2).bind fun V12 => (f_X0_collide_L2 j n ((x1 + 1)) V12)) else (f_X0_collide_L2 j n ((x1 + 1)) q5.2)) else none) else none) else (f_X0_collide_L2 j n ((x1 + 1)) q5.2)) else none) else ((f_X0_keepTwo j x1 q4.1 q5.2).bind fun V13 => (f_X0_collide_L2 j n ((x1 + 1)) V13))))))))
def f_X0_collide (j : Nat) (V : VV) : Option VV := (f_X0_collide_L2 j 200 0 V)
def f_X0_passHour_L15 (j : Nat) : Nat → Int32 → Int32 → VV → Option VV
  | 0, _, _, _ => none
  | n + 1, x1, x2, V => (if (V.1 (8 * j) 3) ≤ x2 then (if x1 = 0 then (bV (wI V (8 * j) 0 ((V.1 (8 * j) 0) + 1)) fun V5 => some V5) else ((f_X0_collide j V).bind fun V6 => (bV (wI V6 (8 * j) 0 ((V6.1 (8 * j) 0) + 1)) fun V7 => some V7))) else ((f_X0_isFree j x2 V).bind fun q8 => (if q8.1 = 0 then (if inb x2 8 = true then (if (q8.2.1 (8 * j + 6) (Int32.toNatClampNeg (x2))) < x2 then (f_X0_passHour_L15 j n x1 ((x2 + 1)) q8.2) else ((f_X0_go j x2 q8.2).bind fun V14 => ((f_X0_bringAlong j x2 V14).bind fun V15 => (f_X0_passHour_L15 j n x1 ((x2 + 1)) V15)))) else none) else ((f_X0_go j x2 q8.2).bind fun V10 => ((f_X0_bringAlong j x2 V10).bind fun V11 => (f_X0_passHour_L15 j n x1 ((x2 + 1)) V11))))))
def f_X0_passHour (j : Nat) (V : VV) : Option VV := ((f_X0_isFoggy j V).bind fun q1 => (if q1.1 = 0 then ((f_X0_lift j q1.2).bind fun V16 => (f_X0_passHour_L15 j 200 (q1.1) 0 V16)) else (f_X0_passHour_L15 j 200 (q1.1) 0 q1.2)))
def f_X0_pass_L2 (j : Nat) : Nat → Int32 → Int32 → VV → Option VV
  | 0, _, _, _ => none
  | n + 1, x1, x2, V => (if x1 ≤ x2 then some V else ((f_X0_passHour j V).bind fun V2 => (f_X0_pass_L2 j n x1 ((x2 + 1)) V2)))
def f_X0_pass (j : Nat) (a1 : Int32) (V : VV) : Option VV := (f_X0_pass_L2 j 200 a1 0 V)
def f_X3_hours (a1 : Int32) (V : VV) : Option (Int32 × VV) := (if a1 < 1 then ((f_X3_finding (-1000000001) V).bind fun q2 => some (q2.1, q2.2)) else (if a1 ≤ 60 then (if (V.1 (8 * 0) 0) ≤ (99999 - a1) then ((f_X0_pass 0 a1 V).bind fun V5 => ((f_X0_keptSet 0 V5).bind fun q6 => some (q6.1, q6.2))) else ((f_X3_finding (-1000000005) V).bind fun q7 => some (q7.1, q7.2))) else ((f_X3_finding (-1000000001) V).bind fun q8 => some (q8.1, q8.2))))
def f_X0_isGlad (j : Nat) (a1 : Int32) (V : VV) : Option (Int32 × VV) := ((f_X0_isFree j a1 V).bind fun q1 => (if q1.1 = 0 then (if inb a1 8 = true then (if (q1.2.1 (8 * j + 6) (Int32.toNatClampNeg (a1))) = a1 then some (0, q1.2) else (if inb a1 8 = true then (if inb a1 8 = true then (if (q1.2.1 (8 * j + 7) (Int32.toNatClampNeg (a1))) = (q1.2.1 (8 * j + 5) (Int32.toNatClampNeg (a1))) then some (1, q1.2) else some (0, q1.2)) else none) else none)) else none) else some (0, q1.2)))
def f_X0_gladSet_L4 (j : Nat) : Nat → Int32 → Int32 → VV → Option (Int32 × VV)
  | 0, _, _, _ => none
  | n + 1, x1, x2, V => (if (V.1 (8 * j) 3) ≤ x2 then some (x1, V) else ((f_X0_isGlad j x2 V).bind fun q2 => (if q2.1 = 0 then (f_X0_gladSet_L4 j n x1 ((x2 + 1)) q2.2) else (f_X0_gladSet_L4 j n ((x1 ||| (1 <<< (x2 &&& 31)))) ((x2 + 1)) q2.2))))
def f_X0_gladSet (j : Nat) (V : VV) : Option (Int32 × VV) := (f_X0_gladSet_L4 j 200 0 0 V)
def f_X3_now (a1 : Int32) (V : VV) : Option (Int32 × VV) := (if a1 = 0 then some ((V.1 (8 * 0) 0), V) else (if a1 = 1 then some ((V.1 (8 * 0) 1), V) else (if a1 = 2 then ((f_X0_isFoggy 0 V).bind fun q4 => (if q4.1 = 0 then some (0, q4.2) else some (1, q4.2))) else (if a1 = 3 then ((f_X0_keptSet 0 V).bind fun q7 => some (q7.1, q7.2)) else (if a1 = 4 then ((f_X0_gladSet 0 V).bind fun q9 => some (q9.1, q9.2)) else (if a1 = 5 then some ((V.1 (8 * 0) 2), V) else ((f_X3_finding (-1000000001) V).bind fun q11 => some (q11.1, q11.2))))))))
def f_X0_takeFrom (j : Nat) (i : Nat) (V : VV) : Option VV := (bV (wI V (8 * j) 0 (V.1 (8 * i) 0)) fun V1 => (bV (wI V1 (8 * j) 1 (V1.1 (8 * i) 1)) fun V2 => (bV (wI V2 (8 * j) 2 (V2.1 (8 * i) 2)) fun V3 => (bV (wI V3 (8 * j) 3 (V3.1 (8 * i) 3)) fun V4 => (if cpok 0 0 8 8 8 = true then (bV (cpI V4 (8 * j + 1) (8 * i + 1) (Int32.toNatClampNeg (0)) (Int32.toNatClampNeg (0)) (Int32.toNatClampNeg (8))) fun V6 => (if cpok 0 0 8 8 8 = true then (bV (cpI V6 (8 * j + 2) (8 * i + 2) (Int32.toNatClampNeg (0)) (Int32.toNatClampNeg (0)) (Int32.toNatClampNeg (8))) fun V8 => (if cpok 0 0 8 8 8 = true then (bV (cpI V8 (8 * j + 3) (8 * i + 3) (Int32.toNatClampNeg (0)) (Int32.toNatClampNeg (0)) (Int32.toNatClampNeg (8))) fun V10 => (if cpok 0 0 8 8 8 = true then (bV (cpI V10 (8 * j + 4) (8 * i + 4) (Int32.toNatClampNeg (0)) (Int32.toNatClampNeg (0)) (Int32.toNatClampNeg (8))) fun V12 => (if cpok 0 0 8 8 8 = true then (bV (cpI V12 (8 * j + 5) (8 * i + 5) (Int32.toNatClampNeg (0)) (Int32.toNatClampNeg (0)) (Int32.toNatClampNeg (8))) fun V14 => (if cpok 0 0 8 8 8 = true then (bV (cpI V14 (8 * j + 6) (8 * i + 6) (Int32.toNatClampNeg (0)) (Int32.toNatClampNeg (0)) (Int32.toNatClampNeg (8))) fun V16 => (if cpok 0 0 8 8 8 = true then (bV (cpI V16 (8 * j + 7) (8 * i + 7) (Int32.toNatClampNeg (0)) (Int32.toNatClampNeg (0)) (Int32.toNatClampNeg (8))) fun V18 => some V18) else none)) else none)) else none)) else none)) else none)) else none)) else none)))))
def f_X3_on (a1 : Int32) (a2 : Int32) (a3 : Int32) (V : VV) : Option (Int32 × VV) := ((f_X0_has 0 a1 V).bind fun q1 => (if q1.1 = 0 then ((f_X3_finding (-1000000001) q1.2).bind fun q3 => some (q3.1, q3.2)) else (if a2 < 0 then ((f_X3_finding (-1000000001) q1.2).bind fun q5 => some (q5.1, q5.2)) else (if 60 < a2 then ((f_X3_finding (-1000000001) q1.2).bind fun q7 => some (q7.1, q7.2)) else (if a3 < 0 then ((f_X3_finding (-1000000001) q1.2).bind fun q9 => some (q9.1, q9.2)) else (if a3 ≤ 2 then ((f_X0_takeFrom 1 0 q1.2).bind fun V11 => ((f_X0_pass 1 a2 V11).bind fun V12 => (if a3 = 0 then (if inb a1 8 = true then some ((V12.1 (8 * 1 + 2) (Int32.toNatClampNeg (a1))), V12) else none) else (if a3 = 1 then (if inb a1 8 = true then some ((V12.1 (8 * 1 + 6) (Int32.toNatClampNeg (a1))), V12) else none) else (if inb a1 8 = true then some ((V12.1 (8 * 1 + 7) (Int32.toNatClampNeg (a1))), V12) else none))))) else ((f_X3_finding (-1000000001) q1.2).bind fun q18 => some (q18.1, q18.2))))))))
def f_X3_trialShows (a1 : Int32) (a2 : Int32) (a3 : Int32) (V : VV) : Option (Int32 × VV) := (if a1 = 0 then (if a3 = (-2) then ((f_X0_isFree 1 a2 V).bind fun q5 => (if q5.1 = 0 then some (1, q5.2) else some (0, q5.2))) else (if inb a2 8 = true then (if (V.1 (8 * 1 + 6) (Int32.toNatClampNeg (a2))) = a3 then some (1, V) else some (0, V)) else none)) else (if a1 = 1 then ((f_X0_isFree 1 a2 V).bind fun q8 => some (q8.1, q8.2)) else ((f_X0_isGlad 1 a2 V).bind fun q9 => some (q9.1, q9.2))))
def f_X3_firstInTrial_L3 : Nat → Int32 → Int32 → Int32 → Int32 → Int32 → VV → Option (Int32 × VV)
  | 0, _, _, _, _, _, _ => none
  | n + 1, x1, x2, x3, x4, x5, V => (if x4 < x5 then some ((-1), V) else ((f_X3_trialShows x1 x2 x3 V).bind fun q2 => (if q2.1 = 0 then (if x4 ≤ x5 then (f_X3_firstInTrial_L3 n x1 x2 x3 x4 ((x5 + 1)) q2.2) else ((f_X0_passHour 1 q2.2).bind fun V5 => (f_X3_firstInTrial_L3 n x1 x2 x3 x4 ((x5 + 1)) V5))) else some (x5, q2.2))))
def f_X3_firstInTrial (a1 : Int32) (a2 : Int32) (a3 : Int32) (a4 : Int32) (V : VV) : Option (Int32 × VV) := (f_X3_firstInTrial_L3 200 a1 a2 a3 a4 0 V)
def f_X3_firstFromNow (a1 : Int32) (a2 : Int32) (a3 : Int32) (V : VV) : Option (Int32 × VV) := ((f_X0_takeFrom 1 0 V).bind fun V1 => ((f_X3_firstInTrial a1 a2 a3 100 V1).bind fun q2 => some (q2.1, q2.2)))
def f_X3_orNone (a1 : Int32) (V : VV) : Option (Int32 × VV) := (if a1 < 0 then ((f_X3_finding (-1000000004) V).bind fun q2 => some (q2.1, q2.2)) else some (a1, V))
def f_X3_meet (a1 : Int32) (a2 : Int32) (V : VV) : Option (Int32 × VV) := ((f_X3_areTwo a1 a2 V).bind fun q1 => (if q1.1 = 0 then ((f_X3_finding (-1000000001) q1.2).bind fun q5 => some (q5.1, q5.2)) else ((f_X3_firstFromNow 0 a1 a2 q1.2).bind fun q3 => ((f_X3_orNone q3.1 q3.2).bind fun q4 => some (q4.1, q4.2)))))
def f_X3_when (a1 : Int32) (V : VV) : Option (Int32 × VV) := ((f_X0_has 0 a1 V).bind fun q1 => (if q1.1 = 0 then ((f_X3_finding (-1000000001) q1.2).bind fun q5 => some (q5.1, q5.2)) else ((f_X3_firstFromNow 0 a1 (-2) q1.2).bind fun q3 => ((f_X3_orNone q3.1 q3.2).bind fun q4 => some (q4.1, q4.2)))))
def f_X3_till (a1 : Int32) (V : VV) : Option (Int32 × VV) := ((f_X0_has 0 a1 V).bind fun q1 => (if q1.1 = 0 then ((f_X3_finding (-1000000001) q1.2).bind fun q5 => some (q5.1, q5.2)) else ((f_X3_firstFromNow 1 a1 (-2) q1.2).bind fun q3 => ((f_X3_orNone q3.1 q3.2).bind fun q4 => some (q4.1, q4.2)))))
def f_X3_glad (a1 : Int32) (V : VV) : Option (Int32 × VV) := ((f_X0_has 0 a1 V).bind fun q1 => (if q1.1 = 0 then ((f_X3_finding (-1000000001) q1.2).bind fun q5 => some (q5.1, q5.2)) else ((f_X3_firstFromNow 2 a1 (-2) q1.2).bind fun q3 => ((f_X3_orNone q3.1 q3.2).bind fun q4 => some (q4.1, q4.2)))))
def f_X3_suppose (a1 : Int32) (a2 : Int32) (a3 : Int32) (V : VV) : Option VV := ((f_X0_takeFrom 1 0 V).bind fun V1 => (if a1 = 0 then (if inb a3 8 = true then (bV (wI V1 (8 * 1 + 4) (Int32.toNatClampNeg (a3)) a2) fun V4 => some V4) else none) else (if a1 = 1 then ((f_X0_release 1 a3 V1).bind fun V6 => (if inb a3 8 = true then (bV (wI V6 (8 * 1 + 2) (Int32.toNatClampNeg (a3)) a2) fun V8 => some V8) else none)) else (if a1 = 2 then (if inb a3 8 = true then (bV (wI V1 (8 * 1 + 1) (Int32.toNatClampNeg (a3)) a2) fun V11 => some V11) else none) else (if a1 = 3 then (bV (wI V1 (8 * 1) 1 (1 <<< (a2 &&& 31))) fun V13 => some V13) else (if a1 = 4 then (if inb a3 8 = true then (bV (wI V1 (8 * 1 + 5) (Int32.toNatClampNeg (a3)) a2) fun V16 => some V16) else none) else (if a1 = 5 then (bV (wI V1 (8 * 1) 1 ((V1.1 (8 * 1) 1) ||| (1 <<< (a2 &&& 31)))) fun V18 => some V18) else (bV (wI V1 (8 * 1) 2 a2) fun V19 => some V19))))))))
def f_X3_soonestChoice_L9 : Nat → Int32 → Int32 → Int32 → Int32 → Int32 → Int32 → Int32 → VV → Option (Int32 × VV)
  | 0, _, _, _, _, _, _, _, _ => none
  | n + 1, x1, x2, x4, x5, x6, x7, x8, V => (if x2 ≤ x8 then some (x6, V) else (if x7 < 0 then some (x6, V) else ((f_X3_suppose x1 x8 x4 V).bind fun V3 => ((f_X3_firstInTrial 0 x4 x5 x7 V3).bind fun q4 => (if q4.1 < 0 then (f_X3_soonestChoice_L9 n x1 x2 x4 x5 x6 x7 ((x8 + 1)) q4.2) else (f_X3_soonestChoice_L9 n x1 x2 x4 x5 x8 ((q4.1 - 1)) ((x8 + 1)) q4.2))))))
def f_X3_soonestChoice (a1 : Int32) (a2 : Int32) (a3 : Int32) (a4 : Int32) (a5 : Int32) (V : VV) : Option (Int32 × VV) := (f_X3_soonestChoice_L9 200 a1 a2 a4 a5 ((-1)) a3 0 V)
def f_X3_heading (a1 : Int32) (a2 : Int32) (V : VV) : Option (Int32 × VV) := ((f_X3_areTwo a1 a2 V).bind fun q1 => (if q1.1 = 0 then ((f_X3_finding (-1000000001) q1.2).bind fun q5 => some (q5.1, q5.2)) else ((f_X3_soonestChoice 0 4 100 a1 a2 q1.2).bind fun q3 => ((f_X3_orNone q3.1 q3.2).bind fun q4 => some (q4.1, q4.2)))))
def f_X3_begin (a1 : Int32) (a2 : Int32) (V : VV) : Option (Int32 × VV) := ((f_X3_areTwo a1 a2 V).bind fun q1 => (if q1.1 = 0 then ((f_X3_finding (-1000000001) q1.2).bind fun q5 => some (q5.1, q5.2)) else ((f_X3_soonestChoice 1 36 30 a1 a2 q1.2).bind fun q3 => ((f_X3_orNone q3.1 q3.2).bind fun q4 => some (q4.1, q4.2)))))
def f_X3_kind (a1 : Int32) (V : VV) : Option (Int32 × VV) := ((f_X0_has 0 a1 V).bind fun q1 => (if q1.1 = 0 then ((f_X3_finding (-1000000001) q1.2).bind fun q5 => some (q5.1, q5.2)) else ((f_X3_soonestChoice 2 6 100 a1 (-2) q1.2).bind fun q3 => ((f_X3_orNone q3.1 q3.2).bind fun q4 => some (q4.1, q4.2)))))
def f_X3_hour (a1 : Int32) (a2 : Int32) (V : VV) : Option (Int32 × VV) := ((f_X3_areTwo a1 a2 V).bind fun q1 => (if q1.1 = 0 then ((f_X3_finding (-1000000001) q1.2).bind fun q5 => some (q5.1, q5.2)) else ((f_X3_soonestChoice 3 24 60 a1 a2 q1.2).bind fun q3 => ((f_X3_orNone q3.1 q3.2).bind fun q4 => some (q4.1, q4.2)))))
def f_X3_fullestChoice_L9 : Nat → Int32 → Int32 → Int32 → Int32 → Int32 → Int32 → Int32 → VV → Option (Int32 × VV)
  | 0, _, _, _, _, _, _, _, _ => none
  | n + 1, x1, x2, x3, x4, x5, x6, x7, V => (if x2 ≤ x7 then some (x5, V) else (if (V.1 (8 * 0) 3) ≤ x6 then some (x5, V) else ((f_X3_suppose x1 x7 x4 V).bind fun V3 => ((f_X0_pass 1 x3 V3).bind fun V4 => (if x1 = 4 then ((f_X0_gladSet 1 V4).bind fun q9 => ((f_J6_bitCount_0f7a4 q9.1 q9.2).bind fun q10 => (if q10.1 ≤ x6 then (f_X3_fullestChoice_L9 n x1 x2 x3 x4 x5 x6 ((x7 + 1)) q10.2) else (f_X3_fullestChoice_L9 n x1 x2 x3 x4 x7 (q10.1) ((x7 + 1)) q10.2)))) else ((f_X0_keptSet 1 V4).bind fun q6 => ((f_J6_bitCount_0f7a4 q6.1 q6.2).bind fun q7 => (if q7.1 ≤ x6 then (f_X3_fullestChoice_L9 n x1 x2 x3 x4 x5 x6 ((x7 + 1)) q7.2) else (f_X3_fullestChoice_L9 n x1 x2 x3 x4 x7 (q7.1) ((x7 + 1)) q7.2)))))))))
def f_X3_fullestChoice (a1 : Int32) (a2 : Int32) (a3 : Int32) (a4 : Int32) (V : VV) : Option (Int32 × VV) := (f_X3_fullestChoice_L9 200 a1 a2 a3 a4 0 ((-1)) 0 V)
def f_X3_hope (a1 : Int32) (a2 : Int32) (V : VV) : Option (Int32 × VV) := ((f_X0_has 0 a1 V).bind fun q1 => (if q1.1 = 0 then ((f_X3_finding (-1000000001) q1.2).bind fun q3 => some (q3.1, q3.2)) else (if a2 < 0 then ((f_X3_finding (-1000000001) q1.2).bind fun q5 => some (q5.1, q5.2)) else (if a2 ≤ 60 then ((f_X3_fullestChoice 4 16 a2 a1 q1.2).bind fun q7 => some (q7.1, q7.2)) else ((f_X3_finding (-1000000001) q1.2).bind fun q8 => some (q8.1, q8.2))))))
def f_X3_more (a1 : Int32) (V : VV) : Option (Int32 × VV) := (if a1 < 0 then ((f_X3_finding (-1000000001) V).bind fun q2 => some (q2.1, q2.2)) else (if a1 ≤ 60 then ((f_X3_fullestChoice 5 24 a1 (-1) V).bind fun q4 => some (q4.1, q4.2)) else ((f_X3_finding (-1000000001) V).bind fun q5 => some (q5.1, q5.2))))
def f_X3_best (a1 : Int32) (V : VV) : Option (Int32 × VV) := (if a1 < 0 then ((f_X3_finding (-1000000001) V).bind fun q2 => some (q2.1, q2.2)) else (if a1 ≤ 30 then ((f_X3_fullestChoice 6 36 a1 (-1) V).bind fun q4 => some (q4.1, q4.2)) else ((f_X3_finding (-1000000001) V).bind fun q5 => some (q5.1, q5.2))))
def f_X2_append_L4 : Nat → Int32 → Int32 → VV → Option VV
  | 0, _, _, _ => none
  | n + 1, x1, x3, V => (if x3 < 0 then some V else (if 120 ≤ (V.1 25 0) then some V else (if inb (V.1 25 0) 120 = true then (bV (wI V 26 (Int32.toNatClampNeg ((V.1 25 0))) ((x1 >>> ((8 * x3) &&& 31)) &&& 255)) fun V4 => (bV (wI V4 25 0 ((V4.1 25 0) + 1)) fun V5 => (f_X2_append_L4 n x1 ((x3 + (-1))) V5))) else none)))
def f_X2_append (a1 : Int32) (a2 : Int32) (V : VV) : Option VV := (f_X2_append_L4 200 a1 ((a2 - 1)) V)
def f_X3_feed (a1 : Int32) (a2 : Int32) (V : VV) : Option (Int32 × VV) := (if a2 < 1 then ((f_X3_finding (-1000000001) V).bind fun q2 => some (q2.1, q2.2)) else (if a2 ≤ 4 then (if (V.1 25 0) ≤ (120 - a2) then ((f_X2_append a1 a2 V).bind fun V5 => some ((V5.1 25 0), V5)) else ((f_X3_finding (-1000000002) V).bind fun q6 => some (q6.1, q6.2))) else ((f_X3_finding (-1000000001) V).bind fun q7 => some (q7.1, q7.2))))
def f_X3_wipe (V : VV) : Option (Int32 × VV) := (bV (wI V 25 0 0) fun V1 => some ((V.1 25 0), V1))
def f_X2_typeOf (a1 : Int32) (V : VV) : Option (Int32 × VV) := (if a1 < 97 then (if a1 < 48 then (if a1 = 59 then some (3, V) else some (4, V)) else (if 57 < a1 then (if a1 = 59 then some (3, V) else some (4, V)) else some (2, V))) else (if 122 < a1 then (if a1 < 48 then (if a1 = 59 then some (3, V) else some (4, V)) else (if 57 < a1 then (if a1 = 59 then some (3, V) else some (4, V)) else some (2, V))) else some (1, V)))
def f_X2_weigh_L10 : Nat → Int32 → VV → Option VV
  | 0, _, _ => none
  | n + 1, x1, V => (if (V.1 25 4) ≤ x1 then some V else (if inb x1 120 = true then (bV (wI V 25 5 (if 1000 < ((((V.1 25 5) * 10) + (V.1 26 (Int32.toNatClampNeg (x1)))) - 48) then 1000 else ((((V.1 25 5) * 10) + (V.1 26 (Int32.toNatClampNeg (x1)))) - 48))) fun V4 => (f_X2_weigh_L10 n ((x1 + 1)) V4)) else none))
def f_X2_weigh (V : VV) : Option VV := (bV (wI V 25 5 0) fun V1 => (f_X2_weigh_L10 200 ((V1.1 25 3)) V1))
def f_X2_look_L113 : Nat → VV → Option VV
  | 0, _ => none
  | n + 1, V => (if (V.1 25 0) ≤ (V.1 25 4) then (if (V.1 25 2) = 2 then ((f_X2_weigh V).bind fun V11 => some V11) else some V) else (if inb (V.1 25 4) 120 = true then ((f_X2_typeOf (V.1 26 (Int32.toNatClampNeg ((V.1 25 4)))) V).bind fun q13 => (if q13.1 = (q13.2.1 25 2) then (bV (wI q13.2 25 4 ((q13.2.1 25 4) + 1)) fun V17 => (f_X2_look_L113 n  V17)) else (if (q13.2.1 25 2) = 2 then ((f_X2_weigh q13.2).bind fun V16 => some V16) else some q13.2))) else none))
def f_X2_look_L8 : Nat → VV → Option VV
  | 0, _ => none
  | n + 1, V => (if (V.1 25 0) ≤ (V.1 25 3) then (if (V.1 25 3) < (V.1 25 0) then (if inb (V.1 25 3) 120 = true then ((f_X2_typeOf (V.1 26 (Int32.toNatClampNeg ((V.1 25 3)))) V).bind fun q5 => (bV (wI q5.2 25 2 q5.1) fun V6 => (bV (wI V6 25 4 ((V6.1 25 3) + 1)) fun V7 => (if (V7.1 25 2) = 1 then (f_X2_look_L113 200  V7) else (if (V7.1 25 2) = 2 then (f_X2_look_L113 200  V7) else (if (V7.1 25 2) = 2 then ((f_X2_weigh V7).bind fun V20 => some V20) else some V7)))))) else none) else (bV (wI V 25 2 0) fun V21 => (bV (wI V21 25 4 (V21.1 25 3)) fun V22 => some V22))) else (if inb (V.1 25 3) 120 = true then (if (V.1 26 (Int32.toNatClampNeg ((V.1 25 3)))) = 32 then (bV (wI V 25 3 ((V.1 25 3) + 1)) fun V36 => (f_X2_look_L8 n  V36)) else (if (V.1 25 3) < (V.1 25 0) then (if inb (V.1 25 3) 120 = true then ((f_X2_typeOf (V.1 26 (Int32.toNatClampNeg ((V.1 25 3)))) V).bind fun q27 => (bV (wI q27.2 25 2 q27.1) fun V28 => (bV (wI V28 25 4 ((V28.1 25 3) + 1)) fun V29 => (if (V29.1 25 2) = 1 then (f_X2_look_L113 200  V29) else (if (V29.1 25 2) = 2 then (f_X2_look_L113 200  V29) else (if (V29.1 25 2) = 2 then ((f_X2_weigh V29).bind fun V33 => some V33) else some V29)))))) else none) else (bV (wI V 25 2 0) fun V34 => (bV (wI V34 25 4 (V34.1 25 3)) fun V35 => some V35)))) else none))
def f_X2_look (V : VV) : Option VV := (bV (wI V 25 3 (V.1 25 4)) fun V1 => (f_X2_look_L8 200  V1))
def f_X2_nameOf (a1 : Int32) (V : VV) : Option (Int32 × VV) := (if a1 = 0 then some (0, V) else (if a1 = 1 then some (1, V) else (if a1 = 2 then some (2, V) else (if a1 = 3 then some (3, V) else (if a1 = 4 then some (4, V) else some (5, V))))))
def f_X2_isWord_L28 (sx : Nat) : Nat → Int32 → VV → Option (Int32 × VV)
  | 0, _, _ => none
  | n + 1, x2, V => (if (nI (lenS.getD sx 0)) ≤ x2 then some (1, V) else (if inb ((V.1 25 3) + x2) 120 = true then (if inb x2 (lenS.getD sx 0) = true then (if (V.1 26 (Int32.toNatClampNeg (((V.1 25 3) + x2)))) = (chS sx (Int32.toNatClampNeg (x2))) then (f_X2_isWord_L28 sx n ((x2 + 1)) V) else some (0, V)) else none) else none))
def f_X2_isWord (sx : Nat) (V : VV) : Option (Int32 × VV) := (if (V.1 25 2) = 1 then (if ((V.1 25 4) - (V.1 25 3)) = (nI (lenS.getD sx 0)) then (f_X2_isWord_L28 sx 200 0 V) else some (0, V)) else some (0, V))
def f_X2_kindNamed_L2 : Nat → Int32 → VV → Option (Int32 × VV)
  | 0, _, _ => none
  | n + 1, x1, V => (if 6 ≤ x1 then some ((-1), V) else ((f_X2_nameOf x1 V).bind fun q2 => ((f_X2_isWord (Int32.toNatClampNeg q2.1) q2.2).bind fun q3 => (if q3.1 = 0 then (f_X2_kindNamed_L2 n ((x1 + 1)) q3.2) else some (x1, q3.2)))))
def f_X2_kindNamed (V : VV) : Option (Int32 × VV) := (f_X2_kindNamed_L2 200 0 V)
def f_X2_takeWord (sx : Nat) (V : VV) : Option (Int32 × VV) := ((f_X2_isWord sx V).bind fun q1 => (if q1.1 = 0 then some (0, q1.2) else ((f_X2_look q1.2).bind fun V3 => some (1, V3))))
def f_X2_takeNumber (a1 : Int32) (a2 : Int32) (V : VV) : Option (Int32 × VV) := (if (V.1 25 2) = 2 then (if (V.1 25 5) < a1 then some (0, V) else (if (V.1 25 5) ≤ a2 then (bV (wI V 25 6 (V.1 25 5)) fun V4 => ((f_X2_look V4).bind fun V5 => some (1, V5))) else some (0, V))) else some (0, V))
def f_X2_takeWalker (i : Nat) (a2 : Int32) (V : VV) : Option (Int32 × VV) := ((f_X0_hasRoom i V).bind fun q1 => (if q1.1 = 0 then some (0, q1.2) else ((f_X2_look q1.2).bind fun V3 => ((f_X2_takeWord 9 V3).bind fun q4 => (if q4.1 = 0 then some (0, q4.2) else ((f_X2_takeNumber 0 35 q4.2).bind fun q6 => (if q6.1 = 0 then some (0, q6.2) else ((f_X0_come i a2 (q6.2.1 25 6) q6.2).bind fun q8 => ((f_X0_has i q8.1 q8.2).bind fun q9 => (if q9.1 = 0 then some (0, q9.2) else ((f_X2_takeWord 10 q9.2).bind fun q11 => (if q11.1 = 0 then ((f_X2_takeWord 11 q11.2).bind fun q13 => (if q13.1 = 0 then some (1, q13.2) else ((f_X2_takeNumber 0 15 q13.2).bind fun q15 => (if q15.1 = 0 then some (0, q15.2) else (if inb q8.1 8 = true then (bV (wI q15.2 (8 * i + 5) (Int32.toNatClampNeg (q8.1)) (q15.2.1 25 6)) fun V18 => some (1, V18)) else none))))) else ((f_X2_takeNumber 0 3 q11.2).bind fun q19 => (if q19.1 = 0 then some (0, q19.2) else (if inb q8.1 8 = true then (bV (wI q19.2 (8 * i + 4) (Int32.toNatClampNeg (q8.1)) (q19.2.1 25 6)) fun V22 => ((f_X2_takeWord 11 V22).bind fun q23 => (if q23.1 = 0 then some (1, q23.2) else ((f_X2_takeNumber 0 15 q23.2).bind fun q25 => (if q25.1 = 0 then some (0, q25.2) else (if inb q8.1 8 = true then (bV (wI q25.2 (8 * i + 5) (Int32.toNatClampNeg (q8.1)) (q25.2.1 25 6)) fun V28 => some (1, V28)) else none)))))) else none)))))))))))))))
def f_X2_takeDayHours_L41 (i : Nat) : Nat → Int32 → Int32 → VV → Option (Int32 × VV)
  | 0, _, _, _ => none
  | n + 1, x2, x4, V => (if (V.1 25 6) < x4 then some (1, V) else (if x2 = 0 then (bV (wI V (8 * i) 1 ((V.1 (8 * i) 1) &&& ((1 <<< (x4 &&& 31)) ^^^ (-1)))) fun V7 => (f_X2_takeDayHours_L41 i n x2 ((x4 + 1)) V7)) else (bV (wI V (8 * i) 1 ((V.1 (8 * i) 1) ||| (1 <<< (x4 &&& 31)))) fun V8 => (f_X2_takeDayHours_L41 i n x2 ((x4 + 1)) V8))))
def f_X2_takeDayHours (i : Nat) (a2 : Int32) (V : VV) : Option (Int32 × VV) := ((f_X2_takeNumber 0 23 V).bind fun q1 => (if q1.1 = 0 then some (0, q1.2) else ((f_X2_takeWord 12 q1.2).bind fun q3 => (if q3.1 = 0 then (f_X2_takeDayHours_L41 i 200 a2 ((q1.2.1 25 6)) q3.2) else ((f_X2_takeNumber (q1.2.1 25 6) 23 q3.2).bind fun q9 => (if q9.1 = 0 then some (0, q9.2) else (f_X2_takeDayHours_L41 i 200 a2 ((q1.2.1 25 6)) q9.2)))))))
def f_X2_takeItem (i : Nat) (V : VV) : Option (Int32 × VV) := ((f_X2_kindNamed V).bind fun q1 => (if q1.1 < 0 then ((f_X2_takeWord 6 q1.2).bind fun q3 => (if q3.1 = 0 then ((f_X2_takeWord 7 q3.2).bind fun q5 => (if q5.1 = 0 then ((f_X2_takeWord 8 q5.2).bind fun q7 => (if q7.1 = 0 then some (0, q7.2) else ((f_X2_takeNumber 0 35 q7.2).bind fun q9 => (if q9.1 = 0 then some (0, q9.2) else (bV (wI q9.2 (8 * i) 2 (q9.2.1 25 6)) fun V11 => some (1, V11)))))) else ((f_X2_takeDayHours i 0 q5.2).bind fun q12 => some (q12.1, q12.2)))) else ((f_X2_takeDayHours i 1 q3.2).bind fun q13 => some (q13.1, q13.2)))) else ((f_X2_takeWalker i q1.1 q1.2).bind fun q14 => some (q14.1, q14.2))))
def f_X2_tellItems_L11 (i : Nat) : Nat → Int32 → VV → Option (Int32 × VV)
  | 0, _, _ => none
  | n + 1, x2, V => (if 120 < x2 then some (((-1) - (V.1 25 3)), V) else ((f_X2_takeItem i V).bind fun q4 => (if q4.1 = 0 then some (((-1) - (q4.2.1 25 3)), q4.2) else (if (q4.2.1 25 2) = 0 then some (x2, q4.2) else (if (q4.2.1 25 2) = 3 then ((f_X2_look q4.2).bind fun V8 => (f_X2_tellItems_L11 i n ((x2 + 1)) V8)) else some (((-1) - (q4.2.1 25 3)), q4.2))))))
def f_X2_tellItems (i : Nat) (V : VV) : Option (Int32 × VV) := (bV (wI V 25 4 0) fun V1 => ((f_X2_look V1).bind fun V2 => (f_X2_tellItems_L11 i 200 1 V2)))
def f_X3_moor (V : VV) : Option (Int32 × VV) := ((f_X0_takeFrom 1 0 V).bind fun V1 => ((f_X2_tellItems 1 V1).bind fun q2 => (bV (wI q2.2 25 0 0) fun V3 => (if q2.1 ≤ 0 then some (q2.1, V3) else ((f_X0_takeFrom 0 1 V3).bind fun V5 => some (q2.1, V5))))))
def f_X1_layOut_L20 (k : Nat) : Nat → Int32 → VV → Option VV
  | 0, _, _ => none
  | n + 1, x3, V => (if 40 ≤ x3 then some V else (if inb x3 40 = true then (bV (wJ V (29 + 2 * k + 1) (Int32.toNatClampNeg (x3)) 0) fun V6 => (f_X1_layOut_L20 k n ((x3 + 1)) V6)) else none))
def f_X1_layOut (k : Nat) (a1 : Int32) (a2 : Int32) (V : VV) : Option VV := (bV (wI V (29 + 2 * k) 0 a1) fun V1 => (if a1 = 0 then (bV (wI V1 (29 + 2 * k) 1 0) fun V7 => (f_X1_layOut_L20 k 200 0 V7)) else (bV (wI V1 (29 + 2 * k) 1 a2) fun V3 => (f_X1_layOut_L20 k 200 0 V3))))
def f_X3_sheet (a1 : Int32) (a2 : Int32) (a3 : Int32) (V : VV) : Option (Int32 × VV) := (if a2 = 0 then ((f_X3_sheetOf a1 V).bind fun q2 => (if q2.1 < 0 then ((f_X3_finding (-1000000001) q2.2).bind fun q3 => some (q3.1, q3.2)) else (if 0 ≤ a3 then (if a3 ≤ 40 then ((f_X1_layOut (Int32.toNatClampNeg q2.1) a2 a3 q2.2).bind fun V7 => some ((V7.1 (29 + 2 * (Int32.toNatClampNeg q2.1)) 1), V7)) else ((f_X3_finding (-1000000001) q2.2).bind fun q8 => some (q8.1, q8.2))) else ((f_X3_finding (-1000000007) q2.2).bind fun q9 => some (q9.1, q9.2))))) else (if a2 = 8 then ((f_X3_sheetOf a1 V).bind fun q11 => (if q11.1 < 0 then ((f_X3_finding (-1000000001) q11.2).bind fun q12 => some (q12.1, q12.2)) else (if 0 ≤ a3 then (if a3 ≤ 40 then ((f_X1_layOut (Int32.toNatClampNeg q11.1) a2 a3 q11.2).bind fun V16 => some ((V16.1 (29 + 2 * (Int32.toNatClampNeg q11.1)) 1), V16)) else ((f_X3_finding (-1000000001) q11.2).bind fun q17 => some (q17.1, q17.2))) else ((f_X3_finding (-1000000007) q11.2).bind fun q18 => some (q18.1, q18.2))))) else (if a2 = 16 then ((f_X3_sheetOf a1 V).bind fun q20 => (if q20.1 < 0 then ((f_X3_finding (-1000000001) q20.2).bind fun q21 => some (q21.1, q21.2)) else (if 0 ≤ a3 then (if a3 ≤ 40 then ((f_X1_layOut (Int32.toNatClampNeg q20.1) a2 a3 q20.2).bind fun V25 => some ((V25.1 (29 + 2 * (Int32.toNatClampNeg q20.1)) 1), V25)) else ((f_X3_finding (-1000000001) q20.2).bind fun q26 => some (q26.1, q26.2))) else ((f_X3_finding (-1000000007) q20.2).bind fun q27 => some (q27.1, q27.2))))) else (if a2 = 64 then ((f_X3_sheetOf a1 V).bind fun q33 => (if q33.1 < 0 then ((f_X3_finding (-1000000001) q33.2).bind fun q34 => some (q34.1, q34.2)) else (if 0 ≤ a3 then (if a3 ≤ 40 then ((f_X1_layOut (Int32.toNatClampNeg q33.1) a2 a3 q33.2).bind fun V38 => some ((V38.1 (29 + 2 * (Int32.toNatClampNeg q33.1)) 1), V38)) else ((f_X3_finding (-1000000001) q33.2).bind fun q39 => some (q39.1, q39.2))) else ((f_X3_finding (-1000000007) q33.2).bind fun q40 => some (q40.1, q40.2))))) else ((f_X3_sheetOf a1 V).bind fun q29 => (if q29.1 < 0 then ((f_X3_finding (-1000000001) q29.2).bind fun q30 => some (q30.1, q30.2)) else ((f_X3_finding (-1000000001) q29.2).bind fun q32 => some (q32.1, q32.2))))))))
def f_X1_isMissing (k : Nat) (V : VV) : Option (Int32 × VV) := (if (V.1 (29 + 2 * k) 0) = 0 then some (1, V) else some (0, V))
def f_X1_put (k : Nat) (a1 : Int32) (a2 : Int64) (V : VV) : Option VV := (if (V.1 (29 + 2 * k) 0) = 8 then (if inb a1 40 = true then (bV (wJ V (29 + 2 * k + 1) (Int32.toNatClampNeg (a1)) ((((((a2 : Int64).toInt32) : Int32).toInt8.toInt32) : Int32).toInt64)) fun V8 => some V8) else none) else (if (V.1 (29 + 2 * k) 0) = 16 then (if inb a1 40 = true then (bV (wJ V (29 + 2 * k + 1) (Int32.toNatClampNeg (a1)) ((((((a2 : Int64).toInt32) : Int32).toInt16.toInt32) : Int32).toInt64)) fun V6 => some V6) else none) else (if inb a1 40 = true then (bV (wJ V (29 + 2 * k + 1) (Int32.toNatClampNeg (a1)) a2) fun V4 => some V4) else none)))
def f_X3_write (a1 : Int32) (a2 : Int32) (a3 : Int64) (V : VV) : Option (Int64 × VV) := ((f_X3_sheetOf a1 V).bind fun q1 => (if q1.1 < 0 then ((f_X3_finding (-1000000001) q1.2).bind fun q2 => some (((q2.1 : Int32).toInt64), q2.2)) else ((f_X1_isMissing (Int32.toNatClampNeg q1.1) q1.2).bind fun q3 => (if q3.1 = 0 then (if a2 < 0 then ((f_X3_finding (-1000000001) q3.2).bind fun q6 => some (((q6.1 : Int32).toInt64), q6.2)) else (if a2 < (q3.2.1 (29 + 2 * (Int32.toNatClampNeg q1.1)) 1) then (if inb a2 40 = true then ((f_X1_put (Int32.toNatClampNeg q1.1) a2 a3 q3.2).bind fun V9 => some ((q3.2.2 (29 + 2 * (Int32.toNatClampNeg q1.1) + 1) (Int32.toNatClampNeg (a2))), V9)) else none) else ((f_X3_finding (-1000000001) q3.2).bind fun q10 => some (((q10.1 : Int32).toInt64), q10.2)))) else ((f_X3_finding (-1000000006) q3.2).bind fun q11 => some (((q11.1 : Int32).toInt64), q11.2))))))
def f_X1_hasRun (k : Nat) (a1 : Int32) (a2 : Int32) (V : VV) : Option (Int32 × VV) := (if a1 < 0 then some (0, V) else (if a2 < 0 then some (0, V) else (if (V.1 (29 + 2 * k) 1) < a2 then some (0, V) else (if ((V.1 (29 + 2 * k) 1) - a2) < a1 then some (0, V) else some (1, V)))))
def f_X3_copy (a1 : Int32) (a2 : Int32) (a3 : Int32) (a4 : Int32) (a5 : Int32) (V : VV) : Option (Int32 × VV) := ((f_X3_sheetOf a1 V).bind fun q1 => (if q1.1 < 0 then ((f_X3_sheetOf a3 q1.2).bind fun q2 => (if q2.1 < 0 then ((f_X3_finding (-1000000001) q2.2).bind fun q3 => some (q3.1, q3.2)) else ((f_X3_finding (-1000000001) q2.2).bind fun q4 => some (q4.1, q4.2)))) else ((f_X3_sheetOf a3 q1.2).bind fun q5 => (if q5.1 < 0 then ((f_X3_finding (-1000000001) q5.2).bind fun q6 => some (q6.1, q6.2)) else ((f_X1_isMissing (Int32.toNatClampNeg q1.1) q5.2).bind fun q7 => (if q7.1 = 0 then ((f_X1_isMissing (Int32.toNatClampNeg q5.1) q7.2).bind fun q10 => (if q10.1 = 0 then (if (q10.2.1 (29 + 2 * (Int32.toNatClampNeg q1.1)) 0) = (q10.2.1 (29 + 2 * (Int32.toNatClampNeg q5.1)) 0) then ((f_X1_hasRun (Int32.toNatClampNeg q1.1) a2 a5 q10.2).bind fun q13 => (if q13.1 = 0 then ((f_X3_finding (-1000000001) q13.2).bind fun q15 => some (q15.1, q15.2)) else ((f_X1_hasRun (Int32.toNatClampNeg q5.1) a4 a5 q13.2).bind fun q16 => (if q16.1 = 0 then ((f_X3_finding (-1000000001) q16.2).bind fun q20 => some (q20.1, q20.2)) else (if cpok a2 a4 a5 40 40 = true then (bV (cpJ q16.2 (29 + 2 * (Int32.toNatClampNeg q5.1) + 1) (29 + 2 * (Int32.toNatClampNeg q1.1) + 1) (Int32.toNatClampNeg (a2)) (Int32.toNatClampNeg (a4)) (Int32.toNatClampNeg (a5))) fun V19 => some (a5, V19)) else none))))) else ((f_X3_finding (-1000000003) q10.2).bind fun q21 => some (q21.1, q21.2))) else ((f_X3_finding (-1000000006) q10.2).bind fun q22 => some (q22.1, q22.2)))) else ((f_X3_finding (-1000000006) q7.2).bind fun q9 => some (q9.1, q9.2))))))))
def f_X3_lays_L36 (y2 : Nat) : Nat → Int32 → Int32 → VV → Option (Int32 × VV)
  | 0, _, _, _ => none
  | n + 1, x3, x4, V => (if (V.1 (29 + 2 * y2) 1) ≤ x4 then some (x3, V) else (if (V.1 (8 * 0) 3) ≤ x4 then some (x3, V) else (if inb x4 40 = true then (if (lg_cmp (V.2 (29 + 2 * y2 + 1) (Int32.toNatClampNeg (x4))) 0) < 0 then (f_X3_lays_L36 y2 n x3 ((x4 + 1)) V) else (if 0 ≤ (lg_cmp (V.2 (29 + 2 * y2 + 1) (Int32.toNatClampNeg (x4))) 16) then (f_X3_lays_L36 y2 n x3 ((x4 + 1)) V) else (if inb x4 8 = true then (bV (wI V (8 * 0 + 5) (Int32.toNatClampNeg (x4)) (((V.2 (29 + 2 * y2 + 1) (Int32.toNatClampNeg (x4))) : Int64).toInt32)) fun V11 => (f_X3_lays_L36 y2 n ((x3 + 1)) ((x4 + 1)) V11)) else none))) else none)))
def f_X3_lays (a1 : Int32) (V : VV) : Option (Int32 × VV) := ((f_X3_sheetOf a1 V).bind fun q1 => (if q1.1 < 0 then ((f_X3_finding (-1000000001) q1.2).bind fun q2 => some (q2.1, q2.2)) else ((f_X1_isMissing (Int32.toNatClampNeg q1.1) q1.2).bind fun q3 => (if q3.1 = 0 then (f_X3_lays_L36 (Int32.toNatClampNeg q1.1) 200 0 0 q3.2) else ((f_X3_finding (-1000000006) q3.2).bind fun q12 => some (q12.1, q12.2))))))
def f_X3_sheetAndWalkerFinding (a1 : Int32) (a2 : Int32) (V : VV) : Option (Int32 × VV) := ((f_X3_sheetOf a1 V).bind fun q1 => (if q1.1 < 0 then some ((-1000000001), q1.2) else ((f_X1_isMissing (Int32.toNatClampNeg q1.1) q1.2).bind fun q2 => (if q2.1 = 0 then ((f_X0_has 0 a2 q2.2).bind fun q4 => (if q4.1 = 0 then some ((-1000000001), q4.2) else some (0, q4.2))) else some ((-1000000006), q2.2)))))
def f_X3_book_L43 (y4 : Nat) : Nat → Int32 → Int32 → VV → Option (Int32 × VV)
  | 0, _, _, _ => none
  | n + 1, x2, x5, V => (if (V.1 (29 + 2 * y4) 1) ≤ x5 then some ((V.1 (29 + 2 * y4) 1), V) else (if inb x2 8 = true then ((f_X1_put y4 x5 (((V.1 (8 * 1 + 2) (Int32.toNatClampNeg (x2))) : Int32).toInt64) V).bind fun V11 => ((f_X0_passHour 1 V11).bind fun V12 => (f_X3_book_L43 y4 n x2 ((x5 + 1)) V12))) else none))
def f_X3_book (a1 : Int32) (a2 : Int32) (V : VV) : Option (Int32 × VV) := ((f_X3_sheetAndWalkerFinding a1 a2 V).bind fun q1 => ((f_X3_sheetOf a1 q1.2).bind fun q2 => (if q2.1 < 0 then (if q1.1 = 0 then ((f_X3_finding q1.1 q2.2).bind fun q5 => some (q5.1, q5.2)) else ((f_X3_finding q1.1 q2.2).bind fun q4 => some (q4.1, q4.2))) else (if q1.1 = 0 then ((f_X0_takeFrom 1 0 q2.2).bind fun V8 => (f_X3_book_L43 (Int32.toNatClampNeg q2.1) 200 a2 0 V8)) else ((f_X3_finding q1.1 q2.2).bind fun q7 => some (q7.1, q7.2))))))
def f_X3_trialGoesBy_L2 (k : Nat) : Nat → Int32 → Int32 → VV → Option (Int32 × VV)
  | 0, _, _, _ => none
  | n + 1, x2, x3, V => (if (V.1 (29 + 2 * k) 1) ≤ x3 then some (1, V) else (if inb x3 40 = true then (if inb x2 8 = true then (if (lg_cmp (V.2 (29 + 2 * k + 1) (Int32.toNatClampNeg (x3))) (((V.1 (8 * 1 + 2) (Int32.toNatClampNeg (x2))) : Int32).toInt64)) = 0 then ((f_X0_passHour 1 V).bind fun V5 => (f_X3_trialGoesBy_L2 k n x2 ((x3 + 1)) V5)) else some (0, V)) else none) else none))
def f_X3_trialGoesBy (k : Nat) (a2 : Int32) (V : VV) : Option (Int32 × VV) := (f_X3_trialGoesBy_L2 k 200 a2 0 V)
def f_X3_read_L45 (y4 : Nat) (K : Int32 → Int32 → Int32 → VV → Option (Int32 × VV)) : Nat → Int32 → Int32 → Int32 → Int32 → VV → Option (Int32 × VV)
  | 0, _, _, _, _, _ => none
  | n + 1, x2, x5, x6, x7, V => (if 4 ≤ x7 then (K x2 x5 ((x6 + 1)) V) else ((f_X0_takeFrom 1 0 V).bind fun V10 => (if inb x2 8 = true then (bV (wI V10 (8 * 1 + 1) (Int32.toNatClampNeg (x2)) x6) fun V12 => (if inb x2 8 = true then (bV (wI V12 (8 * 1 + 4) (Int32.toNatClampNeg (x2)) x7) fun V14 => ((f_X3_trialGoesBy y4 x2 V14).bind fun q15 => (if q15.1 = 0 then (f_X3_read_L45 y4 K n x2 x5 x6 ((x7 + 1)) q15.2) else (f_X3_read_L45 y4 K n x2 ((x5 + 1)) x6 ((x7 + 1)) q15.2)))) else none)) else none)))
def f_X3_read_L35 (y4 : Nat) : Nat → Int32 → Int32 → Int32 → VV → Option (Int32 × VV)
  | 0, _, _, _, _ => none
  | n + 1, x2, x5, x6, V => (if 6 ≤ x6 then some (x5, V) else (f_X3_read_L45 y4 (f_X3_read_L35 y4 n) 200 x2 x5 x6 0 V))
def f_X3_read (a1 : Int32) (a2 : Int32) (V : VV) : Option (Int32 × VV) := ((f_X3_sheetAndWalkerFinding a1 a2 V).bind fun q1 => ((f_X3_sheetOf a1 q1.2).bind fun q2 => (if q2.1 < 0 then (if q1.1 = 0 then ((f_X3_finding q1.1 q2.2).bind fun q5 => some (q5.1, q5.2)) else ((f_X3_finding q1.1 q2.2).bind fun q4 => some (q4.1, q4.2))) else (if q1.1 = 0 then (f_X3_read_L35 (Int32.toNatClampNeg q2.1) 200 a2 0 0 q2.2) else ((f_X3_finding q1.1 q2.2).bind fun q7 => some (q7.1, q7.2))))))
def f_X3_image (V : VV) : Option (Int32 × VV) := ((f_X0_takeFrom 2 0 V).bind fun V1 => (bV (wI V1 24 3 1) fun V2 => some (1, V2)))
def f_X3_undo (V : VV) : Option (Int32 × VV) := (if (V.1 24 3) = 0 then ((f_X3_finding (-1000000004) V).bind fun q3 => some (q3.1, q3.2)) else ((f_X0_takeFrom 0 2 V).bind fun V2 => some ((V2.1 (8 * 0) 3), V2)))
def f_X3_tear (V : VV) : Option (Int32 × VV) := (if (V.1 24 3) = 0 then (bV (wI V 24 3 0) fun V2 => some (0, V2)) else (bV (wI V 24 3 0) fun V3 => some (1, V3)))
def f_X3_count (a1 : Int32) (V : VV) : Option (Int32 × VV) := (if a1 = 0 then some ((V.1 (8 * 0) 3), V) else (if a1 = 1 then some ((V.1 25 0), V) else (if a1 = 2 then ((f_X0_keptSet 0 V).bind fun q4 => ((f_J6_bitCount_0f7a4 q4.1 q4.2).bind fun q5 => some (q5.1, q5.2))) else (if a1 = 3 then ((f_J6_bitCount_0f7a4 (V.1 (8 * 0) 1) V).bind fun q7 => some (q7.1, q7.2)) else ((f_X3_finding (-1000000001) V).bind fun q8 => some (q8.1, q8.2))))))
def f_X3_status_L33 : Nat → Int32 → Int32 → VV → Option (Int32 × VV)
  | 0, _, _, _ => none
  | n + 1, x2, x3, V => (if 7 ≤ x3 then some (x2, V) else (if inb x3 7 = true then (f_X3_status_L33 n ((x2 + (V.1 28 (Int32.toNatClampNeg (x3))))) ((x3 + 1)) V) else none))
def f_X3_status (a1 : Int32) (V : VV) : Option (Int32 × VV) := (if a1 < (-1) then ((f_X3_finding (-1000000001) V).bind fun q2 => some (q2.1, q2.2)) else (if a1 < 7 then (if a1 < 0 then (f_X3_status_L33 200 0 0 V) else (if inb a1 7 = true then some ((V.1 28 (Int32.toNatClampNeg (a1))), V) else none)) else ((f_X3_finding (-1000000001) V).bind fun q8 => some (q8.1, q8.2))))
end
section
/-! ===== PURE: rows of a moor, in the class and in the reference ===== -/
abbrev Row : Type := Nat → Int32
def sp (w k : Nat) : Nat := 4 + 7 * w + k
def rowC (j : Nat) (V : VV) : Row := fun p => if p = 0 then V.1 (8 * j) 3 else if p = 1 then V.1 (8 * j) 0 else if p = 2 then V.1 (8 * j) 1 else if p = 3 then V.1 (8 * j) 2 else V.1 (8 * j + 1 + (p - 4) % 7) ((p - 4) / 7)
def pR (j : Nat) (V : VV) (R : Row) : VV := (fun c k => if c = 8 * j then (if k = 3 then R 0 else if k = 0 then R 1 else if k = 1 then R 2 else if k = 2 then R 3 else V.1 c k) else if 8 * j < c ∧ c < 8 * j + 8 then R (4 + 7 * k + (c - 8 * j - 1)) else V.1 c k, V.2)
def mR (V : VV) (R : Row) : VV := (fun c => if c = 1 then R else V.1 c, V.2)
def Z60 (R : Row) : Prop := ∀ p, 60 ≤ p → R p = 0
theorem vv_ext {V W : VV} (h1 : ∀ c k, V.1 c k = W.1 c k) (h2 : V.2 = W.2) : V = W := by
  obtain ⟨a, b⟩ := V
  obtain ⟨c, d⟩ := W
  simp only at h1 h2
  rw [h2]
  congr 1
  funext c k
  exact h1 c k
theorem pR_row (j : Nat) (V : VV) : pR j V (rowC j V) = V := by
  apply vv_ext
  · intro c k
    simp only [pR, rowC]
    by_cases h : c = 8 * j
    · subst h
      simp only [if_true]
      by_cases h3 : k = 3
      · simp [h3]
      · by_cases h0 : k = 0
        · simp [h0]
        · by_cases h1 : k = 1
          · simp [h1]
          · by_cases h2 : k = 2
            · simp [h2]
            · simp [h3, h0, h1, h2]
    · rw [if_neg h]
      by_cases h2 : 8 * j < c ∧ c < 8 * j + 8
      · rw [if_pos h2, if_neg (by omega), if_neg (by omega), if_neg (by omega), if_neg (by omega)]
        have e1 : 8 * j + 1 + (4 + 7 * k + (c - 8 * j - 1) - 4) % 7 = c := by omega
        have e2 : (4 + 7 * k + (c - 8 * j - 1) - 4) / 7 = k := by omega
        rw [e1, e2]
      · rw [if_neg h2]
  · rfl
theorem rowC_pR (j : Nat) (V : VV) (R : Row) : rowC j (pR j V R) = R := by
  funext p
  simp only [rowC, pR]
  by_cases h0 : p = 0
  · simp [h0]
  · by_cases h1 : p = 1
    · simp [h1]
    · by_cases h2 : p = 2
      · simp [h2]
      · by_cases h3 : p = 3
        · simp [h3]
        · rw [if_neg h0, if_neg h1, if_neg h2, if_neg h3, if_neg (by omega), if_pos (by omega)]
          congr 1
          omega
theorem rowC_pR_ne {i j : Nat} (h : i ≠ j) (V : VV) (R : Row) : rowC i (pR j V R) = rowC i V := by
  funext p
  have key : ∀ d k, d < 8 → (pR j V R).1 (8 * i + d) k = V.1 (8 * i + d) k := by
    intro d k hd
    simp only [pR]
    rw [if_neg (by omega), if_neg (by omega)]
  simp only [rowC]
  have k0 := key 0 3 (by omega)
  have k1 := key 0 0 (by omega)
  have k2 := key 0 1 (by omega)
  have k3 := key 0 2 (by omega)
  have k4 := key (1 + (p - 4) % 7) ((p - 4) / 7) (by omega)
  rw [← Nat.add_assoc] at k4
  simp only [Nat.add_zero] at k0 k1 k2 k3
  rw [k0, k1, k2, k3, k4]
theorem pR_pR (j : Nat) (V : VV) (R R' : Row) : pR j (pR j V R) R' = pR j V R' := by
  apply vv_ext
  · intro c k
    simp only [pR]
    by_cases h : c = 8 * j
    · simp only [h, if_true]
      by_cases h3 : k = 3
      · simp [h3]
      · by_cases h0 : k = 0
        · simp [h0]
        · by_cases h1 : k = 1
          · simp [h1]
          · by_cases h2 : k = 2
            · simp [h2]
            · simp [h3, h0, h1, h2]
    · simp only [if_neg h]
      by_cases h2 : 8 * j < c ∧ c < 8 * j + 8
      · simp only [if_pos h2]
      · simp only [if_neg h2]
  · rfl
theorem pR_2 (j : Nat) (V : VV) (R : Row) : (pR j V R).2 = V.2 := rfl
theorem pR_far {j : Nat} (V : VV) (R : Row) {c : Nat} (hj : j < 3) (hc : 24 ≤ c) : (pR j V R).1 c = V.1 c := by
  funext k
  simp only [pR]
  rw [if_neg (by omega), if_neg (by omega)]
theorem pR_n (j : Nat) (V : VV) (R : Row) : (pR j V R).1 (8 * j) 3 = R 0 := by simp [pR]
theorem pR_t (j : Nat) (V : VV) (R : Row) : (pR j V R).1 (8 * j) 0 = R 1 := by simp [pR]
theorem pR_f (j : Nat) (V : VV) (R : Row) : (pR j V R).1 (8 * j) 1 = R 2 := by simp [pR]
theorem pR_v (j : Nat) (V : VV) (R : Row) : (pR j V R).1 (8 * j) 2 = R 3 := by simp [pR]
theorem pR_a (j : Nat) (V : VV) (R : Row) (k w : Nat) (h0 : 0 < k) (h : k < 8) : (pR j V R).1 (8 * j + k) w = R (sp w (k - 1)) := by
  simp only [pR, sp]
  rw [if_neg (by omega), if_pos (by omega)]
  congr 1
  omega
theorem pR_1 (j : Nat) (V : VV) (R : Row) (w : Nat) : (pR j V R).1 (8 * j + 1) w = R (sp w 0) := pR_a j V R 1 w (by omega) (by omega)
theorem pR_2' (j : Nat) (V : VV) (R : Row) (w : Nat) : (pR j V R).1 (8 * j + 2) w = R (sp w 1) := pR_a j V R 2 w (by omega) (by omega)
theorem pR_3 (j : Nat) (V : VV) (R : Row) (w : Nat) : (pR j V R).1 (8 * j + 3) w = R (sp w 2) := pR_a j V R 3 w (by omega) (by omega)
theorem pR_4 (j : Nat) (V : VV) (R : Row) (w : Nat) : (pR j V R).1 (8 * j + 4) w = R (sp w 3) := pR_a j V R 4 w (by omega) (by omega)
theorem pR_5 (j : Nat) (V : VV) (R : Row) (w : Nat) : (pR j V R).1 (8 * j + 5) w = R (sp w 4) := pR_a j V R 5 w (by omega) (by omega)
theorem pR_6 (j : Nat) (V : VV) (R : Row) (w : Nat) : (pR j V R).1 (8 * j + 6) w = R (sp w 5) := pR_a j V R 6 w (by omega) (by omega)
theorem pR_7 (j : Nat) (V : VV) (R : Row) (w : Nat) : (pR j V R).1 (8 * j + 7) w = R (sp w 6) := pR_a j V R 7 w (by omega) (by omega)
theorem upd_eq (R : Row) (p : Nat) (v : Int32) : upd R p v p = v := by simp [upd]
theorem upd_ne {R : Row} {p q : Nat} {v : Int32} (h : q ≠ p) : upd R p v q = R q := by simp [upd, h]
theorem pR_wa (j : Nat) (V : VV) (R : Row) (k w : Nat) (v : Int32) (h0 : 0 < k) (h : k < 8) : wI (pR j V R) (8 * j + k) w v = pR j V (upd R (sp w (k - 1)) v) := by
  apply vv_ext
  · intro c i
    by_cases hc : c = 8 * j + k
    · subst hc
      rw [wI_eq, pR_a j V (upd R (sp w (k - 1)) v) k i h0 h]
      by_cases hi : i = w
      · subst hi
        rw [upd_eq, upd_eq]
      · rw [upd_ne hi, pR_a j V R k i h0 h, upd_ne (by unfold sp; omega)]
    · rw [wI_ne hc]
      have e : ∀ q, q ≠ sp w (k - 1) → upd R (sp w (k - 1)) v q = R q := fun q h => upd_ne h
      have e0 := e 0 (by unfold sp; omega)
      have e1 := e 1 (by unfold sp; omega)
      have e2 := e 2 (by unfold sp; omega)
      have e3 := e 3 (by unfold sp; omega)
      unfold pR
      dsimp only
      rw [e0, e1, e2, e3]
      by_cases h8 : c = 8 * j
      · rw [if_pos h8, if_pos h8]
      · rw [if_neg h8, if_neg h8]
        by_cases h9 : 8 * j < c ∧ c < 8 * j + 8
        · rw [if_pos h9, if_pos h9, e _ (by unfold sp; omega)]
        · rw [if_neg h9, if_neg h9]
  · rfl
theorem pR_w1 (j : Nat) (V : VV) (R : Row) (w : Nat) (v : Int32) : wI (pR j V R) (8 * j + 1) w v = pR j V (upd R (sp w 0) v) := pR_wa j V R 1 w v (by omega) (by omega)
theorem pR_w2 (j : Nat) (V : VV) (R : Row) (w : Nat) (v : Int32) : wI (pR j V R) (8 * j + 2) w v = pR j V (upd R (sp w 1) v) := pR_wa j V R 2 w v (by omega) (by omega)
theorem pR_w3 (j : Nat) (V : VV) (R : Row) (w : Nat) (v : Int32) : wI (pR j V R) (8 * j + 3) w v = pR j V (upd R (sp w 2) v) := pR_wa j V R 3 w v (by omega) (by omega)
theorem pR_w4 (j : Nat) (V : VV) (R : Row) (w : Nat) (v : Int32) : wI (pR j V R) (8 * j + 4) w v = pR j V (upd R (sp w 3) v) := pR_wa j V R 4 w v (by omega) (by omega)
theorem pR_w5 (j : Nat) (V : VV) (R : Row) (w : Nat) (v : Int32) : wI (pR j V R) (8 * j + 5) w v = pR j V (upd R (sp w 4) v) := pR_wa j V R 5 w v (by omega) (by omega)
theorem pR_w6 (j : Nat) (V : VV) (R : Row) (w : Nat) (v : Int32) : wI (pR j V R) (8 * j + 6) w v = pR j V (upd R (sp w 5) v) := pR_wa j V R 6 w v (by omega) (by omega)
theorem pR_w7 (j : Nat) (V : VV) (R : Row) (w : Nat) (v : Int32) : wI (pR j V R) (8 * j + 7) w v = pR j V (upd R (sp w 6) v) := pR_wa j V R 7 w v (by omega) (by omega)
theorem pR_w0 (j : Nat) (V : VV) (R : Row) (q k : Nat) (v : Int32) (h : (q = 3 ∧ k = 0) ∨ (q = 0 ∧ k = 1) ∨ (q = 1 ∧ k = 2) ∨ (q = 2 ∧ k = 3)) : wI (pR j V R) (8 * j) q v = pR j V (upd R k v) := by
  apply vv_ext
  · intro c i
    by_cases hc : c = 8 * j
    · subst hc
      rw [wI_eq]
      simp only [upd, pR, if_true]
      rcases h with ⟨rfl, rfl⟩ | ⟨rfl, rfl⟩ | ⟨rfl, rfl⟩ | ⟨rfl, rfl⟩
      · by_cases h3 : i = 3
        · simp [h3]
        · simp [h3]
      · by_cases h3 : i = 0
        · simp [h3]
        · simp [h3]
      · by_cases h3 : i = 1
        · simp [h3]
        · simp [h3]
      · by_cases h3 : i = 2
        · simp [h3]
        · simp [h3]
    · rw [wI_ne hc]
      simp only [pR, upd, if_neg hc]
      by_cases h9 : 8 * j < c ∧ c < 8 * j + 8
      · simp only [if_pos h9]
        rw [if_neg (by omega)]
      · simp only [if_neg h9]
  · rfl
theorem pR_wn (j : Nat) (V : VV) (R : Row) (v : Int32) : wI (pR j V R) (8 * j) 3 v = pR j V (upd R 0 v) := pR_w0 j V R 3 0 v (by omega)
theorem pR_wt (j : Nat) (V : VV) (R : Row) (v : Int32) : wI (pR j V R) (8 * j) 0 v = pR j V (upd R 1 v) := pR_w0 j V R 0 1 v (by omega)
theorem pR_wf (j : Nat) (V : VV) (R : Row) (v : Int32) : wI (pR j V R) (8 * j) 1 v = pR j V (upd R 2 v) := pR_w0 j V R 1 2 v (by omega)
theorem pR_wv (j : Nat) (V : VV) (R : Row) (v : Int32) : wI (pR j V R) (8 * j) 2 v = pR j V (upd R 3 v) := pR_w0 j V R 2 3 v (by omega)
theorem mR_row (V : VV) : mR V (V.1 1) = V := by
  apply vv_ext
  · intro c k
    simp only [mR]
    by_cases h : c = 1
    · simp [h]
    · simp [h]
  · rfl
theorem mR_1 (V : VV) (R : Row) : (mR V R).1 1 = R := by simp [mR]
theorem mR_ne (V : VV) (R : Row) {c : Nat} (h : c ≠ 1) : (mR V R).1 c = V.1 c := by simp [mR, h]
theorem mR_2 (V : VV) (R : Row) : (mR V R).2 = V.2 := rfl
theorem mR_mR (V : VV) (R R' : Row) : mR (mR V R) R' = mR V R' := by
  apply vv_ext
  · intro c k
    simp only [mR]
    by_cases h : c = 1
    · simp [h]
    · simp [h]
  · rfl
theorem mR_w (V : VV) (R : Row) (p : Nat) (v : Int32) : wI (mR V R) 1 p v = mR V (upd R p v) := by
  apply vv_ext
  · intro c k
    by_cases h : c = 1
    · subst h
      rw [wI_eq, mR_1, mR_1]
    · rw [wI_ne h, mR_ne _ _ h, mR_ne _ _ h]
  · rfl
theorem upd_self (R : Row) (p : Nat) : upd R p (R p) = R := by
  funext q
  by_cases h : q = p
  · rw [h, upd_eq]
  · rw [upd_ne h]
theorem Z60.up {R : Row} (h : Z60 R) {p : Nat} {v : Int32} (hp : p < 60) : Z60 (upd R p v) := fun q hq => by rw [upd_ne (by omega)]; exact h q hq
theorem sp_lt {w k : Nat} (hw : w < 8) (hk : k < 7) : sp w k < 60 := by unfold sp; omega
theorem sp_inj {w k w' k' : Nat} (hk : k < 7) (hk' : k' < 7) (h : sp w k = sp w' k') : w = w' ∧ k = k' := by unfold sp at h; omega
theorem sp_ge (w k : Nat) : 4 ≤ sp w k := by unfold sp; omega
/-! numbers -/
theorem inb_nI {k n : Nat} (h : k < n) (hn : n < 2 ^ 31) : inb (nI k) n = true := in_inb (vp_in_nI h hn)
theorem cl_nI {k : Nat} (h : k < 2 ^ 31) : (nI k).toNatClampNeg = k := nI_clamp h
theorem spot_nI (w k : Nat) : (4 + 7 * nI w) + nI k = nI (sp w k) := by
  rw [show (4 : Int32) = nI 4 from rfl, show (7 : Int32) = nI 7 from rfl, pk_mul, nI_add, nI_add]
  rfl
/-- a loop that goes up -/
theorem loopF {α : Type} {F : Nat → Nat → α} {n : Nat} {res : α} (hexit : ∀ fuel, F (fuel + 1) n = res) (hstep : ∀ fuel w, w < n → F (fuel + 1) w = F fuel (w + 1)) : ∀ k w fuel, w + k = n → k < fuel → F fuel w = res := by
  intro k
  induction k with
  | zero =>
    intro w fuel h hf
    obtain ⟨f, rfl⟩ : ∃ f, fuel = f + 1 := ⟨fuel - 1, by omega⟩
    have : w = n := by omega
    subst this
    exact hexit f
  | succ k ih =>
    intro w fuel h hf
    obtain ⟨f, rfl⟩ : ∃ f, fuel = f + 1 := ⟨fuel - 1, by omega⟩
    rw [hstep f w (by omega)]
    exact ih (w + 1) f (by omega) (by omega)
end
section
/-! ===== PURE: small words ===== -/
theorem itt {α : Type} {x y : α} : (if true = true then x else y) = x := if_pos rfl
theorem inb0 : inb 0 60 = true := by decide
theorem inb1 : inb 1 60 = true := by decide
theorem inb2 : inb 2 60 = true := by decide
theorem inb3 : inb 3 60 = true := by decide
theorem tn0 : Int32.toNatClampNeg 0 = 0 := by decide
theorem tn1 : Int32.toNatClampNeg 1 = 1 := by decide
theorem tn2 : Int32.toNatClampNeg 2 = 2 := by decide
theorem tn3 : Int32.toNatClampNeg 3 = 3 := by decide
theorem b10 {P : Prop} [Decidable P] : ((if P then (1 : Int32) else 0) = 0) ↔ ¬ P := by by_cases h : P <;> simp [h]
theorem b01 {P : Prop} [Decidable P] : ((if P then (0 : Int32) else 1) = 0) ↔ P := by by_cases h : P <;> simp [h]
theorem b10' {P : Prop} [Decidable P] : ((if P then (1 : Int32) else 0) = 1) ↔ P := by by_cases h : P <;> simp [h]
theorem inb8 {w : Nat} (h : w < 8) : inb (nI w) 8 = true := inb_nI h (by decide)
theorem cl8 {w : Nat} (h : w < 8) : Int32.toNatClampNeg (nI w) = w := cl_nI (by omega)
theorem isp {w k : Nat} (hw : w < 8) (hk : k < 7) : inb (nI (sp w k)) 60 = true := inb_nI (sp_lt hw hk) (by decide)
theorem csp {w k : Nat} (hw : w < 8) (hk : k < 7) : Int32.toNatClampNeg (nI (sp w k)) = sp w k := cl_nI (by have := sp_lt hw hk; omega)
theorem nI_succ' (w : Nat) : nI w + 1 = nI (w + 1) := nI_1 w
/-- well-formed: n walkers, HOUR at most T -/
def Wf (n T : Nat) (R : Row) : Prop := n ≤ 8 ∧ R 0 = nI n ∧ (∃ t : Nat, t ≤ T ∧ R 1 = nI t) ∧ ∀ w, w < n → (∃ k, k < 6 ∧ R (sp w 0) = nI k) ∧ (∃ c, c < 36 ∧ R (sp w 1) = nI c) ∧ (∃ h, h < 4 ∧ R (sp w 3) = nI h) ∧ (R (sp w 5) = -1 ∨ ∃ q, q < n ∧ R (sp w 5) = nI q)
theorem Wf.up {n T : Nat} {R : Row} {p : Nat} {v : Int32} (h : Wf n T R) (h0 : p ≠ 0) (h1 : p = 1 → ∃ t : Nat, t ≤ T ∧ v = nI t) (hk : ∀ w, w < n → p = sp w 0 → ∃ k, k < 6 ∧ v = nI k) (hc : ∀ w, w < n → p = sp w 1 → ∃ c, c < 36 ∧ v = nI c) (hh : ∀ w, w < n → p = sp w 3 → ∃ k, k < 4 ∧ v = nI k) (hw : ∀ w, w < n → p = sp w 5 → v = -1 ∨ ∃ q, q < n ∧ v = nI q) : Wf n T (upd R p v) := by
  obtain ⟨g1, g2, g3, g4⟩ := h
  refine ⟨g1, by rw [upd_ne (Ne.symm h0)]; exact g2, ?_, fun w hw' => ?_⟩
  · by_cases e : p = 1
    · obtain ⟨t, a, b⟩ := h1 e
      exact ⟨t, a, by rw [← e, upd_eq]; exact b⟩
    · rw [upd_ne (Ne.symm e)]; exact g3
  · obtain ⟨a1, a2, a3, a4⟩ := g4 w hw'
    refine ⟨?_, ?_, ?_, ?_⟩
    · by_cases e : p = sp w 0
      · obtain ⟨k, a, b⟩ := hk w hw' e
        exact ⟨k, a, by rw [← e, upd_eq]; exact b⟩
      · rw [upd_ne (Ne.symm e)]; exact a1
    · by_cases e : p = sp w 1
      · obtain ⟨k, a, b⟩ := hc w hw' e
        exact ⟨k, a, by rw [← e, upd_eq]; exact b⟩
      · rw [upd_ne (Ne.symm e)]; exact a2
    · by_cases e : p = sp w 3
      · obtain ⟨k, a, b⟩ := hh w hw' e
        exact ⟨k, a, by rw [← e, upd_eq]; exact b⟩
      · rw [upd_ne (Ne.symm e)]; exact a3
    · by_cases e : p = sp w 5
      · rw [← e, upd_eq]; exact hw w hw' e
      · rw [upd_ne (Ne.symm e)]; exact a4
theorem Wf.wide {n T T' : Nat} {R : Row} (h : Wf n T R) (hT : T ≤ T') : Wf n T' R := by
  obtain ⟨g1, g2, ⟨t, g3, g4⟩, g5⟩ := h
  exact ⟨g1, g2, ⟨t, by omega, g4⟩, g5⟩
/-- a place that nothing is asked of -/
theorem Wf.any {n T : Nat} {R : Row} {p : Nat} {v : Int32} (h : Wf n T R) (h0 : 2 ≤ p) (hp : ∀ w, p ≠ sp w 0 ∧ p ≠ sp w 1 ∧ p ≠ sp w 3 ∧ p ≠ sp w 5) : Wf n T (upd R p v) :=
  h.up (by omega) (fun e => by omega) (fun w _ e => absurd e (hp w).1) (fun w _ e => absurd e (hp w).2.1) (fun w _ e => absurd e (hp w).2.2.1) (fun w _ e => absurd e (hp w).2.2.2)
theorem Wf.cell {n T : Nat} {R : Row} (h : Wf n T R) {w c : Nat} (hc : c < 36) : Wf n T (upd R (sp w 1) (nI c)) :=
  h.up (by unfold sp; omega) (fun e => by unfold sp at e; omega) (fun _ _ e => by unfold sp at e; omega) (fun _ _ _ => ⟨c, hc, rfl⟩) (fun _ _ e => by unfold sp at e; omega) (fun _ _ e => by unfold sp at e; omega)
theorem Wf.head {n T : Nat} {R : Row} (h : Wf n T R) {w c : Nat} (hc : c < 4) : Wf n T (upd R (sp w 3) (nI c)) :=
  h.up (by unfold sp; omega) (fun e => by unfold sp at e; omega) (fun _ _ e => by unfold sp at e; omega) (fun _ _ e => by unfold sp at e; omega) (fun _ _ _ => ⟨c, hc, rfl⟩) (fun _ _ e => by unfold sp at e; omega)
theorem Wf.kind {n T : Nat} {R : Row} (h : Wf n T R) {w c : Nat} (hc : c < 6) : Wf n T (upd R (sp w 0) (nI c)) :=
  h.up (by unfold sp; omega) (fun e => by unfold sp at e; omega) (fun _ _ _ => ⟨c, hc, rfl⟩) (fun _ _ e => by unfold sp at e; omega) (fun _ _ e => by unfold sp at e; omega) (fun _ _ e => by unfold sp at e; omega)
theorem Wf.wth {n T : Nat} {R : Row} (h : Wf n T R) {w : Nat} {v : Int32} (hc : v = -1 ∨ ∃ q, q < n ∧ v = nI q) : Wf n T (upd R (sp w 5) v) :=
  h.up (by unfold sp; omega) (fun e => by unfold sp at e; omega) (fun _ _ e => by unfold sp at e; omega) (fun _ _ e => by unfold sp at e; omega) (fun _ _ e => by unfold sp at e; omega) (fun _ _ _ => hc)
theorem Wf.as {n T : Nat} {R : Row} (h : Wf n T R) {w : Nat} {v : Int32} : Wf n T (upd R (sp w 6) v) := h.any (by unfold sp; omega) (fun u => by unfold sp; omega)
theorem Wf.hope {n T : Nat} {R : Row} (h : Wf n T R) {w : Nat} {v : Int32} : Wf n T (upd R (sp w 4) v) := h.any (by unfold sp; omega) (fun u => by unfold sp; omega)
theorem Wf.start {n T : Nat} {R : Row} (h : Wf n T R) {w : Nat} {v : Int32} : Wf n T (upd R (sp w 2) v) := h.any (by unfold sp; omega) (fun u => by unfold sp; omega)
theorem Wf.fog {n T : Nat} {R : Row} (h : Wf n T R) {v : Int32} : Wf n T (upd R 2 v) := h.any (by omega) (fun u => by unfold sp; omega)
theorem Wf.vil {n T : Nat} {R : Row} (h : Wf n T R) {v : Int32} : Wf n T (upd R 3 v) := h.any (by omega) (fun u => by unfold sp; omega)
theorem Wf.time {n T t : Nat} {R : Row} (h : Wf n T R) (ht : t ≤ T) : Wf n T (upd R 1 (nI t)) :=
  h.up (by omega) (fun _ => ⟨t, ht, rfl⟩) (fun _ _ e => by unfold sp at e; omega) (fun _ _ e => by unfold sp at e; omega) (fun _ _ e => by unfold sp at e; omega) (fun _ _ e => by unfold sp at e; omega)
/-! ===== what one walker reads ===== -/
theorem m_its (V : VV) (R : Row) {w k : Nat} (hw : w < 8) (hk : k < 7) : f_X4_its (nI w) (nI k) (mR V R) = some (R (sp w k), mR V R) := by
  unfold f_X4_its f_X4_spotOf
  simp only [Option.bind_some, spot_nI, isp hw hk, csp hw hk, mR_1, itt, if_true]
theorem m_its0 (V : VV) (R : Row) {w : Nat} (hw : w < 8) : f_X4_its (nI w) 0 (mR V R) = some (R (sp w 0), mR V R) := m_its V R hw (k := 0) (by decide)
theorem m_spot0 (V : VV) (w : Nat) : f_X4_spotOf (nI w) 0 V = some (nI (sp w 0), V) := by show some ((4 + 7 * nI w) + nI 0, V) = _; rw [spot_nI]
theorem m_its1 (V : VV) (R : Row) {w : Nat} (hw : w < 8) : f_X4_its (nI w) 1 (mR V R) = some (R (sp w 1), mR V R) := m_its V R hw (k := 1) (by decide)
theorem m_spot1 (V : VV) (w : Nat) : f_X4_spotOf (nI w) 1 V = some (nI (sp w 1), V) := by show some ((4 + 7 * nI w) + nI 1, V) = _; rw [spot_nI]
theorem m_its2 (V : VV) (R : Row) {w : Nat} (hw : w < 8) : f_X4_its (nI w) 2 (mR V R) = some (R (sp w 2), mR V R) := m_its V R hw (k := 2) (by decide)
theorem m_spot2 (V : VV) (w : Nat) : f_X4_spotOf (nI w) 2 V = some (nI (sp w 2), V) := by show some ((4 + 7 * nI w) + nI 2, V) = _; rw [spot_nI]
theorem m_its3 (V : VV) (R : Row) {w : Nat} (hw : w < 8) : f_X4_its (nI w) 3 (mR V R) = some (R (sp w 3), mR V R) := m_its V R hw (k := 3) (by decide)
theorem m_spot3 (V : VV) (w : Nat) : f_X4_spotOf (nI w) 3 V = some (nI (sp w 3), V) := by show some ((4 + 7 * nI w) + nI 3, V) = _; rw [spot_nI]
theorem m_its4 (V : VV) (R : Row) {w : Nat} (hw : w < 8) : f_X4_its (nI w) 4 (mR V R) = some (R (sp w 4), mR V R) := m_its V R hw (k := 4) (by decide)
theorem m_spot4 (V : VV) (w : Nat) : f_X4_spotOf (nI w) 4 V = some (nI (sp w 4), V) := by show some ((4 + 7 * nI w) + nI 4, V) = _; rw [spot_nI]
theorem m_its5 (V : VV) (R : Row) {w : Nat} (hw : w < 8) : f_X4_its (nI w) 5 (mR V R) = some (R (sp w 5), mR V R) := m_its V R hw (k := 5) (by decide)
theorem m_spot5 (V : VV) (w : Nat) : f_X4_spotOf (nI w) 5 V = some (nI (sp w 5), V) := by show some ((4 + 7 * nI w) + nI 5, V) = _; rw [spot_nI]
theorem m_its6 (V : VV) (R : Row) {w : Nat} (hw : w < 8) : f_X4_its (nI w) 6 (mR V R) = some (R (sp w 6), mR V R) := m_its V R hw (k := 6) (by decide)
theorem m_spot6 (V : VV) (w : Nat) : f_X4_spotOf (nI w) 6 V = some (nI (sp w 6), V) := by show some ((4 + 7 * nI w) + nI 6, V) = _; rw [spot_nI]
theorem m_isFree (V : VV) (R : Row) {w : Nat} (hw : w < 8) : f_X4_isFree (nI w) (mR V R) = some (if R (sp w 5) = -1 then 1 else 0, mR V R) := by
  unfold f_X4_isFree
  simp only [m_its5 V R hw, Option.bind_some]
  split <;> rfl
theorem k_isFree (j : Nat) (V : VV) (R : Row) {w : Nat} (hw : w < 8) : f_X0_isFree j (nI w) (pR j V R) = some (if R (sp w 5) = -1 then 1 else 0, pR j V R) := by
  unfold f_X0_isFree
  simp only [inb8 hw, cl8 hw, pR_6, itt, if_true]
  split <;> rfl
def gladR (R : Row) (w : Nat) : Prop := R (sp w 5) ≠ -1 ∧ R (sp w 5) ≠ nI w ∧ R (sp w 6) = R (sp w 4)
def gladB (R : Row) (w : Nat) : Bool := !decide (R (sp w 5) = -1) && (!decide (R (sp w 5) = nI w) && decide (R (sp w 6) = R (sp w 4)))
theorem m_isGlad (V : VV) (R : Row) {w : Nat} (hw : w < 8) : f_X4_isGlad (nI w) (mR V R) = some (if gladB R w = true then 1 else 0, mR V R) := by
  unfold f_X4_isGlad gladB
  simp only [m_isFree V R hw, m_its5 V R hw, m_its6 V R hw, m_its4 V R hw, Option.bind_some, b10]
  by_cases h1 : R (sp w 5) = -1 <;> by_cases h2 : R (sp w 5) = nI w <;> by_cases h3 : R (sp w 6) = R (sp w 4) <;> simp [h1, h2, h3]
theorem k_isGlad (j : Nat) (V : VV) (R : Row) {w : Nat} (hw : w < 8) : f_X0_isGlad j (nI w) (pR j V R) = some (if gladB R w = true then 1 else 0, pR j V R) := by
  unfold f_X0_isGlad gladB
  simp only [k_isFree j V R hw, inb8 hw, cl8 hw, pR_6, pR_7, pR_5, itt, if_true, Option.bind_some, b10]
  by_cases h1 : R (sp w 5) = -1 <;> by_cases h2 : R (sp w 5) = nI w <;> by_cases h3 : R (sp w 6) = R (sp w 4) <;> simp [h1, h2, h3]
def fogB (R : Row) : Bool := decide (((R 2 >>> ((R 1 - R 1 / 24 * 24) &&& 31)) &&& 1) = 1)
theorem m_isFoggy (V : VV) (R : Row) : f_X4_isFoggy (mR V R) = some (if fogB R = true then 1 else 0, mR V R) := by
  unfold f_X4_isFoggy fogB
  simp only [Option.bind_some, bV, mR_1, mR_w, inb0, inb1, inb2, inb3, tn0, tn1, tn2, tn3, itt, if_true]
  by_cases h : ((R 2 >>> ((R 1 - R 1 / 24 * 24) &&& 31)) &&& 1) = 1 <;> simp [h]
theorem k_isFoggy (j : Nat) (V : VV) (R : Row) : f_X0_isFoggy j (pR j V R) = some (if fogB R = true then 1 else 0, pR j V R) := by
  unfold f_X0_isFoggy fogB
  simp only [pR_f, pR_t]
  by_cases h : ((R 2 >>> ((R 1 - R 1 / 24 * 24) &&& 31)) &&& 1) = 1 <;> simp [h]
def stepsV (k t : Int32) : Int32 := if k = 2 then (if t - t / 2 * 2 = 0 then 1 else 0) else if k = 3 then 0 else if k = 4 then 2 else if k = 5 then (if t - t / 2 * 2 = 0 then 1 else 0) + (if t - t / 3 * 3 = 0 then 1 else 0) else 1
def turnsV (k t : Int32) : Int32 := if k = 1 then (if t - t / 3 * 3 = 0 then 1 else 0) else if k = 2 then 0 else if k = 3 then 1 else if k = 4 then (if t - t / 3 * 3 = 0 then 1 else 0) else if k = 5 then (if t - t / 4 * 4 = 1 then 2 else 0) else 0
theorem k_stepsOf (V : VV) (k t : Int32) : f_X3_stepsOf k t V = some (stepsV k t, V) := by
  unfold f_X3_stepsOf f_X3_widowSteps f_X3_everyThird stepsV
  by_cases h2 : k = 2 <;> by_cases h3 : k = 3 <;> by_cases h4 : k = 4 <;> by_cases h5 : k = 5 <;> by_cases e2 : t - t / 2 * 2 = 0 <;> by_cases e3 : t - t / 3 * 3 = 0 <;> simp [h2, h3, h4, h5, e2, e3]
theorem k_turnsOf (V : VV) (k t : Int32) : f_X3_turnsOf k t V = some (turnsV k t, V) := by
  unfold f_X3_turnsOf f_X3_everyThird turnsV
  by_cases h1 : k = 1 <;> by_cases h2 : k = 2 <;> by_cases h3 : k = 3 <;> by_cases h4 : k = 4 <;> by_cases h5 : k = 5 <;> by_cases e2 : t - t / 4 * 4 = 1 <;> by_cases e3 : t - t / 3 * 3 = 0 <;> simp [h1, h2, h3, h4, h5, e2, e3]
theorem m_stepsOf (V : VV) (R : Row) {w : Nat} (hw : w < 8) : f_X4_stepsOf (nI w) (mR V R) = some (stepsV (R (sp w 0)) (R 1), mR V R) := by
  unfold f_X4_stepsOf stepsV
  simp only [m_its0 V R hw, Option.bind_some, bV, mR_1, mR_w, inb0, inb1, inb2, inb3, tn0, tn1, tn2, tn3, itt, if_true]
  generalize R (sp w 0) = k
  generalize R 1 = t
  by_cases h2 : k = 2 <;> by_cases h3 : k = 3 <;> by_cases h4 : k = 4 <;> by_cases h5 : k = 5 <;> by_cases e2 : t - t / 2 * 2 = 0 <;> by_cases e3 : t - t / 3 * 3 = 0 <;> simp [h2, h3, h4, h5, e2, e3]
theorem m_turnsOf (V : VV) (R : Row) {w : Nat} (hw : w < 8) : f_X4_turnsOf (nI w) (mR V R) = some (turnsV (R (sp w 0)) (R 1), mR V R) := by
  unfold f_X4_turnsOf turnsV
  simp only [m_its0 V R hw, Option.bind_some, bV, mR_1, mR_w, inb0, inb1, inb2, inb3, tn0, tn1, tn2, tn3, itt, if_true]
  generalize R (sp w 0) = k
  generalize R 1 = t
  by_cases h1 : k = 1 <;> by_cases h2 : k = 2 <;> by_cases h3 : k = 3 <;> by_cases h4 : k = 4 <;> by_cases h5 : k = 5 <;> by_cases e2 : t - t / 4 * 4 = 1 <;> by_cases e3 : t - t / 3 * 3 = 0 <;> simp [h1, h2, h3, h4, h5, e2, e3]
theorem stepsV_n (k t : Int32) : ∃ n : Nat, n ≤ 2 ∧ stepsV k t = nI n := by
  unfold stepsV
  by_cases h2 : k = 2 <;> by_cases h3 : k = 3 <;> by_cases h4 : k = 4 <;> by_cases h5 : k = 5 <;> by_cases e2 : t - t / 2 * 2 = 0 <;> by_cases e3 : t - t / 3 * 3 = 0 <;> simp only [h2, h3, h4, h5, e2, e3, if_true, if_false] <;> first | exact ⟨0, by decide, by decide⟩ | exact ⟨1, by decide, by decide⟩ | exact ⟨2, by decide, by decide⟩
theorem turnsV_n (k t : Int32) : ∃ n : Nat, n ≤ 2 ∧ turnsV k t = nI n := by
  unfold turnsV
  by_cases h1 : k = 1 <;> by_cases h2 : k = 2 <;> by_cases h3 : k = 3 <;> by_cases h4 : k = 4 <;> by_cases h5 : k = 5 <;> by_cases e2 : t - t / 4 * 4 = 1 <;> by_cases e3 : t - t / 3 * 3 = 0 <;> simp only [h1, h2, h3, h4, h5, e2, e3, if_true, if_false] <;> first | exact ⟨0, by decide, by decide⟩ | exact ⟨1, by decide, by decide⟩ | exact ⟨2, by decide, by decide⟩
end
section
/-! ===== PURE: what one walker does ===== -/
def itR (f : Row → Row) : Nat → Row → Row
  | 0, R => R
  | n + 1, R => f (itR f n R)
def itW (f : Nat → Row → Row) : Nat → Row → Row
  | 0, R => R
  | n + 1, R => f n (itW f n R)
theorem itR_ind {P : Row → Prop} {f : Row → Row} (hf : ∀ R, P R → P (f R)) : ∀ n R, P R → P (itR f n R) := by
  intro n
  induction n with
  | zero => intro R h; exact h
  | succ n ih => intro R h; exact hf _ (ih R h)
theorem itW_ind {P : Row → Prop} {f : Nat → Row → Row} {N : Nat} (hf : ∀ w R, w < N → P R → P (f w R)) : ∀ n R, n ≤ N → P R → P (itW f n R) := by
  intro n
  induction n with
  | zero => intro R _ h; exact h
  | succ n ih => intro R hn h; exact hf n _ (by omega) (ih R (by omega) h)
def turnR (w : Nat) (R : Row) : Row := upd R (sp w 3) ((R (sp w 3) + 1) - (R (sp w 3) + 1) / 4 * 4)
def tow (c h : Int32) : Int32 := if h = 0 then (if 6 ≤ c then c - 6 else -1) else if h = 1 then (if c - c / 6 * 6 = 5 then -1 else c + 1) else if h = 2 then (if c < 30 then c + 6 else -1) else (if c - c / 6 * 6 = 0 then -1 else c - 1)
def stepR (w : Nat) (R : Row) : Row := if tow (R (sp w 1)) (R (sp w 3)) < 0 then turnR w R else upd R (sp w 1) (tow (R (sp w 1)) (R (sp w 3)))
def bringR (w : Nat) (R : Row) : Row := if R (sp w 5) = -1 then R else upd R (sp (R (sp w 5)).toNatClampNeg 1) (R (sp w 1))
def goR (w : Nat) (R : Row) : Row := itR (stepR w) (stepsV (R (sp w 0)) (R 1)).toNatClampNeg (itR (turnR w) (turnsV (R (sp w 0)) (R 1)).toNatClampNeg R)
def liftR (w : Nat) (R : Row) : Row := if R (sp w 1) = R 3 then R else upd (upd R (sp w 5) (-1)) (sp w 6) (-1)
def keepR (w o : Nat) (R : Row) : Row := upd (upd (upd (upd R (sp w 5) (nI o)) (sp o 5) (nI w)) (sp w 6) (R (sp o 4))) (sp o 6) (R (sp w 4))
def relR (w : Nat) (R : Row) : Row := upd (upd (upd (upd R (sp (R (sp w 5)).toNatClampNeg 5) (-1)) (sp (R (sp w 5)).toNatClampNeg 6) (-1)) (sp w 5) (-1)) (sp w 6) (-1)
theorem m4_ok : ∀ h, h < 4 → (nI h + 1) - (nI h + 1) / 4 * 4 = nI ((h + 1) % 4) := by decide
theorem m4_0 : ∀ h, h < 4 → (nI h + 0) - (nI h + 0) / 4 * 4 = nI h := by decide
theorem m4_2 : ∀ h, h < 4 → (nI h + 2) - (nI h + 2) / 4 * 4 = nI ((h + 2) % 4) := by decide
theorem tow_ok : ∀ c, c < 36 → ∀ h, h < 4 → tow (nI c) (nI h) = -1 ∨ ∃ d, d < 36 ∧ tow (nI c) (nI h) = nI d := by
  have key : ∀ c, c < 36 → ∀ h, h < 4 → tow (nI c) (nI h) = -1 ∨ tow (nI c) (nI h) = nI (tow (nI c) (nI h)).toNatClampNeg ∧ (tow (nI c) (nI h)).toNatClampNeg < 36 := by decide
  intro c hc h hh
  rcases key c hc h hh with e | ⟨e, e2⟩
  · exact Or.inl e
  · exact Or.inr ⟨_, e2, e⟩
theorem cm6 : ∀ c, c < 36 → ((5 ≤ nI c - nI c / 6 * 6 ↔ nI c - nI c / 6 * 6 = 5) ∧ (nI c - nI c / 6 * 6 ≤ 0 ↔ nI c - nI c / 6 * 6 = 0)) := by decide
theorem Wf.turn {n T : Nat} {R : Row} (h : Wf n T R) {w : Nat} (hw : w < n) : Wf n T (turnR w R) := by
  obtain ⟨k, hk, e⟩ := (h.2.2.2 w hw).2.2.1
  unfold turnR
  rw [e, m4_ok k hk]
  exact h.head (by omega)
theorem Wf.step {n T : Nat} {R : Row} (h : Wf n T R) {w : Nat} (hw : w < n) : Wf n T (stepR w R) := by
  obtain ⟨c, hc, ec⟩ := (h.2.2.2 w hw).2.1
  obtain ⟨k, hk, ek⟩ := (h.2.2.2 w hw).2.2.1
  unfold stepR
  rw [ec, ek]
  rcases tow_ok c hc k hk with e | ⟨d, hd, e⟩
  · rw [e, if_pos (by decide)]; exact h.turn hw
  · rw [e, if_neg (nI_pos (by omega))]; exact h.cell hd
theorem Wf.go {n T : Nat} {R : Row} (h : Wf n T R) {w : Nat} (hw : w < n) : Wf n T (goR w R) :=
  itR_ind (P := Wf n T) (fun _ h => h.step hw) _ _ (itR_ind (P := Wf n T) (fun _ h => h.turn hw) _ _ h)
theorem Wf.bring {n T : Nat} {R : Row} (h : Wf n T R) {w : Nat} (hw : w < n) : Wf n T (bringR w R) := by
  unfold bringR
  obtain ⟨c, hc, ec⟩ := (h.2.2.2 w hw).2.1
  split
  · exact h
  · rw [ec]; exact h.cell hc
theorem Wf.lift {n T : Nat} {R : Row} (h : Wf n T R) {w : Nat} : Wf n T (liftR w R) := by
  unfold liftR
  split
  · exact h
  · exact (h.wth (Or.inl rfl)).as
theorem Wf.keep {n T : Nat} {R : Row} (h : Wf n T R) {w o : Nat} (hw : w < n) (ho : o < n) : Wf n T (keepR w o R) := by
  unfold keepR
  exact (((h.wth (Or.inr ⟨o, ho, rfl⟩)).wth (Or.inr ⟨w, hw, rfl⟩)).as).as
theorem Wf.rel {n T : Nat} {R : Row} (h : Wf n T R) {w : Nat} : Wf n T (relR w R) := by
  unfold relR
  exact (((h.wth (Or.inl rfl)).as).wth (Or.inl rfl)).as
theorem Z60.it {f : Row → Row} (hf : ∀ R, Z60 R → Z60 (f R)) (n : Nat) {R : Row} (h : Z60 R) : Z60 (itR f n R) := itR_ind hf n R h
theorem Z60.turn {R : Row} (h : Z60 R) {w : Nat} (hw : w < 8) : Z60 (turnR w R) := h.up (sp_lt hw (by decide))
theorem Z60.step {R : Row} (h : Z60 R) {w : Nat} (hw : w < 8) : Z60 (stepR w R) := by
  unfold stepR
  split
  · exact h.turn hw
  · exact h.up (sp_lt hw (by decide))
theorem Z60.go {R : Row} (h : Z60 R) {w : Nat} (hw : w < 8) : Z60 (goR w R) := Z60.it (fun _ h => h.step hw) _ (Z60.it (fun _ h => h.turn hw) _ h)
theorem Wf.q8 {n T : Nat} {R : Row} (h : Wf n T R) {w : Nat} (hw : w < n) (hf : R (sp w 5) ≠ -1) : ∃ q, q < n ∧ q < 8 ∧ R (sp w 5) = nI q ∧ (R (sp w 5)).toNatClampNeg = q := by
  rcases (h.2.2.2 w hw).2.2.2 with e | ⟨q, hq, e⟩
  · exact absurd e hf
  · have := h.1
    exact ⟨q, hq, by omega, e, by rw [e]; exact cl_nI (by omega)⟩
theorem Z60.bring {n T : Nat} {R : Row} (h : Z60 R) (hf : Wf n T R) {w : Nat} (hw : w < n) : Z60 (bringR w R) := by
  unfold bringR
  split
  · exact h
  · rename_i hne
    obtain ⟨q, hq, hq8, e, e2⟩ := hf.q8 hw hne
    rw [e2]
    exact h.up (sp_lt hq8 (by decide))
theorem Z60.lift {R : Row} (h : Z60 R) {w : Nat} (hw : w < 8) : Z60 (liftR w R) := by
  unfold liftR
  split
  · exact h
  · exact (h.up (sp_lt hw (by decide))).up (sp_lt hw (by decide))
theorem Z60.keep {R : Row} (h : Z60 R) {w o : Nat} (hw : w < 8) (ho : o < 8) : Z60 (keepR w o R) := by
  unfold keepR
  exact (((h.up (sp_lt hw (by decide))).up (sp_lt ho (by decide))).up (sp_lt hw (by decide))).up (sp_lt ho (by decide))
theorem Z60.rel {n T : Nat} {R : Row} (h : Z60 R) (hf : Wf n T R) {w : Nat} (hw : w < n) (hne : R (sp w 5) ≠ -1) : Z60 (relR w R) := by
  obtain ⟨q, hq, hq8, e, e2⟩ := hf.q8 hw hne
  have hw8 : w < 8 := Nat.lt_of_lt_of_le hw hf.1
  unfold relR
  rw [e2]
  exact (((h.up (sp_lt hq8 (by decide))).up (sp_lt hq8 (by decide))).up (sp_lt hw8 (by decide))).up (sp_lt hw8 (by decide))
/-! the reference -/
theorem m_turns (V : VV) (R : Row) {w : Nat} (hw : w < 8) : f_X4_turns (nI w) (mR V R) = some (mR V (turnR w R)) := by
  unfold f_X4_turns turnR
  simp only [m_spot3, m_its3 V R hw, isp hw (show 3 < 7 by decide), csp hw (show 3 < 7 by decide), Option.bind_some, bV, mR_1, mR_w, inb0, inb1, inb2, inb3, tn0, tn1, tn2, tn3, itt, if_true]
theorem m_towards (V : VV) (c h : Int32) : f_X4_towards c h V = some (tow c h, V) := by
  unfold f_X4_towards tow
  repeat' split
  all_goals rfl
theorem m_comesF (V : VV) {R : Row} {w : Nat} (hw8 : w < 8) (h : R (sp w 5) = -1) (v : Int32) : f_X4_comesTo (nI w) v (mR V R) = some (mR V (upd R (sp w 1) v)) := by
  have e5 : upd R (sp w 1) v (sp w 5) = -1 := by rw [upd_ne (by unfold sp; omega)]; exact h
  unfold f_X4_comesTo
  rw [m_spot1, Option.bind_some]
  dsimp only
  rw [isp hw8 (show 1 < 7 by decide), itt, csp hw8 (show 1 < 7 by decide), mR_w]
  unfold bV
  dsimp only
  rw [m_isFree V _ hw8, Option.bind_some]
  dsimp only
  rw [if_pos e5, if_neg (by decide)]
theorem m_comesK (V : VV) {R : Row} {w q : Nat} (hw8 : w < 8) (hq8 : q < 8) (h : R (sp w 5) = nI q) (v : Int32) : f_X4_comesTo (nI w) v (mR V R) = some (mR V (upd (upd R (sp w 1) v) (sp q 1) v)) := by
  have e5 : upd R (sp w 1) v (sp w 5) = nI q := by rw [upd_ne (by unfold sp; omega)]; exact h
  have hne : ¬ nI q = -1 := by
    intro e
    have := nI_pos (n := q) (by omega)
    rw [e] at this
    exact this (by decide)
  unfold f_X4_comesTo
  rw [m_spot1, Option.bind_some]
  dsimp only
  rw [isp hw8 (show 1 < 7 by decide), itt, csp hw8 (show 1 < 7 by decide), mR_w]
  unfold bV
  dsimp only
  rw [m_isFree V _ hw8, Option.bind_some]
  dsimp only
  rw [e5, if_neg hne, if_pos rfl, m_its5 V _ hw8, Option.bind_some]
  dsimp only
  rw [e5, m_spot1, Option.bind_some]
  dsimp only
  rw [isp hq8 (show 1 < 7 by decide), itt, csp hq8 (show 1 < 7 by decide), mR_w]
theorem m_comesTo {n T : Nat} (V : VV) {R : Row} (hf : Wf n T R) {w : Nat} (hw : w < n) (v : Int32) : f_X4_comesTo (nI w) v (mR V R) = some (mR V (if R (sp w 5) = -1 then upd R (sp w 1) v else upd (upd R (sp w 1) v) (sp (R (sp w 5)).toNatClampNeg 1) v)) := by
  have hw8 : w < 8 := Nat.lt_of_lt_of_le hw hf.1
  by_cases h : R (sp w 5) = -1
  · rw [if_pos h]; exact m_comesF V hw8 h v
  · rw [if_neg h]
    obtain ⟨q, hq, hq8, e, e2⟩ := hf.q8 hw h
    rw [e2]
    exact m_comesK V hw8 hq8 e v
theorem m_goes {n T : Nat} (V : VV) {R : Row} (hf : Wf n T R) {w : Nat} (hw : w < n) : f_X4_goes (nI w) (mR V R) = some (mR V (bringR w (goR w R))) := by
  have hw8 : w < 8 := Nat.lt_of_lt_of_le hw hf.1
  obtain ⟨a, ha, ea⟩ := turnsV_n (R (sp w 0)) (R 1)
  obtain ⟨b, hb, eb⟩ := stepsV_n (R (sp w 0)) (R 1)
  have hT : ∀ i, Wf n T (itR (turnR w) i R) := fun i => itR_ind (P := Wf n T) (fun _ h => h.turn hw) _ _ hf
  have hS : ∀ i, Wf n T (itR (stepR w) i (itR (turnR w) a R)) := fun i => itR_ind (P := Wf n T) (fun _ h => h.step hw) _ _ (hT a)
  unfold f_X4_goes goR
  simp only [m_turnsOf V R hw8, m_stepsOf V R hw8, Option.bind_some, ea, eb, cl_nI (show a < 2 ^ 31 by omega), cl_nI (show b < 2 ^ 31 by omega)]
  have L35 : f_X4_goes_L35 200 (nI w) (nI b) 0 (mR V (itR (turnR w) a R)) = some (mR V (bringR w (itR (stepR w) b (itR (turnR w) a R)))) := by
    refine loopF (F := fun fuel i => f_X4_goes_L35 fuel (nI w) (nI b) (nI i) (mR V (itR (stepR w) i (itR (turnR w) a R)))) (n := b) ?_ ?_ b 0 200 (by omega) (by omega)
    · intro fuel
      show f_X4_goes_L35 (fuel + 1) _ _ _ _ = _
      rw [f_X4_goes_L35]
      simp only [Int32.le_refl, if_true, m_its1 V _ hw8, Option.bind_some, m_comesTo V (hS b) hw, bringR, upd_self]
    · intro fuel i hi
      show f_X4_goes_L35 (fuel + 1) _ _ _ _ = f_X4_goes_L35 fuel _ _ _ _
      rw [f_X4_goes_L35, if_neg (nI_ge hi (by omega))]
      simp only [m_its1 V _ hw8, m_its3 V _ hw8, m_towards, m_spot1, isp hw8 (show 1 < 7 by decide), csp hw8 (show 1 < 7 by decide), m_turns V _ hw8, nI_succ', Option.bind_some, bV, mR_1, mR_w, inb0, inb1, inb2, inb3, tn0, tn1, tn2, tn3, itt, if_true, itR]
      rw [stepR]
      by_cases hneg : tow (itR (stepR w) i (itR (turnR w) a R) (sp w 1)) (itR (stepR w) i (itR (turnR w) a R) (sp w 3)) < 0
      · rw [if_neg (Int32.not_le.mpr hneg), if_pos hneg]
      · rw [if_pos (Int32.not_lt.mp hneg), if_neg hneg]
  refine loopF (F := fun fuel i => f_X4_goes_L15 fuel (nI w) (nI a) (nI b) (nI i) (mR V (itR (turnR w) i R))) (n := a) ?_ ?_ a 0 200 (by omega) (by omega)
  · intro fuel
    show f_X4_goes_L15 (fuel + 1) _ _ _ _ _ = _
    rw [f_X4_goes_L15, if_pos (Int32.le_refl _)]
    exact L35
  · intro fuel i hi
    show f_X4_goes_L15 (fuel + 1) _ _ _ _ _ = f_X4_goes_L15 fuel _ _ _ _ _
    rw [f_X4_goes_L15, if_neg (nI_ge hi (by omega))]
    simp only [m_turns V _ hw8, Option.bind_some, nI_succ', itR]
theorem m_isFreed (V : VV) (R : Row) {w : Nat} (hw : w < 8) : f_X4_isFreed (nI w) (mR V R) = some (mR V (upd (upd R (sp w 5) (-1)) (sp w 6) (-1))) := by
  unfold f_X4_isFreed
  simp only [m_spot5, m_spot6, isp hw (show 5 < 7 by decide), csp hw (show 5 < 7 by decide), isp hw (show 6 < 7 by decide), csp hw (show 6 < 7 by decide), Option.bind_some, bV, mR_1, mR_w, inb0, inb1, inb2, inb3, tn0, tn1, tn2, tn3, itt, if_true]
theorem m_keeps (V : VV) (R : Row) {w o : Nat} (hw : w < 8) (ho : o < 8) : f_X4_keeps (nI w) (nI o) (mR V R) = some (mR V (keepR w o R)) := by
  unfold f_X4_keeps keepR
  have e1 : upd (upd R (sp w 5) (nI o)) (sp o 5) (nI w) (sp o 4) = R (sp o 4) := by rw [upd_ne (by unfold sp; omega), upd_ne (by unfold sp; omega)]
  have e2 : ∀ v, upd (upd (upd R (sp w 5) (nI o)) (sp o 5) (nI w)) (sp w 6) v (sp w 4) = R (sp w 4) := fun v => by rw [upd_ne (by unfold sp; omega), upd_ne (by unfold sp; omega), upd_ne (by unfold sp; omega)]
  simp only [m_spot5, m_spot6, isp hw (show 5 < 7 by decide), csp hw (show 5 < 7 by decide), isp hw (show 6 < 7 by decide), csp hw (show 6 < 7 by decide), isp ho (show 5 < 7 by decide), csp ho (show 5 < 7 by decide), isp ho (show 6 < 7 by decide), csp ho (show 6 < 7 by decide), m_its4 V _ hw, m_its4 V _ ho, e1, e2, Option.bind_some, bV, mR_1, mR_w, inb0, inb1, inb2, inb3, tn0, tn1, tn2, tn3, itt, if_true]
theorem m_lets {n T : Nat} (V : VV) {R : Row} (hf : Wf n T R) {w : Nat} (hw : w < n) (hne : R (sp w 5) ≠ -1) : f_X4_lets (nI w) (mR V R) = some (R (sp w 5), mR V (relR w R)) := by
  have hw8 : w < 8 := Nat.lt_of_lt_of_le hw hf.1
  obtain ⟨q, hq, hq8, e, e2⟩ := hf.q8 hw hne
  unfold f_X4_lets relR
  simp only [m_its5 V _ hw8, Option.bind_some, e, m_isFreed V _ hq8, m_isFreed V _ hw8, cl8 hq8]
/-! the class -/
theorem k_has (j : Nat) (V : VV) (R : Row) (a : Int32) : f_X0_has j a (pR j V R) = some (if ¬ a < 0 ∧ ¬ R 0 ≤ a then 1 else 0, pR j V R) := by
  unfold f_X0_has
  rw [pR_n]
  by_cases h1 : a < 0 <;> by_cases h2 : R 0 ≤ a <;> simp [h1, h2]
theorem k_hasF (j : Nat) (V : VV) (R : Row) : f_X0_has j (-1) (pR j V R) = some (0, pR j V R) := by
  rw [k_has, if_neg (fun h => h.1 (by decide))]
theorem k_hasT (j : Nat) (V : VV) {R : Row} {n q : Nat} (hn : R 0 = nI n) (hq : q < n) (h8 : n ≤ 8) : f_X0_has j (nI q) (pR j V R) = some (1, pR j V R) := by
  rw [k_has, if_pos ⟨nI_pos (by omega), by rw [hn]; exact nI_ge hq (by omega)⟩]
theorem k_bring {n T : Nat} (j : Nat) (V : VV) {R : Row} (hf : Wf n T R) {w : Nat} (hw : w < n) : f_X0_bringAlong j (nI w) (pR j V R) = some (pR j V (bringR w R)) := by
  have hw8 : w < 8 := Nat.lt_of_lt_of_le hw hf.1
  unfold f_X0_bringAlong bringR
  by_cases h : R (sp w 5) = -1
  · simp only [inb8 hw8, cl8 hw8, pR_6, h, k_hasF, itt, if_true, Option.bind_some]
  · obtain ⟨q, hq, hq8, e, e2⟩ := hf.q8 hw h
    have hne : ¬ nI q = -1 := by rw [← e]; exact h
    simp only [inb8 hw8, cl8 hw8, pR_6, e, k_hasT j V hf.2.1 hq hf.1, inb8 hq8, cl8 hq8, pR_2', pR_w2, itt, if_true, Option.bind_some, bV, if_neg hne, show ¬ (1 : Int32) = 0 by decide, if_false]
theorem k_towards (V : VV) {c : Nat} (hc : c < 36) (h : Int32) : f_X3_cellTowards (nI c) h V = some (tow (nI c) h, V) := by
  unfold f_X3_cellTowards tow
  obtain ⟨e1, e2⟩ := cm6 c hc
  by_cases h0 : h = 0
  · simp only [h0, if_true]
    by_cases a : nI c < 6
    · rw [if_pos a, if_neg (Int32.not_le.mpr a)]
    · rw [if_neg a, if_pos (Int32.not_lt.mp a)]
  · by_cases h1 : h = 1
    · simp only [h0, h1, if_true, if_false, show ¬ (1 : Int32) = 0 by decide]
      by_cases a : nI c - nI c / 6 * 6 = 5
      · rw [if_pos a, if_pos (e1.mpr a)]
      · rw [if_neg a, if_neg (fun z => a (e1.mp z))]
    · by_cases h2 : h = 2
      · simp only [h2, if_true, if_false, show ¬ (2 : Int32) = 0 by decide, show ¬ (2 : Int32) = 1 by decide]
        by_cases a : nI c < 30
        · rw [if_pos a, if_neg (Int32.not_le.mpr a)]
        · rw [if_neg a, if_pos (Int32.not_lt.mp a)]
      · simp only [h0, h1, h2, if_false]
        by_cases a : nI c - nI c / 6 * 6 = 0
        · rw [if_pos a, if_pos (e2.mpr a)]
        · rw [if_neg a, if_neg (fun z => a (e2.mp z))]
theorem upd_upd (R : Row) (p : Nat) (u v : Int32) : upd (upd R p u) p v = upd R p v := by
  funext q
  by_cases h : q = p
  · rw [h, upd_eq, upd_eq]
  · rw [upd_ne h, upd_ne h, upd_ne h]
theorem turns_it {n T : Nat} {R : Row} (hf : Wf n T R) {w : Nat} (hw : w < n) : ∀ a, a ≤ 2 → upd R (sp w 3) ((R (sp w 3) + nI a) - (R (sp w 3) + nI a) / 4 * 4) = itR (turnR w) a R := by
  obtain ⟨h, hh, e⟩ := (hf.2.2.2 w hw).2.2.1
  intro a ha
  rcases (show a = 0 ∨ a = 1 ∨ a = 2 by omega) with rfl | rfl | rfl
  · rw [e, show nI 0 = 0 from rfl, m4_0 h hh, ← e, upd_self]; rfl
  · rw [e, show nI 1 = 1 from rfl]; simp only [itR, turnR]; rw [e]
  · rw [e, show nI 2 = 2 from rfl, m4_2 h hh]
    simp only [itR, turnR]
    rw [upd_eq, upd_upd, e, m4_ok h hh, m4_ok _ (by omega)]
    congr 2
    omega
theorem k_go {n T : Nat} (j : Nat) (V : VV) {R : Row} (hf : Wf n T R) {w : Nat} (hw : w < n) : f_X0_go j (nI w) (pR j V R) = some (pR j V (goR w R)) := by
  have hw8 : w < 8 := Nat.lt_of_lt_of_le hw hf.1
  obtain ⟨a, ha, ea⟩ := turnsV_n (R (sp w 0)) (R 1)
  obtain ⟨b, hb, eb⟩ := stepsV_n (R (sp w 0)) (R 1)
  have hT : Wf n T (itR (turnR w) a R) := itR_ind (P := Wf n T) (fun _ h => h.turn hw) _ _ hf
  have hS : ∀ i, Wf n T (itR (stepR w) i (itR (turnR w) a R)) := fun i => itR_ind (P := Wf n T) (fun _ h => h.step hw) _ _ hT
  have k1 : itR (turnR w) a R (sp w 0) = R (sp w 0) := itR_ind (P := fun Q => Q (sp w 0) = R (sp w 0)) (fun Q h => by rw [turnR, upd_ne (by unfold sp; omega)]; exact h) a R rfl
  have k2 : itR (turnR w) a R 1 = R 1 := itR_ind (P := fun Q => Q 1 = R 1) (fun Q h => by rw [turnR, upd_ne (by unfold sp; omega)]; exact h) a R rfl
  unfold f_X0_go goR
  simp only [inb8 hw8, cl8 hw8, pR_1, pR_4, pR_t, k_turnsOf, k_stepsOf, itt, if_true, Option.bind_some, bV, pR_w4, ea, turns_it hf hw a ha, k1, k2, eb, cl_nI (show a < 2 ^ 31 by omega), cl_nI (show b < 2 ^ 31 by omega)]
  refine loopF (F := fun fuel i => f_X0_go_L44 j fuel (nI w) (nI b) (nI i) (pR j V (itR (stepR w) i (itR (turnR w) a R)))) (n := b) ?_ ?_ b 0 200 (by omega) (by omega)
  · intro fuel
    show f_X0_go_L44 j (fuel + 1) _ _ _ _ = _
    rw [f_X0_go_L44, if_pos (Int32.le_refl _)]
  · intro fuel i hi
    show f_X0_go_L44 j (fuel + 1) _ _ _ _ = f_X0_go_L44 j fuel _ _ _ _
    obtain ⟨c, hc, ec⟩ := ((hS i).2.2.2 w hw).2.1
    rw [f_X0_go_L44, if_neg (nI_ge hi (by omega))]
    simp only [inb8 hw8, cl8 hw8, pR_2', pR_4, ec, k_towards _ hc, itt, if_true, Option.bind_some, bV, pR_w4, pR_w2, nI_succ', itR]
    rw [stepR, ec]
    by_cases hneg : tow (nI c) (itR (stepR w) i (itR (turnR w) a R) (sp w 3)) < 0
    · rw [if_pos hneg, if_pos hneg]; rfl
    · rw [if_neg hneg, if_neg hneg]
theorem k_keep (j : Nat) (V : VV) (R : Row) {w o : Nat} (hw : w < 8) (ho : o < 8) : f_X0_keepTwo j (nI w) (nI o) (pR j V R) = some (pR j V (keepR w o R)) := by
  unfold f_X0_keepTwo
  simp only [inb8 hw, cl8 hw, inb8 ho, cl8 ho, pR_5, pR_w6, pR_w7, itt, if_true, Option.bind_some, bV]
  congr 2
  unfold keepR
  have e1 : upd R (sp w 5) (nI o) (sp o 4) = R (sp o 4) := upd_ne (by unfold sp; omega)
  rw [e1]
  have e2 : upd (upd (upd R (sp w 5) (nI o)) (sp w 6) (R (sp o 4))) (sp o 5) (nI w) (sp w 4) = R (sp w 4) := by rw [upd_ne (by unfold sp; omega), upd_ne (by unfold sp; omega), upd_ne (by unfold sp; omega)]
  rw [e2]
  congr 1
  funext p
  have hne : sp w 6 ≠ sp o 5 := by unfold sp; omega
  by_cases h1 : p = sp w 6
  · rw [h1, upd_ne hne, upd_eq, upd_eq]
  · by_cases h2 : p = sp o 5
    · rw [h2, upd_eq, upd_ne (Ne.symm hne), upd_eq]
    · rw [upd_ne h2, upd_ne h1, upd_ne h1, upd_ne h2]
theorem k_rel {n T : Nat} (j : Nat) (V : VV) {R : Row} (hf : Wf n T R) {w : Nat} (hw : w < n) (hne : R (sp w 5) ≠ -1) : f_X0_release j (nI w) (pR j V R) = some (pR j V (relR w R)) := by
  have hw8 : w < 8 := Nat.lt_of_lt_of_le hw hf.1
  obtain ⟨q, hq, hq8, e, e2⟩ := hf.q8 hw hne
  unfold f_X0_release relR
  simp only [inb8 hw8, cl8 hw8, pR_6, e, k_hasT j V hf.2.1 hq hf.1, inb8 hq8, cl8 hq8, pR_w6, pR_w7, itt, if_true, Option.bind_some, bV, show ¬ (1 : Int32) = 0 by decide, if_false]
theorem k_rel0 (j : Nat) (V : VV) {R : Row} {w : Nat} (hw8 : w < 8) (hne : R (sp w 5) = -1) : f_X0_release j (nI w) (pR j V R) = some (pR j V (upd (upd R (sp w 5) (-1)) (sp w 6) (-1))) := by
  unfold f_X0_release
  simp only [inb8 hw8, cl8 hw8, pR_6, hne, k_hasF, pR_w6, pR_w7, itt, if_true, Option.bind_some, bV]
end
section
/-! ===== PURE: sets of walkers ===== -/
def bitsR (P : Nat → Bool) : Nat → Int32
  | 0 => 0
  | n + 1 => if P n = true then bitsR P n ||| (1 <<< (nI n &&& 31)) else bitsR P n
theorem or0 (x : Int32) : x ||| 0 = x := by simp
def atB (R : Row) (c : Int32) (w : Nat) : Bool := decide (R (sp w 1) = c)
def kpB (R : Row) (w : Nat) : Bool := !decide (R (sp w 5) = -1)
theorem k_setAt {n : Nat} (j : Nat) (V : VV) {R : Row} (h8 : n ≤ 8) (hn : R 0 = nI n) (c : Int32) : f_X0_setAt j c (pR j V R) = some (bitsR (atB R c) n, pR j V R) := by
  unfold f_X0_setAt
  refine loopF (F := fun fuel w => f_X0_setAt_L4 j fuel c (bitsR (atB R c) w) (nI w) (pR j V R)) (n := n) ?_ ?_ n 0 200 (by omega) (by omega)
  · intro fuel
    show f_X0_setAt_L4 j (fuel + 1) _ _ _ _ = _
    rw [f_X0_setAt_L4, pR_n, hn, if_pos (Int32.le_refl _)]
  · intro fuel w hw
    have hw8 : w < 8 := by omega
    show f_X0_setAt_L4 j (fuel + 1) _ _ _ _ = f_X0_setAt_L4 j fuel _ _ _ _
    rw [f_X0_setAt_L4, pR_n, hn, if_neg (nI_ge hw (by omega))]
    simp only [inb8 hw8, cl8 hw8, pR_2', itt, if_true, nI_succ', bitsR, atB, decide_eq_true_eq]
    by_cases h : R (sp w 1) = c <;> simp only [h, if_true, if_false]
theorem k_keptSet {n : Nat} (j : Nat) (V : VV) {R : Row} (h8 : n ≤ 8) (hn : R 0 = nI n) : f_X0_keptSet j (pR j V R) = some (bitsR (kpB R) n, pR j V R) := by
  unfold f_X0_keptSet
  refine loopF (F := fun fuel w => f_X0_keptSet_L4 j fuel (bitsR (kpB R) w) (nI w) (pR j V R)) (n := n) ?_ ?_ n 0 200 (by omega) (by omega)
  · intro fuel
    show f_X0_keptSet_L4 j (fuel + 1) _ _ _ = _
    rw [f_X0_keptSet_L4, pR_n, hn, if_pos (Int32.le_refl _)]
  · intro fuel w hw
    have hw8 : w < 8 := by omega
    show f_X0_keptSet_L4 j (fuel + 1) _ _ _ = f_X0_keptSet_L4 j fuel _ _ _
    rw [f_X0_keptSet_L4, pR_n, hn, if_neg (nI_ge hw (by omega)), k_isFree j V R hw8, Option.bind_some]
    dsimp only
    rw [nI_succ', bitsR]
    by_cases h : R (sp w 5) = -1
    · rw [if_pos h, if_neg (by decide), if_neg (by simp [kpB, h])]
    · rw [if_neg h, if_pos rfl, if_pos (by simp [kpB, h])]
theorem k_gladSet {n : Nat} (j : Nat) (V : VV) {R : Row} (h8 : n ≤ 8) (hn : R 0 = nI n) : f_X0_gladSet j (pR j V R) = some (bitsR (gladB R) n, pR j V R) := by
  unfold f_X0_gladSet
  refine loopF (F := fun fuel w => f_X0_gladSet_L4 j fuel (bitsR (gladB R) w) (nI w) (pR j V R)) (n := n) ?_ ?_ n 0 200 (by omega) (by omega)
  · intro fuel
    show f_X0_gladSet_L4 j (fuel + 1) _ _ _ = _
    rw [f_X0_gladSet_L4, pR_n, hn, if_pos (Int32.le_refl _)]
  · intro fuel w hw
    have hw8 : w < 8 := by omega
    show f_X0_gladSet_L4 j (fuel + 1) _ _ _ = f_X0_gladSet_L4 j fuel _ _ _
    rw [f_X0_gladSet_L4, pR_n, hn, if_neg (nI_ge hw (by omega)), k_isGlad j V R hw8, Option.bind_some]
    dsimp only
    rw [nI_succ', bitsR]
    by_cases h : gladB R w = true
    · rw [if_pos h, if_neg (by decide), if_pos h]
    · rw [if_neg h, if_pos rfl, if_neg h]
theorem m_thoseAt {n : Nat} (V : VV) {R : Row} (h8 : n ≤ 8) (hn : R 0 = nI n) (c : Int32) : f_X4_thoseAt c (mR V R) = some (bitsR (atB R c) n, mR V R) := by
  unfold f_X4_thoseAt
  refine loopF (F := fun fuel w => f_X4_thoseAt_L4 fuel c (bitsR (atB R c) w) (nI w) (mR V R)) (n := n) ?_ ?_ n 0 200 (by omega) (by omega)
  · intro fuel
    show f_X4_thoseAt_L4 (fuel + 1) _ _ _ _ = _
    rw [f_X4_thoseAt_L4, inb0, itt, mR_1, tn0, hn, if_pos (Int32.le_refl _)]
  · intro fuel w hw
    have hw8 : w < 8 := by omega
    show f_X4_thoseAt_L4 (fuel + 1) _ _ _ _ = f_X4_thoseAt_L4 fuel _ _ _ _
    rw [f_X4_thoseAt_L4, inb0, itt, mR_1, tn0, hn, if_neg (nI_ge hw (by omega)), m_its1 V R hw8, Option.bind_some]
    dsimp only
    rw [nI_succ', bitsR, or0]
    by_cases h : R (sp w 1) = c
    · rw [if_pos h, if_pos (by simp [atB, h])]
    · rw [if_neg h, if_neg (by simp [atB, h])]
theorem m_thoseKept {n : Nat} (V : VV) {R : Row} (h8 : n ≤ 8) (hn : R 0 = nI n) : f_X4_thoseKept (mR V R) = some (bitsR (kpB R) n, mR V R) := by
  unfold f_X4_thoseKept
  refine loopF (F := fun fuel w => f_X4_thoseKept_L4 fuel (bitsR (kpB R) w) (nI w) (mR V R)) (n := n) ?_ ?_ n 0 200 (by omega) (by omega)
  · intro fuel
    show f_X4_thoseKept_L4 (fuel + 1) _ _ _ = _
    rw [f_X4_thoseKept_L4, inb0, itt, mR_1, tn0, hn, if_pos (Int32.le_refl _)]
  · intro fuel w hw
    have hw8 : w < 8 := by omega
    show f_X4_thoseKept_L4 (fuel + 1) _ _ _ = f_X4_thoseKept_L4 fuel _ _ _
    rw [f_X4_thoseKept_L4, inb0, itt, mR_1, tn0, hn, if_neg (nI_ge hw (by omega)), m_isFree V R hw8, Option.bind_some]
    dsimp only
    rw [nI_succ', bitsR, or0]
    by_cases h : R (sp w 5) = -1
    · rw [if_pos h, if_neg (by decide), if_neg (by simp [kpB, h])]
    · rw [if_neg h, if_pos rfl, if_pos (by simp [kpB, h])]
theorem m_thoseGlad {n : Nat} (V : VV) {R : Row} (h8 : n ≤ 8) (hn : R 0 = nI n) : f_X4_thoseGlad (mR V R) = some (bitsR (gladB R) n, mR V R) := by
  unfold f_X4_thoseGlad
  refine loopF (F := fun fuel w => f_X4_thoseGlad_L4 fuel (bitsR (gladB R) w) (nI w) (mR V R)) (n := n) ?_ ?_ n 0 200 (by omega) (by omega)
  · intro fuel
    show f_X4_thoseGlad_L4 (fuel + 1) _ _ _ = _
    rw [f_X4_thoseGlad_L4, inb0, itt, mR_1, tn0, hn, if_pos (Int32.le_refl _)]
  · intro fuel w hw
    have hw8 : w < 8 := by omega
    show f_X4_thoseGlad_L4 (fuel + 1) _ _ _ = f_X4_thoseGlad_L4 fuel _ _ _
    rw [f_X4_thoseGlad_L4, inb0, itt, mR_1, tn0, hn, if_neg (nI_ge hw (by omega)), m_isGlad V R hw8, Option.bind_some]
    dsimp only
    rw [nI_succ', bitsR, or0]
    by_cases h : gladB R w = true
    · rw [if_pos h, if_neg (by decide), if_pos h]
    · rw [if_neg h, if_pos rfl, if_neg h]
/-! ===== PURE: the lifting and the going of all ===== -/
def allR (w : Nat) (R : Row) : Row := if R (sp w 5) = -1 ∨ ¬ R (sp w 5) < nI w then bringR w (goR w R) else R
theorem Wf.all {n T : Nat} {R : Row} (h : Wf n T R) {w : Nat} (hw : w < n) : Wf n T (allR w R) := by
  unfold allR
  split
  · exact (h.go hw).bring hw
  · exact h
theorem Z60.all {n T : Nat} {R : Row} (hz : Z60 R) (h : Wf n T R) {w : Nat} (hw : w < n) : Z60 (allR w R) := by
  have hw8 : w < 8 := Nat.lt_of_lt_of_le hw h.1
  unfold allR
  split
  · exact (hz.go hw8).bring (h.go hw) hw
  · exact hz
theorem k_lift {n T : Nat} (j : Nat) (V : VV) {R : Row} (hf : Wf n T R) : f_X0_lift j (pR j V R) = some (pR j V (itW liftR n R)) := by
  have h8 := hf.1
  have hW : ∀ i, i ≤ n → Wf n T (itW liftR i R) := fun i hi => itW_ind (P := Wf n T) (N := n) (fun w R _ h => h.lift) i R hi hf
  unfold f_X0_lift
  refine loopF (F := fun fuel w => f_X0_lift_L2 j fuel (nI w) (pR j V (itW liftR w R))) (n := n) ?_ ?_ n 0 200 (by omega) (by omega)
  · intro fuel
    show f_X0_lift_L2 j (fuel + 1) _ _ = _
    rw [f_X0_lift_L2, pR_n, (hW n (Nat.le_refl n)).2.1, if_pos (Int32.le_refl _)]
  · intro fuel w hw
    have hw8 : w < 8 := by omega
    show f_X0_lift_L2 j (fuel + 1) _ _ = f_X0_lift_L2 j fuel _ _
    rw [f_X0_lift_L2, pR_n, (hW w (by omega)).2.1, if_neg (nI_ge hw (by omega))]
    simp only [inb8 hw8, cl8 hw8, pR_2', pR_v, pR_w6, pR_w7, itt, if_true, nI_succ', bV, itW]
    rw [liftR]
    by_cases h : itW liftR w R (sp w 1) = itW liftR w R 3
    · rw [if_pos h, if_pos h]
    · rw [if_neg h, if_neg h]
/-- the class's hour, its meeting given -/
theorem k_hour {n T : Nat} (j : Nat) (V : VV) {R : Row} (hf : Wf n T R) {col : Row → Row} (hcol : ∀ R', Wf n T R' → f_X0_collide j (pR j V R') = some (pR j V (col R'))) : f_X0_passHour j (pR j V R) = some (pR j V (if fogB R = true then upd (col (itW allR n R)) 1 (col (itW allR n R) 1 + 1) else upd (itW allR n (itW liftR n R)) 1 (itW allR n (itW liftR n R) 1 + 1))) := by
  have h8 := hf.1
  have hL : ∀ (Q : Row), Wf n T Q → ∀ (x : Int32), (x = 0 ∨ x = 1) → f_X0_passHour_L15 j 200 x 0 (pR j V Q) = some (pR j V (if x = 0 then upd (itW allR n Q) 1 (itW allR n Q 1 + 1) else upd (col (itW allR n Q)) 1 (col (itW allR n Q) 1 + 1))) := by
    intro Q hQ x hx
    have hW : ∀ i, i ≤ n → Wf n T (itW allR i Q) := fun i hi => itW_ind (P := Wf n T) (N := n) (fun w R hw h => h.all hw) i Q hi hQ
    refine loopF (F := fun fuel w => f_X0_passHour_L15 j fuel x (nI w) (pR j V (itW allR w Q))) (n := n) ?_ ?_ n 0 200 (by omega) (by omega)
    · intro fuel
      show f_X0_passHour_L15 j (fuel + 1) _ _ _ = _
      rw [f_X0_passHour_L15, pR_n, (hW n (Nat.le_refl n)).2.1, if_pos (Int32.le_refl _)]
      by_cases h : x = 0
      · rw [if_pos h, if_pos h]
        simp only [bV, pR_t, pR_wt]
      · rw [if_neg h, if_neg h, hcol _ (hW n (Nat.le_refl n)), Option.bind_some]
        simp only [bV, pR_t, pR_wt]
    · intro fuel w hw
      have hw8 : w < 8 := by omega
      have hWw := hW w (by omega)
      show f_X0_passHour_L15 j (fuel + 1) _ _ _ = f_X0_passHour_L15 j fuel _ _ _
      rw [f_X0_passHour_L15, pR_n, hWw.2.1, if_neg (nI_ge hw (by omega)), k_isFree j V _ hw8, Option.bind_some]
      dsimp only
      rw [nI_succ', itW, allR]
      by_cases h : itW allR w Q (sp w 5) = -1
      · rw [if_pos h, if_neg (by decide), if_pos (Or.inl h), k_go j V hWw hw, Option.bind_some, k_bring j V (hWw.go hw) hw, Option.bind_some]
      · rw [if_neg h, if_pos rfl, inb8 hw8, itt, cl8 hw8, pR_6]
        by_cases h2 : itW allR w Q (sp w 5) < nI w
        · rw [if_pos h2, if_neg (fun z => z.elim h (fun y => y h2))]
        · rw [if_neg h2, if_pos (Or.inr h2), k_go j V hWw hw, Option.bind_some, k_bring j V (hWw.go hw) hw, Option.bind_some]
  unfold f_X0_passHour
  rw [k_isFoggy, Option.bind_some]
  dsimp only
  by_cases h : fogB R = true
  · rw [if_pos h, if_neg (by decide), hL R hf 1 (Or.inr rfl), if_neg (by decide), if_pos h]
  · rw [if_neg h, if_pos rfl, k_lift j V hf, Option.bind_some, hL _ (itW_ind (P := Wf n T) (N := n) (fun w R _ h => h.lift) n R (Nat.le_refl n) hf) 0 (Or.inl rfl), if_pos rfl, if_neg h]
/-- the reference's hour, its meetings given -/
theorem m_hour {n T : Nat} (V : VV) {R : Row} (hf : Wf n T R) {mt : Nat → Row → Row} (hmt : ∀ c R', c < 36 → Wf n T R' → f_X4_meetAt (nI c) (mR V R') = some (mR V (mt c R')) ∧ Wf n T (mt c R')) : f_X4_goesHour (mR V R) = some (mR V (if fogB R = true then upd (itW mt 36 (itW allR n R)) 1 (itW mt 36 (itW allR n R) 1 + 1) else upd (itW allR n (itW liftR n R)) 1 (itW allR n (itW liftR n R) 1 + 1))) := by
  have h8 := hf.1
  have h90 : ∀ (Q : Row), Wf n T Q → ∀ (x : Int32), (x = 0 ∨ x = 1) → f_X4_goesHour_L90 200 x 0 (mR V Q) = some (mR V (if x = 0 then upd Q 1 (Q 1 + 1) else upd (itW mt 36 Q) 1 (itW mt 36 Q 1 + 1))) := by
    intro Q hQ x hx
    by_cases h : x = 0
    · rw [if_pos h]
      show f_X4_goesHour_L90 (199 + 1) _ _ _ = _
      rw [f_X4_goesHour_L90, if_neg (by decide), if_pos h]
      simp only [Option.bind_some, bV, mR_1, mR_w, inb0, inb1, inb2, inb3, tn0, tn1, tn2, tn3, itt, if_true]
    · rw [if_neg h]
      have hW : ∀ i, i ≤ 36 → Wf n T (itW mt i Q) := fun i hi => itW_ind (P := Wf n T) (N := 36) (fun c R hc h => (hmt c R hc h).2) i Q hi hQ
      refine loopF (F := fun fuel c => f_X4_goesHour_L90 fuel x (nI c) (mR V (itW mt c Q))) (n := 36) ?_ ?_ 36 0 200 (by omega) (by omega)
      · intro fuel
        show f_X4_goesHour_L90 (fuel + 1) _ _ _ = _
        rw [f_X4_goesHour_L90, if_pos (by decide)]
        simp only [Option.bind_some, bV, mR_1, mR_w, inb0, inb1, inb2, inb3, tn0, tn1, tn2, tn3, itt, if_true]
      · intro fuel c hc
        show f_X4_goesHour_L90 (fuel + 1) _ _ _ = f_X4_goesHour_L90 fuel _ _ _
        rw [f_X4_goesHour_L90, if_neg (show ¬ (36 : Int32) ≤ nI c from nI_ge hc (by decide)), if_neg h, (hmt c _ hc (hW c (by omega))).1, Option.bind_some, nI_succ']
        rfl
  have h49 : ∀ (Q : Row), Wf n T Q → ∀ (x : Int32), (x = 0 ∨ x = 1) → f_X4_goesHour_L49 200 x 0 (mR V Q) = some (mR V (if x = 0 then upd (itW allR n Q) 1 (itW allR n Q 1 + 1) else upd (itW mt 36 (itW allR n Q)) 1 (itW mt 36 (itW allR n Q) 1 + 1))) := by
    intro Q hQ x hx
    have hW : ∀ i, i ≤ n → Wf n T (itW allR i Q) := fun i hi => itW_ind (P := Wf n T) (N := n) (fun w R hw h => h.all hw) i Q hi hQ
    refine loopF (F := fun fuel w => f_X4_goesHour_L49 fuel x (nI w) (mR V (itW allR w Q))) (n := n) ?_ ?_ n 0 200 (by omega) (by omega)
    · intro fuel
      show f_X4_goesHour_L49 (fuel + 1) _ _ _ = _
      rw [f_X4_goesHour_L49, inb0, itt, mR_1, tn0, (hW n (Nat.le_refl n)).2.1, if_pos (Int32.le_refl _), h90 _ (hW n (Nat.le_refl n)) x hx]
    · intro fuel w hw
      have hw8 : w < 8 := by omega
      have hWw := hW w (by omega)
      show f_X4_goesHour_L49 (fuel + 1) _ _ _ = f_X4_goesHour_L49 fuel _ _ _
      rw [f_X4_goesHour_L49, inb0, itt, mR_1, tn0, hWw.2.1, if_neg (nI_ge hw (by omega)), m_isFree V _ hw8, Option.bind_some]
      dsimp only
      rw [nI_succ', itW, allR]
      by_cases h : itW allR w Q (sp w 5) = -1
      · rw [if_pos h, if_neg (by decide), if_pos (Or.inl h), m_goes V hWw hw, Option.bind_some]
      · rw [if_neg h, if_pos rfl, m_its5 V _ hw8, Option.bind_some]
        dsimp only
        by_cases h2 : itW allR w Q (sp w 5) < nI w
        · rw [if_pos h2, if_neg (fun z => z.elim h (fun y => y h2))]
        · rw [if_neg h2, if_pos (Or.inr h2), m_goes V hWw hw, Option.bind_some]
  unfold f_X4_goesHour
  rw [m_isFoggy, Option.bind_some]
  dsimp only
  by_cases h : fogB R = true
  · rw [if_pos h, if_pos h]
    show f_X4_goesHour_L7 (199 + 1) _ _ _ = _
    rw [f_X4_goesHour_L7, inb0, itt]
    have e := h49 R hf 1 (Or.inr rfl)
    rw [if_neg (by decide)] at e
    by_cases h2 : (mR V R).1 1 (Int32.toNatClampNeg 0) ≤ 0
    · rw [if_pos h2]; exact e
    · rw [if_neg h2, if_neg (by decide)]; exact e
  · rw [if_neg h, if_neg h]
    have hW : ∀ i, i ≤ n → Wf n T (itW liftR i R) := fun i hi => itW_ind (P := Wf n T) (N := n) (fun w R _ h => h.lift) i R hi hf
    refine loopF (F := fun fuel w => f_X4_goesHour_L7 fuel 0 (nI w) (mR V (itW liftR w R))) (n := n) ?_ ?_ n 0 200 (by omega) (by omega)
    · intro fuel
      show f_X4_goesHour_L7 (fuel + 1) _ _ _ = _
      rw [f_X4_goesHour_L7, inb0, itt, mR_1, tn0, (hW n (Nat.le_refl n)).2.1, if_pos (Int32.le_refl _), h49 _ (hW n (Nat.le_refl n)) 0 (Or.inl rfl), if_pos rfl]
    · intro fuel w hw
      have hw8 : w < 8 := by omega
      show f_X4_goesHour_L7 (fuel + 1) _ _ _ = f_X4_goesHour_L7 fuel _ _ _
      rw [f_X4_goesHour_L7, inb0, itt, mR_1, tn0, (hW w (by omega)).2.1, if_neg (nI_ge hw (by omega)), if_pos rfl, m_its1 V _ hw8, Option.bind_some]
      dsimp only
      rw [inb3, itt, mR_1, tn3, nI_succ', itW, liftR]
      by_cases h2 : itW liftR w R (sp w 1) = itW liftR w R 3
      · rw [if_pos h2, if_pos h2]
      · rw [if_neg h2, if_neg h2, m_isFreed V _ hw8, Option.bind_some]
end
section
/-! ===== PURE: the meeting; walkers by numbers, or cells by numbers ===== -/
def hit (R : Row) (c : Int32) (x : Nat) : Bool := decide (R (sp x 5) = -1) && decide (R (sp x 1) = c)
def pend (R : Row) (c : Int32) : Nat → Option Nat
  | 0 => none
  | w + 1 => if hit R c w = true then (match pend R c w with | none => some w | some _ => none) else pend R c w
def nfF (R : Row) (c : Int32) : Nat → Nat → Nat
  | 0, k => k
  | d + 1, k => if hit R c k = true then k else nfF R c d (k + 1)
def bail (R : Row) (x : Nat) : Bool := decide (R (sp x 0) = 5) && decide (R (sp x 1) = R (sp x 2))
def nxt (R : Row) (n x : Nat) : Nat := nfF R (R (sp x 1)) (n - (x + 1)) (x + 1)
def mtR (R : Row) (n x : Nat) : Option Nat := if R (sp x 5) = -1 then (match pend R (R (sp x 1)) x with | some u => some u | none => if nxt R n x < n then some (nxt R n x) else if bail R x = true then some x else none) else none
def appR (R : Row) (n : Nat) (D : Nat → Bool) : Row := fun p => if 4 ≤ p ∧ (p - 4) / 7 < n ∧ D ((p - 4) / 7) = true then (match mtR R n ((p - 4) / 7) with | some y => if (p - 4) % 7 = 5 then nI y else if (p - 4) % 7 = 6 then R (sp y 4) else R p | none => R p) else R p
theorem hit_iff {R : Row} {c : Int32} {x : Nat} : hit R c x = true ↔ R (sp x 5) = -1 ∧ R (sp x 1) = c := by unfold hit; simp
theorem p_cases (p : Nat) : p < 4 ∨ ∃ a b, b < 7 ∧ p = sp a b := by
  by_cases h : p < 4
  · exact Or.inl h
  · exact Or.inr ⟨(p - 4) / 7, (p - 4) % 7, by omega, by unfold sp; omega⟩
theorem app_low {R : Row} {n : Nat} {D : Nat → Bool} {p : Nat} (h : p < 4) : appR R n D p = R p := by unfold appR; rw [if_neg (by omega)]
theorem app_sp {R : Row} {n : Nat} {D : Nat → Bool} {a b : Nat} (hb : b < 7) : appR R n D (sp a b) = if a < n ∧ D a = true then (match mtR R n a with | some y => if b = 5 then nI y else if b = 6 then R (sp y 4) else R (sp a b) | none => R (sp a b)) else R (sp a b) := by
  unfold appR
  have e1 : (sp a b - 4) / 7 = a := by unfold sp; omega
  have e2 : (sp a b - 4) % 7 = b := by unfold sp; omega
  rw [e1, e2]
  by_cases h : a < n ∧ D a = true
  · rw [if_pos ⟨sp_ge a b, h.1, h.2⟩, if_pos h]
  · rw [if_neg (fun z => h z.2), if_neg h]
theorem app_o {R : Row} {n : Nat} {D : Nat → Bool} {a b : Nat} (hb : b < 7) (h5 : b ≠ 5) (h6 : b ≠ 6) : appR R n D (sp a b) = R (sp a b) := by
  rw [app_sp hb]
  split
  · split
    · first | rfl | rw [if_neg h5, if_neg h6]
    · rfl
  · rfl
theorem app_ext {R : Row} {n : Nat} {D D' : Nat → Bool} (h : ∀ x, x < n → mtR R n x ≠ none → D x = D' x) : appR R n D = appR R n D' := by
  funext p
  rcases p_cases p with hp | ⟨a, b, hb, rfl⟩
  · rw [app_low hp, app_low hp]
  · rw [app_sp hb, app_sp hb]
    by_cases ha : a < n
    · cases hm : mtR R n a with
      | none => dsimp only; split <;> split <;> rfl
      | some y => rw [h a ha (by rw [hm]; simp)]
    · rw [if_neg (fun z => ha z.1), if_neg (fun z => ha z.1)]
theorem nI_m1 {q : Nat} (h : q < 2 ^ 31) : ¬ nI q = -1 := by
  intro e
  have := nI_pos (n := q) h
  rw [e] at this
  exact this (by decide)
/-- what is free in a row that has been gone through in part -/
theorem app_free {R : Row} {n : Nat} {D : Nat → Bool} {x : Nat} (hm : ∀ y, mtR R n x = some y → y < n) (h8 : n ≤ 8) : appR R n D (sp x 5) = -1 ↔ R (sp x 5) = -1 ∧ ¬ (x < n ∧ D x = true ∧ mtR R n x ≠ none) := by
  rw [app_sp (by decide)]
  by_cases h : x < n ∧ D x = true
  · rw [if_pos h]
    cases e : mtR R n x with
    | none => simp
    | some y =>
      have hy := hm y e
      simp only [if_true]
      constructor
      · intro z; exact absurd z (nI_m1 (by omega))
      · intro z; exact absurd ⟨h.1, h.2, by simp⟩ z.2
  · rw [if_neg h]
    constructor
    · intro z; exact ⟨z, fun y => h ⟨y.1, y.2.1⟩⟩
    · intro z; exact z.1
theorem pend_1 {R : Row} {c : Int32} : ∀ {w u : Nat}, pend R c w = some u → u < w ∧ hit R c u = true ∧ pend R c u = none ∧ ∀ k, u < k → k < w → hit R c k = false := by
  intro w
  induction w with
  | zero => intro u h; cases h
  | succ w ih =>
    intro u h
    unfold pend at h
    by_cases hh : hit R c w = true
    · rw [if_pos hh] at h
      cases e : pend R c w with
      | none =>
        rw [e] at h
        cases h
        exact ⟨by omega, hh, e, fun k h1 h2 => by omega⟩
      | some v => rw [e] at h; cases h
    · rw [if_neg hh] at h
      obtain ⟨h1, h2, h3, h4⟩ := ih h
      refine ⟨by omega, h2, h3, fun k k1 k2 => ?_⟩
      by_cases e : k = w
      · rw [e]; simpa using hh
      · exact h4 k k1 (by omega)
theorem pend_2 {R : Row} {c : Int32} {u : Nat} (hu : hit R c u = true) (hp : pend R c u = none) : ∀ d, (∀ k, u < k → k < u + 1 + d → hit R c k = false) → pend R c (u + 1 + d) = some u := by
  intro d
  induction d with
  | zero => intro _; show pend R c (u + 1) = some u; unfold pend; rw [if_pos hu, hp]
  | succ d ih =>
    intro h
    show pend R c ((u + 1 + d) + 1) = some u
    unfold pend
    rw [if_neg (by rw [h (u + 1 + d) (by omega) (by omega)]; decide)]
    exact ih (fun k h1 h2 => h k h1 (by omega))
theorem nfF_1 {R : Row} {c : Int32} : ∀ (d k : Nat), k ≤ nfF R c d k ∧ nfF R c d k ≤ k + d ∧ (∀ i, k ≤ i → i < nfF R c d k → hit R c i = false) ∧ (nfF R c d k < k + d → hit R c (nfF R c d k) = true) := by
  intro d
  induction d with
  | zero => intro k; exact ⟨Nat.le_refl _, Nat.le_refl _, fun i h1 h2 => absurd h2 (by unfold nfF; omega), fun h => absurd h (by unfold nfF; omega)⟩
  | succ d ih =>
    intro k
    unfold nfF
    by_cases hh : hit R c k = true
    · rw [if_pos hh]
      exact ⟨Nat.le_refl _, by omega, fun i h1 h2 => by omega, fun _ => hh⟩
    · rw [if_neg hh]
      obtain ⟨h1, h2, h3, h4⟩ := ih (k + 1)
      refine ⟨by omega, by omega, fun i i1 i2 => ?_, fun h => h4 (by omega)⟩
      by_cases e : i = k
      · rw [e]; simpa using hh
      · exact h3 i (by omega) i2
theorem nxt_1 {R : Row} {n x : Nat} (hx : x < n) : x < nxt R n x ∧ nxt R n x ≤ n ∧ (∀ i, x < i → i < nxt R n x → hit R (R (sp x 1)) i = false) ∧ (nxt R n x < n → hit R (R (sp x 1)) (nxt R n x) = true) := by
  obtain ⟨h1, h2, h3, h4⟩ := nfF_1 (R := R) (c := R (sp x 1)) (n - (x + 1)) (x + 1)
  exact ⟨by unfold nxt; omega, by unfold nxt; omega, fun i a b => h3 i a b, fun h => h4 (by unfold nxt at h; omega)⟩
theorem nxt_u {R : Row} {n x y : Nat} (hx : x < n) (hxy : x < y) (hy : y < n) (hh : hit R (R (sp x 1)) y = true) (hn : ∀ k, x < k → k < y → hit R (R (sp x 1)) k = false) : nxt R n x = y := by
  obtain ⟨h1, h2, h3, h4⟩ := nxt_1 (R := R) hx
  rcases Nat.lt_trichotomy (nxt R n x) y with h | h | h
  · have := hn _ h1 h
    rw [h4 (by omega)] at this
    cases this
  · exact h
  · have := h3 y hxy h
    rw [hh] at this
    cases this
theorem mt_pend {R : Row} {n x u : Nat} (hf : R (sp x 5) = -1) (hp : pend R (R (sp x 1)) x = some u) : mtR R n x = some u := by unfold mtR; rw [if_pos hf, hp]
theorem mt_none {R : Row} {n x : Nat} (hf : ¬ R (sp x 5) = -1) : mtR R n x = none := by unfold mtR; rw [if_neg hf]
theorem mt_nxt {R : Row} {n x : Nat} (hf : R (sp x 5) = -1) (hp : pend R (R (sp x 1)) x = none) : mtR R n x = if nxt R n x < n then some (nxt R n x) else if bail R x = true then some x else none := by unfold mtR; rw [if_pos hf, hp]
theorem mt_sym {R : Row} {n x y : Nat} (hx : x < n) (h : mtR R n x = some y) : y < n ∧ mtR R n y = some x ∧ R (sp y 1) = R (sp x 1) := by
  by_cases hf : R (sp x 5) = -1
  · cases hp : pend R (R (sp x 1)) x with
    | some u =>
      rw [mt_pend hf hp] at h
      cases h
      obtain ⟨h1, h2, h3, h4⟩ := pend_1 hp
      obtain ⟨g1, g2⟩ := hit_iff.mp h2
      refine ⟨by omega, ?_, g2⟩
      have hn : nxt R n y = x := nxt_u (by omega) h1 hx (by rw [g2]; exact hit_iff.mpr ⟨hf, rfl⟩) (fun k a b => by rw [g2]; exact h4 k a b)
      rw [mt_nxt g1 (by rw [g2]; exact h3), hn, if_pos hx]
    | none =>
      rw [mt_nxt hf hp] at h
      by_cases hn : nxt R n x < n
      · rw [if_pos hn] at h
        cases h
        obtain ⟨h1, h2, h3, h4⟩ := nxt_1 (R := R) hx
        obtain ⟨g1, g2⟩ := hit_iff.mp (h4 hn)
        refine ⟨hn, ?_, g2⟩
        refine mt_pend g1 ?_
        rw [g2]
        have := pend_2 (R := R) (c := R (sp x 1)) (u := x) (hit_iff.mpr ⟨hf, rfl⟩) hp (nxt R n x - (x + 1)) (fun k a b => h3 k a (by omega))
        rw [show x + 1 + (nxt R n x - (x + 1)) = nxt R n x by omega] at this
        exact this
      · rw [if_neg hn] at h
        by_cases hb : bail R x = true
        · rw [if_pos hb] at h
          cases h
          exact ⟨hx, by rw [mt_nxt hf hp, if_neg hn, if_pos hb], rfl⟩
        · rw [if_neg hb] at h; cases h
  · rw [mt_none hf] at h; cases h
theorem app_keep {R : Row} {n x y : Nat} {D D' : Nat → Bool} (hx : x < n) (h : mtR R n x = some y) (hD : ∀ z, z < n → mtR R n z ≠ none → (D' z = true ↔ D z = true ∨ z = x ∨ z = y)) : keepR x y (appR R n D) = appR R n D' := by
  obtain ⟨hy, hs, -⟩ := mt_sym hx h
  funext p
  unfold keepR
  rw [app_o (a := y) (b := 4) (by decide) (by decide) (by decide), app_o (a := x) (b := 4) (by decide) (by decide) (by decide)]
  have dx : D' x = true := (hD x hx (by rw [h]; simp)).mpr (Or.inr (Or.inl rfl))
  have dy : D' y = true := (hD y hy (by rw [hs]; simp)).mpr (Or.inr (Or.inr rfl))
  by_cases p1 : p = sp y 6
  · rw [p1, upd_eq, app_sp (by decide), if_pos ⟨hy, dy⟩, hs]; simp
  · rw [upd_ne p1]
    by_cases p2 : p = sp x 6
    · rw [p2, upd_eq, app_sp (by decide), if_pos ⟨hx, dx⟩, h]; simp
    · rw [upd_ne p2]
      by_cases p3 : p = sp y 5
      · rw [p3, upd_eq, app_sp (by decide), if_pos ⟨hy, dy⟩, hs]; simp
      · rw [upd_ne p3]
        by_cases p4 : p = sp x 5
        · rw [p4, upd_eq, app_sp (by decide), if_pos ⟨hx, dx⟩, h]; simp
        · rw [upd_ne p4]
          rcases p_cases p with hp | ⟨a, b, hb, rfl⟩
          · rw [app_low hp, app_low hp]
          · by_cases h5 : b = 5
            · subst h5
              have ax : a ≠ x := fun e => p4 (by rw [e])
              have ay : a ≠ y := fun e => p3 (by rw [e])
              rw [app_sp hb, app_sp hb]
              by_cases ha : a < n
              · cases hm : mtR R n a with
                | none => dsimp only; split <;> split <;> rfl
                | some z =>
                  have e := hD a ha (by rw [hm]; simp)
                  have e2 : D' a = true ↔ D a = true := by rw [e]; simp [ax, ay]
                  by_cases hd : D a = true
                  · rw [if_pos ⟨ha, hd⟩, if_pos ⟨ha, e2.mpr hd⟩]
                  · rw [if_neg (fun q => hd q.2), if_neg (fun q => hd (e2.mp q.2))]
              · rw [if_neg (fun q => ha q.1), if_neg (fun q => ha q.1)]
            · by_cases h6 : b = 6
              · subst h6
                have ax : a ≠ x := fun e => p2 (by rw [e])
                have ay : a ≠ y := fun e => p1 (by rw [e])
                rw [app_sp hb, app_sp hb]
                by_cases ha : a < n
                · cases hm : mtR R n a with
                  | none => dsimp only; split <;> split <;> rfl
                  | some z =>
                    have e := hD a ha (by rw [hm]; simp)
                    have e2 : D' a = true ↔ D a = true := by rw [e]; simp [ax, ay]
                    by_cases hd : D a = true
                    · rw [if_pos ⟨ha, hd⟩, if_pos ⟨ha, e2.mpr hd⟩]
                    · rw [if_neg (fun q => hd q.2), if_neg (fun q => hd (e2.mp q.2))]
                · rw [if_neg (fun q => ha q.1), if_neg (fun q => ha q.1)]
              · rw [app_o hb h5 h6, app_o hb h5 h6]
/-! the class's way -/
def colR (n w : Nat) (Q : Row) : Row := if Q (sp w 5) = -1 then (if nxt Q n w < n then keepR w (nxt Q n w) Q else if bail Q w = true then keepR w w Q else Q) else Q
def Dc (R : Row) (n w x : Nat) : Bool := decide (x < w) || (match mtR R n x with | some y => decide (y < w) | none => false)
theorem Dc_iff {R : Row} {n w x y : Nat} (h : mtR R n x = some y) : Dc R n w x = true ↔ x < w ∨ y < w := by unfold Dc; rw [h]; simp
theorem col_app {R : Row} {n : Nat} (h8 : n ≤ 8) : ∀ w, w ≤ n → itW (colR n) w R = appR R n (Dc R n w) := by
  intro w
  induction w with
  | zero =>
    intro _
    funext p
    rcases p_cases p with hp | ⟨a, b, hb, rfl⟩
    · rw [app_low hp]; rfl
    · rw [app_sp hb]
      cases hm : mtR R n a with
      | none => dsimp only; split <;> rfl
      | some y => rw [if_neg (fun q => by have := (Dc_iff hm).mp q.2; omega)]; rfl
  | succ w ih =>
    intro hw
    show colR n w (itW (colR n) w R) = _
    rw [ih (by omega)]
    have hmn : ∀ y, mtR R n w = some y → y < n := fun y h => (mt_sym (by omega) h).1
    have hfree := app_free (R := R) (D := Dc R n w) (x := w) hmn h8
    have same : (∀ y, mtR R n w = some y → y < w) → appR R n (Dc R n w) = appR R n (Dc R n (w + 1)) := by
      intro hlt
      apply app_ext
      intro x hx hm
      cases e : mtR R n x with
      | none => exact absurd e hm
      | some y =>
        have h1 := Dc_iff (w := w) e
        have h2 := Dc_iff (w := w + 1) e
        have : (x < w ∨ y < w) ↔ (x < w + 1 ∨ y < w + 1) := by
          constructor
          · intro z; omega
          · intro z
            by_cases ex : x = w
            · subst ex; have := hlt y e; omega
            · by_cases ey : y = w
              · subst ey; have := hlt x (mt_sym hx e).2.1; omega
              · omega
        rw [Bool.eq_iff_iff, h1, h2]
        exact this
    unfold colR
    by_cases hf : R (sp w 5) = -1
    · cases hp : pend R (R (sp w 1)) w with
      | some u =>
        have hm := mt_pend (n := n) hf hp
        have hu := (pend_1 hp).1
        rw [if_neg (fun z => (hfree.mp z).2 ⟨by omega, (Dc_iff hm).mpr (Or.inr hu), by rw [hm]; simp⟩)]
        exact same (fun y h => by rw [hm] at h; cases h; exact hu)
      | none =>
        have hm := mt_nxt (n := n) hf hp
        have hge : ∀ y, mtR R n w = some y → w ≤ y := by
          intro y h
          rw [hm] at h
          have := (nxt_1 (R := R) (show w < n by omega)).1
          by_cases a : nxt R n w < n
          · rw [if_pos a] at h; cases h; omega
          · rw [if_neg a] at h
            by_cases b : bail R w = true
            · rw [if_pos b] at h; cases h; omega
            · rw [if_neg b] at h; cases h
        rw [if_pos (hfree.mpr ⟨hf, fun z => by
          cases e : mtR R n w with
          | none => exact z.2.2 e
          | some y => have := (Dc_iff e).mp z.2.1; have := hge y e; omega⟩)]
        have hcell : appR R n (Dc R n w) (sp w 1) = R (sp w 1) := app_o (by decide) (by decide) (by decide)
        obtain ⟨n1, n2, n3, n4⟩ := nxt_1 (R := R) (show w < n by omega)
        have hnx : nxt (appR R n (Dc R n w)) n w = nxt R n w := by
          have hh : ∀ k, w < k → k < n → (∀ i, w < i → i < k → hit R (R (sp w 1)) i = false) → hit (appR R n (Dc R n w)) (R (sp w 1)) k = hit R (R (sp w 1)) k := by
            intro k k1 k2 hbet
            rw [Bool.eq_iff_iff, hit_iff, hit_iff, app_o (a := k) (b := 1) (by decide) (by decide) (by decide), app_free (fun y h => (mt_sym k2 h).1) h8]
            constructor
            · intro z; exact ⟨z.1.1, z.2⟩
            · intro z
              refine ⟨⟨z.1, fun q => ?_⟩, z.2⟩
              have hpk : pend R (R (sp k 1)) k = some w := by
                rw [z.2]
                have := pend_2 (R := R) (c := R (sp w 1)) (u := w) (hit_iff.mpr ⟨hf, rfl⟩) hp (k - (w + 1)) (fun i a b => hbet i a (by omega))
                rw [show w + 1 + (k - (w + 1)) = k by omega] at this
                exact this
              have := (Dc_iff (mt_pend (n := n) z.1 hpk)).mp q.2.1
              omega
          by_cases a : nxt R n w < n
          · refine nxt_u (by omega) n1 a ?_ ?_
            · rw [hcell, hh _ n1 a n3]; exact n4 a
            · intro k k1 k2
              rw [hcell, hh k k1 (by omega) (fun i i1 i2 => n3 i i1 (by omega))]
              exact n3 k k1 k2
          · obtain ⟨m1, m2, m3, m4⟩ := nxt_1 (R := appR R n (Dc R n w)) (show w < n by omega)
            by_cases b : nxt (appR R n (Dc R n w)) n w < n
            · have e := m4 b
              rw [hcell, hh _ m1 b (fun i i1 i2 => n3 i i1 (by omega)), n3 _ m1 (by omega)] at e
              cases e
            · omega
        rw [hnx]
        by_cases a : nxt R n w < n
        · rw [if_pos a]
          have hm' : mtR R n w = some (nxt R n w) := by rw [hm, if_pos a]
          refine app_keep (by omega) hm' (fun z hz hz2 => ?_)
          cases e : mtR R n z with
          | none => exact absurd e hz2
          | some y =>
            rw [Dc_iff e, Dc_iff e]
            constructor
            · intro q
              by_cases ez : z = w
              · exact Or.inr (Or.inl ez)
              · by_cases ey : y = w
                · subst ey
                  have := (mt_sym hz e).2.1
                  rw [hm'] at this
                  cases this
                  exact Or.inr (Or.inr rfl)
                · exact Or.inl (by omega)
            · intro q
              rcases q with q | q | q
              · omega
              · omega
              · subst q
                have := (mt_sym (by omega) hm').2.1
                rw [e] at this
                cases this
                omega
        · rw [if_neg a]
          have hbb : bail (appR R n (Dc R n w)) w = bail R w := by
            unfold bail
            rw [app_o (a := w) (b := 0) (by decide) (by decide) (by decide), hcell, app_o (a := w) (b := 2) (by decide) (by decide) (by decide)]
          rw [hbb]
          by_cases b : bail R w = true
          · rw [if_pos b]
            have hm' : mtR R n w = some w := by rw [hm, if_neg a, if_pos b]
            refine app_keep (by omega) hm' (fun z hz hz2 => ?_)
            cases e : mtR R n z with
            | none => exact absurd e hz2
            | some y =>
              rw [Dc_iff e, Dc_iff e]
              constructor
              · intro q
                by_cases ez : z = w
                · exact Or.inr (Or.inl ez)
                · by_cases ey : y = w
                  · subst ey
                    have := (mt_sym hz e).2.1
                    rw [hm'] at this
                    cases this
                    exact absurd rfl ez
                  · exact Or.inl (by omega)
              · intro q
                omega
          · rw [if_neg b]
            exact same (fun y h => by rw [hm, if_neg a, if_neg b] at h; cases h)
    · rw [if_neg (fun z => hf (hfree.mp z).1)]
      exact same (fun y h => by rw [mt_none hf] at h; cases h)
/-! the reference's way -/
def mstep (c : Int32) (w : Nat) (s : Option Nat × Row) : Option Nat × Row := if hit s.2 c w = true then (match s.1 with | none => (some w, s.2) | some u => (none, keepR u w s.2)) else s
def meetS (c : Int32) (Q : Row) : Nat → Option Nat × Row
  | 0 => (none, Q)
  | w + 1 => mstep c w (meetS c Q w)
def mend (c : Int32) (s : Option Nat × Row) : Row := match s.1 with | some u => if s.2 (sp u 0) = 5 ∧ s.2 (sp u 2) = c then keepR u u s.2 else s.2 | none => s.2
def meetR (n : Nat) (c : Int32) (Q : Row) : Row := mend c (meetS c Q n)
def Ec (R : Row) (c x : Nat) : Bool := decide ((R (sp x 1)).toNatClampNeg < c)
def Es (R : Row) (n c w x : Nat) : Bool := Ec R c x || (decide (R (sp x 1) = nI c) && (match mtR R n x with | some y => decide (x < w) && (decide (y < w) && !decide (x = y)) | none => false))
theorem Es_iff {R : Row} {n c w x y : Nat} (h : mtR R n x = some y) : Es R n c w x = true ↔ Ec R c x = true ∨ (R (sp x 1) = nI c ∧ x < w ∧ y < w ∧ x ≠ y) := by unfold Es; rw [h]; simp
theorem meet_app {R : Row} {n T c : Nat} (hf : Wf n T R) (hc : c < 36) : ∀ w, w ≤ n → meetS (nI c) (appR R n (Ec R c)) w = (pend R (nI c) w, appR R n (Es R n c w)) := by
  have h8 := hf.1
  intro w
  induction w with
  | zero =>
    intro _
    show (none, _) = (none, _)
    congr 1
    apply app_ext
    intro x hx hm
    cases e : mtR R n x with
    | none => exact absurd e hm
    | some y => rw [Bool.eq_iff_iff, Es_iff e]; constructor
                · intro z; exact Or.inl z
                · intro z; rcases z with z | z
                  · exact z
                  · omega
  | succ w ih =>
    intro hw
    show mstep (nI c) w (meetS (nI c) (appR R n (Ec R c)) w) = _
    rw [ih (by omega)]
    have hE : R (sp w 1) = nI c → Ec R c w = false := by
      intro e
      unfold Ec
      rw [e, cl_nI (by omega)]
      simp
    have hhit : hit (appR R n (Es R n c w)) (nI c) w = hit R (nI c) w := by
      rw [Bool.eq_iff_iff, hit_iff, hit_iff, app_o (a := w) (b := 1) (by decide) (by decide) (by decide), app_free (fun y h => (mt_sym (by omega) h).1) h8]
      constructor
      · intro z; exact ⟨z.1.1, z.2⟩
      · intro z
        refine ⟨⟨z.1, fun q => ?_⟩, z.2⟩
        cases e : mtR R n w with
        | none => exact q.2.2 e
        | some y =>
          rcases (Es_iff e).mp q.2.1 with a | a
          · rw [hE z.2] at a; cases a
          · omega
    unfold mstep
    dsimp only
    rw [hhit]
    have same : (∀ y, mtR R n w = some y → R (sp w 1) = nI c → y < w → False) → appR R n (Es R n c w) = appR R n (Es R n c (w + 1)) := by
      intro hlt
      apply app_ext
      intro x hx hm
      cases e : mtR R n x with
      | none => exact absurd e hm
      | some y =>
        rw [Bool.eq_iff_iff, Es_iff e, Es_iff e]
        constructor
        · intro z; rcases z with z | z
          · exact Or.inl z
          · exact Or.inr ⟨z.1, by omega, by omega, z.2.2.2⟩
        · intro z; rcases z with z | z
          · exact Or.inl z
          · by_cases ex : x = w
            · subst ex; exact (hlt y e z.1 (by omega)).elim
            · by_cases ey : y = w
              · subst ey
                obtain ⟨a1, a2, a3⟩ := mt_sym hx e
                exact (hlt x a2 (by rw [a3]; exact z.1) (by omega)).elim
              · exact Or.inr ⟨z.1, by omega, by omega, z.2.2.2⟩
    by_cases hh : hit R (nI c) w = true
    · obtain ⟨g1, g2⟩ := hit_iff.mp hh
      rw [if_pos hh]
      show (match pend R (nI c) w with | none => (some w, appR R n (Es R n c w)) | some u => (none, keepR u w (appR R n (Es R n c w)))) = _
      cases hp : pend R (nI c) w with
      | none =>
        have e1 : pend R (nI c) (w + 1) = some w := by unfold pend; rw [if_pos hh, hp]
        rw [e1]
        dsimp only
        congr 1
        refine same (fun y hy _ hlt => ?_)
        have hm := mt_nxt (n := n) g1 (by rw [g2]; exact hp)
        rw [hm] at hy
        have := (nxt_1 (R := R) (show w < n by omega)).1
        by_cases a : nxt R n w < n
        · rw [if_pos a] at hy; cases hy; omega
        · rw [if_neg a] at hy
          by_cases b : bail R w = true
          · rw [if_pos b] at hy; cases hy; omega
          · rw [if_neg b] at hy; cases hy
      | some u =>
        have e1 : pend R (nI c) (w + 1) = none := by unfold pend; rw [if_pos hh, hp]
        rw [e1]
        dsimp only
        congr 1
        have hm : mtR R n w = some u := mt_pend g1 (by rw [g2]; exact hp)
        obtain ⟨a1, a2, a3⟩ := mt_sym (show w < n by omega) hm
        have hu := (pend_1 hp).1
        refine app_keep a1 a2 (fun z hz hz2 => ?_)
        cases e : mtR R n z with
        | none => exact absurd e hz2
        | some y =>
          rw [Es_iff e, Es_iff e]
          constructor
          · intro q; rcases q with q | q
            · exact Or.inl (Or.inl q)
            · by_cases ez : z = w
              · exact Or.inr (Or.inr ez)
              · by_cases ey : y = w
                · subst ey
                  have := (mt_sym hz e).2.1
                  rw [hm] at this
                  cases this
                  exact Or.inr (Or.inl rfl)
                · exact Or.inl (Or.inr ⟨q.1, by omega, by omega, q.2.2.2⟩)
          · intro q; rcases q with q | q | q
            · rcases q with q | q
              · exact Or.inl q
              · exact Or.inr ⟨q.1, by omega, by omega, q.2.2.2⟩
            · subst q
              rw [a2] at e
              cases e
              exact Or.inr ⟨by rw [a3]; exact g2, by omega, by omega, by omega⟩
            · subst q
              rw [hm] at e
              cases e
              exact Or.inr ⟨g2, by omega, by omega, by omega⟩
    · rw [if_neg hh]
      have e1 : pend R (nI c) (w + 1) = pend R (nI c) w := by show (if hit R (nI c) w = true then _ else _) = _; rw [if_neg hh]
      rw [e1]
      congr 1
      refine same (fun y hy hc2 _ => ?_)
      by_cases hfw : R (sp w 5) = -1
      · exact hh (hit_iff.mpr ⟨hfw, hc2⟩)
      · rw [mt_none hfw] at hy; cases hy
theorem meet_all {R : Row} {n T : Nat} (hf : Wf n T R) : ∀ c, c ≤ 36 → itW (fun c => meetR n (nI c)) c R = appR R n (Ec R c) := by
  have h8 := hf.1
  intro c
  induction c with
  | zero =>
    intro _
    funext p
    rcases p_cases p with hp | ⟨a, b, hb, rfl⟩
    · rw [app_low hp]; rfl
    · rw [app_sp hb, if_neg (fun q => by have := q.2; unfold Ec at this; simp at this)]; rfl
  | succ c ih =>
    intro hc
    show meetR n (nI c) (itW (fun c => meetR n (nI c)) c R) = _
    rw [ih (by omega)]
    unfold meetR
    rw [meet_app hf (by omega) n (Nat.le_refl n)]
    have hEc : ∀ x, x < n → (Ec R (c + 1) x = true ↔ Ec R c x = true ∨ R (sp x 1) = nI c) := by
      intro x hx
      obtain ⟨d, hd, e⟩ := (hf.2.2.2 x hx).2.1
      unfold Ec
      rw [e, cl_nI (by omega)]
      simp only [decide_eq_true_eq]
      rw [nI_eq (by omega) (by omega)]
      omega
    unfold mend
    dsimp only
    cases hp : pend R (nI c) n with
    | none =>
      dsimp only
      apply app_ext
      intro x hx hm
      cases e : mtR R n x with
      | none => exact absurd e hm
      | some y =>
        rw [Bool.eq_iff_iff, Es_iff e, hEc x hx]
        constructor
        · intro z; rcases z with z | z
          · exact Or.inl z
          · exact Or.inr z.1
        · intro z; rcases z with z | z
          · exact Or.inl z
          · obtain ⟨a1, a2, a3⟩ := mt_sym hx e
            refine Or.inr ⟨z, hx, a1, fun exy => ?_⟩
            subst exy
            have hfx : R (sp x 5) = -1 := by
              by_cases q : R (sp x 5) = -1
              · exact q
              · rw [mt_none q] at e; cases e
            cases hpx : pend R (R (sp x 1)) x with
            | some u => rw [mt_pend hfx hpx] at e; cases e; have := (pend_1 hpx).1; omega
            | none =>
              rw [mt_nxt hfx hpx] at e
              obtain ⟨n1, n2, n3, n4⟩ := nxt_1 (R := R) hx
              by_cases a : nxt R n x < n
              · rw [if_pos a] at e; have := Option.some.inj e; omega
              · have := pend_2 (R := R) (c := R (sp x 1)) (u := x) (hit_iff.mpr ⟨hfx, rfl⟩) hpx (n - (x + 1)) (fun k k1 k2 => n3 k k1 (by omega))
                rw [show x + 1 + (n - (x + 1)) = n by omega, z, hp] at this
                cases this
    | some u =>
      dsimp only
      obtain ⟨u1, u2, u3, u4⟩ := pend_1 hp
      obtain ⟨g1, g2⟩ := hit_iff.mp u2
      have hnu : ¬ nxt R n u < n := by
        intro a
        obtain ⟨n1, n2, n3, n4⟩ := nxt_1 (R := R) u1
        have q1 := n4 a
        have q2 := u4 _ n1 a
        rw [← g2, q1] at q2
        cases q2
      have hmu : mtR R n u = if bail R u = true then some u else none := by rw [mt_nxt g1 (by rw [g2]; exact u3), if_neg hnu]
      have hcond : (appR R n (Es R n c n) (sp u 0) = 5 ∧ appR R n (Es R n c n) (sp u 2) = nI c) ↔ bail R u = true := by
        rw [app_o (a := u) (b := 0) (by decide) (by decide) (by decide), app_o (a := u) (b := 2) (by decide) (by decide) (by decide)]
        unfold bail
        rw [g2]
        simp only [Bool.and_eq_true, decide_eq_true_eq]
        constructor
        · intro z; exact ⟨z.1, z.2.symm⟩
        · intro z; exact ⟨z.1, z.2.symm⟩
      have hself : ∀ x y, x < n → mtR R n x = some y → R (sp x 1) = nI c → x = y → x = u := by
        intro x y hx e z exy
        subst exy
        have hfx : R (sp x 5) = -1 := by
          by_cases q : R (sp x 5) = -1
          · exact q
          · rw [mt_none q] at e; cases e
        cases hpx : pend R (R (sp x 1)) x with
        | some v => rw [mt_pend hfx hpx] at e; cases e; have := (pend_1 hpx).1; omega
        | none =>
          rw [mt_nxt hfx hpx] at e
          obtain ⟨n1, n2, n3, n4⟩ := nxt_1 (R := R) hx
          by_cases a : nxt R n x < n
          · rw [if_pos a] at e; have := Option.some.inj e; omega
          · have := pend_2 (R := R) (c := R (sp x 1)) (u := x) (hit_iff.mpr ⟨hfx, rfl⟩) hpx (n - (x + 1)) (fun k k1 k2 => n3 k k1 (by omega))
            rw [show x + 1 + (n - (x + 1)) = n by omega, z, hp] at this
            cases this
            rfl
      by_cases hb : bail R u = true
      · rw [if_pos (hcond.mpr hb)]
        have hm' : mtR R n u = some u := by rw [hmu, if_pos hb]
        refine app_keep u1 hm' (fun z hz hz2 => ?_)
        cases e : mtR R n z with
        | none => exact absurd e hz2
        | some y =>
          rw [Es_iff e, hEc z hz]
          constructor
          · intro q; rcases q with q | q
            · exact Or.inl (Or.inl q)
            · by_cases ezy : z = y
              · exact Or.inr (Or.inl (hself z y hz e q ezy))
              · exact Or.inl (Or.inr ⟨q, hz, (mt_sym hz e).1, ezy⟩)
          · intro q; rcases q with q | q | q
            · rcases q with q | q
              · exact Or.inl q
              · exact Or.inr q.1
            · subst q; exact Or.inr g2
            · subst q; exact Or.inr g2
      · rw [if_neg (fun z => hb (hcond.mp z))]
        apply app_ext
        intro x hx hm
        cases e : mtR R n x with
        | none => exact absurd e hm
        | some y =>
          rw [Bool.eq_iff_iff, Es_iff e, hEc x hx]
          constructor
          · intro z; rcases z with z | z
            · exact Or.inl z
            · exact Or.inr z.1
          · intro z; rcases z with z | z
            · exact Or.inl z
            · refine Or.inr ⟨z, hx, (mt_sym hx e).1, fun exy => ?_⟩
              have := hself x y hx e z exy
              subst this
              rw [hmu, if_neg hb] at e
              cases e
theorem col_meet {R : Row} {n T : Nat} (hf : Wf n T R) : itW (colR n) n R = itW (fun c => meetR n (nI c)) 36 R := by
  rw [col_app hf.1 n (Nat.le_refl n), meet_all hf 36 (Nat.le_refl 36)]
  apply app_ext
  intro x hx hm
  cases e : mtR R n x with
  | none => exact absurd e hm
  | some y =>
    obtain ⟨d, hd, e2⟩ := (hf.2.2.2 x hx).2.1
    rw [(Dc_iff e).mpr (Or.inl hx)]
    unfold Ec
    rw [e2, cl_nI (by omega)]
    simp [hd]
end
section
/-! ===== PURE: the hour, and hours ===== -/
theorem Wf.col {n T : Nat} {R : Row} (h : Wf n T R) {w : Nat} (hw : w < n) : Wf n T (colR n w R) := by
  unfold colR
  split
  · split
    · rename_i h2; exact h.keep hw h2
    · split
      · exact h.keep hw hw
      · exact h
  · exact h
theorem Z60.col {n : Nat} {R : Row} (h8 : n ≤ 8) (h : Z60 R) {w : Nat} (hw : w < n) : Z60 (colR n w R) := by
  unfold colR
  split
  · split
    · rename_i h2; exact h.keep (by omega) (by omega)
    · split
      · exact h.keep (by omega) (by omega)
      · exact h
  · exact h
theorem k_next {n : Nat} (j : Nat) (V : VV) {R : Row} (h8 : n ≤ 8) (hn : R 0 = nI n) {w : Nat} (hw : w < n) : f_X0_nextFreeBeside j (nI w) (pR j V R) = some (if nxt R n w < n then nI (nxt R n w) else -1, pR j V R) := by
  obtain ⟨n1, n2, n3, n4⟩ := nxt_1 (R := R) hw
  have hw8 : w < 8 := by omega
  unfold f_X0_nextFreeBeside
  rw [nI_succ']
  have key := loopF (F := fun fuel i => f_X0_nextFreeBeside_L4 j fuel (nI w) (nI (w + 1 + i)) (pR j V R)) (n := nxt R n w - (w + 1)) (res := some (if nxt R n w < n then nI (nxt R n w) else -1, pR j V R)) ?_ ?_ (nxt R n w - (w + 1)) 0 200 (by omega) (by omega)
  · exact key
  · intro fuel
    show f_X0_nextFreeBeside_L4 j (fuel + 1) _ _ _ = _
    rw [show w + 1 + (nxt R n w - (w + 1)) = nxt R n w by omega, f_X0_nextFreeBeside_L4, pR_n, hn]
    by_cases a : nxt R n w < n
    · obtain ⟨g1, g2⟩ := hit_iff.mp (n4 a)
      have ha8 : nxt R n w < 8 := by omega
      rw [if_neg (nI_ge a (by omega)), inb8 ha8, itt, inb8 hw8, itt, cl8 ha8, cl8 hw8, pR_2', pR_2', if_pos g2, k_isFree j V R ha8, Option.bind_some]
      dsimp only
      rw [if_pos g1, if_neg (by decide), if_pos a]
    · rw [if_pos (nI_le (by omega) (by omega)), if_neg a]
  · intro fuel i hi
    show f_X0_nextFreeBeside_L4 j (fuel + 1) _ _ _ = f_X0_nextFreeBeside_L4 j fuel _ _ _
    have hk8 : w + 1 + i < 8 := by omega
    have hnh := n3 (w + 1 + i) (by omega) (by omega)
    rw [f_X0_nextFreeBeside_L4, pR_n, hn, if_neg (nI_ge (show w + 1 + i < n by omega) (by omega)), inb8 hk8, itt, inb8 hw8, itt, cl8 hk8, cl8 hw8, pR_2', pR_2', nI_succ']
    by_cases g2 : R (sp (w + 1 + i) 1) = R (sp w 1)
    · rw [if_pos g2, k_isFree j V R hk8, Option.bind_some]
      dsimp only
      have g1 : ¬ R (sp (w + 1 + i) 5) = -1 := fun g1 => by rw [hit_iff.mpr ⟨g1, g2⟩] at hnh; cases hnh
      rw [if_neg g1, if_pos rfl]
      rfl
    · rw [if_neg g2]
      rfl
theorem k_collide {n T : Nat} (j : Nat) (V : VV) {R : Row} (hf : Wf n T R) : f_X0_collide j (pR j V R) = some (pR j V (itW (colR n) n R)) := by
  have h8 := hf.1
  have hW : ∀ i, i ≤ n → Wf n T (itW (colR n) i R) := fun i hi => itW_ind (P := Wf n T) (N := n) (fun w R hw h => h.col hw) i R hi hf
  unfold f_X0_collide
  refine loopF (F := fun fuel w => f_X0_collide_L2 j fuel (nI w) (pR j V (itW (colR n) w R))) (n := n) ?_ ?_ n 0 200 (by omega) (by omega)
  · intro fuel
    show f_X0_collide_L2 j (fuel + 1) _ _ = _
    rw [f_X0_collide_L2, pR_n, (hW n (Nat.le_refl n)).2.1, if_pos (Int32.le_refl _)]
  · intro fuel w hw
    have hw8 : w < 8 := by omega
    have hQ := hW w (by omega)
    show f_X0_collide_L2 j (fuel + 1) _ _ = f_X0_collide_L2 j fuel _ (pR j V (colR n w (itW (colR n) w R)))
    generalize itW (colR n) w R = Q at hQ ⊢
    rw [f_X0_collide_L2, pR_n, hQ.2.1, if_neg (nI_ge hw (by omega)), k_isFree j V Q hw8, Option.bind_some]
    dsimp only
    rw [nI_succ', colR]
    by_cases g : Q (sp w 5) = -1
    · rw [if_pos g, if_neg (by decide), if_pos g, k_next j V h8 hQ.2.1 hw, Option.bind_some]
      dsimp only
      by_cases a : nxt Q n w < n
      · rw [if_pos a, if_pos a, k_hasT j V hQ.2.1 a h8, Option.bind_some]
        dsimp only
        rw [if_neg (by decide), k_keep j V Q hw8 (by omega), Option.bind_some]
      · rw [if_neg a, if_neg a, k_hasF, Option.bind_some]
        dsimp only
        rw [if_pos rfl, inb8 hw8, itt, itt, itt, cl8 hw8, pR_1, pR_2', pR_3]
        by_cases b1 : Q (sp w 0) = 5
        · rw [if_pos b1]
          by_cases b2 : Q (sp w 1) = Q (sp w 2)
          · rw [if_pos b2, if_pos (by simp [bail, b1, b2]), k_keep j V Q hw8 hw8, Option.bind_some]
          · rw [if_neg b2, if_neg (by simp [bail, b2])]
        · rw [if_neg b1, if_neg (by simp [bail, b1])]
    · rw [if_neg g, if_pos rfl, if_neg g]
def fI : Option Nat → Int32
  | none => -1
  | some u => nI u
theorem meetS_ok {n T : Nat} {c : Int32} {Q : Row} (hf : Wf n T Q) : ∀ w, w ≤ n → Wf n T (meetS c Q w).2 ∧ ∀ u, (meetS c Q w).1 = some u → u < w := by
  intro w
  induction w with
  | zero => intro _; exact ⟨hf, fun u h => by cases h⟩
  | succ w ih =>
    intro hw
    obtain ⟨h1, h2⟩ := ih (by omega)
    show Wf n T (mstep c w (meetS c Q w)).2 ∧ ∀ u, (mstep c w (meetS c Q w)).1 = some u → u < w + 1
    unfold mstep
    split
    · split
      · exact ⟨h1, fun u h => by cases h; omega⟩
      · rename_i u hu
        have := h2 u hu
        exact ⟨h1.keep (by omega) (by omega), fun u h => by cases h⟩
    · exact ⟨h1, fun u h => by have := h2 u h; omega⟩
theorem m_meetAt {n T : Nat} (V : VV) {Q : Row} (hf : Wf n T Q) (c : Int32) : f_X4_meetAt c (mR V Q) = some (mR V (meetR n c Q)) ∧ Wf n T (meetR n c Q) := by
  have h8 := hf.1
  refine ⟨?_, ?_⟩
  · unfold f_X4_meetAt
    refine loopF (F := fun fuel w => f_X4_meetAt_L4 fuel c (fI (meetS c Q w).1) (nI w) (mR V (meetS c Q w).2)) (n := n) ?_ ?_ n 0 200 (by omega) (by omega)
    · intro fuel
      show f_X4_meetAt_L4 (fuel + 1) _ _ _ _ = _
      obtain ⟨h1, h2⟩ := meetS_ok (c := c) hf n (Nat.le_refl n)
      unfold meetR mend
      generalize meetS c Q n = st at h1 h2 ⊢
      obtain ⟨f, S⟩ := st
      dsimp only at h1 h2 ⊢
      rw [f_X4_meetAt_L4, inb0, itt, mR_1, tn0, h1.2.1, if_pos (Int32.le_refl _)]
      cases f with
      | none => rw [if_pos (show fI none < 0 by decide)]
      | some u =>
        have hu := h2 u rfl
        have hu8 : u < 8 := by omega
        show (if nI u < 0 then _ else _) = _
        rw [if_neg (nI_pos (by omega))]
        show ((f_X4_its (nI u) 0 (mR V S)).bind _) = _
        rw [m_its0 V S hu8, Option.bind_some]
        dsimp only
        by_cases b1 : S (sp u 0) = 5
        · rw [if_pos b1]
          show ((f_X4_its (nI u) 2 (mR V S)).bind _) = _
          rw [m_its2 V S hu8, Option.bind_some]
          dsimp only
          by_cases b2 : S (sp u 2) = c
          · rw [if_pos b2, if_pos ⟨b1, b2⟩]
            show ((f_X4_keeps (nI u) (nI u) (mR V S)).bind _) = _
            rw [m_keeps V S hu8 hu8, Option.bind_some]
          · rw [if_neg b2, if_neg (fun z => b2 z.2)]
        · rw [if_neg b1, if_neg (fun z => b1 z.1)]
    · intro fuel w hw
      have hw8 : w < 8 := by omega
      obtain ⟨h1, h2⟩ := meetS_ok (c := c) hf w (by omega)
      show f_X4_meetAt_L4 (fuel + 1) _ _ _ _ = f_X4_meetAt_L4 fuel c (fI (mstep c w (meetS c Q w)).1) _ (mR V (mstep c w (meetS c Q w)).2)
      generalize meetS c Q w = st at h1 h2 ⊢
      obtain ⟨f, S⟩ := st
      dsimp only at h1 h2 ⊢
      rw [f_X4_meetAt_L4, inb0, itt, mR_1, tn0, h1.2.1, if_neg (nI_ge hw (by omega)), m_isFree V S hw8, Option.bind_some]
      dsimp only
      rw [nI_succ']
      unfold mstep
      dsimp only
      by_cases g1 : S (sp w 5) = -1
      · rw [if_pos g1, if_neg (by decide), m_its1 V S hw8, Option.bind_some]
        dsimp only
        by_cases g2 : S (sp w 1) = c
        · rw [if_pos g2, if_pos (hit_iff.mpr ⟨g1, g2⟩)]
          cases f with
          | none => rw [if_pos (show fI none < 0 by decide)]; rfl
          | some u =>
            have hu := h2 u rfl
            show (if nI u < 0 then _ else _) = _
            rw [if_neg (nI_pos (by omega))]
            show ((f_X4_keeps (nI u) (nI w) (mR V S)).bind _) = _
            rw [m_keeps V S (by omega) hw8, Option.bind_some]
            rfl
        · rw [if_neg g2, if_neg (fun z => g2 (hit_iff.mp z).2)]
      · rw [if_neg g1, if_pos rfl, if_neg (fun z => g1 (hit_iff.mp z).1)]
  · obtain ⟨h1, h2⟩ := meetS_ok (c := c) hf n (Nat.le_refl n)
    unfold meetR mend
    split
    · rename_i u hu
      have := h2 u hu
      split
      · exact h1.keep this this
      · exact h1
    · exact h1
/-- an hour goes -/
def hourR (n : Nat) (R : Row) : Row := if fogB R = true then upd (itW (colR n) n (itW allR n R)) 1 (itW (colR n) n (itW allR n R) 1 + 1) else upd (itW allR n (itW liftR n R)) 1 (itW allR n (itW liftR n R) 1 + 1)
theorem k_passHour {n T : Nat} (j : Nat) (V : VV) {R : Row} (hf : Wf n T R) : f_X0_passHour j (pR j V R) = some (pR j V (hourR n R)) := k_hour j V hf (fun _ h => k_collide j V h)
theorem m_goesHour {n T : Nat} (V : VV) {R : Row} (hf : Wf n T R) : f_X4_goesHour (mR V R) = some (mR V (hourR n R)) := by
  rw [m_hour V hf (mt := fun c => meetR n (nI c)) (fun c R' _ h => m_meetAt V h (nI c))]
  unfold hourR
  rw [col_meet (itW_ind (P := Wf n T) (N := n) (fun w R hw h => h.all hw) n R (Nat.le_refl n) hf)]
theorem Wf.tick {n T : Nat} {R : Row} (h : Wf n T R) : Wf n (T + 1) (upd R 1 (R 1 + 1)) := by
  obtain ⟨t, ht, e⟩ := h.2.2.1
  rw [e, nI_succ']
  exact (h.wide (Nat.le_succ T)).time (by omega)
theorem Wf.hour {n T : Nat} {R : Row} (h : Wf n T R) : Wf n (T + 1) (hourR n R) := by
  unfold hourR
  split
  · exact (itW_ind (P := Wf n T) (N := n) (fun w R hw h => h.col hw) n _ (Nat.le_refl n) (itW_ind (P := Wf n T) (N := n) (fun w R hw h => h.all hw) n R (Nat.le_refl n) h)).tick
  · exact (itW_ind (P := Wf n T) (N := n) (fun w R hw h => h.all hw) n _ (Nat.le_refl n) (itW_ind (P := Wf n T) (N := n) (fun w R _ h => h.lift) n R (Nat.le_refl n) h)).tick
theorem Z60.hour {n T : Nat} {R : Row} (hz : Z60 R) (h : Wf n T R) : Z60 (hourR n R) := by
  have h8 := h.1
  have a1 : ∀ Q, Wf n T Q ∧ Z60 Q → Wf n T (itW allR n Q) ∧ Z60 (itW allR n Q) := fun Q hQ => itW_ind (P := fun Q => Wf n T Q ∧ Z60 Q) (N := n) (fun w R hw h => ⟨h.1.all hw, h.2.all h.1 hw⟩) n Q (Nat.le_refl n) hQ
  unfold hourR
  split
  · obtain ⟨b1, b2⟩ := a1 R ⟨h, hz⟩
    exact (itW_ind (P := Z60) (N := n) (fun w R hw h => h.col h8 hw) n _ (Nat.le_refl n) b2).up (by omega)
  · have b := itW_ind (P := fun Q => Wf n T Q ∧ Z60 Q) (f := liftR) (N := n) (fun w R hw h => ⟨h.1.lift, h.2.lift (by omega)⟩) n R (Nat.le_refl n) ⟨h, hz⟩
    exact (a1 _ b).2.up (by omega)
/-- hours go on -/
def onR (n k : Nat) (R : Row) : Row := itR (hourR n) k R
theorem onR_s (n k : Nat) (R : Row) : hourR n (onR n k R) = onR n (k + 1) R := rfl
theorem on_ok {n T : Nat} {R : Row} (h : Wf n T R) (hz : Z60 R) : ∀ k, Wf n (T + k) (onR n k R) ∧ Z60 (onR n k R) := by
  intro k
  induction k with
  | zero => exact ⟨h, hz⟩
  | succ k ih => exact ⟨ih.1.hour, ih.2.hour ih.1⟩
theorem k_pass {n T : Nat} (j : Nat) (V : VV) {R : Row} (hf : Wf n T R) (hz : Z60 R) {k : Nat} (hk : k < 199) : f_X0_pass j (nI k) (pR j V R) = some (pR j V (onR n k R)) := by
  unfold f_X0_pass
  refine loopF (F := fun fuel i => f_X0_pass_L2 j fuel (nI k) (nI i) (pR j V (onR n i R))) (n := k) ?_ ?_ k 0 200 (by omega) (by omega)
  · intro fuel
    show f_X0_pass_L2 j (fuel + 1) _ _ _ = _
    rw [f_X0_pass_L2, if_pos (Int32.le_refl _)]
  · intro fuel i hi
    show f_X0_pass_L2 j (fuel + 1) _ _ _ = f_X0_pass_L2 j fuel _ _ _
    rw [f_X0_pass_L2, if_neg (nI_ge hi (by omega)), k_passHour j V (on_ok hf hz i).1, Option.bind_some, nI_succ', onR_s]
theorem m_hoursGo {n T : Nat} (V : VV) {R : Row} (hf : Wf n T R) (hz : Z60 R) {k : Nat} (hk : k < 199) : f_X4_hoursGo (nI k) (mR V R) = some (mR V (onR n k R)) := by
  unfold f_X4_hoursGo
  refine loopF (F := fun fuel i => f_X4_hoursGo_L2 fuel (nI k) (nI i) (mR V (onR n i R))) (n := k) ?_ ?_ k 0 200 (by omega) (by omega)
  · intro fuel
    show f_X4_hoursGo_L2 (fuel + 1) _ _ _ = _
    rw [f_X4_hoursGo_L2, if_pos (Int32.le_refl _)]
  · intro fuel i hi
    show f_X4_hoursGo_L2 (fuel + 1) _ _ _ = f_X4_hoursGo_L2 fuel _ _ _
    rw [f_X4_hoursGo_L2, if_neg (nI_ge hi (by omega)), m_goesHour V (on_ok hf hz i).1, Option.bind_some, nI_succ', onR_s]
end
section
/-! ===== PURE: rows copied ===== -/
def sR (V : VV) (c : Nat) (R : Row) : VV := (fun c' => if c' = c then R else V.1 c', V.2)
theorem sR_eq (V : VV) (c : Nat) (R : Row) : (sR V c R).1 c = R := by simp [sR]
theorem sR_ne (V : VV) {c d : Nat} (R : Row) (h : d ≠ c) : (sR V c R).1 d = V.1 d := by simp [sR, h]
theorem sR_2 (V : VV) (c : Nat) (R : Row) : (sR V c R).2 = V.2 := rfl
theorem sR_w (V : VV) (c : Nat) (R : Row) (p : Nat) (v : Int32) : wI (sR V c R) c p v = sR V c (upd R p v) := by
  apply vv_ext
  · intro d k
    by_cases h : d = c
    · subst h; rw [wI_eq, sR_eq, sR_eq]
    · rw [wI_ne h, sR_ne _ _ h, sR_ne _ _ h]
  · rfl
theorem sR_self (V : VV) (c : Nat) : sR V c (V.1 c) = V := by
  apply vv_ext
  · intro d k
    by_cases h : d = c
    · subst h; rw [sR_eq]
    · rw [sR_ne _ _ h]
  · rfl
theorem mR_sR (V : VV) (R : Row) : mR V R = sR V 1 R := rfl
def mixR (k : Nat) (S D : Row) : Row := fun p => if p < k then S p else D p
theorem mix0 (S D : Row) : mixR 0 S D = D := by funext p; simp [mixR]
theorem mixS (k : Nat) (S D : Row) : upd (mixR k S D) k (S k) = mixR (k + 1) S D := by
  funext p
  by_cases h : p = k
  · rw [h, upd_eq]; simp [mixR]
  · rw [upd_ne h]
    unfold mixR
    by_cases h2 : p < k
    · rw [if_pos h2, if_pos (by omega)]
    · rw [if_neg h2, if_neg (by omega)]
theorem mix60 {S D : Row} (hs : Z60 S) (hd : Z60 D) : mixR 60 S D = S := by
  funext p
  unfold mixR
  by_cases h : p < 60
  · rw [if_pos h]
  · rw [if_neg h, hs p (by omega), hd p (by omega)]
theorem inb60 {k : Nat} (h : k < 60) : inb (nI k) 60 = true := inb_nI h (by decide)
theorem le60 {k : Nat} (h : k < 60) : ¬ (60 : Int32) ≤ nI k := nI_ge h (by decide)
theorem m_saves (V : VV) (hs : Z60 (V.1 1)) (hd : Z60 (V.1 3)) : f_X4_saves V = some (sR V 3 (V.1 1)) := by
  unfold f_X4_saves
  have key := loopF (F := fun fuel k => f_X4_saves_L2 fuel (nI k) (sR V 3 (mixR k (V.1 1) (V.1 3)))) (n := 60) (res := some (sR V 3 (V.1 1))) ?_ ?_ 60 0 200 (by omega) (by omega)
  · rw [mix0, sR_self] at key
    exact key
  · intro fuel
    show f_X4_saves_L2 (fuel + 1) _ _ = _
    rw [f_X4_saves_L2, if_pos (by decide), mix60 hs hd]
  · intro fuel k hk
    show f_X4_saves_L2 (fuel + 1) _ _ = f_X4_saves_L2 fuel _ _
    rw [f_X4_saves_L2, if_neg (le60 hk), inb60 hk, itt, itt, cl_nI (by omega), sR_ne _ _ (show 1 ≠ 3 by decide), sR_w, mixS, nI_succ']
    rfl
theorem m_putsBack (V : VV) (hs : Z60 (V.1 3)) (hd : Z60 (V.1 1)) : f_X4_putsBack V = some (sR V 1 (V.1 3)) := by
  unfold f_X4_putsBack
  have key := loopF (F := fun fuel k => f_X4_putsBack_L2 fuel (nI k) (sR V 1 (mixR k (V.1 3) (V.1 1)))) (n := 60) (res := some (sR V 1 (V.1 3))) ?_ ?_ 60 0 200 (by omega) (by omega)
  · rw [mix0, sR_self] at key
    exact key
  · intro fuel
    show f_X4_putsBack_L2 (fuel + 1) _ _ = _
    rw [f_X4_putsBack_L2, if_pos (by decide), mix60 hs hd]
  · intro fuel k hk
    show f_X4_putsBack_L2 (fuel + 1) _ _ = f_X4_putsBack_L2 fuel _ _
    rw [f_X4_putsBack_L2, if_neg (le60 hk), inb60 hk, itt, itt, cl_nI (by omega), sR_ne _ _ (show 3 ≠ 1 by decide), sR_w, mixS, nI_succ']
    rfl
theorem m_laysAside (V : VV) (hs : Z60 (V.1 1)) (hd : Z60 (V.1 4)) : f_X4_laysAside V = some (sR V 4 (V.1 1)) := by
  unfold f_X4_laysAside
  have key := loopF (F := fun fuel k => f_X4_laysAside_L2 fuel (nI k) (sR V 4 (mixR k (V.1 1) (V.1 4)))) (n := 60) (res := some (sR V 4 (V.1 1))) ?_ ?_ 60 0 200 (by omega) (by omega)
  · rw [mix0, sR_self] at key
    exact key
  · intro fuel
    show f_X4_laysAside_L2 (fuel + 1) _ _ = _
    rw [f_X4_laysAside_L2, if_pos (by decide), mix60 hs hd]
  · intro fuel k hk
    show f_X4_laysAside_L2 (fuel + 1) _ _ = f_X4_laysAside_L2 fuel _ _
    rw [f_X4_laysAside_L2, if_neg (le60 hk), inb60 hk, itt, itt, cl_nI (by omega), sR_ne _ _ (show 1 ≠ 4 by decide), sR_w, mixS, nI_succ']
    rfl
theorem m_takesBack (V : VV) (a : Int32) (hs : Z60 (V.1 4)) (hd : Z60 (V.1 1)) : f_X4_takesBack a V = some (a, sR V 1 (V.1 4)) := by
  unfold f_X4_takesBack
  have key := loopF (F := fun fuel k => f_X4_takesBack_L2 fuel a (nI k) (sR V 1 (mixR k (V.1 4) (V.1 1)))) (n := 60) (res := some (a, sR V 1 (V.1 4))) ?_ ?_ 60 0 200 (by omega) (by omega)
  · rw [mix0, sR_self] at key
    exact key
  · intro fuel
    show f_X4_takesBack_L2 (fuel + 1) _ _ _ = _
    rw [f_X4_takesBack_L2, if_pos (by decide), mix60 hs hd]
  · intro fuel k hk
    show f_X4_takesBack_L2 (fuel + 1) _ _ _ = f_X4_takesBack_L2 fuel _ _ _
    rw [f_X4_takesBack_L2, if_neg (le60 hk), inb60 hk, itt, itt, cl_nI (by omega), sR_ne _ _ (show 4 ≠ 1 by decide), sR_w, mixS, nI_succ']
    rfl
theorem m_image (V : VV) (hs : Z60 (V.1 1)) (hd : Z60 (V.1 2)) : f_X4_image V = some (1, wI (sR V 2 (V.1 1)) 0 5 1) := by
  unfold f_X4_image
  have key := loopF (F := fun fuel k => f_X4_image_L2 fuel (nI k) (sR V 2 (mixR k (V.1 1) (V.1 2)))) (n := 60) (res := some (1, wI (sR V 2 (V.1 1)) 0 5 1)) ?_ ?_ 60 0 200 (by omega) (by omega)
  · rw [mix0, sR_self] at key
    exact key
  · intro fuel
    show f_X4_image_L2 (fuel + 1) _ _ = _
    rw [f_X4_image_L2, if_pos (by decide), mix60 hs hd]
    rfl
  · intro fuel k hk
    show f_X4_image_L2 (fuel + 1) _ _ = f_X4_image_L2 fuel _ _
    rw [f_X4_image_L2, if_neg (le60 hk), inb60 hk, itt, itt, cl_nI (by omega), sR_ne _ _ (show 1 ≠ 2 by decide), sR_w, mixS, nI_succ']
    rfl
theorem m_undoL (V : VV) (hs : Z60 (V.1 2)) (hd : Z60 (V.1 1)) : f_X4_undo_L16 200 0 V = some (V.1 2 0, sR V 1 (V.1 2)) := by
  have key := loopF (F := fun fuel k => f_X4_undo_L16 fuel (nI k) (sR V 1 (mixR k (V.1 2) (V.1 1)))) (n := 60) (res := some (V.1 2 0, sR V 1 (V.1 2))) ?_ ?_ 60 0 200 (by omega) (by omega)
  · rw [mix0, sR_self] at key
    exact key
  · intro fuel
    show f_X4_undo_L16 (fuel + 1) _ _ = _
    rw [f_X4_undo_L16, if_pos (by decide), mix60 hs hd, inb0, itt, sR_eq, tn0]
  · intro fuel k hk
    show f_X4_undo_L16 (fuel + 1) _ _ = f_X4_undo_L16 fuel _ _
    rw [f_X4_undo_L16, if_neg (le60 hk), inb60 hk, itt, itt, cl_nI (by omega), sR_ne _ _ (show 2 ≠ 1 by decide), sR_w, mixS, nI_succ']
    rfl
/-! the class copies moors -/
theorem pR_i {i j : Nat} (h : i ≠ j) (V : VV) (R : Row) (d k : Nat) (hd : d < 8) : (pR j V R).1 (8 * i + d) k = V.1 (8 * i + d) k := by
  simp only [pR]
  rw [if_neg (by omega), if_neg (by omega)]
theorem pR_i0 {i j : Nat} (h : i ≠ j) (V : VV) (R : Row) (k : Nat) : (pR j V R).1 (8 * i) k = V.1 (8 * i) k := pR_i h V R 0 k (by decide)
def cpR (b : Nat) (S R : Row) : Row := fun p => if 4 ≤ p ∧ (p - 4) % 7 = b ∧ (p - 4) / 7 < 8 then S p else R p
theorem pR_cp {i j : Nat} (h : i ≠ j) (V : VV) (R : Row) (k : Nat) (h0 : 0 < k) (h8 : k < 8) : cpI (pR j V R) (8 * j + k) (8 * i + k) 0 0 8 = pR j V (cpR (k - 1) (rowC i V) R) := by
  apply vv_ext
  · intro c w
    by_cases hc : c = 8 * j + k
    · subst hc
      rw [cpI_eq, pR_a j V _ k w h0 h8]
      unfold va_cpy cpR
      have e1 : (sp w (k - 1) - 4) % 7 = k - 1 := by unfold sp; omega
      have e2 : (sp w (k - 1) - 4) / 7 = w := by unfold sp; omega
      rw [e1, e2]
      by_cases hw : w < 8
      · rw [if_pos ⟨by omega, by omega⟩, if_pos ⟨sp_ge _ _, rfl, hw⟩]
        rw [Nat.zero_add, Nat.sub_zero, pR_i h V R k w h8]
        unfold rowC
        have := sp_ge w (k - 1)
        rw [if_neg (by omega), if_neg (by omega), if_neg (by omega), if_neg (by omega), e1, e2, show 8 * i + 1 + (k - 1) = 8 * i + k by omega]
      · rw [if_neg (fun z => hw (by omega)), if_neg (fun z => hw z.2.2), pR_a j V R k w h0 h8]
    · rw [cpI_ne hc]
      have e : ∀ p, ¬ (4 ≤ p ∧ (p - 4) % 7 = k - 1) → cpR (k - 1) (rowC i V) R p = R p := fun p hp => by unfold cpR; rw [if_neg (fun z => hp ⟨z.1, z.2.1⟩)]
      unfold pR
      dsimp only
      rw [e 0 (by omega), e 1 (by omega), e 2 (by omega), e 3 (by omega)]
      by_cases c8 : c = 8 * j
      · rw [if_pos c8, if_pos c8]
      · rw [if_neg c8, if_neg c8]
        by_cases c9 : 8 * j < c ∧ c < 8 * j + 8
        · rw [if_pos c9, if_pos c9, e _ (by omega)]
        · rw [if_neg c9, if_neg c9]
  · rfl
theorem cpok8 : cpok 0 0 8 8 8 = true := by decide
theorem tn8 : Int32.toNatClampNeg 8 = 8 := by decide
theorem row_at (i : Nat) (V : VV) : rowC i V 0 = V.1 (8 * i) 3 ∧ rowC i V 1 = V.1 (8 * i) 0 ∧ rowC i V 2 = V.1 (8 * i) 1 ∧ rowC i V 3 = V.1 (8 * i) 2 := by
  refine ⟨rfl, rfl, rfl, rfl⟩
theorem k_takeFrom {i j : Nat} (h : i ≠ j) (V : VV) (hs : Z60 (rowC i V)) (hd : Z60 (rowC j V)) : f_X0_takeFrom j i V = some (pR j V (rowC i V)) := by
  have e0 := pR_row j V
  generalize hR : rowC j V = R at e0 hd
  have main : f_X0_takeFrom j i (pR j V R) = some (pR j V (rowC i V)) := by
    unfold f_X0_takeFrom
    simp only [bV, pR_i0 h, pR_wt, pR_wf, pR_wv, pR_wn, cpok8, itt, if_true, tn0, tn8, pR_cp h V _ 1 (by decide) (by decide), pR_cp h V _ 2 (by decide) (by decide), pR_cp h V _ 3 (by decide) (by decide), pR_cp h V _ 4 (by decide) (by decide), pR_cp h V _ 5 (by decide) (by decide), pR_cp h V _ 6 (by decide) (by decide), pR_cp h V _ 7 (by decide) (by decide)]
    congr 2
    funext p
    obtain ⟨r0, r1, r2, r3⟩ := row_at i V
    have q : ∀ b S Q, p < 4 → cpR b S Q p = Q p := fun b S Q hp => by unfold cpR; rw [if_neg (by omega)]
    by_cases hp : p < 4
    · rw [q _ _ _ hp, q _ _ _ hp, q _ _ _ hp, q _ _ _ hp, q _ _ _ hp, q _ _ _ hp, q _ _ _ hp]
      rcases (show p = 0 ∨ p = 1 ∨ p = 2 ∨ p = 3 by omega) with rfl | rfl | rfl | rfl
      · rw [upd_eq, r0]
      · rw [upd_ne (by decide), upd_ne (by decide), upd_ne (by decide), upd_eq, r1]
      · rw [upd_ne (by decide), upd_ne (by decide), upd_eq, r2]
      · rw [upd_ne (by decide), upd_eq, r3]
    · by_cases h60 : p < 60
      · have hit : ∀ b S Q, (p - 4) % 7 = b → cpR b S Q p = S p := fun b S Q hb => by unfold cpR; rw [if_pos ⟨by omega, hb, by omega⟩]
        have mis : ∀ b S Q, (p - 4) % 7 ≠ b → cpR b S Q p = Q p := fun b S Q hb => by unfold cpR; rw [if_neg (fun z => hb z.2.1)]
        rcases (show (p - 4) % 7 = 0 ∨ (p - 4) % 7 = 1 ∨ (p - 4) % 7 = 2 ∨ (p - 4) % 7 = 3 ∨ (p - 4) % 7 = 4 ∨ (p - 4) % 7 = 5 ∨ (p - 4) % 7 = 6 by omega) with m | m | m | m | m | m | m
        · rw [mis (7 - 1) _ _ (by omega), mis (6 - 1) _ _ (by omega), mis (5 - 1) _ _ (by omega), mis (4 - 1) _ _ (by omega), mis (3 - 1) _ _ (by omega), mis (2 - 1) _ _ (by omega), hit (1 - 1) _ _ (by omega)]
        · rw [mis (7 - 1) _ _ (by omega), mis (6 - 1) _ _ (by omega), mis (5 - 1) _ _ (by omega), mis (4 - 1) _ _ (by omega), mis (3 - 1) _ _ (by omega), hit (2 - 1) _ _ (by omega)]
        · rw [mis (7 - 1) _ _ (by omega), mis (6 - 1) _ _ (by omega), mis (5 - 1) _ _ (by omega), mis (4 - 1) _ _ (by omega), hit (3 - 1) _ _ (by omega)]
        · rw [mis (7 - 1) _ _ (by omega), mis (6 - 1) _ _ (by omega), mis (5 - 1) _ _ (by omega), hit (4 - 1) _ _ (by omega)]
        · rw [mis (7 - 1) _ _ (by omega), mis (6 - 1) _ _ (by omega), hit (5 - 1) _ _ (by omega)]
        · rw [mis (7 - 1) _ _ (by omega), hit (6 - 1) _ _ (by omega)]
        · rw [hit (7 - 1) _ _ (by omega)]
      · have far : ∀ b S Q, cpR b S Q p = Q p := fun b S Q => by unfold cpR; rw [if_neg (fun z => by omega)]
        rw [far, far, far, far, far, far, far, upd_ne (by omega), upd_ne (by omega), upd_ne (by omega), upd_ne (by omega), hs p (by omega), hd p (by omega)]
  rw [e0] at main
  exact main
end
section
/-! ===== PURE: the relation between the class's state and the reference's ===== -/
def FogOk (R : Row) : Prop := ∃ f : Nat, f < 16777216 ∧ R 2 = nI f
def RA (n : Nat) (VC VM : VV) : Prop := rowC 0 VC = VM.1 1 ∧ Wf n 99999 (VM.1 1) ∧ FogOk (VM.1 1) ∧ Z60 (VM.1 1)
def RZ (VC VM : VV) : Prop := Z60 (VM.1 2) ∧ Z60 (VM.1 3) ∧ Z60 (VM.1 4) ∧ Z60 (rowC 1 VC) ∧ Z60 (rowC 2 VC)
def RK (VC VM : VV) : Prop := VC.1 24 3 = VM.1 0 5 ∧ (VM.1 0 5 = 0 ∨ (rowC 2 VC = VM.1 2 ∧ FogOk (VM.1 2) ∧ ∃ m, Wf m 99999 (VM.1 2)))
def RT (VC VM : VV) : Prop := VC.1 25 0 = VM.1 0 9 ∧ (∃ t : Nat, t ≤ 120 ∧ VM.1 0 9 = nI t) ∧ VC.1 26 = VM.1 6 ∧ ∀ k, ∃ b : Nat, b < 256 ∧ VM.1 6 k = nI b
def RF (VC VM : VV) : Prop := VC.1 28 = VM.1 5
def RS (VC VM : VV) : Prop := ∀ k, k < 4 → VC.1 (29 + 2 * k) 0 = VM.1 7 k ∧ (VM.1 7 k = 0 ∨ VM.1 7 k = 8 ∨ VM.1 7 k = 16 ∨ VM.1 7 k = 64) ∧ VC.1 (29 + 2 * k) 1 = VM.1 8 k ∧ (∃ z : Nat, z ≤ 40 ∧ VM.1 8 k = nI z) ∧ ∀ i, i < 40 → VC.2 (29 + 2 * k + 1) i = VM.2 9 (40 * k + i)
def Rel (VC VM : VV) : Prop := (∃ n, RA n VC VM) ∧ RZ VC VM ∧ RK VC VM ∧ RT VC VM ∧ RF VC VM ∧ RS VC VM
theorem Rel.row {VC VM : VV} (h : Rel VC VM) {n : Nat} {R : Row} (h1 : Wf n 99999 R) (h2 : FogOk R) (h3 : Z60 R) : Rel (pR 0 VC R) (mR VM R) := by
  obtain ⟨⟨n0, a1, a2, a3, a4⟩, ⟨z1, z2, z3, z4, z5⟩, ⟨k1, k2⟩, ⟨t1, t2, t3, t4⟩, f, s⟩ := h
  refine ⟨⟨n, by rw [rowC_pR, mR_1], by rw [mR_1]; exact h1, by rw [mR_1]; exact h2, by rw [mR_1]; exact h3⟩, ⟨?_, ?_, ?_, ?_, ?_⟩, ⟨?_, ?_⟩, ⟨?_, ?_, ?_, ?_⟩, ?_, fun k hk => ?_⟩
  · rw [mR_ne _ _ (by decide)]; exact z1
  · rw [mR_ne _ _ (by decide)]; exact z2
  · rw [mR_ne _ _ (by decide)]; exact z3
  · rw [rowC_pR_ne (by decide)]; exact z4
  · rw [rowC_pR_ne (by decide)]; exact z5
  · rw [pR_far _ _ (by decide) (by decide), mR_ne _ _ (by decide)]; exact k1
  · rw [rowC_pR_ne (by decide), mR_ne _ _ (show 0 ≠ 1 by decide), mR_ne _ _ (show 2 ≠ 1 by decide)]; exact k2
  · rw [pR_far _ _ (by decide) (by decide), mR_ne _ _ (by decide)]; exact t1
  · rw [mR_ne _ _ (by decide)]; exact t2
  · rw [pR_far _ _ (by decide) (by decide), mR_ne _ _ (by decide)]; exact t3
  · rw [mR_ne _ _ (by decide)]; exact t4
  · show (pR 0 VC R).1 28 = (mR VM R).1 5
    rw [pR_far _ _ (by decide) (by decide), mR_ne _ _ (by decide)]; exact f
  · rw [pR_far _ _ (by decide) (by omega), mR_ne _ _ (show 7 ≠ 1 by decide), mR_ne _ _ (show 8 ≠ 1 by decide), pR_2, mR_2]; exact s k hk
theorem Rel.trial {VC VM : VV} (h : Rel VC VM) {Q : Row} (hq : Z60 Q) : Rel (pR 1 VC Q) VM := by
  obtain ⟨⟨n0, a1, a2, a3, a4⟩, ⟨z1, z2, z3, z4, z5⟩, ⟨k1, k2⟩, ⟨t1, t2, t3, t4⟩, f, s⟩ := h
  refine ⟨⟨n0, by rw [rowC_pR_ne (by decide)]; exact a1, a2, a3, a4⟩, ⟨z1, z2, z3, by rw [rowC_pR]; exact hq, by rw [rowC_pR_ne (by decide)]; exact z5⟩, ⟨?_, ?_⟩, ⟨?_, t2, ?_, t4⟩, ?_, fun k hk => ?_⟩
  · rw [pR_far _ _ (by decide) (by decide)]; exact k1
  · rw [rowC_pR_ne (by decide)]; exact k2
  · rw [pR_far _ _ (by decide) (by decide)]; exact t1
  · rw [pR_far _ _ (by decide) (by decide)]; exact t3
  · show (pR 1 VC Q).1 28 = VM.1 5
    rw [pR_far _ _ (by decide) (by decide)]; exact f
  · rw [pR_far _ _ (by decide) (by omega), pR_2]; exact s k hk
theorem Rel.aside {VC VM : VV} (h : Rel VC VM) {c : Nat} (hc : c = 3 ∨ c = 4) {Q : Row} (hq : Z60 Q) : Rel VC (sR VM c Q) := by
  obtain ⟨⟨n0, a1, a2, a3, a4⟩, ⟨z1, z2, z3, z4, z5⟩, ⟨k1, k2⟩, ⟨t1, t2, t3, t4⟩, f, s⟩ := h
  have e : ∀ d, d ≠ 3 → d ≠ 4 → (sR VM c Q).1 d = VM.1 d := fun d h3 h4 => sR_ne _ _ (by omega)
  refine ⟨⟨n0, by rw [e 1 (by decide) (by decide)]; exact a1, by rw [e 1 (by decide) (by decide)]; exact a2, by rw [e 1 (by decide) (by decide)]; exact a3, by rw [e 1 (by decide) (by decide)]; exact a4⟩, ⟨by rw [e 2 (by decide) (by decide)]; exact z1, ?_, ?_, z4, z5⟩, ⟨?_, ?_⟩, ⟨?_, ?_, ?_, ?_⟩, ?_, fun k hk => ?_⟩
  · by_cases q : c = 3
    · subst q; rw [sR_eq]; exact hq
    · rw [sR_ne _ _ (by omega)]; exact z2
  · by_cases q : c = 4
    · subst q; rw [sR_eq]; exact hq
    · rw [sR_ne _ _ (by omega)]; exact z3
  · rw [e 0 (by decide) (by decide)]; exact k1
  · rw [e 0 (by decide) (by decide), e 2 (by decide) (by decide)]; exact k2
  · rw [e 0 (by decide) (by decide)]; exact t1
  · rw [e 0 (by decide) (by decide)]; exact t2
  · rw [e 6 (by decide) (by decide)]; exact t3
  · rw [e 6 (by decide) (by decide)]; exact t4
  · show VC.1 28 = (sR VM c Q).1 5
    rw [e 5 (by decide) (by decide)]; exact f
  · rw [e 7 (by decide) (by decide), e 8 (by decide) (by decide), sR_2]; exact s k hk
/-- the reference's own small numbers -/
theorem Rel.own {VC VM : VV} (h : Rel VC VM) {k : Nat} (hk : k = 6 ∨ k = 7 ∨ k = 10 ∨ k = 11 ∨ k = 12 ∨ k = 13) (v : Int32) : Rel VC (wI VM 0 k v) := by
  obtain ⟨⟨n0, a1, a2, a3, a4⟩, ⟨z1, z2, z3, z4, z5⟩, ⟨k1, k2⟩, ⟨t1, t2, t3, t4⟩, f, s⟩ := h
  have e : ∀ d, d ≠ 0 → (wI VM 0 k v).1 d = VM.1 d := fun d h => wI_ne h
  have e5 : (wI VM 0 k v).1 0 5 = VM.1 0 5 := by rw [wI_eq, upd_ne (by omega)]
  have e9 : (wI VM 0 k v).1 0 9 = VM.1 0 9 := by rw [wI_eq, upd_ne (by omega)]
  refine ⟨⟨n0, by rw [e 1 (by decide)]; exact a1, by rw [e 1 (by decide)]; exact a2, by rw [e 1 (by decide)]; exact a3, by rw [e 1 (by decide)]; exact a4⟩, ⟨by rw [e 2 (by decide)]; exact z1, by rw [e 3 (by decide)]; exact z2, by rw [e 4 (by decide)]; exact z3, z4, z5⟩, ⟨by rw [e5]; exact k1, by rw [e5, e 2 (by decide)]; exact k2⟩, ⟨by rw [e9]; exact t1, by rw [e9]; exact t2, by rw [e 6 (by decide)]; exact t3, by rw [e 6 (by decide)]; exact t4⟩, ?_, fun q hq => ?_⟩
  · show VC.1 28 = (wI VM 0 k v).1 5
    rw [e 5 (by decide)]; exact f
  · rw [e 7 (by decide), e 8 (by decide), wI_2]; exact s q hq
def fdC (i : Nat) (V : VV) : VV := wI V 28 i (V.1 28 i + 1)
def fdM (i : Nat) (V : VV) : VV := wI V 5 i (V.1 5 i + 1)
theorem rowC_far {j c k : Nat} {v : Int32} (V : VV) (hj : j < 3) (hc : 24 ≤ c) : rowC j (wI V c k v) = rowC j V := by
  funext p
  unfold rowC
  rw [wI_ne (show 8 * j ≠ c by omega), wI_ne (show 8 * j + 1 + (p - 4) % 7 ≠ c by omega)]
theorem Rel.find {VC VM : VV} (h : Rel VC VM) (i : Nat) : Rel (fdC i VC) (fdM i VM) := by
  obtain ⟨⟨n0, a1, a2, a3, a4⟩, ⟨z1, z2, z3, z4, z5⟩, ⟨k1, k2⟩, ⟨t1, t2, t3, t4⟩, f, s⟩ := h
  have e : ∀ d, d ≠ 5 → (fdM i VM).1 d = VM.1 d := fun d h => wI_ne h
  have g : ∀ d, d ≠ 28 → (fdC i VC).1 d = VC.1 d := fun d h => wI_ne h
  have r : ∀ j, j < 3 → rowC j (fdC i VC) = rowC j VC := fun j hj => rowC_far VC hj (by decide)
  refine ⟨⟨n0, by rw [e 1 (by decide), r 0 (by decide)]; exact a1, by rw [e 1 (by decide)]; exact a2, by rw [e 1 (by decide)]; exact a3, by rw [e 1 (by decide)]; exact a4⟩, ⟨by rw [e 2 (by decide)]; exact z1, by rw [e 3 (by decide)]; exact z2, by rw [e 4 (by decide)]; exact z3, by rw [r 1 (by decide)]; exact z4, by rw [r 2 (by decide)]; exact z5⟩, ⟨by rw [e 0 (by decide), g 24 (by decide)]; exact k1, by rw [e 0 (by decide), e 2 (by decide), r 2 (by decide)]; exact k2⟩, ⟨by rw [e 0 (by decide), g 25 (by decide)]; exact t1, by rw [e 0 (by decide)]; exact t2, by rw [e 6 (by decide), g 26 (by decide)]; exact t3, by rw [e 6 (by decide)]; exact t4⟩, ?_, fun q hq => ?_⟩
  · show (wI VC 28 i (VC.1 28 i + 1)).1 28 = (wI VM 5 i (VM.1 5 i + 1)).1 5
    rw [wI_eq, wI_eq, show VC.1 28 = VM.1 5 from f]
  · rw [e 7 (by decide), e 8 (by decide), g _ (show 29 + 2 * q ≠ 28 by omega)]; exact s q hq
/-! findings -/
theorem m_find0 (V : VV) : f_X4_finds (-1000000001) V = some (-1000000001, fdM 0 V) := by
  unfold f_X4_finds
  rw [show ((-1000000001 : Int32) - (-1000000001)) = nI 0 by decide, inb_nI (show 0 < 7 by decide) (by decide), itt, itt, cl_nI (by decide)]
  rfl
theorem k_find0 (V : VV) : f_X3_finding (-1000000001) V = some (-1000000001, fdC 0 V) := by
  unfold f_X3_finding
  rw [show ((-1000000001 : Int32) - (-1000000001)) = nI 0 by decide, if_neg (nI_pos (by decide)), if_neg (by decide), inb_nI (show 0 < 7 by decide) (by decide), itt, itt, cl_nI (by decide)]
  rfl
theorem m_find1 (V : VV) : f_X4_finds (-1000000002) V = some (-1000000002, fdM 1 V) := by
  unfold f_X4_finds
  rw [show ((-1000000001 : Int32) - (-1000000002)) = nI 1 by decide, inb_nI (show 1 < 7 by decide) (by decide), itt, itt, cl_nI (by decide)]
  rfl
theorem k_find1 (V : VV) : f_X3_finding (-1000000002) V = some (-1000000002, fdC 1 V) := by
  unfold f_X3_finding
  rw [show ((-1000000001 : Int32) - (-1000000002)) = nI 1 by decide, if_neg (nI_pos (by decide)), if_neg (by decide), inb_nI (show 1 < 7 by decide) (by decide), itt, itt, cl_nI (by decide)]
  rfl
theorem m_find2 (V : VV) : f_X4_finds (-1000000003) V = some (-1000000003, fdM 2 V) := by
  unfold f_X4_finds
  rw [show ((-1000000001 : Int32) - (-1000000003)) = nI 2 by decide, inb_nI (show 2 < 7 by decide) (by decide), itt, itt, cl_nI (by decide)]
  rfl
theorem k_find2 (V : VV) : f_X3_finding (-1000000003) V = some (-1000000003, fdC 2 V) := by
  unfold f_X3_finding
  rw [show ((-1000000001 : Int32) - (-1000000003)) = nI 2 by decide, if_neg (nI_pos (by decide)), if_neg (by decide), inb_nI (show 2 < 7 by decide) (by decide), itt, itt, cl_nI (by decide)]
  rfl
theorem m_find3 (V : VV) : f_X4_finds (-1000000004) V = some (-1000000004, fdM 3 V) := by
  unfold f_X4_finds
  rw [show ((-1000000001 : Int32) - (-1000000004)) = nI 3 by decide, inb_nI (show 3 < 7 by decide) (by decide), itt, itt, cl_nI (by decide)]
  rfl
theorem k_find3 (V : VV) : f_X3_finding (-1000000004) V = some (-1000000004, fdC 3 V) := by
  unfold f_X3_finding
  rw [show ((-1000000001 : Int32) - (-1000000004)) = nI 3 by decide, if_neg (nI_pos (by decide)), if_neg (by decide), inb_nI (show 3 < 7 by decide) (by decide), itt, itt, cl_nI (by decide)]
  rfl
theorem m_find4 (V : VV) : f_X4_finds (-1000000005) V = some (-1000000005, fdM 4 V) := by
  unfold f_X4_finds
  rw [show ((-1000000001 : Int32) - (-1000000005)) = nI 4 by decide, inb_nI (show 4 < 7 by decide) (by decide), itt, itt, cl_nI (by decide)]
  rfl
theorem k_find4 (V : VV) : f_X3_finding (-1000000005) V = some (-1000000005, fdC 4 V) := by
  unfold f_X3_finding
  rw [show ((-1000000001 : Int32) - (-1000000005)) = nI 4 by decide, if_neg (nI_pos (by decide)), if_neg (by decide), inb_nI (show 4 < 7 by decide) (by decide), itt, itt, cl_nI (by decide)]
  rfl
theorem m_find5 (V : VV) : f_X4_finds (-1000000006) V = some (-1000000006, fdM 5 V) := by
  unfold f_X4_finds
  rw [show ((-1000000001 : Int32) - (-1000000006)) = nI 5 by decide, inb_nI (show 5 < 7 by decide) (by decide), itt, itt, cl_nI (by decide)]
  rfl
theorem k_find5 (V : VV) : f_X3_finding (-1000000006) V = some (-1000000006, fdC 5 V) := by
  unfold f_X3_finding
  rw [show ((-1000000001 : Int32) - (-1000000006)) = nI 5 by decide, if_neg (nI_pos (by decide)), if_neg (by decide), inb_nI (show 5 < 7 by decide) (by decide), itt, itt, cl_nI (by decide)]
  rfl
theorem m_find6 (V : VV) : f_X4_finds (-1000000007) V = some (-1000000007, fdM 6 V) := by
  unfold f_X4_finds
  rw [show ((-1000000001 : Int32) - (-1000000007)) = nI 6 by decide, inb_nI (show 6 < 7 by decide) (by decide), itt, itt, cl_nI (by decide)]
  rfl
theorem k_find6 (V : VV) : f_X3_finding (-1000000007) V = some (-1000000007, fdC 6 V) := by
  unfold f_X3_finding
  rw [show ((-1000000001 : Int32) - (-1000000007)) = nI 6 by decide, if_neg (nI_pos (by decide)), if_neg (by decide), inb_nI (show 6 < 7 by decide) (by decide), itt, itt, cl_nI (by decide)]
  rfl
/-! ranges -/
theorem cmp_lt (x y : Int64) : lg_cmp x y < 0 ↔ x < y := lg_cmp_lt x y
theorem cmp_gt (x y : Int64) : 0 < lg_cmp x y ↔ y < x := lg_cmp_gt x y
theorem m_in (a lo hi : Int32) (V : VV) : f_X4_in a.toInt64 lo.toInt64 hi.toInt64 V = some (if ¬ a < lo ∧ ¬ hi < a then 1 else 0, V) := by
  unfold f_X4_in
  by_cases h1 : a < lo
  · rw [if_pos ((cmp_lt _ _).mpr (Int32.toInt64_lt.mpr h1)), if_neg (fun z => z.1 h1)]
  · rw [if_neg (fun z => h1 (Int32.toInt64_lt.mp ((cmp_lt _ _).mp z)))]
    by_cases h2 : hi < a
    · rw [if_pos ((cmp_gt _ _).mpr (Int32.toInt64_lt.mpr h2)), if_neg (fun z => z.2 h2)]
    · rw [if_neg (fun z => h2 (Int32.toInt64_lt.mp ((cmp_gt _ _).mp z))), if_pos ⟨h1, h2⟩]
theorem m_inY (a lo hi : Int32) {lo' hi' : Int64} (e1 : lo' = lo.toInt64) (e2 : hi' = hi.toInt64) (V : VV) (h1 : ¬ a < lo) (h2 : ¬ hi < a) : f_X4_in a.toInt64 lo' hi' V = some (1, V) := by rw [e1, e2, m_in, if_pos ⟨h1, h2⟩]
theorem m_inN (a lo hi : Int32) {lo' hi' : Int64} (e1 : lo' = lo.toInt64) (e2 : hi' = hi.toInt64) (V : VV) (h : a < lo ∨ hi < a) : f_X4_in a.toInt64 lo' hi' V = some (0, V) := by rw [e1, e2, m_in, if_neg (fun z => h.elim z.1 z.2)]
/-- an int is one of 0 .. N-1, or not -/
theorem rng (x : Int32) (N : Nat) (hN : N < 2 ^ 31) : (x < 0 ∨ nI N ≤ x) ∨ ∃ j : Nat, j < N ∧ x = nI j := by
  rcases pk_ix x hN with h | h | h
  · exact Or.inl (Or.inl h)
  · exact Or.inl (Or.inr h)
  · exact Or.inr h
theorem lt_of_le_succ {x : Int32} {N : Nat} (hN : N + 1 < 2 ^ 31) : nI (N + 1) ≤ x → nI N < x := fun h => Int32.lt_of_lt_of_le (nI_lt (Nat.lt_succ_self N) hN) h
theorem m_isCell_y {j : Nat} (hj : j < 36) (V : VV) : f_X4_isCell (nI j) V = some (1, V) := by
  unfold f_X4_isCell
  rw [m_inY (nI j) 0 35 (by decide) (by decide) V (nI_pos (by omega)) (show ¬ nI 35 < nI j from nI_nlt (by omega) (by decide))]
  rfl
theorem m_isCell_n {a : Int32} (h : a < 0 ∨ nI 36 ≤ a) (V : VV) : f_X4_isCell a V = some (0, V) := by
  unfold f_X4_isCell
  rw [m_inN a 0 35 (by decide) (by decide) V (h.imp id (lt_of_le_succ (N := 35) (by decide)))]
  rfl
theorem k_isCell_y {j : Nat} (hj : j < 36) (V : VV) : f_X3_isCell (nI j) V = some (1, V) := by
  unfold f_X3_isCell
  rw [if_neg (nI_pos (by omega)), if_neg (show ¬ (36 : Int32) ≤ nI j from nI_ge hj (by decide))]
theorem k_isCell_n {a : Int32} (h : a < 0 ∨ nI 36 ≤ a) (V : VV) : f_X3_isCell a V = some (0, V) := by
  unfold f_X3_isCell
  by_cases h0 : a < 0
  · rw [if_pos h0]
  · rw [if_neg h0, if_pos (show (36 : Int32) ≤ a from h.resolve_left h0)]
theorem m_isKind_y {j : Nat} (hj : j < 6) (V : VV) : f_X4_isKind (nI j) V = some (1, V) := by
  unfold f_X4_isKind
  rw [m_inY (nI j) 0 5 (by decide) (by decide) V (nI_pos (by omega)) (show ¬ nI 5 < nI j from nI_nlt (by omega) (by decide))]
  rfl
theorem m_isKind_n {a : Int32} (h : a < 0 ∨ nI 6 ≤ a) (V : VV) : f_X4_isKind a V = some (0, V) := by
  unfold f_X4_isKind
  rw [m_inN a 0 5 (by decide) (by decide) V (h.imp id (lt_of_le_succ (N := 5) (by decide)))]
  rfl
theorem k_isKind_y {j : Nat} (hj : j < 6) (V : VV) : f_X3_isKind (nI j) V = some (1, V) := by
  unfold f_X3_isKind
  rw [if_neg (nI_pos (by omega)), if_neg (show ¬ (6 : Int32) ≤ nI j from nI_ge hj (by decide))]
theorem k_isKind_n {a : Int32} (h : a < 0 ∨ nI 6 ≤ a) (V : VV) : f_X3_isKind a V = some (0, V) := by
  unfold f_X3_isKind
  by_cases h0 : a < 0
  · rw [if_pos h0]
  · rw [if_neg h0, if_pos (show (6 : Int32) ≤ a from h.resolve_left h0)]
theorem m_isW_y {n j : Nat} (V : VV) {R : Row} (h8 : n ≤ 8) (hn : R 0 = nI n) (hj : j < n) : f_X4_isWalker (nI j) (mR V R) = some (1, mR V R) := by
  unfold f_X4_isWalker
  rw [inb0, itt, mR_1, tn0, hn, show nI n - 1 = nI (n - 1) from (pk_sub (b := 1) (by omega)), m_inY (nI j) 0 (nI (n - 1)) (by decide) rfl _ (nI_pos (by omega)) (nI_nlt (by omega) (by omega))]
  rfl
theorem m_isW_n {n : Nat} (V : VV) {R : Row} (h8 : n ≤ 8) (hn : R 0 = nI n) {a : Int32} (h : a < 0 ∨ nI n ≤ a) : f_X4_isWalker a (mR V R) = some (0, mR V R) := by
  unfold f_X4_isWalker
  rw [inb0, itt, mR_1, tn0, hn]
  have e : a < 0 ∨ nI n - 1 < a := by
    rcases h with h | h
    · exact Or.inl h
    · by_cases h0 : a < 0
      · exact Or.inl h0
      · refine Or.inr ?_
        cases n with
        | zero => exact Int32.lt_of_lt_of_le (show nI 0 - 1 < 0 by decide) (Int32.not_lt.mp h0)
        | succ n => rw [nI_pred]; exact lt_of_le_succ (by omega) h
  rw [m_inN a 0 (nI n - 1) (by decide) rfl _ e]
  rfl
theorem k_has_n {n : Nat} (j : Nat) (V : VV) {R : Row} (hn : R 0 = nI n) {a : Int32} (h : a < 0 ∨ nI n ≤ a) : f_X0_has j a (pR j V R) = some (0, pR j V R) := by
  rw [k_has, if_neg (fun z => h.elim z.1 (by rw [hn] at z; exact z.2))]
end
section
/-! ===== PURE: calls, the plain ones ===== -/
theorem one0 : ((1 : Int32) = 0) = False := eq_false (by decide)
theorem Rel.at {VC VM : VV} (h : Rel VC VM) : ∃ (n : Nat) (R : Row), Wf n 99999 R ∧ FogOk R ∧ Z60 R ∧ pR 0 VC R = VC ∧ mR VM R = VM ∧ rowC 0 VC = R ∧ VM.1 1 = R := by
  obtain ⟨n, a1, a2, a3, a4⟩ := h.1
  exact ⟨n, VM.1 1, a2, a3, a4, by rw [← a1, pR_row], mR_row VM, a1, rfl⟩
/-- an answer of both that is the same, and the relation again -/
abbrev Both (f g : Option (Int32 × VV)) : Prop := ∃ r VC' VM', f = some (r, VC') ∧ g = some (r, VM') ∧ Rel VC' VM'
theorem m_becomes (V : VV) (R : Row) {p : Nat} (hp : p < 60) (v : Int32) : f_X4_becomes (nI p) v (mR V R) = some (R p, mR V (upd R p v)) := by
  unfold f_X4_becomes
  rw [inb60 hp, itt, itt, cl_nI (by omega), mR_1, mR_w]
  rfl
theorem FogOk.up {R : Row} (h : FogOk R) {p : Nat} {v : Int32} (hp : p ≠ 2) : FogOk (upd R p v) := by
  obtain ⟨f, h1, h2⟩ := h
  exact ⟨f, h1, by rw [upd_ne (Ne.symm hp)]; exact h2⟩
theorem sp2 (w k : Nat) : sp w k ≠ 2 := by unfold sp; omega
theorem op_fog {VC VM : VV} (h : Rel VC VM) (a : Int32) : Both (f_X3_fog a VC) (f_X4_fog a VM) := by
  obtain ⟨n, R, hw, hf, hz, eC, eM, -, -⟩ := h.at
  unfold f_X3_fog f_X4_fog
  rcases rng a 16777216 (by decide) with ha | ⟨j, hj, rfl⟩
  · rw [m_inN a 0 16777215 (by decide) (by decide) VM (ha.imp id (lt_of_le_succ (N := 16777215) (by decide)))]
    by_cases h0 : a < 0
    · rw [if_pos h0]
      simp only [k_find0, m_find0, Option.bind_some, if_true, if_false, one0, eq_self, bV, itt]
      exact ⟨_, _, _, rfl, rfl, h.find 0⟩
    · rw [if_neg h0, if_neg (show ¬ a ≤ (16777215 : Int32) from Int32.not_le.mpr (lt_of_le_succ (N := 16777215) (by decide) (ha.resolve_left h0)))]
      simp only [k_find0, m_find0, Option.bind_some, if_true, if_false, one0, eq_self, bV, itt]
      exact ⟨_, _, _, rfl, rfl, h.find 0⟩
  · rw [m_inY (nI j) 0 16777215 (by decide) (by decide) VM (nI_pos (by omega)) (show ¬ nI 16777215 < nI j from nI_nlt (by omega) (by decide)), if_neg (nI_pos (by omega)), if_pos (show nI j ≤ (16777215 : Int32) from nI_le (b := 16777215) (by omega) (by decide))]
    rw [← eC, ← eM]
    simp only [Option.bind_some, if_true, if_false, one0, eq_self, bV, itt, pR_f, pR_wf, show (2 : Int32) = nI 2 from rfl, m_becomes VM R (show 2 < 60 by decide)]
    refine ⟨_, _, _, rfl, rfl, ?_⟩
    exact h.row hw.fog ⟨j, hj, upd_eq _ _ _⟩ (hz.up (by decide))
theorem op_village {VC VM : VV} (h : Rel VC VM) (a : Int32) : Both (f_X3_village a VC) (f_X4_village a VM) := by
  obtain ⟨n, R, hw, hf, hz, eC, eM, -, -⟩ := h.at
  unfold f_X3_village f_X4_village
  rcases rng a 36 (by decide) with ha | ⟨j, hj, rfl⟩
  · simp only [m_isCell_n ha, k_isCell_n ha, k_find0, m_find0, Option.bind_some, if_true, if_false, one0, eq_self, bV, itt]
    exact ⟨_, _, _, rfl, rfl, h.find 0⟩
  · simp only [m_isCell_y hj, k_isCell_y hj, Option.bind_some, if_true, if_false, one0, eq_self, bV, itt]
    rw [← eC, ← eM]
    simp only [pR_v, pR_wv, show (3 : Int32) = nI 3 from rfl, m_becomes VM R (show 3 < 60 by decide), Option.bind_some, if_true, if_false, one0, eq_self, bV, itt]
    refine ⟨_, _, _, rfl, rfl, ?_⟩
    exact h.row hw.vil (hf.up (by decide)) (hz.up (by decide))
theorem op_at {VC VM : VV} (h : Rel VC VM) (a : Int32) : Both (f_X3_at a VC) (f_X4_at a VM) := by
  obtain ⟨n, R, hw, hf, hz, eC, eM, -, -⟩ := h.at
  unfold f_X3_at f_X4_at
  rcases rng a 36 (by decide) with ha | ⟨j, hj, rfl⟩
  · simp only [m_isCell_n ha, k_isCell_n ha, k_find0, m_find0, Option.bind_some, if_true, if_false, one0, eq_self, bV, itt]
    exact ⟨_, _, _, rfl, rfl, h.find 0⟩
  · simp only [m_isCell_y hj, k_isCell_y hj, Option.bind_some, if_true, if_false, one0, eq_self, bV, itt]
    rw [← eC, ← eM]
    simp only [k_setAt 0 VC hw.1 hw.2.1, m_thoseAt VM hw.1 hw.2.1, Option.bind_some, if_true, if_false, one0, eq_self, bV, itt]
    refine ⟨_, _, _, rfl, rfl, ?_⟩
    rw [eC, eM]
    exact h
/-- one more comes -/
def comeR (n : Nat) (k c : Int32) (R : Row) : Row := upd (upd (upd (upd (upd (upd (upd (upd R (sp n 0) k) (sp n 1) c) (sp n 2) c) (sp n 3) 0) (sp n 4) 0) (sp n 5) (-1)) (sp n 6) (-1)) 0 (nI n + 1)
theorem come_0 (n : Nat) (k c : Int32) {R : Row} (hn : R 0 = nI n) : upd (upd (upd (upd (upd (upd (upd R (sp n 0) k) (sp n 1) c) (sp n 2) c) (sp n 3) 0) (sp n 4) 0) (sp n 5) (-1)) (sp n 6) (-1) 0 = nI n := by
  have e : ∀ k, 0 ≠ sp n k := fun k => by unfold sp; omega
  rw [upd_ne (e 6), upd_ne (e 5), upd_ne (e 4), upd_ne (e 3), upd_ne (e 2), upd_ne (e 1), upd_ne (e 0)]
  exact hn
theorem k_come {n : Nat} (j : Nat) (V : VV) {R : Row} (h8 : n < 8) (hn : R 0 = nI n) (k c : Int32) : f_X0_come j k c (pR j V R) = some (nI n, pR j V (comeR n k c R)) := by
  unfold f_X0_come f_X0_hasRoom
  rw [pR_n, hn, if_neg (show ¬ (8 : Int32) ≤ nI n from nI_ge h8 (by decide))]
  simp only [Option.bind_some, if_true, if_false, one0, eq_self, bV, itt, pR_n, hn, inb8 h8, cl8 h8, pR_w1, pR_w2, pR_w3, pR_w4, pR_w5, pR_w6, pR_w7, come_0 n k c hn, pR_wn]
  rfl
theorem m_adds {n : Nat} (V : VV) {R : Row} (h8 : n < 8) (hn : R 0 = nI n) (k c : Int32) : f_X4_adds k c (mR V R) = some (nI n, mR V (comeR n k c R)) := by
  unfold f_X4_adds
  simp only [Option.bind_some, if_true, if_false, one0, eq_self, bV, itt, inb0, tn0, mR_1, mR_w, hn, m_spot0, m_spot1, m_spot2, m_spot3, m_spot4, m_spot5, m_spot6, isp h8 (show 0 < 7 by decide), isp h8 (show 1 < 7 by decide), isp h8 (show 2 < 7 by decide), isp h8 (show 3 < 7 by decide), isp h8 (show 4 < 7 by decide), isp h8 (show 5 < 7 by decide), isp h8 (show 6 < 7 by decide), csp h8 (show 0 < 7 by decide), csp h8 (show 1 < 7 by decide), csp h8 (show 2 < 7 by decide), csp h8 (show 3 < 7 by decide), csp h8 (show 4 < 7 by decide), csp h8 (show 5 < 7 by decide), csp h8 (show 6 < 7 by decide), come_0 n k c hn]
  rfl
theorem come_at {n : Nat} {k c : Int32} {R : Row} {w b : Nat} (hb : b < 7) (hw : w ≠ n) : comeR n k c R (sp w b) = R (sp w b) := by
  have e : ∀ i, i < 7 → sp w b ≠ sp n i := fun i hi h => hw (sp_inj hb hi h).1
  unfold comeR
  rw [upd_ne (by unfold sp; omega), upd_ne (e 6 (by decide)), upd_ne (e 5 (by decide)), upd_ne (e 4 (by decide)), upd_ne (e 3 (by decide)), upd_ne (e 2 (by decide)), upd_ne (e 1 (by decide)), upd_ne (e 0 (by decide))]
theorem come_new {n : Nat} {k c : Int32} {R : Row} : comeR n k c R (sp n 0) = k ∧ comeR n k c R (sp n 1) = c ∧ comeR n k c R (sp n 3) = 0 ∧ comeR n k c R (sp n 5) = -1 := by
  have e : ∀ i j, i < 7 → j < 7 → i ≠ j → sp n i ≠ sp n j := fun i j hi hj h q => h (sp_inj hi hj q).2
  have z : ∀ i, sp n i ≠ 0 := fun i => by unfold sp; omega
  unfold comeR
  refine ⟨?_, ?_, ?_, ?_⟩
  · rw [upd_ne (z 0), upd_ne (e 0 6 (by decide) (by decide) (by decide)), upd_ne (e 0 5 (by decide) (by decide) (by decide)), upd_ne (e 0 4 (by decide) (by decide) (by decide)), upd_ne (e 0 3 (by decide) (by decide) (by decide)), upd_ne (e 0 2 (by decide) (by decide) (by decide)), upd_ne (e 0 1 (by decide) (by decide) (by decide)), upd_eq]
  · rw [upd_ne (z 1), upd_ne (e 1 6 (by decide) (by decide) (by decide)), upd_ne (e 1 5 (by decide) (by decide) (by decide)), upd_ne (e 1 4 (by decide) (by decide) (by decide)), upd_ne (e 1 3 (by decide) (by decide) (by decide)), upd_ne (e 1 2 (by decide) (by decide) (by decide)), upd_eq]
  · rw [upd_ne (z 3), upd_ne (e 3 6 (by decide) (by decide) (by decide)), upd_ne (e 3 5 (by decide) (by decide) (by decide)), upd_ne (e 3 4 (by decide) (by decide) (by decide)), upd_eq]
  · rw [upd_ne (z 5), upd_ne (e 5 6 (by decide) (by decide) (by decide)), upd_eq]
theorem Wf.come {n T : Nat} {R : Row} (h : Wf n T R) (h8 : n < 8) {k c : Nat} (hk : k < 6) (hc : c < 36) : Wf (n + 1) T (comeR n (nI k) (nI c) R) := by
  obtain ⟨g1, g2, g3, g4⟩ := h
  obtain ⟨c1, c2, c3, c4⟩ := come_new (n := n) (k := nI k) (c := nI c) (R := R)
  have z : ∀ i, 1 ≠ sp n i := fun i => by unfold sp; omega
  refine ⟨by omega, ?_, ?_, fun w hw => ?_⟩
  · unfold comeR; rw [upd_eq, nI_succ']
  · unfold comeR; rw [upd_ne (by decide), upd_ne (z 6), upd_ne (z 5), upd_ne (z 4), upd_ne (z 3), upd_ne (z 2), upd_ne (z 1), upd_ne (z 0)]; exact g3
  · by_cases e : w = n
    · subst e
      exact ⟨⟨k, hk, c1⟩, ⟨c, hc, c2⟩, ⟨0, by decide, c3⟩, Or.inl c4⟩
    · obtain ⟨a1, a2, a3, a4⟩ := g4 w (by omega)
      rw [come_at (by decide) e, come_at (by decide) e, come_at (by decide) e, come_at (by decide) e]
      exact ⟨a1, a2, a3, a4.imp id (fun ⟨q, hq, e⟩ => ⟨q, by omega, e⟩)⟩
theorem Z60.come {n : Nat} {R : Row} (h : Z60 R) (h8 : n < 8) {k c : Int32} : Z60 (comeR n k c R) := by
  have e : ∀ i, i < 7 → sp n i < 60 := fun i hi => sp_lt h8 hi
  exact (((((((h.up (e 0 (by decide))).up (e 1 (by decide))).up (e 2 (by decide))).up (e 3 (by decide))).up (e 4 (by decide))).up (e 5 (by decide))).up (e 6 (by decide))).up (by decide)
theorem FogOk.come {n : Nat} {R : Row} (h : FogOk R) {k c : Int32} : FogOk (comeR n k c R) :=
  ((((((((h.up (sp2 n 0)).up (sp2 n 1)).up (sp2 n 2)).up (sp2 n 3)).up (sp2 n 4)).up (sp2 n 5)).up (sp2 n 6)).up (by decide))
theorem op_walker {VC VM : VV} (h : Rel VC VM) (a b : Int32) : Both (f_X3_walker a b VC) (f_X4_walker a b VM) := by
  obtain ⟨n, R, hw, hf, hz, eC, eM, -, -⟩ := h.at
  unfold f_X3_walker f_X4_walker
  rcases rng a 6 (by decide) with ha | ⟨k, hk, rfl⟩
  · simp only [m_isKind_n ha, k_isKind_n ha, k_find0, m_find0, Option.bind_some, if_true, if_false, one0, eq_self, bV, itt]
    exact ⟨_, _, _, rfl, rfl, h.find 0⟩
  · rcases rng b 36 (by decide) with hb | ⟨c, hc, rfl⟩
    · simp only [m_isKind_y hk, k_isKind_y hk, m_isCell_n hb, k_isCell_n hb, k_find0, m_find0, Option.bind_some, if_true, if_false, one0, eq_self, bV, itt]
      exact ⟨_, _, _, rfl, rfl, h.find 0⟩
    · simp only [m_isKind_y hk, k_isKind_y hk, m_isCell_y hc, k_isCell_y hc, Option.bind_some, if_true, if_false, one0, eq_self, bV, itt, inb0, tn0]
      rw [← eC, ← eM, mR_1, hw.2.1]
      by_cases h8 : n < 8
      · have e8 : ¬ nI n = 8 := fun e => by have := (nI_eq (a := n) (b := 8) (by omega) (by decide)).mp e; omega
        have er : f_X0_hasRoom 0 (pR 0 VC R) = some (1, pR 0 VC R) := by unfold f_X0_hasRoom; rw [pR_n, hw.2.1, if_neg (show ¬ (8 : Int32) ≤ nI n from nI_ge h8 (by decide))]
        rw [if_neg e8]
        simp only [er, Option.bind_some, if_true, if_false, one0, eq_self, bV, itt, k_come 0 VC h8 hw.2.1, m_adds VM h8 hw.2.1]
        refine ⟨_, _, _, rfl, rfl, ?_⟩
        exact h.row (hw.come h8 hk hc) hf.come (hz.come h8)
      · have e8 : n = 8 := by have := hw.1; omega
        have er : f_X0_hasRoom 0 (pR 0 VC R) = some (0, pR 0 VC R) := by unfold f_X0_hasRoom; rw [pR_n, hw.2.1, e8, if_pos (show (8 : Int32) ≤ nI 8 by decide)]
        rw [e8, if_pos (show nI 8 = (8 : Int32) from rfl)]
        simp only [er, Option.bind_some, if_true, if_false, one0, eq_self, bV, itt, k_find1, m_find1]
        refine ⟨_, _, _, rfl, rfl, ?_⟩
        rw [eC, eM]
        exact h.find 1
theorem tell_at (V : VV) (R : Row) {w : Nat} (hw : w < 8) (j : Nat) : ∀ k, k < 7 → f_X0_tell j (nI w) (nI k) (pR j V R) = some (R (sp w k), pR j V R) := by
  intro k hk
  unfold f_X0_tell
  rcases (show k = 0 ∨ k = 1 ∨ k = 2 ∨ k = 3 ∨ k = 4 ∨ k = 5 ∨ k = 6 by omega) with rfl | rfl | rfl | rfl | rfl | rfl | rfl
  · rw [if_pos (by decide), inb8 hw, itt, cl8 hw, pR_1]
  · rw [if_neg (by decide), if_pos (by decide), inb8 hw, itt, cl8 hw, pR_2']
  · rw [if_neg (by decide), if_neg (by decide), if_pos (by decide), inb8 hw, itt, cl8 hw, pR_3]
  · rw [if_neg (by decide), if_neg (by decide), if_neg (by decide), if_pos (by decide), inb8 hw, itt, cl8 hw, pR_4]
  · rw [if_neg (by decide), if_neg (by decide), if_neg (by decide), if_neg (by decide), if_pos (by decide), inb8 hw, itt, cl8 hw, pR_5]
  · rw [if_neg (by decide), if_neg (by decide), if_neg (by decide), if_neg (by decide), if_neg (by decide), if_pos (by decide), inb8 hw, itt, cl8 hw, pR_6]
  · rw [if_neg (by decide), if_neg (by decide), if_neg (by decide), if_neg (by decide), if_neg (by decide), if_neg (by decide), if_pos (by decide), inb8 hw, itt, cl8 hw, pR_7]
theorem tell_7 (V : VV) (R : Row) {w : Nat} (hw : w < 8) (j : Nat) : f_X0_tell j (nI w) 7 (pR j V R) = some (stepsV (R (sp w 0)) (R 1), pR j V R) := by
  unfold f_X0_tell
  rw [if_neg (by decide), if_neg (by decide), if_neg (by decide), if_neg (by decide), if_neg (by decide), if_neg (by decide), if_neg (by decide), if_pos rfl, inb8 hw, itt, cl8 hw, pR_1, pR_t, k_stepsOf]
  rfl
theorem tell_8 (V : VV) (R : Row) {w : Nat} (hw : w < 8) (j : Nat) : f_X0_tell j (nI w) 8 (pR j V R) = some (turnsV (R (sp w 0)) (R 1), pR j V R) := by
  unfold f_X0_tell
  rw [if_neg (by decide), if_neg (by decide), if_neg (by decide), if_neg (by decide), if_neg (by decide), if_neg (by decide), if_neg (by decide), if_neg (by decide), inb8 hw, itt, cl8 hw, pR_1, pR_t, k_turnsOf]
  rfl
theorem op_of {VC VM : VV} (h : Rel VC VM) (a b : Int32) : Both (f_X3_of a b VC) (f_X4_of a b VM) := by
  obtain ⟨n, R, hw, hf, hz, eC, eM, -, -⟩ := h.at
  have h8 := hw.1
  unfold f_X3_of f_X4_of
  rcases rng a n (by omega) with ha | ⟨w, hwn, rfl⟩
  · rw [← eC, ← eM]
    simp only [m_isW_n VM h8 hw.2.1 ha, k_has_n 0 VC hw.2.1 ha, k_find0, m_find0, Option.bind_some, if_true, if_false, one0, eq_self, bV, itt]
    refine ⟨_, _, _, rfl, rfl, ?_⟩
    rw [eC, eM]; exact h.find 0
  · have hw8 : w < 8 := by omega
    rw [← eC, ← eM]
    simp only [m_isW_y VM h8 hw.2.1 hwn, k_hasT 0 VC hw.2.1 hwn h8, Option.bind_some, if_true, if_false, one0, eq_self, bV, itt]
    rcases rng b 9 (by decide) with hb | ⟨k, hk, rfl⟩
    · rw [m_inN b 0 8 (by decide) (by decide) _ (hb.imp id (lt_of_le_succ (N := 8) (by decide)))]
      by_cases h0 : b < 0
      · rw [if_pos h0]
        simp only [k_find0, m_find0, Option.bind_some, if_true, if_false, one0, eq_self, bV, itt]
        refine ⟨_, _, _, rfl, rfl, ?_⟩
        rw [eC, eM]; exact h.find 0
      · rw [if_neg h0, if_neg (show ¬ b ≤ (8 : Int32) from Int32.not_le.mpr (lt_of_le_succ (N := 8) (by decide) (hb.resolve_left h0)))]
        simp only [k_find0, m_find0, Option.bind_some, if_true, if_false, one0, eq_self, bV, itt]
        refine ⟨_, _, _, rfl, rfl, ?_⟩
        rw [eC, eM]; exact h.find 0
    · rw [m_inY (nI k) 0 8 (by decide) (by decide) _ (nI_pos (by omega)) (show ¬ nI 8 < nI k from nI_nlt (by omega) (by decide)), if_neg (nI_pos (by omega)), if_pos (show nI k ≤ (8 : Int32) from nI_le (b := 8) (by omega) (by decide))]
      simp only [Option.bind_some, if_true, if_false, one0, eq_self, bV, itt]
      by_cases h6 : k < 7
      · rw [if_neg (show ¬ (6 : Int32) < nI k from nI_nlt (a := 6) (by omega) (by decide)), m_its VM R hw8 h6, tell_at VC R hw8 0 k h6]
        simp only [Option.bind_some, if_true, if_false, one0, eq_self, bV, itt]
        refine ⟨_, _, _, rfl, rfl, ?_⟩
        rw [eC, eM]; exact h
      · rw [if_pos (show (6 : Int32) < nI k from nI_lt (a := 6) (by omega) (by omega))]
        rcases (show k = 7 ∨ k = 8 by omega) with rfl | rfl
        · rw [if_pos (show nI 7 = (7 : Int32) from rfl), m_stepsOf VM R hw8, show nI 7 = (7 : Int32) from rfl, tell_7 VC R hw8 0]
          simp only [Option.bind_some, if_true, if_false, one0, eq_self, bV, itt]
          refine ⟨_, _, _, rfl, rfl, ?_⟩
          rw [eC, eM]; exact h
        · rw [if_neg (show ¬ nI 8 = (7 : Int32) by decide), m_turnsOf VM R hw8, show nI 8 = (8 : Int32) from rfl, tell_8 VC R hw8 0]
          simp only [Option.bind_some, if_true, if_false, one0, eq_self, bV, itt]
          refine ⟨_, _, _, rfl, rfl, ?_⟩
          rw [eC, eM]; exact h
theorem op_turn {VC VM : VV} (h : Rel VC VM) (a b : Int32) : Both (f_X3_turn a b VC) (f_X4_turn a b VM) := by
  obtain ⟨n, R, hw, hf, hz, eC, eM, -, -⟩ := h.at
  have h8 := hw.1
  unfold f_X3_turn f_X4_turn
  rw [← eC, ← eM]
  rcases rng a n (by omega) with ha | ⟨w, hwn, rfl⟩
  · simp only [m_isW_n VM h8 hw.2.1 ha, k_has_n 0 VC hw.2.1 ha, k_find0, m_find0, Option.bind_some, if_true, if_false, one0, eq_self, bV, itt]
    refine ⟨_, _, _, rfl, rfl, ?_⟩
    rw [eC, eM]; exact h.find 0
  · have hw8 : w < 8 := by omega
    simp only [m_isW_y VM h8 hw.2.1 hwn, k_hasT 0 VC hw.2.1 hwn h8, Option.bind_some, if_true, if_false, one0, eq_self, bV, itt]
    rcases rng b 6 (by decide) with hb | ⟨k, hk, rfl⟩
    · simp only [m_isKind_n hb, k_isKind_n hb, k_find0, m_find0, Option.bind_some, if_true, if_false, one0, eq_self, bV, itt]
      refine ⟨_, _, _, rfl, rfl, ?_⟩
      rw [eC, eM]; exact h.find 0
    · simp only [m_isKind_y hk, k_isKind_y hk, Option.bind_some, if_true, if_false, one0, eq_self, bV, itt, inb8 hw8, cl8 hw8, pR_1, pR_w1, m_spot0, m_becomes VM R (sp_lt hw8 (show 0 < 7 by decide))]
      refine ⟨_, _, _, rfl, rfl, ?_⟩
      exact h.row (hw.kind hk) (hf.up (sp2 w 0)) (hz.up (sp_lt hw8 (by decide)))
theorem op_free {VC VM : VV} (h : Rel VC VM) (a : Int32) : Both (f_X3_free a VC) (f_X4_free a VM) := by
  obtain ⟨n, R, hw, hf, hz, eC, eM, -, -⟩ := h.at
  have h8 := hw.1
  unfold f_X3_free f_X4_free
  rw [← eC, ← eM]
  rcases rng a n (by omega) with ha | ⟨w, hwn, rfl⟩
  · simp only [m_isW_n VM h8 hw.2.1 ha, k_has_n 0 VC hw.2.1 ha, k_find0, m_find0, Option.bind_some, if_true, if_false, one0, eq_self, bV, itt]
    refine ⟨_, _, _, rfl, rfl, ?_⟩
    rw [eC, eM]; exact h.find 0
  · have hw8 : w < 8 := by omega
    simp only [m_isW_y VM h8 hw.2.1 hwn, k_hasT 0 VC hw.2.1 hwn h8, m_isFree VM R hw8, k_isFree 0 VC R hw8, Option.bind_some, if_true, if_false, one0, eq_self, bV, itt]
    by_cases hp : R (sp w 5) = -1
    · rw [if_pos hp, if_neg (by decide)]
      simp only [k_find4, m_find4, Option.bind_some, if_true, if_false, one0, eq_self, bV, itt]
      refine ⟨_, _, _, rfl, rfl, ?_⟩
      rw [eC, eM]; exact h.find 4
    · rw [if_neg hp, if_pos rfl]
      simp only [inb8 hw8, cl8 hw8, pR_6, k_rel 0 VC hw hwn hp, m_lets VM hw hwn hp, Option.bind_some, if_true, if_false, one0, eq_self, bV, itt]
      refine ⟨_, _, _, rfl, rfl, ?_⟩
      exact h.row hw.rel ((((hf.up (sp2 _ 5)).up (sp2 _ 6)).up (sp2 _ 5)).up (sp2 _ 6)) (hz.rel hw hwn hp)
theorem op_now {VC VM : VV} (h : Rel VC VM) (a : Int32) : Both (f_X3_now a VC) (f_X4_now a VM) := by
  obtain ⟨n, R, hw, hf, hz, eC, eM, -, -⟩ := h.at
  have hR : Rel (pR 0 VC R) (mR VM R) := by rw [eC, eM]; exact h
  unfold f_X3_now f_X4_now
  rw [← eC, ← eM]
  simp only [k_isFoggy, m_isFoggy, k_keptSet 0 VC hw.1 hw.2.1, m_thoseKept VM hw.1 hw.2.1, k_gladSet 0 VC hw.1 hw.2.1, m_thoseGlad VM hw.1 hw.2.1, inb1, inb2, inb3, tn1, tn2, tn3, mR_1, pR_t, pR_f, pR_v, k_find0, m_find0, Option.bind_some, if_true, if_false, one0, eq_self, bV, itt]
  by_cases h0 : a = 0
  · rw [if_pos h0, if_pos h0]; exact ⟨_, _, _, rfl, rfl, hR⟩
  · rw [if_neg h0, if_neg h0]
    by_cases h1 : a = 1
    · rw [if_pos h1, if_pos h1]; exact ⟨_, _, _, rfl, rfl, hR⟩
    · rw [if_neg h1, if_neg h1]
      by_cases h2 : a = 2
      · rw [if_pos h2, if_pos h2]
        by_cases g : fogB R = true
        · rw [if_pos g, if_neg (by decide), if_neg (by decide)]; exact ⟨_, _, _, rfl, rfl, hR⟩
        · rw [if_neg g, if_pos rfl, if_pos rfl]; exact ⟨_, _, _, rfl, rfl, hR⟩
      · rw [if_neg h2, if_neg h2]
        by_cases h3 : a = 3
        · rw [if_pos h3, if_pos h3]; exact ⟨_, _, _, rfl, rfl, hR⟩
        · rw [if_neg h3, if_neg h3]
          by_cases h4 : a = 4
          · rw [if_pos h4, if_pos h4]; exact ⟨_, _, _, rfl, rfl, hR⟩
          · rw [if_neg h4, if_neg h4]
            by_cases h5 : a = 5
            · rw [if_pos h5, if_pos h5]; exact ⟨_, _, _, rfl, rfl, hR⟩
            · rw [if_neg h5, if_neg h5]; exact ⟨_, _, _, rfl, rfl, hR.find 0⟩
end
